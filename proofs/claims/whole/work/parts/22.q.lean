/-! one instruction of the small machine, as an equation -/
def zpsh (v : Option Value) (r : List Value) : List Value := match v with
  | some x => x :: r
  | none => r
theorem zpsh_eq (v : Option Value) (r : List Value) : v.toList ++ r = zpsh v r := by cases v <;> rfl
theorem zite {c : Prop} [Decidable c] {A B A' B' : Prop} (h1 : c → A = A') (h2 : ¬ c → B = B') : (if c then A else B) = (if c then A' else B') := by
  by_cases h : c
  · rw [if_pos h, if_pos h, h1 h]
  · rw [if_neg h, if_neg h, h2 h]
theorem zand {A B B' : Prop} (h : A → B = B') : (A ∧ B) = (A ∧ B') := by
  apply propext
  constructor
  · rintro ⟨a, b⟩; exact ⟨a, by rw [← h a]; exact b⟩
  · rintro ⟨a, b⟩; exact ⟨a, by rw [h a]; exact b⟩
def ix (i : Int32) : Nat := i.toNatClampNeg
/-- where a tableswitch goes -/
def zswp (pc : Nat) (df lo hi : Int) (offs : List Int) (x : Int32) : Nat := ((pc : Int) + (if x.toInt < lo ∨ hi < x.toInt then df else offs.getD (x.toInt - lo).toNat df)).toNat
def zlwp (pc : Nat) (df : Int) (ps : List (Int × Int)) (x : Int32) : Nat := ((pc : Int) + Op.lookupswitch.offset ps df x.toInt).toNat
section ZQ
variable {X : zX} {d : Nat} {m : zM} {pc : Nat} {ls st : List Value} {h : zH} {Q : Option Value → zH → Prop}
theorem q_of {i : Instr} {len pc' : Nat} {ls' st' : List Value} {h' : zH} (hd : decode m.2.2.1 pc = .ok (i, len)) (e : zins X m i len pc ls st h = zgo pc' ls' st' h') : zwp X d m pc ls st h Q = zwp X d m pc' ls' st' h' Q := zw_go ((zstep_of hd).trans e)
theorem q_cond {i : Instr} {len pc' : Nat} {ls' st' : List Value} {h' : zH} {b : Bool} (hd : decode m.2.2.1 pc = .ok (i, len)) (e : zins X m i len pc ls st h = zif b (zgo pc' ls' st' h')) : zwp X d m pc ls st h Q = (b = true ∧ zwp X d m pc' ls' st' h' Q) := by
  rw [zwp_step, zstep_of hd, e]
  cases b with
  | false => show False = _; simp
  | true => show zwp X d m pc' ls' st' h' Q = _; simp
theorem q_iconst {n : Int} {v : Int32} (hd : decode m.2.2.1 pc = .ok (.iconst n, 1)) (hv : Int32.ofInt n = v) : zwp X d m pc ls st h Q = zwp X d m (pc + 1) ls (.int v :: st) h Q := q_of hd (by subst hv; rfl)
theorem q_bipush {n : Int} {v : Int32} (hd : decode m.2.2.1 pc = .ok (.bipush n, 2)) (hv : (Int8.ofInt n).toInt32 = v) : zwp X d m pc ls st h Q = zwp X d m (pc + 2) ls (.int v :: st) h Q := q_of hd (by subst hv; rfl)
theorem q_sipush {n : Int} {v : Int32} (hd : decode m.2.2.1 pc = .ok (.sipush n, 3)) (hv : (Int16.ofInt n).toInt32 = v) : zwp X d m pc ls st h Q = zwp X d m (pc + 3) ls (.int v :: st) h Q := q_of hd (by subst hv; rfl)
theorem q_lconst {n : Fin 2} {v : Int64} (hd : decode m.2.2.1 pc = .ok (.lconst n, 1)) (hv : Int64.ofNat (n : Nat) = v) : zwp X d m pc ls st h Q = zwp X d m (pc + 1) ls (.long v :: st) h Q := q_of hd (by subst hv; rfl)
theorem q_iload_n {k : Fin 4} {i : Nat} {x : Int32} (hd : decode m.2.2.1 pc = .ok (.iload_n k, 1)) (hi : (k : Nat) = i) (hv : ls[i]? = some (.int x)) : zwp X d m pc ls st h Q = zwp X d m (pc + 1) ls (.int x :: st) h Q := q_of hd (by subst hi; show zL 1 1 (zldi ls k _) = _; unfold zldi; rw [hv]; rfl)
theorem q_iload {i : Nat} {x : Int32} (hd : decode m.2.2.1 pc = .ok (.iload i, 2)) (hv : ls[i]? = some (.int x)) : zwp X d m pc ls st h Q = zwp X d m (pc + 2) ls (.int x :: st) h Q := q_of hd (by show zL 2 2 (zldi ls i _) = _; unfold zldi; rw [hv]; rfl)
theorem q_lload_n {k : Fin 4} {i : Nat} {x : Int64} (hd : decode m.2.2.1 pc = .ok (.lload_n k, 1)) (hi : (k : Nat) = i) (hv : ls[i]? = some (.long x)) : zwp X d m pc ls st h Q = zwp X d m (pc + 1) ls (.long x :: st) h Q := q_of hd (by subst hi; show zL 1 1 (zldl ls k _) = _; unfold zldl; rw [hv]; rfl)
theorem q_lload {i : Nat} {x : Int64} (hd : decode m.2.2.1 pc = .ok (.lload i, 2)) (hv : ls[i]? = some (.long x)) : zwp X d m pc ls st h Q = zwp X d m (pc + 2) ls (.long x :: st) h Q := q_of hd (by show zL 2 2 (zldl ls i _) = _; unfold zldl; rw [hv]; rfl)
theorem q_aload_n {k : Fin 4} {i : Nat} {x : Nat} (hd : decode m.2.2.1 pc = .ok (.aload_n k, 1)) (hi : (k : Nat) = i) (hv : ls[i]? = some (.ref x)) : zwp X d m pc ls st h Q = zwp X d m (pc + 1) ls (.ref x :: st) h Q := q_of hd (by subst hi; show zL 1 1 (zldr ls k _) = _; unfold zldr; rw [hv]; rfl)
theorem q_aload {i : Nat} {x : Nat} (hd : decode m.2.2.1 pc = .ok (.aload i, 2)) (hv : ls[i]? = some (.ref x)) : zwp X d m pc ls st h Q = zwp X d m (pc + 2) ls (.ref x :: st) h Q := q_of hd (by show zL 2 2 (zldr ls i _) = _; unfold zldr; rw [hv]; rfl)
theorem q_istore_n {k : Fin 4} {i : Nat} {x : Int32} {ls' : List Value} (hd : decode m.2.2.1 pc = .ok (.istore_n k, 1)) (hi : (k : Nat) = i) (hl : i < ls.length) (he : zst1 ls i (.int x) = ls') : zwp X d m pc ls (.int x :: st) h Q = zwp X d m (pc + 1) ls' st h Q := q_of hd (by subst hi; subst he; show zL 1 1 (zif (decide ((k : Nat) < ls.length)) _) = _; rw [decide_eq_true hl]; rfl)
theorem q_istore {i : Nat} {x : Int32} {ls' : List Value} (hd : decode m.2.2.1 pc = .ok (.istore i, 2)) (hl : i < ls.length) (he : zst1 ls i (.int x) = ls') : zwp X d m pc ls (.int x :: st) h Q = zwp X d m (pc + 2) ls' st h Q := q_of hd (by subst he; show zL 2 2 (zif (decide (i < ls.length)) _) = _; rw [decide_eq_true hl]; rfl)
theorem q_astore_n {k : Fin 4} {i : Nat} {x : Nat} {ls' : List Value} (hd : decode m.2.2.1 pc = .ok (.astore_n k, 1)) (hi : (k : Nat) = i) (hl : i < ls.length) (he : zst1 ls i (.ref x) = ls') : zwp X d m pc ls (.ref x :: st) h Q = zwp X d m (pc + 1) ls' st h Q := q_of hd (by subst hi; subst he; show zL 1 1 (zif (decide ((k : Nat) < ls.length)) _) = _; rw [decide_eq_true hl]; rfl)
theorem q_astore {i : Nat} {x : Nat} {ls' : List Value} (hd : decode m.2.2.1 pc = .ok (.astore i, 2)) (hl : i < ls.length) (he : zst1 ls i (.ref x) = ls') : zwp X d m pc ls (.ref x :: st) h Q = zwp X d m (pc + 2) ls' st h Q := q_of hd (by subst he; show zL 2 2 (zif (decide (i < ls.length)) _) = _; rw [decide_eq_true hl]; rfl)
theorem q_lstore {i : Nat} {x : Int64} {ls' : List Value} (hd : decode m.2.2.1 pc = .ok (.lstore i, 2)) (hl : i + 1 < ls.length) (he : zst2 ls i (.long x) = ls') : zwp X d m pc ls (.long x :: st) h Q = zwp X d m (pc + 2) ls' st h Q := q_of hd (by subst he; show zL 2 2 (zif (decide (i + 1 < ls.length)) _) = _; rw [decide_eq_true hl]; rfl)
theorem q_iinc {i : Nat} {n : Int} {x c : Int32} {ls' : List Value} (hd : decode m.2.2.1 pc = .ok (.iinc i n, 3)) (hv : ls[i]? = some (.int x)) (hc : Int32.ofInt n = c) (he : zst1 ls i (.int (x + c)) = ls') : zwp X d m pc ls st h Q = zwp X d m (pc + 3) ls' st h Q := q_of hd (by subst he; subst hc; show zL 3 3 (match ls[i]? with | some (.int x) => _ | _ => none) = _; rw [hv]; rfl)
theorem q_iadd {x y : Int32} (hd : decode m.2.2.1 pc = .ok (.iadd, 1))  : zwp X d m pc ls (.int y :: .int x :: st) h Q = zwp X d m (pc + 1) ls (.int (x + y) :: st) h Q := q_of hd rfl
theorem q_isub {x y : Int32} (hd : decode m.2.2.1 pc = .ok (.isub, 1))  : zwp X d m pc ls (.int y :: .int x :: st) h Q = zwp X d m (pc + 1) ls (.int (x - y) :: st) h Q := q_of hd rfl
theorem q_imul {x y : Int32} (hd : decode m.2.2.1 pc = .ok (.imul, 1))  : zwp X d m pc ls (.int y :: .int x :: st) h Q = zwp X d m (pc + 1) ls (.int (x * y) :: st) h Q := q_of hd rfl
theorem q_iand {x y : Int32} (hd : decode m.2.2.1 pc = .ok (.iand, 1))  : zwp X d m pc ls (.int y :: .int x :: st) h Q = zwp X d m (pc + 1) ls (.int (x &&& y) :: st) h Q := q_of hd rfl
theorem q_ior {x y : Int32} (hd : decode m.2.2.1 pc = .ok (.ior, 1))  : zwp X d m pc ls (.int y :: .int x :: st) h Q = zwp X d m (pc + 1) ls (.int (x ||| y) :: st) h Q := q_of hd rfl
theorem q_ixor {x y : Int32} (hd : decode m.2.2.1 pc = .ok (.ixor, 1))  : zwp X d m pc ls (.int y :: .int x :: st) h Q = zwp X d m (pc + 1) ls (.int (x ^^^ y) :: st) h Q := q_of hd rfl
theorem q_ishl {x y : Int32} (hd : decode m.2.2.1 pc = .ok (.ishl, 1))  : zwp X d m pc ls (.int y :: .int x :: st) h Q = zwp X d m (pc + 1) ls (.int (x <<< (y &&& 31)) :: st) h Q := q_of hd rfl
theorem q_ishr {x y : Int32} (hd : decode m.2.2.1 pc = .ok (.ishr, 1))  : zwp X d m pc ls (.int y :: .int x :: st) h Q = zwp X d m (pc + 1) ls (.int (x >>> (y &&& 31)) :: st) h Q := q_of hd rfl
theorem q_iushr {x y : Int32} (hd : decode m.2.2.1 pc = .ok (.iushr, 1))  : zwp X d m pc ls (.int y :: .int x :: st) h Q = zwp X d m (pc + 1) ls (.int ((x.toUInt32 >>> (y.toUInt32 &&& Int32.toUInt32 31)).toInt32) :: st) h Q := q_of hd rfl
theorem q_idiv {x y : Int32} (hd : decode m.2.2.1 pc = .ok (.idiv, 1))  : zwp X d m pc ls (.int y :: .int x :: st) h Q = (decide (¬ y = 0) = true ∧ zwp X d m (pc + 1) ls (.int (x / y) :: st) h Q) := q_cond hd rfl
theorem q_idivK {x y : Int32} (hd : decode m.2.2.1 pc = .ok (.idiv, 1)) (hy : ¬ y = 0) : zwp X d m pc ls (.int y :: .int x :: st) h Q = zwp X d m (pc + 1) ls (.int (x / y) :: st) h Q := q_of hd (by show zif (decide (¬ y = 0)) _ = _; rw [decide_eq_true hy]; rfl)
theorem q_irem {x y : Int32} (hd : decode m.2.2.1 pc = .ok (.irem, 1))  : zwp X d m pc ls (.int y :: .int x :: st) h Q = (decide (¬ y = 0) = true ∧ zwp X d m (pc + 1) ls (.int (x - x / y * y) :: st) h Q) := q_cond hd rfl
theorem q_iremK {x y : Int32} (hd : decode m.2.2.1 pc = .ok (.irem, 1)) (hy : ¬ y = 0) : zwp X d m pc ls (.int y :: .int x :: st) h Q = zwp X d m (pc + 1) ls (.int (x - x / y * y) :: st) h Q := q_of hd (by show zif (decide (¬ y = 0)) _ = _; rw [decide_eq_true hy]; rfl)
theorem q_ineg {x : Int32} (hd : decode m.2.2.1 pc = .ok (.ineg, 1))  : zwp X d m pc ls (.int x :: st) h Q = zwp X d m (pc + 1) ls (.int (-x) :: st) h Q := q_of hd rfl
theorem q_i2l {x : Int32} (hd : decode m.2.2.1 pc = .ok (.i2l, 1))  : zwp X d m pc ls (.int x :: st) h Q = zwp X d m (pc + 1) ls (.long (x.toInt64) :: st) h Q := q_of hd rfl
theorem q_i2b {x : Int32} (hd : decode m.2.2.1 pc = .ok (.i2b, 1))  : zwp X d m pc ls (.int x :: st) h Q = zwp X d m (pc + 1) ls (.int (x.toInt8.toInt32) :: st) h Q := q_of hd rfl
theorem q_i2s {x : Int32} (hd : decode m.2.2.1 pc = .ok (.i2s, 1))  : zwp X d m pc ls (.int x :: st) h Q = zwp X d m (pc + 1) ls (.int (x.toInt16.toInt32) :: st) h Q := q_of hd rfl
theorem q_i2c {x : Int32} (hd : decode m.2.2.1 pc = .ok (.i2c, 1))  : zwp X d m pc ls (.int x :: st) h Q = zwp X d m (pc + 1) ls (.int ((x.toUInt32 % 65536).toInt32) :: st) h Q := q_of hd rfl
theorem q_l2i {x : Int64} (hd : decode m.2.2.1 pc = .ok (.l2i, 1))  : zwp X d m pc ls (.long x :: st) h Q = zwp X d m (pc + 1) ls (.int x.toInt32 :: st) h Q := q_of hd rfl
theorem q_ladd {x y : Int64} (hd : decode m.2.2.1 pc = .ok (.ladd, 1))  : zwp X d m pc ls (.long y :: .long x :: st) h Q = zwp X d m (pc + 1) ls (.long (x + y) :: st) h Q := q_of hd rfl
theorem q_land {x y : Int64} (hd : decode m.2.2.1 pc = .ok (.land, 1))  : zwp X d m pc ls (.long y :: .long x :: st) h Q = zwp X d m (pc + 1) ls (.long (x &&& y) :: st) h Q := q_of hd rfl
theorem q_lor {x y : Int64} (hd : decode m.2.2.1 pc = .ok (.lor, 1))  : zwp X d m pc ls (.long y :: .long x :: st) h Q = zwp X d m (pc + 1) ls (.long (x ||| y) :: st) h Q := q_of hd rfl
theorem q_lcmp {x y : Int64} (hd : decode m.2.2.1 pc = .ok (.lcmp, 1))  : zwp X d m pc ls (.long y :: .long x :: st) h Q = zwp X d m (pc + 1) ls (.int (lg_cmp x y) :: st) h Q := q_of hd rfl
theorem q_lshl {x : Int64} {y : Int32} (hd : decode m.2.2.1 pc = .ok (.lshl, 1))  : zwp X d m pc ls (.int y :: .long x :: st) h Q = zwp X d m (pc + 1) ls (.long (x <<< (y.toInt64 &&& 63)) :: st) h Q := q_of hd rfl
theorem q_dup_int {x : Int32} (hd : decode m.2.2.1 pc = .ok (.dup, 1))  : zwp X d m pc ls (.int x :: st) h Q = zwp X d m (pc + 1) ls (.int x :: .int x :: st) h Q := q_of hd rfl
theorem q_pop_int {x : Int32} (hd : decode m.2.2.1 pc = .ok (.pop, 1))  : zwp X d m pc ls (.int x :: st) h Q = zwp X d m (pc + 1) ls st h Q := q_of hd rfl
theorem q_dup_x1_int_int {x : Int32} {y : Int32} (hd : decode m.2.2.1 pc = .ok (.dup_x1, 1))  : zwp X d m pc ls (.int x :: .int y :: st) h Q = zwp X d m (pc + 1) ls (.int x :: .int y :: .int x :: st) h Q := q_of hd rfl
theorem q_dup2_int_int {x : Int32} {y : Int32} (hd : decode m.2.2.1 pc = .ok (.dup2, 1))  : zwp X d m pc ls (.int x :: .int y :: st) h Q = zwp X d m (pc + 1) ls (.int x :: .int y :: .int x :: .int y :: st) h Q := q_of hd rfl
theorem q_dup_x1_int_ref {x : Int32} {y : Nat} (hd : decode m.2.2.1 pc = .ok (.dup_x1, 1))  : zwp X d m pc ls (.int x :: .ref y :: st) h Q = zwp X d m (pc + 1) ls (.int x :: .ref y :: .int x :: st) h Q := q_of hd rfl
theorem q_dup2_int_ref {x : Int32} {y : Nat} (hd : decode m.2.2.1 pc = .ok (.dup2, 1))  : zwp X d m pc ls (.int x :: .ref y :: st) h Q = zwp X d m (pc + 1) ls (.int x :: .ref y :: .int x :: .ref y :: st) h Q := q_of hd rfl
theorem q_dup_ref {x : Nat} (hd : decode m.2.2.1 pc = .ok (.dup, 1))  : zwp X d m pc ls (.ref x :: st) h Q = zwp X d m (pc + 1) ls (.ref x :: .ref x :: st) h Q := q_of hd rfl
theorem q_pop_ref {x : Nat} (hd : decode m.2.2.1 pc = .ok (.pop, 1))  : zwp X d m pc ls (.ref x :: st) h Q = zwp X d m (pc + 1) ls st h Q := q_of hd rfl
theorem q_dup_x1_ref_int {x : Nat} {y : Int32} (hd : decode m.2.2.1 pc = .ok (.dup_x1, 1))  : zwp X d m pc ls (.ref x :: .int y :: st) h Q = zwp X d m (pc + 1) ls (.ref x :: .int y :: .ref x :: st) h Q := q_of hd rfl
theorem q_dup2_ref_int {x : Nat} {y : Int32} (hd : decode m.2.2.1 pc = .ok (.dup2, 1))  : zwp X d m pc ls (.ref x :: .int y :: st) h Q = zwp X d m (pc + 1) ls (.ref x :: .int y :: .ref x :: .int y :: st) h Q := q_of hd rfl
theorem q_dup_x1_ref_ref {x : Nat} {y : Nat} (hd : decode m.2.2.1 pc = .ok (.dup_x1, 1))  : zwp X d m pc ls (.ref x :: .ref y :: st) h Q = zwp X d m (pc + 1) ls (.ref x :: .ref y :: .ref x :: st) h Q := q_of hd rfl
theorem q_dup2_ref_ref {x : Nat} {y : Nat} (hd : decode m.2.2.1 pc = .ok (.dup2, 1))  : zwp X d m pc ls (.ref x :: .ref y :: st) h Q = zwp X d m (pc + 1) ls (.ref x :: .ref y :: .ref x :: .ref y :: st) h Q := q_of hd rfl
theorem q_br {i : Instr} {off : Int} {tgt : Nat} {c : Prop} [Decidable c] (hd : decode m.2.2.1 pc = .ok (i, 3)) (ht : (pc : Int) + off = (tgt : Int)) {st' : List Value} (e : zins X m i 3 pc ls st h = zbr pc off (decide c) ls st' h) : zwp X d m pc ls st h Q = if c then zwp X d m tgt ls st' h Q else zwp X d m (pc + 3) ls st' h Q := by
  have hp : 0 ≤ (pc : Int) + off := by omega
  have e2 : ((pc : Int) + off).toNat = tgt := by omega
  by_cases hc : c
  · rw [if_pos hc]
    refine q_of hd (e.trans ?_)
    unfold zbr
    rw [if_pos hp, decide_eq_true hc, e2]
    rfl
  · rw [if_neg hc]
    refine q_of hd (e.trans ?_)
    unfold zbr
    rw [if_pos hp, decide_eq_false hc]
    rfl
theorem q_if_eq {x : Int32} {off : Int} {tgt : Nat} (hd : decode m.2.2.1 pc = .ok (.ifCond .eq off, 3)) (ht : (pc : Int) + off = (tgt : Int)) : zwp X d m pc ls (.int x :: st) h Q = if x = 0 then zwp X d m tgt ls st h Q else zwp X d m (pc + 3) ls st h Q := q_br hd ht rfl
theorem q_icmp_eq {x y : Int32} {off : Int} {tgt : Nat} (hd : decode m.2.2.1 pc = .ok (.if_icmp .eq off, 3)) (ht : (pc : Int) + off = (tgt : Int)) : zwp X d m pc ls (.int y :: .int x :: st) h Q = if x = y then zwp X d m tgt ls st h Q else zwp X d m (pc + 3) ls st h Q := q_br hd ht rfl
theorem q_if_ne {x : Int32} {off : Int} {tgt : Nat} (hd : decode m.2.2.1 pc = .ok (.ifCond .ne off, 3)) (ht : (pc : Int) + off = (tgt : Int)) : zwp X d m pc ls (.int x :: st) h Q = if ¬ x = 0 then zwp X d m tgt ls st h Q else zwp X d m (pc + 3) ls st h Q := q_br hd ht rfl
theorem q_icmp_ne {x y : Int32} {off : Int} {tgt : Nat} (hd : decode m.2.2.1 pc = .ok (.if_icmp .ne off, 3)) (ht : (pc : Int) + off = (tgt : Int)) : zwp X d m pc ls (.int y :: .int x :: st) h Q = if ¬ x = y then zwp X d m tgt ls st h Q else zwp X d m (pc + 3) ls st h Q := q_br hd ht rfl
theorem q_if_lt {x : Int32} {off : Int} {tgt : Nat} (hd : decode m.2.2.1 pc = .ok (.ifCond .lt off, 3)) (ht : (pc : Int) + off = (tgt : Int)) : zwp X d m pc ls (.int x :: st) h Q = if x < 0 then zwp X d m tgt ls st h Q else zwp X d m (pc + 3) ls st h Q := q_br hd ht rfl
theorem q_icmp_lt {x y : Int32} {off : Int} {tgt : Nat} (hd : decode m.2.2.1 pc = .ok (.if_icmp .lt off, 3)) (ht : (pc : Int) + off = (tgt : Int)) : zwp X d m pc ls (.int y :: .int x :: st) h Q = if x < y then zwp X d m tgt ls st h Q else zwp X d m (pc + 3) ls st h Q := q_br hd ht rfl
theorem q_if_ge {x : Int32} {off : Int} {tgt : Nat} (hd : decode m.2.2.1 pc = .ok (.ifCond .ge off, 3)) (ht : (pc : Int) + off = (tgt : Int)) : zwp X d m pc ls (.int x :: st) h Q = if 0 ≤ x then zwp X d m tgt ls st h Q else zwp X d m (pc + 3) ls st h Q := q_br hd ht rfl
theorem q_icmp_ge {x y : Int32} {off : Int} {tgt : Nat} (hd : decode m.2.2.1 pc = .ok (.if_icmp .ge off, 3)) (ht : (pc : Int) + off = (tgt : Int)) : zwp X d m pc ls (.int y :: .int x :: st) h Q = if y ≤ x then zwp X d m tgt ls st h Q else zwp X d m (pc + 3) ls st h Q := q_br hd ht rfl
theorem q_if_gt {x : Int32} {off : Int} {tgt : Nat} (hd : decode m.2.2.1 pc = .ok (.ifCond .gt off, 3)) (ht : (pc : Int) + off = (tgt : Int)) : zwp X d m pc ls (.int x :: st) h Q = if 0 < x then zwp X d m tgt ls st h Q else zwp X d m (pc + 3) ls st h Q := q_br hd ht rfl
theorem q_icmp_gt {x y : Int32} {off : Int} {tgt : Nat} (hd : decode m.2.2.1 pc = .ok (.if_icmp .gt off, 3)) (ht : (pc : Int) + off = (tgt : Int)) : zwp X d m pc ls (.int y :: .int x :: st) h Q = if y < x then zwp X d m tgt ls st h Q else zwp X d m (pc + 3) ls st h Q := q_br hd ht rfl
theorem q_if_le {x : Int32} {off : Int} {tgt : Nat} (hd : decode m.2.2.1 pc = .ok (.ifCond .le off, 3)) (ht : (pc : Int) + off = (tgt : Int)) : zwp X d m pc ls (.int x :: st) h Q = if x ≤ 0 then zwp X d m tgt ls st h Q else zwp X d m (pc + 3) ls st h Q := q_br hd ht rfl
theorem q_icmp_le {x y : Int32} {off : Int} {tgt : Nat} (hd : decode m.2.2.1 pc = .ok (.if_icmp .le off, 3)) (ht : (pc : Int) + off = (tgt : Int)) : zwp X d m pc ls (.int y :: .int x :: st) h Q = if x ≤ y then zwp X d m tgt ls st h Q else zwp X d m (pc + 3) ls st h Q := q_br hd ht rfl
theorem q_goto {off : Int} {tgt : Nat} (hd : decode m.2.2.1 pc = .ok (.goto off, 3)) (ht : (pc : Int) + off = (tgt : Int)) : zwp X d m pc ls st h Q = zwp X d m tgt ls st h Q := q_of hd (by show zjmp pc off ls st h = _; unfold zjmp; rw [if_pos (by omega), show ((pc : Int) + off).toNat = tgt by omega])
theorem q_tsw {df lo hi : Int} {offs : Array Int} {len : Nat} {x : Int32} (hd : decode m.2.2.1 pc = .ok (.tableswitch df lo hi offs, len)) (hn : offs.toList.length = (hi - lo + 1).toNat) (hl : lo ≤ hi) (ha : (offs.toList.all fun q => decide (0 ≤ (pc : Int) + q)) = true) (hf : 0 ≤ (pc : Int) + df) : zwp X d m pc ls (.int x :: st) h Q = zwp X d m (zswp pc df lo hi offs.toList x) ls st h Q := by
  refine q_of hd ?_
  show zof (zswT df lo hi offs x) (fun off => zjmp pc off ls st h) = _
  unfold zswT zswp
  by_cases hc : x.toInt < lo ∨ hi < x.toInt
  · rw [if_pos hc, if_pos hc]
    show zjmp pc df ls st h = _
    unfold zjmp
    rw [if_pos hf]
  · rw [if_neg hc, if_neg hc]
    have hk : (x.toInt - lo).toNat < offs.toList.length := by omega
    have e1 : offs[(x.toInt - lo).toNat]? = some (offs.toList[(x.toInt - lo).toNat]) := by
      rw [← Array.getElem?_toList, List.getElem?_eq_getElem hk]
    rw [e1, List.getD_eq_getElem?_getD, List.getElem?_eq_getElem hk]
    show zjmp pc _ ls st h = _
    unfold zjmp
    have := of_decide_eq_true (List.all_eq_true.mp ha _ (List.getElem_mem hk))
    rw [if_pos this]
    rfl
theorem q_lsw {df : Int} {ps : Array (Int × Int)} {len : Nat} {x : Int32} (hd : decode m.2.2.1 pc = .ok (.lookupswitch df ps, len)) (hp : (ps.toList.zip (ps.toList.drop 1)).all (fun (a, next) => a.1 < next.1) = true) (ha : 0 ≤ (pc : Int) + Op.lookupswitch.offset ps.toList df x.toInt) : zwp X d m pc ls (.int x :: st) h Q = zwp X d m (zlwp pc df ps.toList x) ls st h Q := by
  refine q_of hd ?_
  show zif _ (zjmp pc _ ls st h) = _
  rw [hp]
  show zjmp pc _ ls st h = _
  unfold zjmp zlwp
  rw [if_pos ha]
theorem q_getf {idx c k a : Nat} {v : Value} (hd : decode m.2.2.1 pc = .ok (.getfield idx, 3)) (hf : zfind zfldT m.1 idx = some (c, k)) (hv : zrf h c k a = some v) : zwp X d m pc ls (.ref a :: st) h Q = zwp X d m (pc + 3) ls (v :: st) h Q := q_of hd (by show zof (zfind zfldT m.1 idx) _ = _; rw [hf]; show zof (zrf h c k a) _ = _; rw [hv]; rfl)
/-- a field of ints, or of booleans -/
theorem q_putf {idx c k a : Nat} {x : Int32} {h' : zH} (hd : decode m.2.2.1 pc = .ok (.putfield idx, 3)) (hf : zfind zfldT m.1 idx = some (c, k)) (hc : (decide (c < 13) && decide (k < znum c) && (!(zfin c k) || (decide (m.2.1.name = "<init>") && decide (c = m.1)))) = true) (ht : ztyX c k = .int) (hv : zpf h c k a (.int x) = some h') : zwp X d m pc ls (.int x :: .ref a :: st) h Q = zwp X d m (pc + 3) ls st h' Q := q_of hd (by
  show zput m idx 3 pc ls (.int x :: .ref a :: st) h = _
  unfold zput
  show zof (zfind zfldT m.1 idx) _ = _
  rw [hf]
  simp only [Bool.and_eq_true] at hc
  show zif (decide (c < 13) && decide (k < znum c) && zfits (ztyX c k) (.int x) && (!(zfin c k) || (decide (m.2.1.name = "<init>") && decide (c = m.1)))) (zof (zpf h c k a (.int x)) _) = _
  have hz : zfits .int (.int x) = true := by unfold zfits; simp [narrow, fits]
  rw [hc.1.1, hc.1.2, hc.2, ht, hz, hv]
  rfl)
theorem q_putz {idx c k a : Nat} {x : Int32} {h' : zH} (hd : decode m.2.2.1 pc = .ok (.putfield idx, 3)) (hf : zfind zfldT m.1 idx = some (c, k)) (hc : (decide (c < 13) && decide (k < znum c) && (!(zfin c k) || (decide (m.2.1.name = "<init>") && decide (c = m.1)))) = true) (ht : ztyX c k = .boolean) (hv : zpf h c k a (.int x) = some h') : zwp X d m pc ls (.int x :: .ref a :: st) h Q = (zfits .boolean (.int x) = true ∧ zwp X d m (pc + 3) ls st h' Q) := q_cond hd (by
  show zput m idx 3 pc ls (.int x :: .ref a :: st) h = _
  unfold zput
  show zof (zfind zfldT m.1 idx) _ = _
  rw [hf]
  simp only [Bool.and_eq_true] at hc
  show zif (decide (c < 13) && decide (k < znum c) && zfits (ztyX c k) (.int x) && (!(zfin c k) || (decide (m.2.1.name = "<init>") && decide (c = m.1)))) (zof (zpf h c k a (.int x)) _) = _
  rw [hc.1.1, hc.1.2, hc.2, ht, hv]
  simp only [Bool.true_and, Bool.and_true]
  rfl)
theorem q_gets {idx k : Nat} {v : Value} (hd : decode m.2.2.1 pc = .ok (.getstatic idx, 3)) (hf : zfind zgsT m.1 idx = some k) (hv : (if k = 9 then .int 1 else if k = 8 then .ref 1001 else .ref (1000 + k) : Value) = v) : zwp X d m pc ls st h Q = zwp X d m (pc + 3) ls (v :: st) h Q := q_of hd (by subst hv; show zof (zfind zgsT m.1 idx) _ = _; rw [hf]; rfl)
theorem q_ldci {idx : Nat} {v : Int32} (hd : decode m.2.2.1 pc = .ok (.ldc idx, 2)) (hf : zfind zcstT m.1 idx = some (.int v)) : zwp X d m pc ls st h Q = zwp X d m (pc + 2) ls (.int v :: st) h Q := q_of hd (by show zof (zfind zcstT m.1 idx) _ = _; rw [hf]; rfl)
theorem q_ldcr {idx : Nat} {v : Nat} (hd : decode m.2.2.1 pc = .ok (.ldc idx, 2)) (hf : zfind zcstT m.1 idx = some (.ref v)) : zwp X d m pc ls st h Q = zwp X d m (pc + 2) ls (.ref v :: st) h Q := q_of hd (by show zof (zfind zcstT m.1 idx) _ = _; rw [hf]; rfl)
theorem q_ldcw {idx : Nat} {v : Int32} (hd : decode m.2.2.1 pc = .ok (.ldc_w idx, 3)) (hf : zfind zcstT m.1 idx = some (.int v)) : zwp X d m pc ls st h Q = zwp X d m (pc + 3) ls (.int v :: st) h Q := q_of hd (by show zof (zfind zcstT m.1 idx) _ = _; rw [hf]; rfl)
theorem q_ldc2 {idx : Nat} {v : Int64} (hd : decode m.2.2.1 pc = .ok (.ldc2_w idx, 3)) (hf : zfind zcstT m.1 idx = some (.long v)) : zwp X d m pc ls st h Q = zwp X d m (pc + 3) ls (.long v :: st) h Q := q_of hd (by show zof (zfind zcstT m.1 idx) _ = _; rw [hf]; rfl)
theorem q_iaload {i : Int32} {a n : Nat} {f : Nat → Int32} (hd : decode m.2.2.1 pc = .ok (.iaload, 1)) (ha : zia X h 0 a = some (n, f)) : zwp X d m pc ls (.int i :: .ref a :: st) h Q = (zin i n = true ∧ zwp X d m (pc + 1) ls (.int (f (ix i)) :: st) h Q) := q_cond hd (by show zof (zia X h 0 a) _ = _; rw [ha]; rfl)
theorem q_baload {i : Int32} {a n : Nat} {f : Nat → Int32} (hd : decode m.2.2.1 pc = .ok (.baload, 1)) (ha : zia X h 2 a = some (n, f)) : zwp X d m pc ls (.int i :: .ref a :: st) h Q = (zin i n = true ∧ zwp X d m (pc + 1) ls (.int (f (ix i)) :: st) h Q) := q_cond hd (by show zof (zia X h 2 a) _ = _; rw [ha]; rfl)
theorem q_saload {i : Int32} {a n : Nat} {f : Nat → Int32} (hd : decode m.2.2.1 pc = .ok (.saload, 1)) (ha : zia X h 3 a = some (n, f)) : zwp X d m pc ls (.int i :: .ref a :: st) h Q = (zin i n = true ∧ zwp X d m (pc + 1) ls (.int (f (ix i)) :: st) h Q) := q_cond hd (by show zof (zia X h 3 a) _ = _; rw [ha]; rfl)
theorem q_iastore {x i : Int32} {a n : Nat} {f : Nat → Int32} {h' : zH} (hd : decode m.2.2.1 pc = .ok (.iastore, 1)) (hr : a < 1000) (ha : zia (0, fun _ => 0) h 0 a = some (n, f)) (hp : zpi h 0 a (ix i) (x) = some h') : zwp X d m pc ls (.int x :: .int i :: .ref a :: st) h Q = (zin i n = true ∧ zwp X d m (pc + 1) ls st h' Q) := q_cond hd (by show zof (if a < 1000 then zia (0, fun _ => 0) h 0 a else none) _ = _; rw [if_pos hr, ha]; show zif (zin i n) (zof (zpi h 0 a (ix i) (x)) _) = _; rw [hp]; rfl)
theorem q_bastore {x i : Int32} {a n : Nat} {f : Nat → Int32} {h' : zH} (hd : decode m.2.2.1 pc = .ok (.bastore, 1)) (hr : a < 1000) (ha : zia (0, fun _ => 0) h 2 a = some (n, f)) (hp : zpi h 2 a (ix i) (x.toInt8.toInt32) = some h') : zwp X d m pc ls (.int x :: .int i :: .ref a :: st) h Q = (zin i n = true ∧ zwp X d m (pc + 1) ls st h' Q) := q_cond hd (by show zof (if a < 1000 then zia (0, fun _ => 0) h 2 a else none) _ = _; rw [if_pos hr, ha]; show zif (zin i n) (zof (zpi h 2 a (ix i) (x.toInt8.toInt32)) _) = _; rw [hp]; rfl)
theorem q_sastore {x i : Int32} {a n : Nat} {f : Nat → Int32} {h' : zH} (hd : decode m.2.2.1 pc = .ok (.sastore, 1)) (hr : a < 1000) (ha : zia (0, fun _ => 0) h 3 a = some (n, f)) (hp : zpi h 3 a (ix i) (x.toInt16.toInt32) = some h') : zwp X d m pc ls (.int x :: .int i :: .ref a :: st) h Q = (zin i n = true ∧ zwp X d m (pc + 1) ls st h' Q) := q_cond hd (by show zof (if a < 1000 then zia (0, fun _ => 0) h 3 a else none) _ = _; rw [if_pos hr, ha]; show zif (zin i n) (zof (zpi h 3 a (ix i) (x.toInt16.toInt32)) _) = _; rw [hp]; rfl)
theorem q_laload {i : Int32} {a n : Nat} {f : Nat → Int64} (hd : decode m.2.2.1 pc = .ok (.laload, 1)) (ha : zla h a = some (n, f)) : zwp X d m pc ls (.int i :: .ref a :: st) h Q = (zin i n = true ∧ zwp X d m (pc + 1) ls (.long (f (ix i)) :: st) h Q) := q_cond hd (by show zof (zla h a) _ = _; rw [ha]; rfl)
theorem q_lastore {x : Int64} {i : Int32} {a n : Nat} {f : Nat → Int64} {h' : zH} (hd : decode m.2.2.1 pc = .ok (.lastore, 1)) (ha : zla h a = some (n, f)) (hp : zpl h a (ix i) x = some h') : zwp X d m pc ls (.long x :: .int i :: .ref a :: st) h Q = (zin i n = true ∧ zwp X d m (pc + 1) ls st h' Q) := q_cond hd (by show zof (zla h a) _ = _; rw [ha]; show zif (zin i n) (zof (zpl h a (ix i) x) _) = _; rw [hp]; rfl)
/-- an element of an array of objects that lie two cells apart -/
theorem q_aaload {i : Int32} {a t n b : Nat} {f : Nat → Option Nat} (hd : decode m.2.2.1 pc = .ok (.aaload, 1)) (ha : zra h a = some (t, n, f)) (hf : ∀ j, j < n → f j = some (b + 2 * j)) : zwp X d m pc ls (.int i :: .ref a :: st) h Q = (zin i n = true ∧ zwp X d m (pc + 1) ls (.ref (b + 2 * ix i) :: st) h Q) := by
  rw [zwp_step, zstep_of hd]
  show zwK X d m ls h Q (zof (zra h a) (fun q => zif (zin i q.2.1) (zof (q.2.2 i.toNatClampNeg) (fun b => zgo (pc + 1) ls (.ref b :: st) h)))) = _
  rw [ha]
  show zwK X d m ls h Q (zif (zin i n) (zof (f i.toNatClampNeg) (fun b => zgo (pc + 1) ls (.ref b :: st) h))) = _
  cases hz : zin i n with
  | false => show False = _; simp
  | true =>
    have hlt : i.toNatClampNeg < n := Nat.not_le.mp fun q => (zin_iff.mp hz) (Or.inr q)
    rw [hf _ hlt]
    show zwp X d m (pc + 1) ls (.ref (b + 2 * i.toNatClampNeg) :: st) h Q = _
    simp [ix]
theorem q_alen {a n : Nat} {v : Int32} (hd : decode m.2.2.1 pc = .ok (.arraylength, 1)) (ha : zlen X h a = some n) (hv : Int32.ofNat n = v) : zwp X d m pc ls (.ref a :: st) h Q = zwp X d m (pc + 1) ls (.int v :: st) h Q := q_of hd (by subst hv; show zof (zlen X h a) _ = _; rw [ha]; rfl)
theorem q_iret {x : Int32} {ty : FieldType} (hd : decode m.2.2.1 pc = .ok (.ireturn, 1)) (hr : m.2.2.2.2 = some ty) (hn : narrow ty (.int x) = .int x) : zwp X d m pc ls [.int x] h Q = Q (some (.int x)) h := by
  rw [zwp_step, zstep_of hd]
  show zwK X d m ls h Q (match ([.int x] : List Value), m.2.2.2.2 with | [.int v], some ty => zif (decide (narrow ty (.int v) = .int v)) (some (.inr (.inr (some (.int v))))) | _, _ => none) = _
  rw [hr]
  show zwK X d m ls h Q (zif (decide (narrow ty (.int x) = .int x)) _) = _
  rw [decide_eq_true hn]
  rfl
theorem q_zret {x : Int32} (hd : decode m.2.2.1 pc = .ok (.ireturn, 1)) (hr : m.2.2.2.2 = some .boolean) : zwp X d m pc ls [.int x] h Q = (decide (narrow .boolean (.int x) = .int x) = true ∧ Q (some (.int x)) h) := by
  rw [zwp_step, zstep_of hd]
  show zwK X d m ls h Q (match ([.int x] : List Value), m.2.2.2.2 with | [.int v], some ty => zif (decide (narrow ty (.int v) = .int v)) (some (.inr (.inr (some (.int v))))) | _, _ => none) = _
  rw [hr]
  show zwK X d m ls h Q (zif (decide (narrow .boolean (.int x) = .int x)) _) = _
  cases hb : decide (narrow .boolean (.int x) = .int x) with
  | false => show False = _; simp
  | true => show Q (some (.int x)) h = _; simp
theorem q_lret {x : Int64} (hd : decode m.2.2.1 pc = .ok (.lreturn, 1)) (hr : m.2.2.2.2 = some .long) : zwp X d m pc ls [.long x] h Q = Q (some (.long x)) h := by
  rw [zwp_step, zstep_of hd]
  show zwK X d m ls h Q (match ([.long x] : List Value), m.2.2.2.2 with | [.long v], some .long => some (.inr (.inr (some (.long v)))) | _, _ => none) = _
  rw [hr]
  rfl
theorem q_vret (hd : decode m.2.2.1 pc = .ok (.return_, 1)) (hr : m.2.2.2.2 = none) : zwp X d m pc ls [] h Q = Q none h := by
  rw [zwp_step, zstep_of hd]
  show zwK X d m ls h Q (match ([] : List Value), m.2.2.2.2 with | [], none => some (.inr (.inr none)) | _, _ => none) = _
  rw [hr]
  rfl
theorem q_callV {idx n b : Nat} {m' : zM} {as rest l0 : List Value} (hd : decode m.2.2.1 pc = .ok (.invokevirtual idx, 3)) (hc : zfind (zcallT m.1) m.1 idx = some (0, n, m')) (hs : ztake st n = some (as, .ref b :: rest)) (hr : zrecv h m'.1 b = true) (hk : (decide (zcat rest ≤ 8) && decide ((zlocs (.ref b :: as)).length ≤ m'.2.2.2.1)) = true) (hl : zpad (.ref b :: as) m'.2.2.2.1 = l0) : zwp X d m pc ls st h Q = (0 < d ∧ zwp X (d - 1) m' 0 l0 [] h (fun v h' => zwp X d m (pc + 3) ls (zpsh v rest) h' Q)) := by
  subst hl
  rw [zwp_step, zstep_of hd]
  show zwK X d m ls h Q (zcallV m.1 idx 3 pc st h) = _
  unfold zcallV
  show zwK X d m ls h Q (zof (zfind (zcallT m.1) m.1 idx) _) = _
  rw [hc]
  show zwK X d m ls h Q (zof (ztake st n) _) = _
  rw [hs]
  show zwK X d m ls h Q (zif (zrecv h m'.1 b && decide (zcat rest ≤ 8) && decide ((zlocs (.ref b :: as)).length ≤ m'.2.2.2.1)) _) = _
  simp only [Bool.and_eq_true] at hk
  rw [hr, hk.1, hk.2]
  show (0 < d ∧ zwp X (d - 1) m' 0 _ [] h (fun v h' => zwp X d m (pc + 3) ls (v.toList ++ rest) h' Q)) = _
  simp only [zpsh_eq]
theorem q_callS {idx n : Nat} {m' : zM} {as rest l0 : List Value} (hd : decode m.2.2.1 pc = .ok (.invokestatic idx, 3)) (hp : zfind zspT m.1 idx = none) (hc : zfind (zcallT m.1) m.1 idx = some (1, n, m')) (hs : ztake st n = some (as, rest)) (hk : (decide (zcat rest ≤ 8) && decide ((zlocs as).length ≤ m'.2.2.2.1)) = true) (hl : zpad as m'.2.2.2.1 = l0) : zwp X d m pc ls st h Q = (0 < d ∧ zwp X (d - 1) m' 0 l0 [] h (fun v h' => zwp X d m (pc + 3) ls (zpsh v rest) h' Q)) := by
  subst hl
  rw [zwp_step, zstep_of hd]
  show zwK X d m ls h Q (zinvS X m idx 3 pc ls st h) = _
  unfold zinvS
  rw [hp]
  show zwK X d m ls h Q (zcallS m.1 idx 3 pc st) = _
  unfold zcallS
  show zwK X d m ls h Q (zof (zfind (zcallT m.1) m.1 idx) _) = _
  rw [hc]
  show zwK X d m ls h Q (zof (ztake st n) _) = _
  rw [hs]
  show zwK X d m ls h Q (zif (decide (zcat rest ≤ 8) && decide ((zlocs as).length ≤ m'.2.2.2.1)) _) = _
  rw [hk]
  show (0 < d ∧ zwp X (d - 1) m' 0 _ [] h (fun v h' => zwp X d m (pc + 3) ls (v.toList ++ rest) h' Q)) = _
  simp only [zpsh_eq]
theorem q_sp {idx k pc' : Nat} {st' : List Value} (hd : decode m.2.2.1 pc = .ok (.invokestatic idx, 3)) (hp : zfind zspT m.1 idx = some k) (e : (if k = 1 then zcopy X 3 pc ls st h else if k = 2 then zL 3 3 (z2i st (fun x y r => zif (decide (zcat r ≤ 8)) (zgo (pc + 3) ls (.int (if x < y then y else x) :: r) h))) else if k = 3 then zL 3 3 (z2i st (fun x y r => zif (decide (zcat r ≤ 8)) (zgo (pc + 3) ls (.int (if y < x then y else x) :: r) h))) else if k = 4 then zL 3 3 (z1i st (fun x r => zif (decide (zcat r ≤ 8)) (zgo (pc + 3) ls (.int (if 0 ≤ x then x else 0 - x) :: r) h))) else none) = zgo pc' ls st' h) : zwp X d m pc ls st h Q = zwp X d m pc' ls st' h Q := q_of hd (by show zinvS X m idx 3 pc ls st h = _; unfold zinvS; rw [hp]; exact e)
theorem q_max {idx : Nat} {x y : Int32} (hd : decode m.2.2.1 pc = .ok (.invokestatic idx, 3)) (hp : zfind zspT m.1 idx = some 2) (hk : zcat st ≤ 8) : zwp X d m pc ls (.int y :: .int x :: st) h Q = zwp X d m (pc + 3) ls (.int (if x < y then y else x) :: st) h Q := q_sp hd hp (by show zif (decide (zcat st ≤ 8)) _ = _; rw [decide_eq_true hk]; rfl)
theorem q_min {idx : Nat} {x y : Int32} (hd : decode m.2.2.1 pc = .ok (.invokestatic idx, 3)) (hp : zfind zspT m.1 idx = some 3) (hk : zcat st ≤ 8) : zwp X d m pc ls (.int y :: .int x :: st) h Q = zwp X d m (pc + 3) ls (.int (if y < x then y else x) :: st) h Q := q_sp hd hp (by show zif (decide (zcat st ≤ 8)) _ = _; rw [decide_eq_true hk]; rfl)
theorem q_abs {idx : Nat} {x : Int32} (hd : decode m.2.2.1 pc = .ok (.invokestatic idx, 3)) (hp : zfind zspT m.1 idx = some 4) (hk : zcat st ≤ 8) : zwp X d m pc ls (.int x :: st) h Q = zwp X d m (pc + 3) ls (.int (if 0 ≤ x then x else 0 - x) :: st) h Q := q_sp hd hp (by show zif (decide (zcat st ≤ 8)) _ = _; rw [decide_eq_true hk]; rfl)
/-- System.arraycopy -/
def zcok (sp dp n : Int32) (n0 n1 : Nat) : Prop := ¬ sp < 0 ∧ ¬ dp < 0 ∧ ¬ n < 0 ∧ ix sp + ix n ≤ n0 ∧ ix dp + ix n ≤ n1
theorem q_cpyi {idx a b n0 n1 : Nat} {n sp dp : Int32} {f g : Nat → Int32} {h' : zH} (hd : decode m.2.2.1 pc = .ok (.invokestatic idx, 3)) (hp : zfind zspT m.1 idx = some 1) (hk : zcat st ≤ 8) (ha : a < 1000) (hb : b < 1000) (h1 : zia X h 0 a = some (n0, f)) (h2 : zia X h 0 b = some (n1, g)) (he : h.set b (.inl (0, n1, .inl (va_cpy f g (ix sp) (ix dp) (ix n)))) = h') : zwp X d m pc ls (.int n :: .int dp :: .ref b :: .int sp :: .ref a :: st) h Q = (zcok sp dp n n0 n1 ∧ zwp X d m (pc + 3) ls st h' Q) := by
  subst he
  rw [zwp_step, zstep_of hd]
  show zwK X d m ls h Q (zinvS X m idx 3 pc ls _ h) = _
  unfold zinvS
  rw [hp]
  show zwK X d m ls h Q (zcopy X 3 pc ls _ h) = _
  unfold zcopy
  show zwK X d m ls h Q (zif (decide (zcat st ≤ 8) && decide (a < 1000) && decide (b < 1000) && decide (¬ sp < 0) && decide (¬ dp < 0) && decide (¬ n < 0)) _) = _
  rw [decide_eq_true hk, decide_eq_true ha, decide_eq_true hb, h1, h2]
  unfold zcok
  by_cases g1 : sp < 0
  · simp [g1, zif, zwK]
  · by_cases g2 : dp < 0
    · simp [g2, zif, zwK]
    · by_cases g3 : n < 0
      · simp [g3, zif, zwK]
      · by_cases g4 : ix sp + ix n ≤ n0
        · by_cases g5 : ix dp + ix n ≤ n1
          · unfold ix at g4 g5
            simp [g1, g2, g3, g4, g5, zif, zwK, zgo, ix]
          · have g5' := g5
            unfold ix at g5'
            simp [g1, g2, g3, g5, g5', zif, zwK]
        · have g4' := g4
          unfold ix at g4'
          simp [g1, g2, g3, g4, g4', zif, zwK]
theorem q_cpyl {idx a b n0 n1 : Nat} {n sp dp : Int32} {f g : Nat → Int64} {h' : zH} (hd : decode m.2.2.1 pc = .ok (.invokestatic idx, 3)) (hp : zfind zspT m.1 idx = some 1) (hk : zcat st ≤ 8) (ha : a < 1000) (hb : b < 1000) (h0 : zia X h 0 a = none) (h1 : zla h a = some (n0, f)) (h2 : zla h b = some (n1, g)) (he : h.set b (.inl (1, n1, .inr (.inl (va_cpy f g (ix sp) (ix dp) (ix n))))) = h') : zwp X d m pc ls (.int n :: .int dp :: .ref b :: .int sp :: .ref a :: st) h Q = (zcok sp dp n n0 n1 ∧ zwp X d m (pc + 3) ls st h' Q) := by
  subst he
  rw [zwp_step, zstep_of hd]
  show zwK X d m ls h Q (zinvS X m idx 3 pc ls _ h) = _
  unfold zinvS
  rw [hp]
  show zwK X d m ls h Q (zcopy X 3 pc ls _ h) = _
  unfold zcopy
  show zwK X d m ls h Q (zif (decide (zcat st ≤ 8) && decide (a < 1000) && decide (b < 1000) && decide (¬ sp < 0) && decide (¬ dp < 0) && decide (¬ n < 0)) _) = _
  rw [decide_eq_true hk, decide_eq_true ha, decide_eq_true hb, h0, h1, h2]
  unfold zcok
  by_cases g1 : sp < 0
  · simp [g1, zif, zwK]
  · by_cases g2 : dp < 0
    · simp [g2, zif, zwK]
    · by_cases g3 : n < 0
      · simp [g3, zif, zwK]
      · by_cases g4 : ix sp + ix n ≤ n0
        · by_cases g5 : ix dp + ix n ≤ n1
          · unfold ix at g4 g5
            simp [g1, g2, g3, g4, g5, zif, zwK, zgo, ix]
          · have g5' := g5
            unfold ix at g5'
            simp [g1, g2, g3, g5, g5', zif, zwK]
        · have g4' := g4
          unfold ix at g4'
          simp [g1, g2, g3, g4, g4', zif, zwK]
end ZQ
