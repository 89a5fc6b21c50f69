/-! what both constructors leave -/
def okE (e : zE) : Prop := match e with
  | .inl (_, n, .inr (.inr (.inr (.inr f)))) => ∀ j, n ≤ j → f j = none
  | _ => True
def okH (h : zH) : Prop := ∀ (k : Nat) (e : zE), h[k]? = some e → okE e
theorem okH.set {h : zH} {k : Nat} {e : zE} (hh : okH h) (he : okE e) : okH (h.set k e) := fun i e' h' => by
  by_cases c : k = i
  · subst c
    by_cases c2 : k < h.length
    · rw [List.getElem?_set_self c2] at h'; cases h'; exact he
    · rw [List.getElem?_eq_none (by rw [List.length_set]; omega)] at h'; cases h'
  · rw [List.getElem?_set_ne c] at h'; exact hh i e' h'
theorem okH.app {h : zH} {e : zE} (hh : okH h) (he : okE e) : okH (h ++ [e]) := fun i e' h' => by
  by_cases c : i < h.length
  · rw [List.getElem?_append_left c] at h'; exact hh i e' h'
  · rw [List.getElem?_append_right (by omega)] at h'
    by_cases c2 : i - h.length = 0
    · rw [c2] at h'; cases h'; exact he
    · rw [List.getElem?_eq_none (by rw [List.length_singleton]; omega)] at h'; cases h'
def oR (r : zR4) : Prop := match r with
  | some (.inl q) => okH q.2.2.2
  | _ => True
section OKR
variable {h : zH} {r : zR4}
theorem oR_go {pc : Nat} {ls st : List Value} (hh : okH h) : oR (zgo pc ls st h) := hh
theorem oR_L {len n : Nat} (hr : oR r) : oR (zL len n r) := by unfold zL; split; exact hr; exact trivial
theorem oR_if {b : Bool} (hr : b = true → oR r) : oR (zif b r) := by
  unfold zif
  cases b with
  | true => exact hr rfl
  | false => exact trivial
theorem oR_of {α : Type} {o : Option α} {k : α → zR4} (hr : ∀ x, o = some x → oR (k x)) : oR (zof o k) := by
  unfold zof
  cases o with
  | none => exact trivial
  | some x => exact hr x rfl
theorem oR_1i {st : List Value} {k : Int32 → List Value → zR4} (hr : ∀ x r, oR (k x r)) : oR (z1i st k) := by unfold z1i; split; exact hr _ _; exact trivial
theorem oR_1l {st : List Value} {k : Int64 → List Value → zR4} (hr : ∀ x r, oR (k x r)) : oR (z1l st k) := by unfold z1l; split; exact hr _ _; exact trivial
theorem oR_1r {st : List Value} {k : Nat → List Value → zR4} (hr : ∀ x r, oR (k x r)) : oR (z1r st k) := by unfold z1r; split; exact hr _ _; exact trivial
theorem oR_2i {st : List Value} {k : Int32 → Int32 → List Value → zR4} (hr : ∀ x y r, oR (k x y r)) : oR (z2i st k) := oR_1i (fun y r => oR_1i (fun x r => hr x y r))
theorem oR_2l {st : List Value} {k : Int64 → Int64 → List Value → zR4} (hr : ∀ x y r, oR (k x y r)) : oR (z2l st k) := oR_1l (fun y r => oR_1l (fun x r => hr x y r))
theorem oR_ldi {ls : List Value} {i : Nat} {k : Value → zR4} (hr : ∀ x, oR (k x)) : oR (zldi ls i k) := by unfold zldi; split; exact hr _; exact trivial
theorem oR_ldl {ls : List Value} {i : Nat} {k : Value → zR4} (hr : ∀ x, oR (k x)) : oR (zldl ls i k) := by unfold zldl; split; exact hr _; exact trivial
theorem oR_ldr {ls : List Value} {i : Nat} {k : Value → zR4} (hr : ∀ x, oR (k x)) : oR (zldr ls i k) := by unfold zldr; split; exact hr _; exact trivial
theorem oR_top {st : List Value} {k : Value → List Value → zR4} (hr : ∀ x r, oR (k x r)) : oR (ztop st k) := by
  unfold ztop
  split
  · next v r =>
    cases decide (v.category = 1) with
    | true => exact hr _ _
    | false => exact trivial
  · exact trivial
theorem oR_br {pc : Nat} {off : Int} {b : Bool} {ls st : List Value} (hh : okH h) : oR (zbr pc off b ls st h) := by unfold zbr; split; exact hh; exact trivial
theorem oR_jmp {pc : Nat} {off : Int} {ls st : List Value} (hh : okH h) : oR (zjmp pc off ls st h) := by unfold zjmp; split; exact hh; exact trivial
theorem ok_pf {ci k a : Nat} {v : Value} {h' : zH} (hh : okH h) (e : zpf h ci k a v = some h') : okH h' := by
  unfold zpf at e
  split at e
  · split at e
    · split at e
      · cases e; exact hh.set trivial
      · cases e
    · cases e
  · cases e
theorem ok_pi {t a i : Nat} {v : Int32} {h' : zH} (hh : okH h) (e : zpi h t a i v = some h') : okH h' := by
  unfold zpi at e
  split at e
  · split at e
    · split at e
      · cases e; exact hh.set trivial
      · cases e
    · cases e
  · cases e
theorem ok_pl {a i : Nat} {v : Int64} {h' : zH} (hh : okH h) (e : zpl h a i v = some h') : okH h' := by
  unfold zpl at e
  split at e
  · split at e
    · split at e
      · cases e; exact hh.set trivial
      · cases e
    · cases e
  · cases e
theorem ok_pr {a i v : Nat} {h' : zH} {q : Nat × Nat × (Nat → Option Nat)} (hh : okH h) (hq : zra h a = some q) (hi : i < q.2.1) (e : zpr h a i v = some h') : okH h' := by
  unfold zpr at e
  unfold zra at hq
  split at e
  · next ha =>
    rw [if_pos ha] at hq
    split at e
    · next u n f he =>
      rw [he] at hq
      dsimp only at hq
      split at e
      · next hu =>
        rw [if_pos hu] at hq
        cases hq
        cases e
        refine hh.set (fun j hj => ?_)
        unfold va_up
        rw [if_neg (by dsimp only at hi; omega)]
        exact hh a _ he j hj
      · cases e
    · cases e
  · cases e
theorem ok_arr {t n : Nat} : okE (.inl (t, zarr t n)) := by
  unfold zarr
  split
  · exact trivial
  · exact fun _ _ => rfl
  · exact fun _ _ => rfl
  · exact trivial
end OKR
def zsafe (i : Instr) : Bool := match i with
  | .iaload | .baload | .saload | .laload | .aaload | .lastore | .sastore | .bastore | .arraylength | .invokestatic _ | .tableswitch _ _ _ _ | .lookupswitch _ _ => false
  | _ => true
theorem oR_ins {m : zM} {i : Instr} {len pc : Nat} {ls st : List Value} {h : zH} (hh : okH h) (hs : zsafe i = true) : oR (zins (0, fun _ => 0) m i len pc ls st h) := by
  cases i
  case putfield idx =>
    show oR (zput m idx len pc ls st h)
    unfold zput
    refine oR_L ?_
    split
    · exact oR_of (fun q _ => oR_if (fun _ => oR_of (fun h' e => oR_go (ok_pf hh e))))
    · exact trivial
  case iastore => exact oR_L (oR_1i (fun x r => oR_1i (fun i r => oR_1r (fun a r => oR_of (fun q _ => oR_if (fun _ => oR_of (fun h' e => oR_go (ok_pi hh e))))))))
  case aastore =>
    refine oR_L (oR_1r (fun x r => oR_1i (fun i r => oR_1r (fun a r => oR_of (fun q hq => oR_if (fun hb => oR_of (fun h' e => oR_go (ok_pr hh hq ?_ e)))))))) 
    rw [Bool.and_eq_true, Bool.and_eq_true] at hb
    have := hb.1.1
    unfold zin at this
    have := of_decide_eq_true this
    omega
  case newarray ty => exact oR_L (oR_1i (fun n r => oR_of (fun t _ => oR_if (fun _ => oR_go (hh.app ok_arr)))))
  case anewarray idx => exact oR_L (oR_1i (fun n r => oR_of (fun q _ => oR_if (fun _ => oR_go (hh.app ok_arr)))))
  case new idx => exact oR_L (oR_of (fun q _ => oR_if (fun _ => oR_go (hh.app trivial))))
  case iinc k n =>
    refine oR_L ?_
    split
    · exact hh
    · exact trivial
  case ldc idx =>
    refine oR_L (oR_of (fun q _ => ?_))
    split
    · exact hh
    · exact hh
    · exact trivial
  case ldc_w idx =>
    refine oR_L (oR_of (fun q _ => ?_))
    split
    · exact hh
    · exact trivial
  case ldc2_w idx =>
    refine oR_L (oR_of (fun q _ => ?_))
    split
    · exact hh
    · exact trivial
  case getfield idx => exact oR_L (oR_1r (fun a r => oR_of (fun q _ => oR_of (fun v _ => oR_go hh))))
  case getstatic idx => exact oR_L (oR_of (fun q _ => oR_go hh))
  case invokevirtual idx =>
    exact oR_L (oR_of (fun q _ => oR_if (fun _ => oR_of (fun a _ => oR_1r (fun b r => oR_if (fun _ => trivial))))))
  case invokespecial idx =>
    show oR (zinvI m idx len pc ls st h)
    unfold zinvI
    split
    · split
      · exact oR_L (oR_1r (fun _ r => oR_if (fun _ => oR_go hh)))
      · exact trivial
    · exact oR_L (oR_of (fun q _ => oR_if (fun _ => oR_of (fun a _ => oR_1r (fun b r => oR_if (fun _ => trivial))))))
  case ireturn =>
    refine oR_L ?_
    split
    · exact oR_if (fun _ => trivial)
    · exact trivial
  case lreturn =>
    refine oR_L ?_
    split
    · exact trivial
    · exact trivial
  case return_ =>
    refine oR_L ?_
    split
    · exact trivial
    · exact trivial
  all_goals first
    | exact trivial
    | (cases hs; done)
    | exact oR_L (oR_go hh)
    | exact oR_L (oR_2i (fun x y r => oR_go hh))
    | exact oR_L (oR_2l (fun x y r => oR_go hh))
    | exact oR_L (oR_1i (fun x r => oR_go hh))
    | exact oR_L (oR_1l (fun x r => oR_go hh))
    | exact oR_L (oR_ldi (fun x => oR_go hh))
    | exact oR_L (oR_ldl (fun x => oR_go hh))
    | exact oR_L (oR_ldr (fun x => oR_go hh))
    | exact oR_L (oR_1i (fun x r => oR_if (fun _ => oR_go hh)))
    | exact oR_L (oR_1r (fun x r => oR_if (fun _ => oR_go hh)))
    | exact oR_L (oR_1l (fun x r => oR_if (fun _ => oR_go hh)))
    | exact oR_L (oR_2i (fun x y r => oR_if (fun _ => oR_go hh)))
    | exact oR_L (oR_1i (fun y r => oR_1l (fun x r => oR_go hh)))
    | exact oR_L (oR_top (fun v r => oR_go hh))
    | exact oR_L (oR_top (fun v r => oR_top (fun w r => oR_go hh)))
    | exact oR_L (oR_1i (fun x r => oR_br hh))
    | exact oR_L (oR_2i (fun x y r => oR_br hh))
    | exact oR_L (oR_jmp hh)
theorem ins_X {X : zX} {m : zM} {i : Instr} {len pc : Nat} {ls st : List Value} {h : zH} (hs : zsafe i = true) : zins X m i len pc ls st h = zins (0, fun _ => 0) m i len pc ls st h := by
  cases i <;> first | rfl | (cases hs; done)
/-- the machine without a script -/
def zstS (m : zM) (pc : Nat) (ls st : List Value) (h : zH) : zR4 := match decode m.2.2.1 pc with
  | .ok q => bif zsafe q.1 then zins (0, fun _ => 0) m q.1 q.2 pc ls st h else none
  | .error _ => none
theorem stS_X {X : zX} {m : zM} {pc : Nat} {ls st : List Value} {h : zH} {q} (hh : zstS m pc ls st h = some q) : zstep X m pc ls st h = some q ∧ (okH h → oR (some q)) := by
  unfold zstS at hh
  unfold zstep
  cases hd : decode m.2.2.1 pc with
  | error e => rw [hd] at hh; cases hh
  | ok w =>
    rw [hd] at hh
    dsimp only at hh ⊢
    cases hs : zsafe w.1 with
    | false => rw [hs] at hh; cases hh
    | true =>
      rw [hs] at hh
      have hh2 : zins (0, fun _ => 0) m w.1 w.2 pc ls st h = some q := hh
      rw [ins_X hs]
      exact ⟨hh2, fun hk => by rw [← hh2]; exact oR_ins hk hs⟩
def zevS : Nat → Nat → zM → Nat → List Value → List Value → zH → Option (Option Value × zH)
  | 0, _, _, _, _, _, _ => none
  | n + 1, d, m, pc, ls, st, h => match zstS m pc ls st h with
    | some (.inl (pc', ls', st', h')) => zevS n d m pc' ls' st' h'
    | some (.inr (.inl (m', as, rest, pc'))) => match d with
      | 0 => none
      | d' + 1 => match zevS n d' m' 0 (zpad as m'.2.2.2.1) [] h with
        | some (v, h') => zevS n (d' + 1) m pc' ls (v.toList ++ rest) h'
        | none => none
    | some (.inr (.inr v)) => some (v, h)
    | none => none
theorem evS_X {X : zX} : ∀ (n d : Nat) (m : zM) (pc : Nat) (ls st : List Value) (h : zH) (v : Option Value) (h' : zH), zevS n d m pc ls st h = some (v, h') → zev X n d m pc ls st h = some (v, h') ∧ (okH h → okH h') := by
  intro n
  induction n with
  | zero => intro d m pc ls st h v h' e; cases e
  | succ n ih =>
    intro d m pc ls st h v h' e
    unfold zevS at e
    unfold zev
    cases hs : zstS m pc ls st h with
    | none => rw [hs] at e; cases e
    | some q =>
      obtain ⟨s1, s2⟩ := stS_X (X := X) hs
      rw [hs] at e
      rw [s1]
      rcases q with ⟨pc', ls', st', h1⟩ | ⟨m', as, rest, pc'⟩ | w
      · have := ih d m pc' ls' st' h1 v h' e
        exact ⟨this.1, fun hk => this.2 (s2 hk)⟩
      · cases d with
        | zero => cases e
        | succ d' =>
          dsimp only at e ⊢
          cases hc : zevS n d' m' 0 (zpad as m'.2.2.2.1) [] h with
          | none => rw [hc] at e; cases e
          | some q =>
            rw [hc] at e
            obtain ⟨q1, q2⟩ := q
            have a1 := ih d' m' 0 (zpad as m'.2.2.2.1) [] h q1 q2 hc
            have a2 := ih (d' + 1) m pc' ls (q1.toList ++ rest) q2 v h' e
            rw [a1.1]
            exact ⟨a2.1, fun hk => a2.2 (a1.2 hk)⟩
      · cases e; exact ⟨rfl, fun hk => hk⟩
def zadv (n d : Nat) (m : zM) : Nat → Nat → List Value → List Value → zH → Option (Nat × List Value × List Value × zH)
  | 0, pc, ls, st, h => some (pc, ls, st, h)
  | k + 1, pc, ls, st, h => match zstS m pc ls st h with
    | some (.inl (pc', ls', st', h')) => zadv n d m k pc' ls' st' h'
    | some (.inr (.inl (m', as, rest, pc'))) => match zevS n (d - 1) m' 0 (zpad as m'.2.2.2.1) [] h with
      | some (v, h') => zadv n d m k pc' ls (v.toList ++ rest) h'
      | none => none
    | _ => none
theorem adv_X {X : zX} {n d : Nat} (hd : 0 < d) {m : zM} : ∀ (k pc : Nat) (ls st : List Value) (h : zH) (pc' : Nat) (ls' st' : List Value) (h' : zH), zadv n d m k pc ls st h = some (pc', ls', st', h') → (okH h → okH h') ∧ ∀ Q : Option Value → zH → Prop, zwp X d m pc' ls' st' h' Q → zwp X d m pc ls st h Q := by
  intro k
  induction k with
  | zero => intro pc ls st h pc' ls' st' h' e; cases e; exact ⟨fun hk => hk, fun Q hQ => hQ⟩
  | succ k ih =>
    intro pc ls st h pc' ls' st' h' e
    unfold zadv at e
    cases hs : zstS m pc ls st h with
    | none => rw [hs] at e; cases e
    | some q =>
      obtain ⟨s1, s2⟩ := stS_X (X := X) hs
      rw [hs] at e
      rcases q with ⟨pc1, ls1, st1, h1⟩ | ⟨m1, as, rest, pc1⟩ | w
      · have := ih pc1 ls1 st1 h1 pc' ls' st' h' e
        refine ⟨fun hk => this.1 (s2 hk), fun Q hQ => ?_⟩
        rw [zwp_step, s1]
        exact this.2 Q hQ
      · dsimp only at e
        cases hc : zevS n (d - 1) m1 0 (zpad as m1.2.2.2.1) [] h with
        | none => rw [hc] at e; cases e
        | some q =>
          rw [hc] at e
          obtain ⟨q1, q2⟩ := q
          have a1 := evS_X (X := X) n (d - 1) m1 0 (zpad as m1.2.2.2.1) [] h q1 q2 hc
          have a2 := ih pc1 ls (q1.toList ++ rest) q2 pc' ls' st' h' e
          refine ⟨fun hk => a2.1 (a1.2 hk), fun Q hQ => ?_⟩
          rw [zwp_step, s1]
          exact ⟨hd, n, q1, q2, a1.1, a2.2 Q hQ⟩
      · cases e
