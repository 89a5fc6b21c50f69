/-! the text of a law: the class reads numbers, levels, operands -/
def PcS (B : Nat → Int) (n : Nat) (P : Nat → pR) (call : zS → (Option Value → zH → Prop) → Prop) : Prop := ∀ (σ : zS) (p len : Nat) (Q : Option Value → zH → Prop), CI σ B n → CD σ p len → p ≤ n → len + (n - p) ≤ 120 →
  (∀ (q : Nat) (c : List Int) (τ : zS), P p = (q, some c) → zFr [10] FP σ τ → CD τ q (len + c.length) → (∀ j, j < len → gi τ 10 j = gi σ 10 j) → LAt (τ.1 10) c len → (gi τ 9 4 = 0 → gi σ 9 4 = 0 ∧ ∀ s, s ∈ c → s ≠ 10005) → Q (some (.int 1)) (zen τ)) →
  (∀ (q len' : Nat) (v : Int32) (τ : zS), P p = (q, none) → zFr [10] FP σ τ → CD τ q len' → len' ≤ 121 → (v = 0 ∨ (v = 1 ∧ 48 ≤ B q ∧ B q ≤ 57)) → Q (some (.int v)) (zen τ)) → call σ Q
theorem t_dig {σ : zS} {b : Int32} {x : Int} (hb : b.toInt = x) : (48 ≤ x ∧ x ≤ 57 → f_X9_isDigit σ b = 1) ∧ (¬ (48 ≤ x ∧ x ≤ 57) → f_X9_isDigit σ b = 0) := by
  have e48 : (48 : Int32).toInt = 48 := rfl
  have e57 : (57 : Int32).toInt = 57 := rfl
  unfold f_X9_isDigit
  refine ⟨fun h => ?_, fun h => ?_⟩
  · rw [if_neg (fun y => by have := il.mp y; omega), if_neg (fun y => by have := il.mp y; omega)]
  · by_cases c1 : b < 48
    · rw [if_pos c1]
    · have := nil_ c1
      rw [if_neg c1, if_pos (il.mpr (by omega))]
def mxN (k : Nat) : Int := if k = 0 then 9999 else if k = 1 then 999 else if k = 2 then 99 else if k = 3 then 9 else 0
theorem mxN_s {k : Nat} (h : k < 4) : mxN (k + 1) * 10 + 9 = mxN k := by
  match k, h with
  | 0, _ => rfl
  | 1, _ => rfl
  | 2, _ => rfl
  | 3, _ => rfl
theorem mxN_b (k : Nat) : mxN k ≤ 9999 := by unfold mxN; split; omega; split; omega; split; omega; split <;> omega
section RD
variable {X : zX} {d : Nat} {Q : Option Value → zH → Prop} {B : Nat → Int} {n : Nat}
theorem lp_num (hd : 1 ≤ d) (hB : bOk B n) (hn : n ≤ 120) : ∀ (k : Nat) (σ : zS) (p len : Nat) (a : Int) (l1 l2 : Int32), CI σ B n → CD σ p len → p ≤ n → l2.toInt + k = 4 → l1.toInt = a → 0 ≤ a → a ≤ mxN k → k ≤ 4 →
    (∀ (τ : zS) (x : Int32), zFr [10] FP σ τ → CI τ B n → CD τ (numP B k p a).2 len → (∀ j, gi τ 10 j = gi σ 10 j) → gi τ 9 4 = gi σ 9 4 → x.toInt = (numP B k p a).1 → (p_X6_add τ x ∧ Q none (zen (g_X6_add τ x)))) →
    zwp X d MX9_readNumber 4 [.ref 7, .int l1, .int l2] [] (zen σ) Q := by
  intro k
  have e1 := l1
  have e4 := l4
  have e10 : (10 : Int32).toInt = 10 := rfl
  have e48 : (48 : Int32).toInt = 48 := rfl
  induction k with
  | zero =>
    intro σ p len a l1 l2 hI hD hp hk ha ha0 ham hk4 hQ
    rw [b_X9_readNumber_4 (hd := hd), if_pos (ile.mpr (by omega))]
    exact hQ σ l1 zFr.rf hI hD (fun _ => rfl) rfl ha
  | succ k ih =>
    intro σ p len a l1 l2 hI hD hp hk ha ha0 ham hk4 hQ
    have h2 := hI.1
    have h3 := hD.1
    unfold numP at hQ
    rw [b_X9_readNumber_4 (hd := hd), if_neg (fun y => by have := ile.mp y; omega)]
    by_cases c1 : gi σ 7 2 ≤ gi σ 7 3
    · have := ile.mp c1
      have hb := hB.1 p (by omega)
      rw [if_neg (by omega)] at hQ
      rw [if_pos c1]
      exact hQ σ l1 zFr.rf hI hD (fun _ => rfl) rfl ha
    · have := nile c1
      have ii : ix (gi σ 7 3) = p := by rw [ix_t]; omega
      have iz : zin (gi σ 7 3) 120 = true := zin_of (by omega) (by omega)
      have hb := hI.2 p (by omega)
      have T := t_dig (σ := σ) hb
      rw [if_neg c1, ztrue_and iz, ii]
      by_cases c2 : 48 ≤ B p ∧ B p ≤ 57
      · rw [if_pos c2] at hQ
        rw [T.1 c2, if_neg (by decide), ztrue_and iz]
        obtain ⟨f1, f2, f3, f4, f5⟩ := nextC hI hD (by omega)
        have ms := mxN_s (k := k) (by omega)
        have mb := mxN_b k
        generalize mxN (k + 1) = y1 at ham ms
        generalize hy0 : mxN k = y0 at ms mb
        have m1 : (l1 * 10).toInt = a * 10 := by rw [t_mul (by rw [e10]; omega), ha, e10]
        have m2 : (l1 * 10 + gi σ 8 p).toInt = a * 10 + B p := by rw [t_add (by omega), m1, hb]
        have m3 : (l1 * 10 + gi σ 8 p - 48).toInt = a * 10 + B p - 48 := by rw [t_sub (by rw [m2, e48]; omega), m2, e48]
        have m4 : (l2 + 1).toInt = l2.toInt + 1 := by rw [t_add (by omega), e1]
        refine ih _ (p + 1) len (a * 10 + B p - 48) _ _ f1 f2 (by omega) (by omega) m3 (by omega) (by omega) (by omega) (fun τ x g1 g2 g3 g4 g5 g6 => hQ τ x (f3.tr g1) g2 g3 (fun j => (g4 j).trans (f4 j)) (g5.trans f5) g6)
      · rw [if_neg c2] at hQ
        rw [T.2 c2, if_pos rfl]
        exact hQ σ l1 zFr.rf hI hD (fun _ => rfl) rfl ha
theorem w_takeJoin (hd : 8 ≤ d) (hB : bOk B n) (hn : n ≤ 120) {σ : zS} {p len : Nat} (hI : CI σ B n) (hD : CD σ p len) (hp : p ≤ n) {l : Int32} {lv : Int} (hl : l.toInt = lv)
    (hyes : 0 ≤ jnI (B p) ∧ lvI (jnI (B p)) = lv → ∀ v : Int32, v.toInt = 10006 + jnI (B p) → Q (some (.int v)) (zen (si σ 7 3 (gi σ 7 3 + 1)))) (hno : ¬ (0 ≤ jnI (B p) ∧ lvI (jnI (B p)) = lv) → Q (some (.int 0)) (zen σ)) : zwp X d MX9_takeJoin 0 [.ref 7, .int l, .null] [] (zen σ) Q := by
  have e0 := l0
  have e10006 : (10006 : Int32).toInt = 10006 := rfl
  have h2 := hI.1
  have h3 := hD.1
  rw [b_X9_takeJoin_0 (hd := by omega)]
  by_cases c1 : gi σ 7 2 ≤ gi σ 7 3
  · have := ile.mp c1
    have hb := hB.1 p (by omega)
    have hj : jnI (-1) = -1 := rfl
    rw [if_pos c1]
    exact hno (by rw [hb, hj]; intro q; exact absurd q.1 (by decide))
  · have := nile c1
    have ii : ix (gi σ 7 3) = p := by rw [ix_t]; omega
    have iz : zin (gi σ 7 3) 120 = true := zin_of (by omega) (by omega)
    have hb := hI.2 p (by omega)
    have hbb := hB.2 p (by omega)
    have jb := jnI_b (B p)
    rw [if_neg c1, ztrue_and iz, ii]
    refine w_idxJ (by omega) hb hbb (fun t ht => ?_)
    show zwp X d MX9_takeJoin 26 _ [.int t] (zen σ) Q
    rw [b_X9_takeJoin_26]
    generalize jnI (B p) = jn at jb ht hyes hno
    by_cases c2 : t < 0
    · have := il.mp c2
      rw [if_pos c2]
      exact hno (fun q => by have := q.1; omega)
    · have := nil_ c2
      have tz : zin t 10 = true := zin_of (by omega) (by omega)
      have ti := ix_t t
      have hk : (zK2 (ix t)).toInt = lvI jn := by
        rw [ti, ht]
        obtain ⟨m, hm⟩ : ∃ m : Nat, jn = m := ⟨jn.toNat, by omega⟩
        subst hm
        have hm10 : m < 10 := by omega
        clear hyes hno jb ht
        match m, hm10 with
        | 0, _ => rfl
        | 1, _ => rfl
        | 2, _ => rfl
        | 3, _ => rfl
        | 4, _ => rfl
        | 5, _ => rfl
        | 6, _ => rfl
        | 7, _ => rfl
        | 8, _ => rfl
        | 9, _ => rfl
      rw [if_neg c2, ztrue_and tz]
      by_cases c3 : zK2 (ix t) = l
      · rw [if_pos c3]
        exact hyes ⟨by omega, by rw [← hk, c3, hl]⟩ _ (by rw [t_add (by omega), e10006, ht])
      · rw [if_neg c3]
        exact hno (fun q => c3 (ieq.mpr (by rw [hk, q.2, hl])))
theorem dig_nj {B : Nat → Int} {p : Nat} {lv : Int} (h : 48 ≤ B p ∧ B p ≤ 57) : ¬ (0 ≤ jnI (B p) ∧ lvI (jnI (B p)) = lv) := by
  intro q
  have jb := jnI_b (B p)
  have q1 := q.1
  clear q
  generalize jnI (B p) = j at jb q1
  omega
/-- behind a number of five digits nothing goes on -/
theorem stuckC (hd : 9 ≤ d) (hB : bOk B n) (hn : n ≤ 120) {σ : zS} {p len : Nat} (hI : CI σ B n) (hD : CD σ p len) (hp : p ≤ n) (hdg : 48 ≤ B p ∧ B p ≤ 57) (l1 l2 l3 l4 : Int32) (w5 : Value) (hQ : Q (some (.int 1)) (zen σ)) : zwp X d MX9_readLevel 41 [.ref 7, .int l1, .int l2, .int l3, .int l4, w5] [] (zen σ) Q := by
  rw [b_X9_readLevel_41 (hd := by omega)]
  by_cases c : l3 ≤ l4
  · rw [if_pos c]; exact hQ
  · rw [if_neg c]
    refine w_takeJoin (by omega) hB hn hI hD hp rfl (fun q => absurd q (dig_nj hdg)) (fun _ => ?_)
    show zwp X d MX9_readLevel 52 _ [.int 0] (zen σ) Q
    rw [b_X9_readLevel_52 (hd := by omega), if_neg (fun y => y rfl)]
    exact hQ
theorem lp_chC (hd : 10 ≤ d) (hB : bOk B n) (hn : n ≤ 120) {sub : Nat → pR} (hw : ∀ p, p ≤ n → WfR p n (sub p)) {l : Int} {l1 l2 l3 : Int32} (hl : l1.toInt = l) (hsub : PcS B n sub (fun σ Q => zwp X (d - 1) MX9_readLevel 0 [.ref 7, .int (l1 + 1), .int l2, .null, .null, .null] [] (zen σ) Q)) {σ0 : zS} {len0 : Nat} : ∀ (f : Nat) (σ : zS) (p : Nat) (c : List Int) (l4 : Int32) (w5 : Value), zFr [10] FP σ0 σ → CI σ B n → CD σ p (len0 + c.length) → p ≤ n → len0 + c.length + (n - p) ≤ 120 → (∀ j, j < len0 → gi σ 10 j = gi σ0 10 j) → LAt (σ.1 10) c len0 → (gi σ 9 4 = 0 → gi σ0 9 4 = 0 ∧ ∀ s, s ∈ c → s ≠ 10005) → l4.toInt + f = l3.toInt → -1000 ≤ l4.toInt → l3.toInt ≤ 1000 →
    (∀ (q : Nat) (c' : List Int) (τ : zS), chP B sub l f p c = (q, some c') → zFr [10] FP σ0 τ → CD τ q (len0 + c'.length) → (∀ j, j < len0 → gi τ 10 j = gi σ0 10 j) → LAt (τ.1 10) c' len0 → (gi τ 9 4 = 0 → gi σ0 9 4 = 0 ∧ ∀ s, s ∈ c' → s ≠ 10005) → Q (some (.int 1)) (zen τ)) →
    (∀ (q len' : Nat) (v : Int32) (τ : zS), chP B sub l f p c = (q, none) → zFr [10] FP σ0 τ → CD τ q len' → len' ≤ 121 → (v = 0 ∨ (v = 1 ∧ 48 ≤ B q ∧ B q ≤ 57)) → Q (some (.int v)) (zen τ)) →
    zwp X d MX9_readLevel 41 [.ref 7, .int l1, .int l2, .int l3, .int l4, w5] [] (zen σ) Q := by
  intro f
  have e1 := l1
  induction f with
  | zero =>
    intro σ p c l4 w5 hF hI hD hp hlen hpre hL hlk hf hl4 hl3 hok hbad
    rw [b_X9_readLevel_41 (hd := by omega), if_pos (ile.mpr (by omega))]
    exact hok p c σ rfl hF hD hpre hL hlk
  | succ f ih =>
    intro σ p c l4 w5 hF hI hD hp hlen hpre hL hlk hf hl4 hl3 hok hbad
    have e41 : (l4 + 1).toInt = l4.toInt + 1 := by
      have e : (1 : Int32).toInt = 1 := rfl
      rw [t_add (by omega), e]
    unfold chP at hok hbad
    rw [b_X9_readLevel_41 (hd := by omega), if_neg (fun y => by have := ile.mp y; omega)]
    refine w_takeJoin (by omega) hB hn hI hD hp hl (fun hy v hv => ?_) (fun hno => ?_)
    · show zwp X d MX9_readLevel 52 _ [.int v] (zen _) Q
      rw [if_pos hy] at hok hbad
      have jb := jnI_b (B p)
      have hy1 := hy.1
      clear hy
      generalize hjn : jnI (B p) = jn at jb hv hy1 hok hbad
      have hpn : p < n := by
        rcases Nat.lt_or_ge p n with q | q
        · exact q
        · have := hB.1 p q; omega
      have v0 : ¬ v = 0 := fun y => by rw [y, l0] at hv; omega
      have v5 : jn ≠ -1 → v.toInt ≠ 10005 := fun _ => by omega
      obtain ⟨f1, f2, f3, f4, f5⟩ := nextC hI hD (by omega)
      have W := hw (p + 1) (by omega)
      rw [b_X9_readLevel_52 (hd := by omega), if_pos v0]
      refine hsub _ (p + 1) (len0 + c.length) _ f1 f2 (by omega) (by omega) (fun q c2 τ e g1 g2 g3 g4 g5 => ?_) (fun q len' u τ e g1 g2 g3 g4 => ?_)
      · show zwp X d MX9_readLevel 69 _ [.int 1] (zen τ) Q
        rw [e] at hok hbad W
        have W1 := W.1
        have W2 := W.2.1
        have W3 := W.2.2 c2 rfl
        dsimp only at hok hbad W1 W2 W3
        have hFτ : zFr [10] FP σ0 τ := (hF.tr f3).tr g1
        have hIτ : CI τ B n := (hI.fr f3 (by decide)).fr g1 (by decide)
        rw [b_X9_readLevel_69 (hd := by omega), if_pos (by decide)]
        obtain ⟨a1, a2, a3, a4, a5, a6⟩ := addC g2 (by omega) v
        rw [if_pos (by omega)] at a3
        have hlen3 : (c ++ c2 ++ [10006 + jn]).length = c.length + c2.length + 1 := by rw [List.length_append, List.length_append, List.length_singleton]
        have hFa : zFr [10] FP τ (g_X6_add τ v) := a2.sub (by decide) (by decide)
        refine ⟨a1, ih _ q (c ++ c2 ++ [10006 + jn]) (l4 + 1) (.int v) (hFτ.tr hFa) (hIτ.fr hFa (by decide)) (by rw [hlen3, show len0 + (c.length + c2.length + 1) = len0 + c.length + c2.length + 1 by omega]; exact a3) W2 (by rw [hlen3]; omega) (fun j hj => ?_) ?_ (fun e0 => ?_) (by omega) (by omega) hl3 hok hbad⟩
        · rw [a5 j (by omega), g3 j (by omega), f4]; exact hpre j hj
        · refine LAt.mk (LAt.mk (hL.eq (fun j h1 h2 => ?_)) (g4.eq (fun j h1 h2 => ?_))) (LAt.sing ?_)
          · show gi (g_X6_add τ v) 10 j = gi σ 10 j
            rw [a5 j (by omega), g3 j (by omega), f4]
          · exact a5 j (by omega)
          · rw [List.length_append]
            show (gi (g_X6_add τ v) 10 (len0 + (c.length + c2.length))).toInt = _
            rw [show len0 + (c.length + c2.length) = len0 + c.length + c2.length by omega, a4 (by omega)]
            exact hv
        · have x1 := a6 e0
          have x2 := g5 x1.1
          have x3 := hlk (f5 ▸ x2.1)
          refine ⟨x3.1, fun s hs => ?_⟩
          rcases List.mem_append.mp hs with q1 | q1
          · rcases List.mem_append.mp q1 with q2 | q2
            · exact x3.2 s q2
            · exact x2.2 s q2
          · rw [List.mem_singleton.mp q1]; omega
      · show zwp X d MX9_readLevel 69 _ [.int u] (zen τ) Q
        rw [e] at hbad
        have W1 := W.2.1
        rw [e] at W1
        dsimp only at hbad W1
        have hFτ : zFr [10] FP σ0 τ := (hF.tr f3).tr g1
        have hIτ : CI τ B n := (hI.fr f3 (by decide)).fr g1 (by decide)
        rw [b_X9_readLevel_69 (hd := by omega)]
        rcases g4 with rfl | ⟨rfl, g4⟩
        · rw [if_neg (fun y => y rfl)]
          exact hbad q len' 0 τ rfl hFτ g2 g3 (Or.inl rfl)
        · rw [if_pos (by decide)]
          obtain ⟨a1, a2, a3, a4, a5, a6⟩ := addC g2 g3 v
          have hFa : zFr [10] FP τ (g_X6_add τ v) := a2.sub (by decide) (by decide)
          refine ⟨a1, stuckC (by omega) hB hn (hIτ.fr hFa (by decide)) a3 W1 g4 l1 l2 l3 _ _ (hbad q _ 1 _ rfl (hFτ.tr hFa) a3 (by split <;> omega) (Or.inr ⟨rfl, g4⟩))⟩
    · show zwp X d MX9_readLevel 52 _ [.int 0] (zen σ) Q
      rw [if_neg hno] at hok
      rw [b_X9_readLevel_52 (hd := by omega), if_neg (fun y => y rfl)]
      exact hok p c σ rfl hF hD hpre hL hlk
theorem w_readLevel (hB : bOk B n) (hn : n ≤ 120) {sub : Nat → pR} (hw : ∀ p, p ≤ n → WfR p n (sub p)) {o : Int32} {d0 : Nat} (hd0 : 10 ≤ d0) (hop : ∀ d, d0 ≤ d → PcS B n sub (fun σ Q => zwp X d MX9_readOperand 0 [.ref 7, .int o, .null, .null] [] (zen σ) Q)) : ∀ (m d : Nat) (l : Int32), m ≤ 5 → l.toInt = 5 - (m : Int) → d0 + 1 + m ≤ d → PcS B n (lvP B n sub m) (fun σ Q => zwp X d MX9_readLevel 0 [.ref 7, .int l, .int o, .null, .null, .null] [] (zen σ) Q) := by
  intro m
  have e0 := l0
  have e1 := l1
  have e2 := l2
  have e5 := l5
  induction m with
  | zero =>
    intro d l hm hl hd σ p len Q hI hD hp hlen hok hbad
    show zwp X d MX9_readLevel 0 [.ref 7, .int l, .int o, .null, .null, .null] [] (zen σ) Q
    rw [b_X9_readLevel_0 (hd := by omega), if_neg (fun y => by have := il.mp y; omega)]
    refine hop (d - 1) (by omega) σ p len _ hI hD hp hlen (fun q c τ e g1 g2 g3 g4 g5 => ?_) (fun q len' v τ e g1 g2 g3 g4 => ?_)
    · show zwp X d MX9_readLevel 10 _ [.int 1] (zen τ) Q
      rw [b_X9_readLevel_10]
      exact ⟨rfl, hok q c τ e g1 g2 g3 g4 g5⟩
    · show zwp X d MX9_readLevel 10 _ [.int v] (zen τ) Q
      rw [b_X9_readLevel_10]
      refine ⟨?_, hbad q len' v τ e g1 g2 g3 g4⟩
      rcases g4 with rfl | ⟨rfl, _⟩
      · rfl
      · rfl
  | succ m ih =>
    intro d l hm hl hd σ p len Q hI hD hp hlen hok hbad
    show zwp X d MX9_readLevel 0 [.ref 7, .int l, .int o, .null, .null, .null] [] (zen σ) Q
    have el1 : (l + 1).toInt = 5 - (m : Int) := by rw [t_add (by omega), e1]; omega
    have S := ih (d - 1) (l + 1) (by omega) el1 (by omega)
    have hwm := lvP_w hB hw m
    unfold lvP at hok hbad
    rw [b_X9_readLevel_0 (hd := by omega), if_pos (il.mpr (by omega))]
    refine S σ p len _ hI hD hp hlen (fun q c τ e g1 g2 g3 g4 g5 => ?_) (fun q len' v τ e g1 g2 g3 g4 => ?_)
    · show zwp X d MX9_readLevel 19 _ [.int 1] (zen τ) Q
      rw [e] at hok hbad
      dsimp only at hok hbad
      have W := hwm p hp
      rw [e] at W
      have W1 := W.1
      have W2 := W.2.1
      have W3 := W.2.2 c rfl
      dsimp only at W1 W2 W3
      have hIτ := hI.fr g1 (by decide)
      have hl4 : l.toInt = 4 - (m : Int) := by omega
      rw [b_X9_readLevel_19, if_pos (by decide)]
      by_cases c2 : l = 2
      · have hm2 : m = 2 := by rw [c2, e2] at hl; omega
        rw [if_neg (fun y => y c2)]
        rw [if_pos hm2] at hok hbad
        exact lp_chC (by omega) hB hn hwm hl4 S 1 τ q c 0 .null g1 hIτ g2 W2 (by omega) g3 g4 g5 (by rw [e0, e1]; rfl) (by rw [e0]; omega) (by rw [e1]; omega) hok hbad
      · have hm2 : ¬ m = 2 := fun y => c2 (ieq.mpr (by omega))
        have h2 := hIτ.1
        rw [if_pos c2]
        rw [if_neg hm2] at hok hbad
        exact lp_chC (by omega) hB hn hwm hl4 S n τ q c 0 .null g1 hIτ g2 W2 (by omega) g3 g4 g5 (by omega) (by omega) (by omega) hok hbad
    · show zwp X d MX9_readLevel 19 _ [.int v] (zen τ) Q
      rw [e] at hbad
      dsimp only at hbad
      have W := (hwm p hp).2.1
      rw [e] at W
      dsimp only at W
      have hIτ := hI.fr g1 (by decide)
      rw [b_X9_readLevel_19]
      rcases g4 with rfl | ⟨rfl, g4⟩
      · rw [if_neg (fun y => y rfl)]
        exact hbad q len' 0 τ rfl g1 g2 g3 (Or.inl rfl)
      · have fin := hbad q len' 1 τ rfl g1 g2 g3 (Or.inr ⟨rfl, g4⟩)
        rw [if_pos (by decide)]
        by_cases c2 : l = 2
        · rw [if_neg (fun y => y c2)]
          exact stuckC (by omega) hB hn hIτ g2 W g4 _ _ _ _ _ fin
        · rw [if_pos c2]
          exact stuckC (by omega) hB hn hIτ g2 W g4 _ _ _ _ _ fin
end RD
