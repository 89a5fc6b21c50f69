/-! the text of a law: the class reads operands -/
def opB (B : Nat → Int) (p : Nat) (r : pR) : pR := if 0 ≤ nmI (B p) then (p + 1, some [10000 + nmI (B p)]) else if B p = 33 ∨ B p = 45 ∨ B p = 40 then r else figP B p
def opR (B : Nat → Int) (n k p : Nat) : pR := if B p = 40 then clP B (lvP B n (opP B n k) 5 (p + 1)) else unP (B p) (opP B n k (p + 1))
theorem opP_0 (B : Nat → Int) (n : Nat) : opP B n 0 = fun p => opB B p (p, none) := rfl
theorem opP_s (B : Nat → Int) (n k : Nat) : opP B n (k + 1) = fun p => opB B p (opR B n k p) := by
  funext p
  show (if 0 ≤ nmI (B p) then (p + 1, some [10000 + nmI (B p)]) else if B p = 33 ∨ B p = 45 then unP (B p) (opP B n k (p + 1)) else if B p = 40 then clP B (lvP B n (opP B n k) 5 (p + 1)) else figP B p) = _
  unfold opB opR
  by_cases c1 : 0 ≤ nmI (B p)
  · rw [if_pos c1, if_pos c1]
  · rw [if_neg c1, if_neg c1]
    by_cases c2 : B p = 33 ∨ B p = 45
    · have c3 : ¬ B p = 40 := by rcases c2 with q | q <;> (rw [q]; decide)
      rw [if_pos c2, if_pos (by rcases c2 with q | q; exact Or.inl q; exact Or.inr (Or.inl q)), if_neg c3]
    · rw [if_neg c2]
      by_cases c3 : B p = 40
      · rw [if_pos c3, if_pos (Or.inr (Or.inr c3)), if_pos c3]
      · rw [if_neg c3, if_neg (fun q => by rcases q with q | q | q; exact c2 (Or.inl q); exact c2 (Or.inr q); exact c3 q)]
section OPD
variable {X : zX} {d : Nat} {B : Nat → Int} {n : Nat}
theorem nj_dig {b : Int} (h : 48 ≤ b ∧ b ≤ 57) : ¬ 0 ≤ nmI b := by
  have nb := nmI_b b
  intro q
  generalize nmI b = v at nb q
  omega
theorem w_opB (hd : 12 ≤ d) (hB : bOk B n) (hn : n ≤ 120) {o : Int32} {r : Nat → pR}
    (hopen : ∀ (σ : zS) (p len : Nat) (Q : Option Value → zH → Prop) (b t : Int32), CI σ B n → CD σ p len → p < n → len + (n - p) ≤ 120 → t < 0 → (B p = 33 ∨ B p = 45 ∨ B p = 40) →
      (∀ (q : Nat) (c : List Int) (τ : zS), r p = (q, some c) → zFr [10] FP σ τ → CD τ q (len + c.length) → (∀ j, j < len → gi τ 10 j = gi σ 10 j) → LAt (τ.1 10) c len → (gi τ 9 4 = 0 → gi σ 9 4 = 0 ∧ ∀ s, s ∈ c → s ≠ 10005) → Q (some (.int 1)) (zen τ)) →
      (∀ (q len' : Nat) (v : Int32) (τ : zS), r p = (q, none) → zFr [10] FP σ τ → CD τ q len' → len' ≤ 121 → (v = 0 ∨ (v = 1 ∧ 48 ≤ B q ∧ B q ≤ 57)) → Q (some (.int v)) (zen τ)) →
      zwp X d MX9_readOperand 43 [.ref 7, .int o, .int b, .null] [.int t] (zen σ) Q) : PcS B n (fun p => opB B p (r p)) (fun σ Q => zwp X d MX9_readOperand 0 [.ref 7, .int o, .null, .null] [] (zen σ) Q) := by
  intro σ p len Q hI hD hp hlen hok hbad
  show zwp X d MX9_readOperand 0 [.ref 7, .int o, .null, .null] [] (zen σ) Q
  have e0 := l0
  have e10000 : (10000 : Int32).toInt = 10000 := rfl
  have h2 := hI.1
  have h3 := hD.1
  rw [b_X9_readOperand_0 (hd := by omega)]
  by_cases c1 : gi σ 7 3 < gi σ 7 2
  · have y1 := il.mp c1
    have hpn : p < n := by omega
    have ii : ix (gi σ 7 3) = p := by rw [ix_t]; omega
    have iz : zin (gi σ 7 3) 120 = true := zin_of (by omega) (by omega)
    have hb := hI.2 p hpn
    have hbb := hB.2 p hpn
    have T := t_dig (σ := σ) hb
    rw [if_pos c1, ztrue_and iz, ii]
    by_cases c2 : 48 ≤ B p ∧ B p ≤ 57
    · have eP : opB B p (r p) = figP B p := by
        unfold opB
        rw [if_neg (nj_dig c2), if_neg (fun q => by rcases q with q | q | q <;> omega)]
      rw [T.1 c2, if_neg (by decide), b_X9_readNumber_0]
      have nb := numP_b hB 3 (p + 1) (0 * 10 + B p - 48) (by omega) (by omega)
      have eN : numP B 4 p 0 = numP B 3 (p + 1) (0 * 10 + B p - 48) := by
        show (if 48 ≤ B p ∧ B p ≤ 57 then _ else _) = _
        rw [if_pos c2]
      refine lp_num (by omega) hB hn 4 σ p len 0 0 0 hI hD hp (by rw [e0]; rfl) e0 (by decide) (by decide) (by decide) (fun τ x g1 g2 g3 g4 g5 g6 => ?_)
      unfold figP at eP
      rw [← eN] at nb
      generalize numP B 4 p 0 = rr at eP nb g3 g6
      obtain ⟨v, q⟩ := rr
      dsimp only at eP nb g3 g6
      rw [if_neg (show ¬ q = p by omega)] at eP
      obtain ⟨a1, a2, a3, a4, a5, a6⟩ := addC g3 (by omega) x
      rw [if_pos (by omega)] at a3
      have hFa : zFr [10] FP σ (g_X6_add τ x) := g1.tr (a2.sub (by decide) (by decide))
      refine ⟨a1, ?_⟩
      show zwp X d MX9_readOperand 34 _ [] (zen (g_X6_add τ x)) Q
      rw [b_X9_readOperand_34]
      by_cases c3 : 48 ≤ B q ∧ B q ≤ 57
      · rw [if_pos c3] at eP
        exact hbad q _ 1 _ eP hFa a3 (by omega) (Or.inr ⟨rfl, c3⟩)
      · rw [if_neg c3] at eP
        have hv : v < 10000 := by
          have h4 := nb.2.2.2
          have hle : (0 * 10 + B p - 48 + 1) * 10 ^ 3 ≤ 10 * 10 ^ 3 := Int.mul_le_mul_of_nonneg_right (by clear h4 hok hbad; omega) (by decide)
          have e3 : (10 : Int) * 10 ^ 3 = 10000 := by decide
          rw [e3] at hle
          exact Int.lt_of_lt_of_le h4 hle
        refine hok q [v] _ eP hFa a3 (fun j hj => ?_) (LAt.sing ?_) (fun e => ?_)
        · rw [a5 j hj]; exact g4 j
        · show (gi (g_X6_add τ x) 10 len).toInt = v
          rw [a4 (by omega)]; exact g6
        · have z := (a6 e).1
          rw [g5] at z
          refine ⟨z, fun s hs => ?_⟩
          rw [List.mem_singleton.mp hs]; omega
    · rw [T.2 c2, if_pos rfl]
      refine w_idxN (by omega) hb hbb (fun t ht => ?_)
      show zwp X d MX9_readOperand 43 _ [.int t] (zen σ) Q
      have nb := nmI_b (B p)
      have eOB : opB B p (r p) = if 0 ≤ nmI (B p) then (p + 1, some [10000 + nmI (B p)]) else if B p = 33 ∨ B p = 45 ∨ B p = 40 then r p else figP B p := rfl
      generalize nmI (B p) = nm at nb ht eOB
      by_cases c3 : t < 0
      · have := il.mp c3
        rw [if_neg (show ¬ 0 ≤ nm by omega)] at eOB
        by_cases c4 : B p = 33 ∨ B p = 45 ∨ B p = 40
        · rw [if_pos c4] at eOB
          refine hopen σ p len Q _ t hI hD hpn hlen c3 c4 (fun q c τ e => hok q c τ (eOB.trans e)) (fun q len' v τ e => hbad q len' v τ (eOB.trans e))
        · rw [if_neg c4] at eOB
          have eN : numP B 4 p 0 = (0, p) := by
            show (if 48 ≤ B p ∧ B p ≤ 57 then _ else _) = _
            rw [if_neg c2]
          have eF : figP B p = (p, none) := by unfold figP; rw [eN, if_pos rfl]
          have fin := hbad p len 0 σ (eOB.trans eF) zFr.rf hD (by omega) (Or.inl rfl)
          rw [b_X9_readOperand_43 (hd := by omega), if_pos c3]
          by_cases c5 : 6 ≤ o
          · rw [if_pos c5]; exact fin
          · have t1 := takeC hB hn hI hD hp (c := 40) (x := 40) rfl (by decide)
            have t2 := takeC hB hn hI hD hp (c := 33) (x := 33) rfl (by decide)
            have t3 := takeC hB hn hI hD hp (c := 45) (x := 45) rfl (by decide)
            have k1 := t1.2.2 (fun q => c4 (Or.inr (Or.inr q)))
            have k2 := t2.2.2 (fun q => c4 (Or.inl q))
            have k3 := t3.2.2 (fun q => c4 (Or.inr (Or.inl q)))
            rw [if_neg c5, b_X9_readOpened_0 (hd := by omega), ztrue_and t1.1, k1.1, if_pos rfl, k1.2, ztrue_and t2.1, k2.1, if_pos rfl, k2.2, ztrue_and t3.1, k3.1, if_pos rfl, k3.2]
            show zwp X d MX9_readOperand 85 _ [.int 0] (zen σ) Q
            rw [b_X9_readOperand_85, if_pos rfl]
            exact fin
      · have := nil_ c3
        have hnm : 0 ≤ nm := by omega
        rw [if_pos hnm] at eOB
        obtain ⟨f1, f2, f3, f4, f5⟩ := nextC hI hD (by omega)
        have ev : (10000 + t).toInt = 10000 + nm := by rw [t_add (by omega), e10000, ht]
        obtain ⟨a1, a2, a3, a4, a5, a6⟩ := addC f2 (by omega) (10000 + t)
        rw [if_pos (by omega)] at a3
        have hFa := f3.tr (a2.sub (by decide) (by decide) : zFr [10] FP _ _)
        rw [b_X9_readOperand_43 (hd := by omega), if_neg c3]
        refine ⟨a1, hok (p + 1) [10000 + nm] _ eOB hFa a3 (fun j hj => ?_) (LAt.sing ?_) (fun e => ?_)⟩
        · rw [a5 j hj]; exact f4 j
        · show (gi _ 10 len).toInt = _
          rw [a4 (by omega)]; exact ev
        · have z := a6 e
          refine ⟨f5 ▸ z.1, fun s hs => ?_⟩
          rw [List.mem_singleton.mp hs]
          intro q
          exact z.2 (ieq.mpr (by rw [ev, q]; rfl))
  · have y1 := nil_ c1
    have hb := hB.1 p (by omega)
    have hn1 : nmI (-1) = -1 := rfl
    have eF : opB B p (r p) = (p, none) := by
      have eN : numP B 4 p 0 = (0, p) := by
        show (if 48 ≤ B p ∧ B p ≤ 57 then _ else _) = _
        rw [if_neg (by omega)]
      unfold opB figP
      rw [eN, hb, hn1, if_neg (by decide), if_neg (by decide), if_pos rfl]
    rw [if_neg c1]
    exact hbad p len 0 σ eF zFr.rf hD (by omega) (Or.inl rfl)
theorem w_readOperand (hB : bOk B n) (hn : n ≤ 120) : ∀ (k d : Nat) (o : Int32), o.toInt + k = 6 → 0 ≤ o.toInt → 12 + 10 * k ≤ d → PcS B n (opP B n k) (fun σ Q => zwp X d MX9_readOperand 0 [.ref 7, .int o, .null, .null] [] (zen σ) Q) := by
  intro k
  have e0 := l0
  have e1 := l1
  have e6 := l6
  induction k with
  | zero =>
    intro d o ho ho0 hd
    rw [opP_0]
    refine w_opB (by omega) hB hn (r := fun p => (p, none)) (fun σ p len Q b t hI hD hpn hlen ht hop hok hbad => ?_)
    rw [b_X9_readOperand_43 (hd := by omega), if_pos ht, if_pos (ile.mpr (by omega))]
    exact hbad p len 0 σ rfl zFr.rf hD (by omega) (Or.inl rfl)
  | succ k ih =>
    intro d o ho ho0 hd
    rw [opP_s]
    have eo1 : (o + 1).toInt = o.toInt + 1 := by rw [t_add (by omega), e1]
    have hw := opP_w hB k
    refine w_opB (by omega) hB hn (fun σ p len Q b t hI hD hpn hlen ht hop hok hbad => ?_)
    have r1 : ∀ v : Int32, (v = 0 ∨ v = 1) → ∀ τ : zS, Q (some (.int v)) (zen τ) → zwp X d MX9_readOperand 85 [.ref 7, .int o, .int b, .int t] [.int v] (zen τ) Q := fun v hv τ h => by
      rw [b_X9_readOperand_85]
      rcases hv with rfl | rfl
      · rw [if_pos rfl]; exact h
      · rw [if_neg (by decide)]; exact h
    have t1 := takeC hB hn hI hD (Nat.le_of_lt hpn) (c := 40) (x := 40) rfl (by decide)
    have t2 := takeC hB hn hI hD (Nat.le_of_lt hpn) (c := 33) (x := 33) rfl (by decide)
    have t3 := takeC hB hn hI hD (Nat.le_of_lt hpn) (c := 45) (x := 45) rfl (by decide)
    obtain ⟨f1, f2, f3, f4, f5⟩ := nextC hI hD (by omega)
    rw [b_X9_readOperand_43 (hd := by omega), if_pos ht, if_neg (fun y => by have := ile.mp y; omega), b_X9_readOpened_0 (hd := by omega), ztrue_and t1.1]
    by_cases c40 : B p = 40
    · have k1 := t1.2.1 c40
      have eR : opR B n k p = clP B (lvP B n (opP B n k) 5 (p + 1)) := by unfold opR; rw [if_pos c40]
      rw [eR] at hok hbad
      rw [k1.1, if_neg (by decide), k1.2]
      have LV := w_readLevel (X := X) hB hn hw (o := o + 1) (d0 := 12 + 10 * k) (by omega) (fun d hd => ih d (o + 1) (by omega) (by omega) hd) 5 (d - 1 - 1) 0 (by omega) (by rw [e0]; rfl) (by omega)
      refine LV _ (p + 1) len _ f1 f2 (by omega) (by omega) (fun q c τ e g1 g2 g3 g4 g5 => ?_) (fun q len' v τ e g1 g2 g3 g4 => ?_)
      · show zwp X (d - 1) MX9_readOpened 15 _ [.int 1] (zen τ) _
        rw [e] at hok hbad
        have W := lvP_w hB hw 5 (p + 1) (by omega)
        rw [e] at W
        have W2 := W.2.1
        have W3 := W.2.2 c rfl
        dsimp only at W2 W3
        have hIτ := f1.fr g1 (by decide)
        have t4 := takeC hB hn hIτ g2 W2 (c := 41) (x := 41) rfl (by decide)
        have eC : clP B (q, some c) = if B q = 41 then (q + 1, some c) else (q, none) := rfl
        rw [eC] at hok hbad
        rw [b_X9_readOpened_15 (hd := by omega), if_neg (by decide), ztrue_and t4.1]
        by_cases c41 : B q = 41
        · have k4 := t4.2.1 c41
          rw [if_pos c41] at hok
          rw [k4.1, if_neg (by decide), k4.2]
          obtain ⟨u1, u2, u3, u4, u5⟩ := nextC hIτ g2 (by omega)
          refine r1 1 (Or.inr rfl) _ (hok (q + 1) c _ rfl ((f3.tr g1).tr u3) u2 (fun j hj => by rw [u4, g3 j hj, f4]) (g4.eq (fun j _ _ => u4 j)) (fun e0 => ?_))
          have z := g5 (u5 ▸ e0)
          exact ⟨f5 ▸ z.1, z.2⟩
        · have k4 := t4.2.2 c41
          rw [if_neg c41] at hbad
          rw [k4.1, if_pos rfl, k4.2]
          exact r1 0 (Or.inl rfl) _ (hbad q _ 0 τ rfl (f3.tr g1) g2 (by omega) (Or.inl rfl))
      · show zwp X (d - 1) MX9_readOpened 15 _ [.int v] (zen τ) _
        rw [e] at hbad
        have W := lvP_w hB hw 5 (p + 1) (by omega)
        rw [e] at W
        have W2 := W.2.1
        dsimp only at W2
        have hIτ := f1.fr g1 (by decide)
        have fin := hbad q len' 0 τ rfl (f3.tr g1) g2 g3 (Or.inl rfl)
        rw [b_X9_readOpened_15 (hd := by omega)]
        rcases g4 with rfl | ⟨rfl, g4⟩
        · rw [if_pos rfl]; exact r1 0 (Or.inl rfl) τ fin
        · have t4 := takeC hB hn hIτ g2 W2 (c := 41) (x := 41) rfl (by decide)
          have k4 := t4.2.2 (by omega)
          rw [if_neg (by decide), ztrue_and t4.1, k4.1, if_pos rfl, k4.2]
          exact r1 0 (Or.inl rfl) τ fin
    · have k1 := t1.2.2 c40
      have eR : opR B n k p = unP (B p) (opP B n k (p + 1)) := by unfold opR; rw [if_neg c40]
      rw [eR] at hok hbad
      have W := hw (p + 1) (by omega)
      -- the operand behind a sign
      have sgn : ∀ s : Int32, s.toInt = (if B p = 33 then 10016 else 10017) → zwp X (d - 1 - 1) MX9_readOperand 0 [.ref 7, .int (o + 1), .null, .null] [] (zen (si σ 7 3 (gi σ 7 3 + 1))) (fun v h' => zwp X (d - 1) MX9_readOpened 74 [.ref 7, .int (o + 1), .int s] (zpsh v []) h' (fun v h' => zwp X d MX9_readOperand 85 [.ref 7, .int o, .int b, .int t] (zpsh v []) h' Q)) := fun s hs => by
        have s5 : s ≠ 10005 := fun y => by rw [y] at hs; revert hs; split <;> decide
        refine ih (d - 1 - 1) (o + 1) (by omega) (by omega) (by omega) _ (p + 1) len _ f1 f2 (by omega) (by omega) (fun q c τ e g1 g2 g3 g4 g5 => ?_) (fun q len' v τ e g1 g2 g3 g4 => ?_)
        · show zwp X (d - 1) MX9_readOpened 74 _ [.int 1] (zen τ) _
          rw [e] at hok W
          have W1 := W.1
          have W2 := W.2.1
          have W3 := W.2.2 c rfl
          dsimp only at W1 W2 W3
          obtain ⟨a1, a2, a3, a4, a5, a6⟩ := addC g2 (by omega) s
          rw [if_pos (by omega)] at a3
          have hFa := (f3.tr g1).tr (a2.sub (by decide) (by decide) : zFr [10] FP _ _)
          rw [b_X9_readOpened_74 (hd := by omega), if_pos (by decide)]
          refine ⟨a1, r1 1 (Or.inr rfl) _ (hok q (c ++ [if B p = 33 then 10016 else 10017]) _ rfl hFa ?_ (fun j hj => ?_) (LAt.mk (g4.eq (fun j _ h2 => a5 j (by omega))) (LAt.sing ?_)) (fun e0 => ?_))⟩
          · rw [List.length_append, List.length_singleton]; exact a3
          · rw [a5 j (by omega), g3 j hj, f4]
          · show (gi (g_X6_add τ s) 10 (len + c.length)).toInt = _
            rw [a4 (by omega)]; exact hs
          · have z1 := a6 e0
            have z := g5 z1.1
            refine ⟨f5 ▸ z.1, fun x hx => ?_⟩
            rcases List.mem_append.mp hx with y | y
            · exact z.2 x y
            · rw [List.mem_singleton.mp y]; split <;> decide
        · show zwp X (d - 1) MX9_readOpened 74 _ [.int v] (zen τ) _
          rw [e] at hbad
          rw [b_X9_readOpened_74 (hd := by omega)]
          rcases g4 with rfl | ⟨rfl, g4⟩
          · rw [if_neg (fun y => y rfl)]
            exact r1 0 (Or.inl rfl) τ (hbad q len' 0 τ rfl (f3.tr g1) g2 g3 (Or.inl rfl))
          · obtain ⟨a1, a2, a3, a4, a5, a6⟩ := addC g2 g3 s
            have hFa := (f3.tr g1).tr (a2.sub (by decide) (by decide) : zFr [10] FP _ _)
            rw [if_pos (by decide)]
            exact ⟨a1, r1 1 (Or.inr rfl) _ (hbad q _ 1 _ rfl hFa a3 (by split <;> omega) (Or.inr ⟨rfl, g4⟩))⟩
      rw [k1.1, if_pos rfl, k1.2, ztrue_and t2.1]
      by_cases c33 : B p = 33
      · have k2 := t2.2.1 c33
        rw [k2.1, if_neg (by decide), k2.2]
        exact sgn 10016 (by rw [if_pos c33]; rfl)
      · have k2 := t2.2.2 c33
        have c45 : B p = 45 := by rcases hop with q | q | q; exact absurd q c33; exact q; exact absurd q c40
        have k3 := t3.2.1 c45
        rw [k2.1, if_pos rfl, k2.2, ztrue_and t3.1, k3.1, if_neg (by decide), k3.2]
        exact sgn 10017 (by rw [if_neg c33]; rfl)
end OPD
