/-! the text of a law: the reference's numbers and operands -/
section OPM
variable {X : zX} {d : Nat} {Q : Option Value → zH → Prop} {B : Nat → Int} {n : Nat}
theorem in_dig {σ : zS} {b : Int32} {x : Int} (h : LK b x) : (48 ≤ x ∧ x ≤ 57 → f_X12_in σ b 48 57 = 1 ∧ b.toInt = x) ∧ (¬ (48 ≤ x ∧ x ≤ 57) → f_X12_in σ b 48 57 = 0) := by
  have e48 : (48 : Int32).toInt = 48 := rfl
  have e57 : (57 : Int32).toInt = 57 := rfl
  refine ⟨fun q => ?_, fun q => ?_⟩
  · have := h.1 (by omega)
    exact ⟨t_in1 (by omega), this⟩
  · by_cases c : 0 ≤ x ∧ x < 128
    · have := h.1 c
      exact t_in0 (by omega)
    · have := h.2 c
      exact t_in0 (by omega)
theorem lp_fig (hd : 1 ≤ d) (hB : bOk B n) (hn : n ≤ 120) {ld o p0 : Nat} : ∀ (k : Nat) (σ : zS) (p : Nat) (a : Int) (l1 l2 : Int32), MI σ B n → MD σ p ld o → p ≤ n → p0 ≤ p → l2.toInt = (p : Int) - p0 → l2.toInt + k = 4 → l1.toInt = a → 0 ≤ a → a ≤ mxN k →
    (∀ (τ : zS) (x : Int32), zFr [] [(66, 21)] σ τ → MI τ B n → MD τ (numP B k p a).2 ld o → x.toInt = (numP B k p a).1 →
      (((numP B k p a).2 = p0 ∨ (48 ≤ B (numP B k p a).2 ∧ B (numP B k p a).2 ≤ 57)) → p_X12_addStep (g_X12_wrong τ) 1 x ∧ Q none (zen (g_X12_addStep (g_X12_wrong τ) 1 x))) ∧ (¬ ((numP B k p a).2 = p0 ∨ (48 ≤ B (numP B k p a).2 ∧ B (numP B k p a).2 ≤ 57)) → p_X12_addStep τ 1 x ∧ Q none (zen (g_X12_addStep τ 1 x)))) →
    zwp X d MX12_figure 4 [.ref 66, .int l1, .int l2] [] (zen σ) Q := by
  intro k
  have e0 := l0
  have e1 := l1
  have e4 := l4
  have e10 : (10 : Int32).toInt = 10 := rfl
  have e48 : (48 : Int32).toInt = 48 := rfl
  induction k with
  | zero =>
    intro σ p a l1 l2 hI hD hp hp0 hl2 hk ha ha0 ham hQ
    obtain ⟨lk1, lk2⟩ := lookM hB hn hI hD.1 hp
    have T := in_dig (σ := σ) lk2
    have H := hQ σ l1 zFr.rf hI hD ha
    have eN : numP B 0 p a = (a, p) := rfl
    rw [eN] at H
    dsimp only at H
    rw [b_X12_figure_4 (hd := hd), if_pos (ile.mpr (by omega)), if_neg (fun y => by rw [y, e0] at hk; omega), ztrue_and lk1]
    by_cases c : 48 ≤ B p ∧ B p ≤ 57
    · rw [(T.1 c).1, if_neg (by decide)]
      exact H.1 (Or.inr c)
    · rw [T.2 c, if_pos rfl]
      exact H.2 (fun q => by rcases q with q | q; omega; exact c q)
  | succ k ih =>
    intro σ p a l1 l2 hI hD hp hp0 hl2 hk ha ha0 ham hQ
    obtain ⟨lk1, lk2⟩ := lookM hB hn hI hD.1 hp
    have T := in_dig (σ := σ) lk2
    rw [b_X12_figure_4 (hd := hd), if_neg (fun y => by have := ile.mp y; omega), ztrue_and lk1]
    unfold numP at hQ
    by_cases c : 48 ≤ B p ∧ B p ≤ 57
    · rw [if_pos c] at hQ
      have hpn := hB.lt (p := p) (by omega)
      obtain ⟨f1, f2, f3⟩ := nextM hI hD (by omega)
      have ms := mxN_s (k := k) (by omega)
      have mb := mxN_b k
      generalize mxN (k + 1) = y1 at ham ms
      generalize hy0 : mxN k = y0 at ms mb
      rw [(T.1 c).1, if_neg (by decide), ztrue_and lk1]
      have eb := (T.1 c).2
      generalize f_X12_look σ = bb at eb ⊢
      have m1 : (10 * l1).toInt = a * 10 := by rw [t_mul (by rw [e10]; omega), ha, e10]; omega
      have m2 : (10 * l1 + bb).toInt = a * 10 + B p := by rw [t_add (by omega), m1, eb]
      have m3 : (10 * l1 + bb - 48).toInt = a * 10 + B p - 48 := by rw [t_sub (by rw [m2, e48]; omega), m2, e48]
      have m4 : (l2 + 1).toInt = l2.toInt + 1 := by rw [t_add (by omega), e1]
      exact ih _ (p + 1) (a * 10 + B p - 48) _ _ f1 f2 hpn (by omega) (by omega) (by omega) m3 (by omega) (by omega) (fun τ x g1 g2 g3 g4 => hQ τ x ((zFr.rf.sf (by decide) : zFr [] [(66, 21)] σ _).tr g1) g2 g3 g4)
    · rw [if_neg c] at hQ
      have H := hQ σ l1 zFr.rf hI hD ha
      dsimp only at H
      rw [T.2 c, if_pos rfl]
      by_cases c2 : l2 = 0
      · rw [if_pos c2]
        exact H.1 (Or.inl (by rw [c2, e0] at hl2; omega))
      · have : ¬ l2.toInt = 0 := fun y => c2 (ieq.mpr (by rw [y, e0]))
        rw [if_neg c2, ztrue_and lk1, if_pos rfl]
        exact H.2 (fun q => by rcases q with q | q; omega; exact c q)
theorem nameM {σ : zS} {b : Int32} {x : Int} (h : LK b x) : (f_X12_nameOf σ b).toInt = nmI x := by
  have em1 := lm1
  have no : ∀ (c : Int32) (y i : Int), c.toInt = y → (0 ≤ y ∧ y < 128) → nmI y = i → nmI x = -1 → i ≠ -1 → ¬ b = c := fun c y i hc hy hi hx hne e => by
    have := (h.eq hc hy).mp e
    rw [this, hi] at hx
    exact hne hx
  rcases nmI_c x with e | e | e | e | e | e | e
  · rw [e]
    unfold f_X12_nameOf
    rw [if_neg (no 100 100 4 rfl (by decide) rfl e (by decide)), if_neg (no 101 101 3 rfl (by decide) rfl e (by decide)), if_neg (no 103 103 0 rfl (by decide) rfl e (by decide)), if_neg (no 104 104 1 rfl (by decide) rfl e (by decide)), if_neg (no 105 105 5 rfl (by decide) rfl e (by decide)), if_neg (no 116 116 2 rfl (by decide) rfl e (by decide))]
    exact em1
  · rw [e.2, (h.eq (c := 103) rfl (by decide)).mpr e.1]; rfl
  · rw [e.2, (h.eq (c := 104) rfl (by decide)).mpr e.1]; rfl
  · rw [e.2, (h.eq (c := 116) rfl (by decide)).mpr e.1]; rfl
  · rw [e.2, (h.eq (c := 101) rfl (by decide)).mpr e.1]; rfl
  · rw [e.2, (h.eq (c := 100) rfl (by decide)).mpr e.1]; rfl
  · rw [e.2, (h.eq (c := 105) rfl (by decide)).mpr e.1]; rfl
theorem opensM {σ : zS} {p ld o : Nat} (h : MD σ p ld o) (ho : o ≤ 6) (hp : p < 1000) : (o = 6 → f_X12_opens σ = 0 ∧ g_X12_opens σ = g_X12_wrong σ) ∧ (o < 6 → f_X12_opens σ = 1 ∧ MD (g_X12_opens σ) (p + 1) ld (o + 1) ∧ zFr [] FM σ (g_X12_opens σ)) := by
  have e1 := l1
  have e6 := l6
  have h3 := h.2.2.1
  unfold f_X12_opens g_X12_opens
  refine ⟨fun q => ?_, fun q => ?_⟩
  · have e : gi σ 66 23 = 6 := ieq.mpr (by omega)
    rw [if_neg (fun y => y e), if_neg (fun y => y e)]; exact ⟨rfl, rfl⟩
  · have e : ¬ gi σ 66 23 = 6 := fun y => by have := congrArg Int32.toInt y; omega
    rw [if_pos e, if_pos e]
    refine ⟨rfl, ⟨?_, ?_, ?_, ?_⟩, (zFr.rf.sf (by decide)).sf (by decide)⟩
    · rw [gi_si, t_add (by rw [h.1]; omega), h.1, e1]; omega
    · rw [gi_si_j (by decide), gi_si_j (by decide)]; exact h.2.1
    · rw [gi_si_j (by decide), gi_si, t_add (by omega), h3, e1]; omega
    · rw [gi_si_j (by decide), gi_si_j (by decide)]; exact h.2.2.2
theorem same_c {σ τ : zS} (h : zFr [] FM σ τ) : ∀ j, gi τ 78 j = gi σ 78 j ∧ gi τ 79 j = gi σ 79 j := fun j => ⟨h.1 78 (by simp) j (by simp), h.1 79 (by simp) j (by simp)⟩
theorem w_operandM (hB : bOk B n) (hn : n ≤ 120) : ∀ (k d o : Nat), o + k = 6 → 12 + 10 * k ≤ d → MpS B n o (opP B n k) (fun σ Q => zwp X d MX12_operand 0 [.ref 66, .null] [] (zen σ) Q) := by
  intro k
  have e0 := l0
  have e1 := l1
  -- a number, or nothing that may stand there
  have fig : ∀ (d o : Nat) (σ : zS) (p ld : Nat) (Q : Option Value → zH → Prop), 4 ≤ d → MI σ B n → MD σ p ld o → p ≤ n → ld ≤ p →
      (∀ (q : Nat) (c : List Int) (τ : zS), figP B p = (q, some c) → zFr [78, 79] FM σ τ → MD τ q (ld + c.length) o → (∀ j, j < 130 + ld → gi τ 78 j = gi σ 78 j ∧ gi τ 79 j = gi σ 79 j) → LAt (τ.1 78) (c.map opcI) (130 + ld) → LAt (τ.1 79) (c.map argI) (130 + ld) → Q none (zen τ)) →
      (∀ (q ld' : Nat) (τ : zS), figP B p = (q, none) → zFr [78, 79] FM σ τ → MF τ q ld' → ld' ≤ ld + (q - p) + 1 → (∀ j, j < 130 → gi τ 78 j = gi σ 78 j ∧ gi τ 79 j = gi σ 79 j) → Q none (zen τ)) →
      zwp X d MX12_figure 0 [.ref 66, .null, .null] [] (zen σ) Q := by
    intro d o σ p ld Q hd hI hD hp hld hok hbad
    rw [b_X12_figure_0]
    have nb := numP_b hB 4 p 0 hp (by decide)
    have e4 : ((0 : Int) + 1) * 10 ^ 4 = 10000 := by decide
    rw [e4] at nb
    refine lp_fig (by omega) hB hn (p0 := p) 4 σ p 0 0 0 hI hD hp (Nat.le_refl _) (by rw [e0]; omega) (by rw [e0]; rfl) e0 (by decide) (by decide) (fun τ x g1 g2 g3 g4 => ?_)
    have eF : figP B p = if (numP B 4 p 0).2 = p then (p, none) else if 48 ≤ B (numP B 4 p 0).2 ∧ B (numP B 4 p 0).2 ≤ 57 then ((numP B 4 p 0).2, none) else ((numP B 4 p 0).2, some [(numP B 4 p 0).1]) := rfl
    generalize numP B 4 p 0 = rr at eF nb g3 g4 ⊢
    obtain ⟨v, q⟩ := rr
    dsimp only at eF nb g3 g4 ⊢
    have sc : ∀ j, gi τ 78 j = gi σ 78 j ∧ gi τ 79 j = gi σ 79 j := fun j => ⟨g1.1 78 (by simp) j (by simp), g1.1 79 (by simp) j (by simp)⟩
    have g1' : zFr [78, 79] FM σ τ := g1.sub (by simp) (by simp)
    refine ⟨fun hc => ?_, fun hc => ?_⟩
    · obtain ⟨w1, w2, w3⟩ := wrongM g3
      obtain ⟨a1, a2, a3, a4, a5, a6⟩ := addM w1.2.2 (by omega) (a := 1) (v := x) e1 (by decide)
      have hFa : zFr [78, 79] FM (g_X12_wrong τ) (g_X12_addStep (g_X12_wrong τ) 1 x) := a2.sub (by decide) (by decide)
      have eP : figP B p = (q, none) := by
        rw [eF]
        by_cases c1 : q = p
        · rw [if_pos c1, c1]
        · rw [if_neg c1, if_pos (hc.resolve_left c1)]
      refine ⟨a1, hbad q (ld + 1) _ eP ((g1'.tr w2).tr hFa) ⟨?_, ?_, ?_⟩ (by omega) (fun j hj => ?_)⟩
      · rw [a2.1 66 (by decide) 21 (by decide)]; exact w1.1
      · rw [a2.1 66 (by decide) 22 (by decide)]; exact w1.2.1
      · rw [a3]; omega
      · rw [(a6 j (by omega)).1, (a6 j (by omega)).2, w3 78 j (by decide), w3 79 j (by decide)]
        exact sc j
    · obtain ⟨a1, a2, a3, a4, a5, a6⟩ := addM g3.2.2.2 (by omega) (a := 1) (v := x) e1 (by decide)
      have hFa : zFr [78, 79] FM τ (g_X12_addStep τ 1 x) := a2.sub (by decide) (by decide)
      have eP : figP B p = (q, some [v]) := by
        rw [eF, if_neg (fun y => hc (Or.inl y)), if_neg (fun y => hc (Or.inr y))]
      refine ⟨a1, hok q [v] _ eP (g1'.tr hFa) ⟨?_, ?_, ?_, ?_⟩ (fun j hj => ?_) (LAt.sing ?_) (LAt.sing ?_)⟩
      · rw [a2.1 66 (by decide) 21 (by decide)]; exact g3.1
      · rw [a2.1 66 (by decide) 22 (by decide)]; exact g3.2.1
      · rw [a2.1 66 (by decide) 23 (by decide)]; exact g3.2.2.1
      · rw [a3]; rfl
      · rw [(a6 j (by omega)).1, (a6 j (by omega)).2]; exact sc j
      · show (gi (g_X12_addStep τ 1 x) 78 (130 + ld)).toInt = opcI v
        unfold opcI
        rw [a4, if_pos nb.2.2.2]; exact e1
      · show (gi (g_X12_addStep τ 1 x) 79 (130 + ld)).toInt = argI v
        unfold argI
        rw [a5, if_pos nb.2.2.2]; exact g4
  -- the operand, but for what is opened
  have base : ∀ (d o : Nat) (r : Nat → pR), o ≤ 6 → 6 ≤ d →
      (∀ (σ : zS) (p ld : Nat) (Q : Option Value → zH → Prop), MI σ B n → MD σ p ld o → p < n → ld ≤ p → (B p = 33 ∨ B p = 45 ∨ B p = 40) →
        (∀ (q : Nat) (c : List Int) (τ : zS), r p = (q, some c) → zFr [78, 79] FM σ τ → MD τ q (ld + c.length) o → (∀ j, j < 130 + ld → gi τ 78 j = gi σ 78 j ∧ gi τ 79 j = gi σ 79 j) → LAt (τ.1 78) (c.map opcI) (130 + ld) → LAt (τ.1 79) (c.map argI) (130 + ld) → Q none (zen τ)) →
        (∀ (q ld' : Nat) (τ : zS), r p = (q, none) → zFr [78, 79] FM σ τ → MF τ q ld' → ld' ≤ ld + (q - p) + 1 → (∀ j, j < 130 → gi τ 78 j = gi σ 78 j ∧ gi τ 79 j = gi σ 79 j) → Q none (zen τ)) →
        (B p = 40 → (if ¬ f_X12_opens σ = 0 then zwp X (d - 1) MX12_either 0 [.ref 66] [] (zen (g_X12_opens σ)) (fun v h' => zwp X d MX12_operand 105 [.ref 66, .int (f_X12_look σ)] (zpsh v []) h' Q) else Q none (zen (g_X12_opens σ)))) ∧ (¬ B p = 40 → (if ¬ f_X12_opens σ = 0 then zwp X (d - 1) MX12_operand 0 [.ref 66, .null] [] (zen (g_X12_opens σ)) (fun v h' => zwp X d MX12_operand 58 [.ref 66, .int (f_X12_look σ)] (zpsh v []) h' Q) else Q none (zen (g_X12_opens σ))))) →
      MpS B n o (fun p => opB B p (r p)) (fun σ Q => zwp X d MX12_operand 0 [.ref 66, .null] [] (zen σ) Q) := by
    intro d o r ho hd hopen σ p ld Q hI hD hp hld hok hbad
    show zwp X d MX12_operand 0 [.ref 66, .null] [] (zen σ) Q
    obtain ⟨lk1, lk2⟩ := lookM hB hn hI hD.1 hp
    have NM := nameM (σ := σ) lk2
    have nb := nmI_b (B p)
    have eOB : opB B p (r p) = if 0 ≤ nmI (B p) then (p + 1, some [10000 + nmI (B p)]) else if B p = 33 ∨ B p = 45 ∨ B p = 40 then r p else figP B p := rfl
    generalize nmI (B p) = nm at NM nb eOB
    generalize hnx : f_X12_nameOf σ (f_X12_look σ) = nx at NM
    rw [b_X12_operand_0 (hd := by omega), ztrue_and lk1, hnx]
    by_cases c1 : nx < 0
    · have := il.mp c1
      rw [if_neg (show ¬ 0 ≤ nm by omega)] at eOB
      rw [if_pos c1]
      by_cases c2 : B p = 33 ∨ B p = 45 ∨ B p = 40
      · rw [if_pos c2] at eOB
        have hpn := hB.lt (p := p) (by rcases c2 with q | q | q <;> omega)
        have HO := hopen σ p ld Q hI hD hpn hld c2 (fun q c τ e => hok q c τ (eOB.trans e)) (fun q ld' τ e => hbad q ld' τ (eOB.trans e))
        rcases c2 with q | q | q
        · have el := (lk2.eq (c := 33) rfl (by decide)).mpr q
          rw [if_pos el]
          exact HO.2 (by omega)
        · have el := (lk2.eq (c := 45) rfl (by decide)).mpr q
          rw [if_neg (fun y => by rw [el] at y; exact absurd y (by decide)), if_neg (fun y => y el)]
          exact HO.2 (by omega)
        · have el := (lk2.eq (c := 40) rfl (by decide)).mpr q
          rw [if_neg (fun y => by rw [el] at y; exact absurd y (by decide)), if_pos (fun y => by rw [el] at y; exact absurd y (by decide)), if_neg (fun y => y el)]
          exact HO.1 q
      · rw [if_neg c2] at eOB
        have n33 : ¬ f_X12_look σ = 33 := fun y => c2 (Or.inl ((lk2.eq (c := 33) rfl (by decide)).mp y))
        have n45 : ¬ f_X12_look σ = 45 := fun y => c2 (Or.inr (Or.inl ((lk2.eq (c := 45) rfl (by decide)).mp y)))
        have n40 : ¬ f_X12_look σ = 40 := fun y => c2 (Or.inr (Or.inr ((lk2.eq (c := 40) rfl (by decide)).mp y)))
        rw [if_neg n33, if_pos n45, if_pos n40]
        refine fig (d - 1) o σ p ld _ (by omega) hI hD hp hld (fun q c τ e g1 g2 g3 g4 g5 => ?_) (fun q ld' τ e g1 g2 g3 g4 => ?_)
        · show zwp X d MX12_operand 154 _ [] (zen τ) Q
          rw [b_X12_operand_154]
          exact hok q c τ (eOB.trans e) g1 g2 g3 g4 g5
        · show zwp X d MX12_operand 154 _ [] (zen τ) Q
          rw [b_X12_operand_154]
          exact hbad q ld' τ (eOB.trans e) g1 g2 g3 g4
    · have := nil_ c1
      have hnm : 0 ≤ nm := by omega
      rw [if_pos hnm] at eOB
      have e2 := l2
      obtain ⟨a1, a2, a3, a4, a5, a6⟩ := addM hD.2.2.2 (by omega) (a := 2) (v := nx) e2 (by decide)
      have hFa : zFr [78, 79] FM σ (g_X12_addStep σ 2 nx) := a2.sub (by decide) (by decide)
      have hD2 : MD (g_X12_addStep σ 2 nx) p (ld + 1) o := ⟨by rw [a2.1 66 (by decide) 21 (by decide)]; exact hD.1, by rw [a2.1 66 (by decide) 22 (by decide)]; exact hD.2.1, by rw [a2.1 66 (by decide) 23 (by decide)]; exact hD.2.2.1, by rw [a3]; omega⟩
      obtain ⟨f1, f2, f3⟩ := nextM (hI.fr hFa (by decide)) hD2 (by omega)
      have y78 : ∀ j, gi (si (g_X12_addStep σ 2 nx) 66 21 (gi (g_X12_addStep σ 2 nx) 66 21 + 1)) 78 j = gi (g_X12_addStep σ 2 nx) 78 j := fun j => gi_si_ne (by decide)
      have y79 : ∀ j, gi (si (g_X12_addStep σ 2 nx) 66 21 (gi (g_X12_addStep σ 2 nx) 66 21 + 1)) 79 j = gi (g_X12_addStep σ 2 nx) 79 j := fun j => gi_si_ne (by decide)
      rw [if_neg c1]
      refine ⟨a1, hok (p + 1) [10000 + nm] _ eOB (hFa.tr f3) f2 (fun j hj => ?_) (LAt.sing ?_) (LAt.sing ?_)⟩
      · rw [y78, y79]; exact a6 j (by omega)
      · show (gi _ 78 (130 + ld)).toInt = opcI (10000 + nm)
        unfold opcI
        rw [y78, a4, if_neg (by omega), if_pos (by omega)]; exact e2
      · show (gi _ 79 (130 + ld)).toInt = argI (10000 + nm)
        unfold argI
        rw [y79, a5, if_neg (by omega), if_pos (by omega)]; omega
  induction k with
  | zero =>
    intro d o ho hd
    rw [opP_0]
    refine base d o (fun p => (p, none)) (by omega) (by omega) (fun σ p ld Q hI hD hpn hld hc hok hbad => ?_)
    have O := (opensM hD (by omega) (by omega)).1 (by omega)
    obtain ⟨w1, w2, w3⟩ := wrongM hD
    have fin : Q none (zen (g_X12_opens σ)) := by
      rw [O.2]
      exact hbad p ld _ rfl w2 w1 (by omega) (fun j _ => ⟨w3 78 j (by decide), w3 79 j (by decide)⟩)
    rw [O.1]
    exact ⟨fun _ => by rw [if_neg (fun y => y rfl)]; exact fin, fun _ => by rw [if_neg (fun y => y rfl)]; exact fin⟩
  | succ k ih =>
    intro d o ho hd
    rw [opP_s]
    have hw := opP_w hB k
    refine base d o (opR B n k) (by omega) (by omega) (fun σ p ld Q hI hD hpn hld hc hok hbad => ?_)
    obtain ⟨O1, f2, f3⟩ := (opensM hD (by omega) (by omega)).2 (by omega)
    have f1 : MI (g_X12_opens σ) B n := hI.fr f3 (by decide)
    have sc := same_c f3
    have f3' : zFr [78, 79] FM σ (g_X12_opens σ) := f3.sub (by simp) (fun q hq => Or.inl hq)
    rw [O1]
    refine ⟨fun c40 => ?_, fun c40 => ?_⟩
    · have eR : opR B n k p = clP B (lvP B n (opP B n k) 5 (p + 1)) := by unfold opR; rw [if_pos c40]
      rw [eR] at hok hbad
      rw [if_pos (by decide)]
      have LV := w_lvls (X := X) hB hn (o := o + 1) hw (d0 := 12 + 10 * k) (by omega) (fun d hd => ih d (o + 1) (by omega) hd) (d := d - 1) (by omega)
      refine LV _ (p + 1) ld _ f1 f2 (by omega) (by omega) (fun q c τ e g1 g2 g3 g4 g5 => ?_) (fun q ld' τ e g1 g2 g3 g4 => ?_)
      · show zwp X d MX12_operand 105 _ [] (zen τ) Q
        rw [e] at hok hbad
        have W := lvP_w hB hw 5 (p + 1) (by omega)
        rw [e] at W
        have W1 := W.1
        have W2 := W.2.1
        have W3 := W.2.2 c rfl
        dsimp only at W1 W2 W3
        have hIτ := f1.fr g1 (by decide)
        obtain ⟨lk1, lk2⟩ := lookM hB hn hIτ g2.1 W2
        have eC : clP B (q, some c) = if B q = 41 then (q + 1, some c) else (q, none) := rfl
        rw [eC] at hok hbad
        rw [b_X12_operand_105 (hd := by omega), if_pos (il.mpr (by rw [e0]; exact g2.2.1)), ztrue_and lk1]
        by_cases c41 : B q = 41
        · have el := (lk2.eq (c := 41) rfl (by decide)).mpr c41
          rw [if_pos c41] at hok
          rw [if_pos el]
          have gq := g2.1
          have go := g2.2.2.1
          refine hok (q + 1) c _ rfl ((f3'.tr g1).tr ((zFr.rf.sf (by decide)).sf (by decide))) ⟨?_, ?_, ?_, ?_⟩ (fun j hj => ?_) ?_ ?_
          · rw [gi_si_j (by decide), gi_si, t_add (by omega), gq, e1]; omega
          · rw [gi_si_j (by decide), gi_si_j (by decide)]; exact g2.2.1
          · rw [gi_si, t_sub (by omega), go, e1]; omega
          · rw [gi_si_j (by decide), gi_si_j (by decide)]; exact g2.2.2.2
          · rw [gi_si_ne (by decide), gi_si_ne (by decide), gi_si_ne (by decide), gi_si_ne (by decide), (g3 j hj).1, (g3 j hj).2]; exact sc j
          · exact g4.eq (fun j _ _ => by show gi (si (si τ 66 21 _) 66 23 _) 78 j = _; rw [gi_si_ne (by decide), gi_si_ne (by decide)]; rfl)
          · exact g5.eq (fun j _ _ => by show gi (si (si τ 66 21 _) 66 23 _) 79 j = _; rw [gi_si_ne (by decide), gi_si_ne (by decide)]; rfl)
        · have nl : ¬ f_X12_look τ = 41 := fun y => c41 ((lk2.eq (c := 41) rfl (by decide)).mp y)
          obtain ⟨w1, w2, w3⟩ := wrongM g2
          rw [if_neg c41] at hbad
          rw [if_neg nl]
          refine hbad q (ld + c.length) _ rfl ((f3'.tr g1).tr w2) w1 (by omega) (fun j hj => ?_)
          rw [w3 78 j (by decide), w3 79 j (by decide), (g3 j (by omega)).1, (g3 j (by omega)).2]; exact sc j
      · show zwp X d MX12_operand 105 _ [] (zen τ) Q
        rw [e] at hbad
        have W1 := (lvP_w hB hw 5 (p + 1) (by omega)).1
        rw [e] at W1
        dsimp only at W1
        rw [b_X12_operand_105 (hd := by omega), if_neg (fun y => by have := il.mp y; have := g2.2.1; omega)]
        refine hbad q ld' τ rfl (f3'.tr g1) g2 (by omega) (fun j hj => ?_)
        rw [(g4 j hj).1, (g4 j hj).2]; exact sc j
    · have eR : opR B n k p = unP (B p) (opP B n k (p + 1)) := by unfold opR; rw [if_neg c40]
      rw [eR] at hok hbad
      have W := hw (p + 1) (by omega)
      obtain ⟨lk1, lk2⟩ := lookM hB hn hI hD.1 (Nat.le_of_lt hpn)
      rw [if_pos (by decide)]
      -- the step of the sign
      obtain ⟨sg, y, hsg, hopc, hy, hlt⟩ : ∃ (sg : Int32) (y : Int), sg.toInt = opcI y ∧ argI y = 0 ∧ y = (if B p = 33 then 10016 else 10017) ∧ ((f_X12_look σ = 33 ∧ sg = 3) ∨ (¬ f_X12_look σ = 33 ∧ sg = 4)) := by
        by_cases c33 : B p = 33
        · exact ⟨3, 10016, rfl, rfl, by rw [if_pos c33], Or.inl ⟨(lk2.eq (c := 33) rfl (by decide)).mpr c33, rfl⟩⟩
        · exact ⟨4, 10017, rfl, rfl, by rw [if_neg c33], Or.inr ⟨fun q => c33 ((lk2.eq (c := 33) rfl (by decide)).mp q), rfl⟩⟩
      have hsx : 0 ≤ sg.toInt ∧ sg.toInt < 128 := by rcases hlt with q | q <;> (rw [q.2]; decide)
      have blk : ∀ τ : zS, (p_X12_addStep (si τ 66 23 (gi τ 66 23 - 1)) sg 0 ∧ Q none (zen (g_X12_addStep (si τ 66 23 (gi τ 66 23 - 1)) sg 0))) → zwp X d MX12_operand 58 [.ref 66, .int (f_X12_look σ)] [] (zen τ) Q := fun τ h => by
        rw [b_X12_operand_58 (hd := by omega)]
        rcases hlt with q | q
        · rw [if_neg (fun y => y q.1), ← q.2]; exact h
        · rw [if_pos q.1, ← q.2]; exact h
      refine ih (d - 1) (o + 1) (by omega) (by omega) _ (p + 1) ld _ f1 f2 (by omega) (by omega) (fun q c τ e g1 g2 g3 g4 g5 => blk τ ?_) (fun q ld' τ e g1 g2 g3 g4 => blk τ ?_)
      · rw [e] at hok W
        have W1 := W.1
        have W2 := W.2.1
        have W3 := W.2.2 c rfl
        dsimp only at W1 W2 W3
        have go := g2.2.2.1
        have hFo : zFr [78, 79] FM τ (si τ 66 23 (gi τ 66 23 - 1)) := zFr.rf.sf (by decide)
        have so : ∀ c j, c ≠ 66 → gi (si τ 66 23 (gi τ 66 23 - 1)) c j = gi τ c j := fun c j h => gi_si_ne h
        have h24 : (gi (si τ 66 23 (gi τ 66 23 - 1)) 66 24).toInt = (ld + c.length : Nat) := by rw [gi_si_j (by decide)]; exact g2.2.2.2
        have h21 : (gi (si τ 66 23 (gi τ 66 23 - 1)) 66 21).toInt = q := by rw [gi_si_j (by decide)]; exact g2.1
        have h22 : (gi (si τ 66 23 (gi τ 66 23 - 1)) 66 22).toInt < 0 := by rw [gi_si_j (by decide)]; exact g2.2.1
        have h23 : (gi (si τ 66 23 (gi τ 66 23 - 1)) 66 23).toInt = o := by rw [gi_si, t_sub (by omega), go, e1]; omega
        generalize si τ 66 23 (gi τ 66 23 - 1) = τ1 at hFo so h24 h21 h22 h23 ⊢
        obtain ⟨a1, a2, a3, a4, a5, a6⟩ := addM h24 (by omega) rfl hsx (v := 0)
        have hFa : zFr [78, 79] FM τ1 (g_X12_addStep τ1 sg 0) := a2.sub (by decide) (by decide)
        have eU : unP (B p) (q, some c) = (q, some (c ++ [y])) := by rw [hy]; rfl
        rw [eU] at hok
        refine ⟨a1, hok q (c ++ [y]) _ rfl (((f3'.tr g1).tr hFo).tr hFa) ⟨?_, ?_, ?_, ?_⟩ (fun j hj => ?_) ?_ ?_⟩
        · rw [a2.1 66 (by decide) 21 (by decide)]; exact h21
        · rw [a2.1 66 (by decide) 22 (by decide)]; exact h22
        · rw [a2.1 66 (by decide) 23 (by decide)]; exact h23
        · rw [a3, List.length_append, List.length_singleton]; omega
        · rw [(a6 j (by omega)).1, (a6 j (by omega)).2, so 78 j (by decide), so 79 j (by decide), (g3 j hj).1, (g3 j hj).2]; exact sc j
        · rw [List.map_append]
          refine LAt.mk (g4.eq (fun j h1 h2 => ?_)) (LAt.sing ?_)
          · rw [List.length_map] at h2
            show gi (g_X12_addStep τ1 sg 0) 78 j = gi τ 78 j
            rw [(a6 j (by omega)).1, so 78 j (by decide)]
          · rw [List.length_map]
            show (gi (g_X12_addStep τ1 sg 0) 78 (130 + ld + c.length)).toInt = opcI y
            rw [show 130 + ld + c.length = 130 + (ld + c.length) by omega, a4]; exact hsg
        · rw [List.map_append]
          refine LAt.mk (g5.eq (fun j h1 h2 => ?_)) (LAt.sing ?_)
          · rw [List.length_map] at h2
            show gi (g_X12_addStep τ1 sg 0) 79 j = gi τ 79 j
            rw [(a6 j (by omega)).2, so 79 j (by decide)]
          · rw [List.length_map]
            show (gi (g_X12_addStep τ1 sg 0) 79 (130 + ld + c.length)).toInt = argI y
            rw [show 130 + ld + c.length = 130 + (ld + c.length) by omega, a5, hopc]; rfl
      · rw [e] at hbad W
        have W1 := W.1
        have W2 := W.2.1
        dsimp only at W1 W2
        have hFo : zFr [78, 79] FM τ (si τ 66 23 (gi τ 66 23 - 1)) := zFr.rf.sf (by decide)
        have so : ∀ c j, c ≠ 66 → gi (si τ 66 23 (gi τ 66 23 - 1)) c j = gi τ c j := fun c j h => gi_si_ne h
        have h24 : (gi (si τ 66 23 (gi τ 66 23 - 1)) 66 24).toInt = ld' := by rw [gi_si_j (by decide)]; exact g2.2.2
        have h21 : (gi (si τ 66 23 (gi τ 66 23 - 1)) 66 21).toInt = q := by rw [gi_si_j (by decide)]; exact g2.1
        have h22 : (gi (si τ 66 23 (gi τ 66 23 - 1)) 66 22).toInt = q := by rw [gi_si_j (by decide)]; exact g2.2.1
        generalize si τ 66 23 (gi τ 66 23 - 1) = τ1 at hFo so h24 h21 h22 ⊢
        obtain ⟨a1, a2, a3, a4, a5, a6⟩ := addM h24 (by omega) rfl hsx (v := 0)
        have hFa : zFr [78, 79] FM τ1 (g_X12_addStep τ1 sg 0) := a2.sub (by decide) (by decide)
        refine ⟨a1, hbad q (ld' + 1) _ rfl (((f3'.tr g1).tr hFo).tr hFa) ⟨?_, ?_, ?_⟩ (by omega) (fun j hj => ?_)⟩
        · rw [a2.1 66 (by decide) 21 (by decide)]; exact h21
        · rw [a2.1 66 (by decide) 22 (by decide)]; exact h22
        · rw [a3]; omega
        · rw [(a6 j (by omega)).1, (a6 j (by omega)).2, so 78 j (by decide), so 79 j (by decide), (g4 j hj).1, (g4 j hj).2]; exact sc j
end OPM
