/-! the text of a law: the reference's levels and operands -/
section LVM
variable {X : zX} {d : Nat} {B : Nat → Int} {n o : Nat}
theorem w_lvM (hB : bOk B n) (hn : n ≤ 120) (call0 : zS → (Option Value → zH → Prop) → Prop) (call : Value → zS → (Option Value → zH → Prop) → Prop) (subc : zS → (Option Value → zH → Prop) → Prop) {sub : Nat → pR} (hw : ∀ p, p ≤ n → WfR p n (sub p)) (m : Nat) (hsub : MpS B n o (lvP B n sub m) subc)
    (Hno : ∀ (w : Value) (σ : zS) (p ld : Nat) (Q : Option Value → zH → Prop), MI σ B n → MD σ p ld o → p ≤ n → ¬ (0 ≤ jnI (B p) ∧ lvI (jnI (B p)) = 4 - (m : Int)) → Q none (zen σ) → call w σ Q)
    (Hyes : ∀ (w : Value) (σ : zS) (p ld : Nat) (Q : Option Value → zH → Prop), MI σ B n → MD σ p ld o → p < n → (m = 2 → w = .null) → (0 ≤ jnI (B p) ∧ lvI (jnI (B p)) = 4 - (m : Int)) → (∀ sg : Int32, sg.toInt = sgI (10006 + jnI (B p)) → ∀ K : Option Value → zH → Prop, (∀ τ : zS, (p_X12_addStep τ sg 0 ∧ call (.int sg) (g_X12_addStep τ sg 0) Q) → K none (zen τ)) → subc (si σ 66 21 (gi σ 66 21 + 1)) K) → call w σ Q)
    (Hbad : ∀ (w : Value) (σ : zS) (q ld : Nat) (Q : Option Value → zH → Prop), MF σ q ld → q ≤ n → MI σ B n → Q none (zen σ) → call w σ Q)
    (Hz : m = 2 → ∀ (sg : Int32) (σ : zS) (Q : Option Value → zH → Prop), Q none (zen σ) → call (.int sg) σ Q)
    (H0 : ∀ (σ : zS) (Q : Option Value → zH → Prop), (∀ K : Option Value → zH → Prop, (∀ τ : zS, call .null τ Q → K none (zen τ)) → subc σ K) → call0 σ Q) : MpS B n o (lvP B n sub (m + 1)) call0 := by
  intro σ p ld Q hI hD hp hld hok hbad
  unfold lvP at hok hbad
  have hwm := lvP_w hB hw m
  refine H0 σ Q (fun K hK => hsub σ p ld K hI hD hp hld (fun q c τ e g1 g2 g3 g4 g5 => hK τ ?_) (fun q ld' τ e g1 g2 g3 g4 => hK τ ?_))
  · have W := hwm p hp
    rw [e] at hok hbad W
    have W1 := W.1
    have W2 := W.2.1
    have W3 := W.2.2 c rfl
    dsimp only at hok hbad W1 W2 W3
    exact lp_chM hB hn call subc hwm hsub (m = 2) Hno Hyes (fun w σ q ld Q h1 h2 h3 h4 => Hbad w σ q ld Q h1 h2 h3 h4) Hz (σ0 := σ) (p0 := p) (ld0 := ld) hld (if m = 2 then 1 else n) τ q c .null g1 (hI.fr g1 (by decide)) g2 W2 W3.1 (by
      by_cases c2 : m = 2
      · rw [if_pos c2]; exact Or.inr ⟨c2, Or.inl ⟨rfl, rfl⟩⟩
      · rw [if_neg c2]; exact Or.inl ⟨c2, by omega⟩) g3 g4 g5 hok hbad
  · have W := (hwm p hp).2.1
    rw [e] at hbad W
    dsimp only at hbad W
    exact Hbad .null τ q ld' Q g2 W (hI.fr g1 (by decide)) (hbad q ld' τ rfl g1 g2 g3 g4)
theorem fneg {σ : zS} {p ld o : Nat} (h : MD σ p ld o) : ¬ 0 ≤ gi σ 66 22 := fun y => by have := ile.mp y; have := h.2.1; have := l0; omega
theorem fpos {σ : zS} {q ld : Nat} (h : MF σ q ld) : 0 ≤ gi σ 66 22 := ile.mpr (by have := h.2.1; have := l0; omega)
theorem jn_at {x : Int} {v : Int} {i : Int} (h : x = v) (hv : jnI v = i) : jnI x = i := by rw [h]; exact hv
theorem w_lvls (hB : bOk B n) (hn : n ≤ 120) {sub : Nat → pR} (hw : ∀ p, p ≤ n → WfR p n (sub p)) {d0 : Nat} (hd0 : 4 ≤ d0) (hop : ∀ d, d0 ≤ d → MpS B n o sub (fun σ Q => zwp X d MX12_operand 0 [.ref 66, .null] [] (zen σ) Q)) (hd : d0 + 5 ≤ d) : MpS B n o (lvP B n sub 5) (fun σ Q => zwp X d MX12_either 0 [.ref 66] [] (zen σ) Q) := by
  have q42 : jnI 42 = 7 := rfl
  have q47 : jnI 47 = 8 := rfl
  have q37 : jnI 37 = 9 := rfl
  have q43 : jnI 43 = 5 := rfl
  have q45 : jnI 45 = 6 := rfl
  have q60 : jnI 60 = 2 := rfl
  have q61 : jnI 61 = 3 := rfl
  have q62 : jnI 62 = 4 := rfl
  have q38 : jnI 38 = 1 := rfl
  have q124 : jnI 124 = 0 := rfl
  -- which bytes join at a level
  have cs : ∀ x : Int, 0 ≤ jnI x → (x = 124 ∧ lvI (jnI x) = 0) ∨ (x = 38 ∧ lvI (jnI x) = 1) ∨ ((x = 60 ∨ x = 61 ∨ x = 62) ∧ lvI (jnI x) = 2) ∨ ((x = 43 ∨ x = 45) ∧ lvI (jnI x) = 3) ∨ ((x = 42 ∨ x = 47 ∨ x = 37) ∧ lvI (jnI x) = 4) := fun x h => by
    rcases jnI_c x with e | e | e | e | e | e | e | e | e | e | e
    · rw [e] at h; exact absurd h (by decide)
    · exact Or.inl ⟨e.1, by rw [e.2]; rfl⟩
    · exact Or.inr (Or.inl ⟨e.1, by rw [e.2]; rfl⟩)
    · exact Or.inr (Or.inr (Or.inl ⟨Or.inl e.1, by rw [e.2]; rfl⟩))
    · exact Or.inr (Or.inr (Or.inl ⟨Or.inr (Or.inl e.1), by rw [e.2]; rfl⟩))
    · exact Or.inr (Or.inr (Or.inl ⟨Or.inr (Or.inr e.1), by rw [e.2]; rfl⟩))
    · exact Or.inr (Or.inr (Or.inr (Or.inl ⟨Or.inl e.1, by rw [e.2]; rfl⟩)))
    · exact Or.inr (Or.inr (Or.inr (Or.inl ⟨Or.inr e.1, by rw [e.2]; rfl⟩)))
    · exact Or.inr (Or.inr (Or.inr (Or.inr ⟨Or.inl e.1, by rw [e.2]; rfl⟩)))
    · exact Or.inr (Or.inr (Or.inr (Or.inr ⟨Or.inr (Or.inl e.1), by rw [e.2]; rfl⟩)))
    · exact Or.inr (Or.inr (Or.inr (Or.inr ⟨Or.inr (Or.inr e.1), by rw [e.2]; rfl⟩)))
  have ne : ∀ {b : Int32} {x : Int} {c : Int32} {y i lv : Int}, LK b x → c.toInt = y → (0 ≤ y ∧ y < 128) → jnI y = i → 0 ≤ i → lvI i = lv → ¬ (0 ≤ jnI x ∧ lvI (jnI x) = lv) → ¬ b = c := fun hb hc hy hj hi hl hno e => by
    have := (hb.eq hc hy).mp e
    rw [this, hj] at hno
    exact hno ⟨hi, hl⟩
  have P1 : ∀ d, d0 + 1 ≤ d → MpS B n o (lvP B n sub 1) (fun σ Q => zwp X d MX12_product 0 [.ref 66, .null] [] (zen σ) Q) := fun d hd => by
    refine w_lvM hB hn _ (fun w σ Q => zwp X d MX12_product 4 [.ref 66, w] [] (zen σ) Q) (fun σ Q => zwp X (d - 1) MX12_operand 0 [.ref 66, .null] [] (zen σ) Q) hw 0 (hop (d - 1) (by omega)) (fun w σ p ld Q hI hD hp hno hQ => ?_) (fun w σ p ld Q hI hD hp hw1 hy hK => ?_) (fun w σ q ld Q hM _ _ hQ => ?_) (fun h => absurd h (by decide)) (fun σ Q hK => ?_)
    · obtain ⟨lk1, lk2⟩ := lookM hB hn hI hD.1 hp
      rw [b_X12_product_4 (hd := by omega), if_neg (fneg hD), ztrue_and lk1, if_neg (ne lk2 (c := 42) rfl (by decide) q42 (by decide) rfl hno), ztrue_and lk1, if_neg (ne lk2 (c := 47) rfl (by decide) q47 (by decide) rfl hno), ztrue_and lk1, if_pos (ne lk2 (c := 37) rfl (by decide) q37 (by decide) rfl hno)]
      exact hQ
    · obtain ⟨lk1, lk2⟩ := lookM hB hn hI hD.1 (Nat.le_of_lt hp)
      have fin : ∀ sg : Int32, f_X12_look σ = sg → sg.toInt = sgI (10006 + jnI (B p)) → zwp X (d - 1) MX12_operand 0 [.ref 66, .null] [] (zen (si σ 66 21 (gi σ 66 21 + 1))) (fun v h' => zwp X d MX12_product 57 [.ref 66, .int (f_X12_look σ)] (zpsh v []) h' Q) := fun sg e1 e2 => hK sg e2 _ (fun τ hτ => by
        show zwp X d MX12_product 57 [.ref 66, .int (f_X12_look σ)] [] (zen τ) Q
        rw [e1, b_X12_product_57 (hd := by omega)]; exact hτ)
      rw [b_X12_product_4 (hd := by omega), if_neg (fneg hD), ztrue_and lk1]
      rcases cs (B p) hy.1 with e | e | e | e | e
      · exact absurd (e.2.symm.trans hy.2) (by decide)
      · exact absurd (e.2.symm.trans hy.2) (by decide)
      · exact absurd (e.2.symm.trans hy.2) (by decide)
      · exact absurd (e.2.symm.trans hy.2) (by decide)
      · rcases e.1 with e | e | e
        · have el := (lk2.eq (c := 42) rfl (by decide)).mpr e
          rw [if_pos el, ztrue_and lk1]
          exact fin 42 el (by rw [jn_at e q42]; rfl)
        · have el := (lk2.eq (c := 47) rfl (by decide)).mpr e
          rw [if_neg (fun y => by rw [el] at y; exact absurd y (by decide)), ztrue_and lk1, if_pos el, ztrue_and lk1]
          exact fin 47 el (by rw [jn_at e q47]; rfl)
        · have el := (lk2.eq (c := 37) rfl (by decide)).mpr e
          rw [if_neg (fun y => by rw [el] at y; exact absurd y (by decide)), ztrue_and lk1, if_neg (fun y => by rw [el] at y; exact absurd y (by decide)), ztrue_and lk1, if_neg (fun y => y el), ztrue_and lk1]
          exact fin 37 el (by rw [jn_at e q37]; rfl)
    · rw [b_X12_product_4 (hd := by omega), if_pos (fpos hM)]; exact hQ
    · rw [b_X12_product_0 (hd := by omega)]
      exact hK _ (fun τ h => h)
  have P2 : ∀ d, d0 + 2 ≤ d → MpS B n o (lvP B n sub 2) (fun σ Q => zwp X d MX12_sum 0 [.ref 66, .null] [] (zen σ) Q) := fun d hd => by
    refine w_lvM hB hn _ (fun w σ Q => zwp X d MX12_sum 4 [.ref 66, w] [] (zen σ) Q) (fun σ Q => zwp X (d - 1) MX12_product 0 [.ref 66, .null] [] (zen σ) Q) hw 1 (P1 (d - 1) (by omega)) (fun w σ p ld Q hI hD hp hno hQ => ?_) (fun w σ p ld Q hI hD hp hw1 hy hK => ?_) (fun w σ q ld Q hM _ _ hQ => ?_) (fun h => absurd h (by decide)) (fun σ Q hK => ?_)
    · obtain ⟨lk1, lk2⟩ := lookM hB hn hI hD.1 hp
      rw [b_X12_sum_4 (hd := by omega), if_neg (fneg hD), ztrue_and lk1, if_neg (ne lk2 (c := 43) rfl (by decide) q43 (by decide) rfl hno), ztrue_and lk1, if_pos (ne lk2 (c := 45) rfl (by decide) q45 (by decide) rfl hno)]
      exact hQ
    · obtain ⟨lk1, lk2⟩ := lookM hB hn hI hD.1 (Nat.le_of_lt hp)
      have fin : ∀ sg : Int32, f_X12_look σ = sg → sg.toInt = sgI (10006 + jnI (B p)) → zwp X (d - 1) MX12_product 0 [.ref 66, .null] [] (zen (si σ 66 21 (gi σ 66 21 + 1))) (fun v h' => zwp X d MX12_sum 48 [.ref 66, .int (f_X12_look σ)] (zpsh v []) h' Q) := fun sg e1 e2 => hK sg e2 _ (fun τ hτ => by
        show zwp X d MX12_sum 48 [.ref 66, .int (f_X12_look σ)] [] (zen τ) Q
        rw [e1, b_X12_sum_48 (hd := by omega)]; exact hτ)
      rw [b_X12_sum_4 (hd := by omega), if_neg (fneg hD), ztrue_and lk1]
      rcases cs (B p) hy.1 with e | e | e | e | e
      · exact absurd (e.2.symm.trans hy.2) (by decide)
      · exact absurd (e.2.symm.trans hy.2) (by decide)
      · exact absurd (e.2.symm.trans hy.2) (by decide)
      · rcases e.1 with e | e
        · have el := (lk2.eq (c := 43) rfl (by decide)).mpr e
          rw [if_pos el, ztrue_and lk1]
          exact fin 43 el (by rw [jn_at e q43]; rfl)
        · have el := (lk2.eq (c := 45) rfl (by decide)).mpr e
          rw [if_neg (fun y => by rw [el] at y; exact absurd y (by decide)), ztrue_and lk1, if_neg (fun y => y el), ztrue_and lk1]
          exact fin 45 el (by rw [jn_at e q45]; rfl)
      · exact absurd (e.2.symm.trans hy.2) (by decide)
    · rw [b_X12_sum_4 (hd := by omega), if_pos (fpos hM)]; exact hQ
    · rw [b_X12_sum_0 (hd := by omega)]
      exact hK _ (fun τ h => h)
  have P3 : ∀ d, d0 + 3 ≤ d → MpS B n o (lvP B n sub 3) (fun σ Q => zwp X d MX12_compared 0 [.ref 66, .null] [] (zen σ) Q) := fun d hd => by
    refine w_lvM hB hn _ (fun w σ Q => match w with
      | .int _ => Q none (zen σ)
      | _ => zwp X d MX12_compared 4 [.ref 66, .null] [] (zen σ) Q) (fun σ Q => zwp X (d - 1) MX12_sum 0 [.ref 66, .null] [] (zen σ) Q) hw 2 (P2 (d - 1) (by omega)) (fun w σ p ld Q hI hD hp hno hQ => ?_) (fun w σ p ld Q hI hD hp hw1 hy hK => ?_) (fun w σ q ld Q hM hq hI hQ => ?_) (fun _ sg σ Q hQ => hQ) (fun σ Q hK => ?_)
    · have main : zwp X d MX12_compared 4 [.ref 66, .null] [] (zen σ) Q := by
        obtain ⟨lk1, lk2⟩ := lookM hB hn hI hD.1 hp
        rw [b_X12_compared_4 (hd := by omega), ztrue_and lk1, if_neg (fneg hD), if_neg (ne lk2 (c := 60) rfl (by decide) q60 (by decide) rfl hno), if_neg (ne lk2 (c := 61) rfl (by decide) q61 (by decide) rfl hno), if_neg (ne lk2 (c := 62) rfl (by decide) q62 (by decide) rfl hno)]
        exact hQ
      cases w <;> first | exact hQ | exact main
    · have e := hw1 rfl
      subst e
      show zwp X d MX12_compared 4 [.ref 66, .null] [] (zen σ) Q
      obtain ⟨lk1, lk2⟩ := lookM hB hn hI hD.1 (Nat.le_of_lt hp)
      have fin : ∀ sg : Int32, f_X12_look σ = sg → sg.toInt = sgI (10006 + jnI (B p)) → zwp X (d - 1) MX12_sum 0 [.ref 66, .null] [] (zen (si σ 66 21 (gi σ 66 21 + 1))) (fun v h' => zwp X d MX12_compared 49 [.ref 66, .int (f_X12_look σ)] (zpsh v []) h' Q) := fun sg e1 e2 => hK sg e2 _ (fun τ hτ => by
        show zwp X d MX12_compared 49 [.ref 66, .int (f_X12_look σ)] [] (zen τ) Q
        rw [e1, b_X12_compared_49 (hd := by omega)]; exact hτ)
      rw [b_X12_compared_4 (hd := by omega), ztrue_and lk1, if_neg (fneg hD)]
      rcases cs (B p) hy.1 with e | e | e | e | e
      · exact absurd (e.2.symm.trans hy.2) (by decide)
      · exact absurd (e.2.symm.trans hy.2) (by decide)
      · rcases e.1 with e | e | e
        · have el := (lk2.eq (c := 60) rfl (by decide)).mpr e
          rw [if_pos el]
          exact fin 60 el (by rw [jn_at e q60]; rfl)
        · have el := (lk2.eq (c := 61) rfl (by decide)).mpr e
          rw [if_neg (fun y => by rw [el] at y; exact absurd y (by decide)), if_pos el]
          exact fin 61 el (by rw [jn_at e q61]; rfl)
        · have el := (lk2.eq (c := 62) rfl (by decide)).mpr e
          rw [if_neg (fun y => by rw [el] at y; exact absurd y (by decide)), if_neg (fun y => by rw [el] at y; exact absurd y (by decide)), if_pos el]
          exact fin 62 el (by rw [jn_at e q62]; rfl)
      · exact absurd (e.2.symm.trans hy.2) (by decide)
      · exact absurd (e.2.symm.trans hy.2) (by decide)
    · have main : zwp X d MX12_compared 4 [.ref 66, .null] [] (zen σ) Q := by
        obtain ⟨lk1, lk2⟩ := lookM hB hn hI hM.1 hq
        rw [b_X12_compared_4 (hd := by omega), ztrue_and lk1, if_pos (fpos hM)]; exact hQ
      cases w <;> first | exact hQ | exact main
    · rw [b_X12_compared_0 (hd := by omega)]
      exact hK _ (fun τ h => h)
  have P4 : ∀ d, d0 + 4 ≤ d → MpS B n o (lvP B n sub 4) (fun σ Q => zwp X d MX12_both 0 [.ref 66] [] (zen σ) Q) := fun d hd => by
    refine w_lvM hB hn _ (fun _ σ Q => zwp X d MX12_both 4 [.ref 66] [] (zen σ) Q) (fun σ Q => zwp X (d - 1) MX12_compared 0 [.ref 66, .null] [] (zen σ) Q) hw 3 (P3 (d - 1) (by omega)) (fun w σ p ld Q hI hD hp hno hQ => ?_) (fun w σ p ld Q hI hD hp hw1 hy hK => ?_) (fun w σ q ld Q hM _ _ hQ => ?_) (fun h => absurd h (by decide)) (fun σ Q hK => ?_)
    · obtain ⟨lk1, lk2⟩ := lookM hB hn hI hD.1 hp
      rw [b_X12_both_4 (hd := by omega), if_neg (fneg hD), ztrue_and lk1, if_pos (ne lk2 (c := 38) rfl (by decide) q38 (by decide) rfl hno)]
      exact hQ
    · obtain ⟨lk1, lk2⟩ := lookM hB hn hI hD.1 (Nat.le_of_lt hp)
      have fin : ∀ sg : Int32, sg = 38 → sg.toInt = sgI (10006 + jnI (B p)) → zwp X (d - 1) MX12_compared 0 [.ref 66, .null] [] (zen (si σ 66 21 (gi σ 66 21 + 1))) (fun v h' => zwp X d MX12_both 34 [.ref 66] (zpsh v []) h' Q) := fun sg e1 e2 => hK sg e2 _ (fun τ hτ => by
        show zwp X d MX12_both 34 [.ref 66] [] (zen τ) Q
        rw [b_X12_both_34 (hd := by omega), ← e1]; exact hτ)
      rw [b_X12_both_4 (hd := by omega), if_neg (fneg hD), ztrue_and lk1]
      rcases cs (B p) hy.1 with e | e | e | e | e
      · exact absurd (e.2.symm.trans hy.2) (by decide)
      · have el := (lk2.eq (c := 38) rfl (by decide)).mpr e.1
        rw [if_neg (fun y => y el)]
        exact fin 38 rfl (by rw [jn_at e.1 q38]; rfl)
      · exact absurd (e.2.symm.trans hy.2) (by decide)
      · exact absurd (e.2.symm.trans hy.2) (by decide)
      · exact absurd (e.2.symm.trans hy.2) (by decide)
    · rw [b_X12_both_4 (hd := by omega), if_pos (fpos hM)]; exact hQ
    · rw [b_X12_both_0 (hd := by omega)]
      exact hK _ (fun τ h => h)
  have P5 : ∀ d, d0 + 5 ≤ d → MpS B n o (lvP B n sub 5) (fun σ Q => zwp X d MX12_either 0 [.ref 66] [] (zen σ) Q) := fun d hd => by
    refine w_lvM hB hn _ (fun _ σ Q => zwp X d MX12_either 4 [.ref 66] [] (zen σ) Q) (fun σ Q => zwp X (d - 1) MX12_both 0 [.ref 66] [] (zen σ) Q) hw 4 (P4 (d - 1) (by omega)) (fun w σ p ld Q hI hD hp hno hQ => ?_) (fun w σ p ld Q hI hD hp hw1 hy hK => ?_) (fun w σ q ld Q hM _ _ hQ => ?_) (fun h => absurd h (by decide)) (fun σ Q hK => ?_)
    · obtain ⟨lk1, lk2⟩ := lookM hB hn hI hD.1 hp
      rw [b_X12_either_4 (hd := by omega), if_neg (fneg hD), ztrue_and lk1, if_pos (ne lk2 (c := 124) rfl (by decide) q124 (by decide) rfl hno)]
      exact hQ
    · obtain ⟨lk1, lk2⟩ := lookM hB hn hI hD.1 (Nat.le_of_lt hp)
      have fin : ∀ sg : Int32, sg = 124 → sg.toInt = sgI (10006 + jnI (B p)) → zwp X (d - 1) MX12_both 0 [.ref 66] [] (zen (si σ 66 21 (gi σ 66 21 + 1))) (fun v h' => zwp X d MX12_either 34 [.ref 66] (zpsh v []) h' Q) := fun sg e1 e2 => hK sg e2 _ (fun τ hτ => by
        show zwp X d MX12_either 34 [.ref 66] [] (zen τ) Q
        rw [b_X12_either_34 (hd := by omega), ← e1]; exact hτ)
      rw [b_X12_either_4 (hd := by omega), if_neg (fneg hD), ztrue_and lk1]
      rcases cs (B p) hy.1 with e | e | e | e | e
      · have el := (lk2.eq (c := 124) rfl (by decide)).mpr e.1
        rw [if_neg (fun y => y el)]
        exact fin 124 rfl (by rw [jn_at e.1 q124]; rfl)
      · exact absurd (e.2.symm.trans hy.2) (by decide)
      · exact absurd (e.2.symm.trans hy.2) (by decide)
      · exact absurd (e.2.symm.trans hy.2) (by decide)
      · exact absurd (e.2.symm.trans hy.2) (by decide)
    · rw [b_X12_either_4 (hd := by omega), if_pos (fpos hM)]; exact hQ
    · rw [b_X12_either_0 (hd := by omega)]
      exact hK _ (fun τ h => h)
  exact P5 d hd
end LVM
