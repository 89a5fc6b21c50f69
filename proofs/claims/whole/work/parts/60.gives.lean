/-! gives -/
section GIVES
variable {X : zX} {d : Nat} {σ : zS} {k : Nat}
theorem gain1 (V : zV) (N : Nat → Nat → Int) (t p : Nat) (i : Int) (r : Nat) : gainR V N (-1) t p i 1 r = rowG V N r t p i := by
  unfold gainR gainR
  rw [if_neg (by omega)]; omega
theorem o_gives (hd : 20 ≤ d) (h : Rel k σ) (a p : Int32) : zOp k σ X d MX11_gives MX12_gives [.ref 0, .int a, .int p, .null, .null] [.ref 66, .int a, .int p] := by
  have hn : Rel (k + 1) σ := by obtain ⟨nr, nt, N, V, I, h⟩ := h; exact h.next
  obtain ⟨nr, nt, N, V, I, h⟩ := h
  have hR := h.1.2.2
  have h6 := hR.1
  have h8 := hR.2.1
  have hl := hR.long
  have e0 := l0
  have e1 := l1
  have e10 : (10 : Int32).toInt = 10 := rfl
  have z10 : ¬ (1 : Int32) = 0 := by decide
  have c1 := h.1.1.1
  have c2 := h.1.1.2.1
  have epl : (f_X5_planks σ).toInt = N 6 0 := h.1.1.long
  have m1 := h.1.2.1.1
  have m6 := h.1.2.1.2.1
  have m9 := h.1.2.1.2.2.2.2.1
  have s1 : (gi σ 66 1 - 1).toInt = nr - 1 := by rw [t_sub (by omega), m1, e1]
  have s6 : (gi σ 66 6 - 1).toInt = nt - 1 := by rw [t_sub (by omega), m6, e1]
  have s9 : (gi σ 66 9 - 1).toInt = N 6 0 - 1 := by rw [t_sub (by omega), m9, e1]
  by_cases c : (0 ≤ a.toInt ∧ a.toInt / 10 < nr ∧ a.toInt % 10 < nt) ∧ 0 ≤ p.toInt ∧ p.toInt < N 6 0
  · obtain ⟨⟨ca, cr, ct⟩, cp0, cp1⟩ := c
    have er : (a / 10).toInt = a.toInt / 10 := t_div (y := 10) ca (by omega)
    have et : (a - a / 10 * 10).toInt = a.toInt % 10 := t_mod (y := 10) ca (by omega)
    have hixp := ix_t p
    have hp16 : ix p < 16 := by omega
    have hz : zin p 16 = true := zin_of (by omega) (by omega)
    have eC := h.2.2.2.1.1 (ix p) hp16
    have eM := h.2.2.2.1.2.1 (ix p) hp16
    have bI := h.2.2.2.1.2.2.1 (ix p) hp16
    refine zOp.think (val := rowG V N (a.toInt / 10).toNat (a.toInt % 10).toNat (ix p) (I (ix p))) h (fun Q hQ => ?_) (fun τ hT hF Q hQ => ?_)
    · rw [b_X11_gives_0 (hd := by omega), if_neg (fun q => by have := il.mp q; omega), if_neg (fun q => by have := il.mp q; omega), if_pos (il.mpr (by omega)), if_neg (fun q => by have := ile.mp q; omega), if_pos (il.mpr (by omega))]
      refine ⟨hz, w_X0_given (by omega) (n := 1) (t := (a.toInt % 10).toNat) (p := ix p) (i := I (ix p)) hR h.1.1 h.2.1.1 h.2.2.1.1.2.2.1 (by omega) (by omega) hp16 (by omega) eC bI (by omega) ?_ ?_ (fun v τ hF hv => ?_)⟩
      · rw [t_add (by omega), e1]; rfl
      · rw [t_add (by omega), e1]; omega
      · show zwp X d MX11_gives 85 _ [.int v] (zen τ) _
        rw [b_X11_gives_85]
        rw [er, gain1] at hv
        exact hQ v τ (Cpost.of (hF.sub (by decide) (by decide)) (h.2.2.1.1.fr (hF.c (by decide) (by decide)) (hF.c (by decide) (by decide)) (hF.c (by decide) (by decide)) (hF.1 1 (by decide) 3 (by decide))) (hF.1 1 (by decide) 3 (by decide))) hv
    · have f1 : f_X12_isRow τ (a / 10) = 1 := by
        unfold f_X12_isRow
        exact t_in1 (by rw [hF.1 66 (by decide) 1 (by decide), s1]; omega)
      have f2 : f_X12_isTurn τ (a - a / 10 * 10) = 1 := by
        unfold f_X12_isTurn
        exact t_in1 (by rw [hF.1 66 (by decide) 6 (by decide), s6]; omega)
      have f3 : f_X12_isPlank τ p = 1 := by
        unfold f_X12_isPlank
        exact t_in1 (by rw [hF.1 66 (by decide) 9 (by decide), s9]; omega)
      rw [b_X12_gives_0 (hd := by omega), if_neg (fun q => by have := il.mp q; omega), f1, f2, f3, if_neg z10, if_neg z10, if_neg z10]
      refine ⟨hz, w_X12_givesBy (by omega) (r := (a.toInt / 10).toNat) (t := (a.toInt % 10).toNat) (p := ix p) (i := I (ix p)) hR hT.1.2.1 hT.2.1.2 (by omega) (by omega) hp16 (by omega) (by omega) (by omega) (hT.2.2.2.1.2.1 (ix p) hp16) bI (fun v ρ hF hv => ?_)⟩
      show zwp X d MX12_gives 53 _ [.int v] (zen ρ) _
      rw [b_X12_gives_53]
      exact hQ v ρ ⟨hF.sub (by decide) (by decide), by rw [hF.1 66 (by decide) 36 (by decide)]; exact hT.2.2.1.2.2.2⟩ hv
  · refine zOp.same hn (x := -2000000000) (fm := -2000000000) (fun Q => ?_) (fun Q => ?_) rfl
    · rw [b_X11_gives_0 (hd := by omega)]
      by_cases x1 : a < 0
      · rw [if_pos x1]
      · have y1 := nil_ x1
        have er : (a / 10).toInt = a.toInt / 10 := t_div (y := 10) (by omega) (by omega)
        have et : (a - a / 10 * 10).toInt = a.toInt % 10 := t_mod (y := 10) (by omega) (by omega)
        rw [if_neg x1]
        by_cases x2 : p < 0
        · rw [if_pos x2]
        · have y2 := nil_ x2
          rw [if_neg x2]
          by_cases x3 : p < f_X5_planks σ
          · have y3 := il.mp x3
            rw [if_pos x3]
            by_cases x4 : gi σ 1 1 ≤ a / 10
            · rw [if_pos x4]
            · have y4 := nile x4
              rw [if_neg x4, if_neg (fun q => by have := il.mp q; omega)]
          · rw [if_neg x3]
    · rw [b_X12_gives_0 (hd := by omega)]
      by_cases x1 : a < 0
      · rw [if_pos x1]
      · have y1 := nil_ x1
        have er : (a / 10).toInt = a.toInt / 10 := t_div (y := 10) (by omega) (by omega)
        have et : (a - a / 10 * 10).toInt = a.toInt % 10 := t_mod (y := 10) (by omega) (by omega)
        rw [if_neg x1]
        unfold f_X12_isRow f_X12_isTurn f_X12_isPlank
        by_cases x4 : (a / 10).toInt < (0 : Int32).toInt ∨ (gi σ 66 1 - 1).toInt < (a / 10).toInt
        · rw [t_in0 x4, if_pos rfl]
        · rw [t_in1 x4, if_neg z10]
          by_cases x5 : (a - a / 10 * 10).toInt < (0 : Int32).toInt ∨ (gi σ 66 6 - 1).toInt < (a - a / 10 * 10).toInt
          · rw [t_in0 x5, if_pos rfl]
          · rw [t_in1 x5, if_neg z10, t_in0 (by omega), if_pos rfl]
end GIVES
