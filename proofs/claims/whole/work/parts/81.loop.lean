/-! the loop of the law -/
section LOOP
variable {X : zX} {d k : Nat} {σ : zS} {Q : Option Value → zH → Prop} {l3 : Int32}
theorem lgc_self (x : Int64) : lg_cmp x x = 0 := by
  unfold lg_cmp
  simp
theorem ce_hands (hd : 200 ≤ d) (hk : k ≤ 511) (h : Rel k σ) (hz1 : zin (l3 + 1) X.1 = true) (hz2 : zin (l3 + 2) X.1 = true) (hN : ∀ σ' : zS, Rel (k + 1) σ' → zwp X d ML_law 18 [.ref 1005, .ref 0, .ref 66, .int (l3 + 6)] [] (zen σ') Q) : zwp X (d - 1) MX11_hands 0 [.ref 0, .int (X.2 (ix (l3 + 1))), .int (X.2 (ix (l3 + 2)))] [] (zen σ) (fun v h' => zwp X d ML_law 242 [.ref 1005, .ref 0, .ref 66, .int l3] (zpsh v []) h' Q) := by
  have H := o_hands (X := X) (d := d - 1) (hd := by omega) (hk := by omega) (h := h) ((X.2 (ix (l3 + 1)))) ((X.2 (ix (l3 + 2))))
  unfold zOp at H
  refine zwp_mono H (fun v h' he => ?_)
  obtain ⟨x, σ1, e1, e2, hw⟩ := he
  subst e1 e2
  show zwp X d ML_law 242 [.ref 1005, .ref 0, .ref 66, .int l3] [.int x] (zen σ1) Q
  rw [b_L_law_242 (hd := by omega)]
  refine ⟨hz1, hz2, zwp_mono hw (fun v' h2 he2 => ?_)⟩
  obtain ⟨e3, σ', e4, hR⟩ := he2
  subst e3 e4
  show zwp X d ML_law 256 [.ref 1005, .ref 0, .ref 66, .int l3] [.int x, .int x] (zen σ') Q
  rw [b_L_law_256, if_pos rfl]
  exact hN σ' hR
theorem ce_rows (hd : 200 ≤ d) (hk : k ≤ 511) (h : Rel k σ) (hz1 : zin (l3 + 1) X.1 = true) (hz2 : zin (l3 + 2) X.1 = true) (hz3 : zin (l3 + 3) X.1 = true) (hN : ∀ σ' : zS, Rel (k + 1) σ' → zwp X d ML_law 18 [.ref 1005, .ref 0, .ref 66, .int (l3 + 6)] [] (zen σ') Q) : zwp X (d - 1) MX11_rows 0 [.ref 0, .int (X.2 (ix (l3 + 1))), .int (X.2 (ix (l3 + 2))), .int (X.2 (ix (l3 + 3))), .null] [] (zen σ) (fun v h' => zwp X d ML_law 280 [.ref 1005, .ref 0, .ref 66, .int l3] (zpsh v []) h' Q) := by
  have H := o_rows (X := X) (d := d - 1) (hd := by omega) (hk := by omega) (h := h) ((X.2 (ix (l3 + 1)))) ((X.2 (ix (l3 + 2)))) ((X.2 (ix (l3 + 3))))
  unfold zOp at H
  refine zwp_mono H (fun v h' he => ?_)
  obtain ⟨x, σ1, e1, e2, hw⟩ := he
  subst e1 e2
  show zwp X d ML_law 280 [.ref 1005, .ref 0, .ref 66, .int l3] [.int x] (zen σ1) Q
  rw [b_L_law_280 (hd := by omega)]
  refine ⟨hz1, hz2, hz3, zwp_mono hw (fun v' h2 he2 => ?_)⟩
  obtain ⟨e3, σ', e4, hR⟩ := he2
  subst e3 e4
  show zwp X d ML_law 299 [.ref 1005, .ref 0, .ref 66, .int l3] [.int x, .int x] (zen σ') Q
  rw [b_L_law_299, if_pos rfl]
  exact hN σ' hR
theorem ce_turn (hd : 200 ≤ d) (hk : k ≤ 511) (h : Rel k σ) (hz1 : zin (l3 + 1) X.1 = true) (hz2 : zin (l3 + 2) X.1 = true) (hN : ∀ σ' : zS, Rel (k + 1) σ' → zwp X d ML_law 18 [.ref 1005, .ref 0, .ref 66, .int (l3 + 6)] [] (zen σ') Q) : zwp X (d - 1) MX11_turn 0 [.ref 0, .int (X.2 (ix (l3 + 1))), .int (X.2 (ix (l3 + 2)))] [] (zen σ) (fun v h' => zwp X d ML_law 318 [.ref 1005, .ref 0, .ref 66, .int l3] (zpsh v []) h' Q) := by
  have H := o_turn (X := X) (d := d - 1) (hd := by omega) (hk := by omega) (h := h) ((X.2 (ix (l3 + 1)))) ((X.2 (ix (l3 + 2))))
  unfold zOp at H
  refine zwp_mono H (fun v h' he => ?_)
  obtain ⟨x, σ1, e1, e2, hw⟩ := he
  subst e1 e2
  show zwp X d ML_law 318 [.ref 1005, .ref 0, .ref 66, .int l3] [.int x] (zen σ1) Q
  rw [b_L_law_318 (hd := by omega)]
  refine ⟨hz1, hz2, zwp_mono hw (fun v' h2 he2 => ?_)⟩
  obtain ⟨e3, σ', e4, hR⟩ := he2
  subst e3 e4
  show zwp X d ML_law 332 [.ref 1005, .ref 0, .ref 66, .int l3] [.int x, .int x] (zen σ') Q
  rw [b_L_law_332, if_pos rfl]
  exact hN σ' hR
theorem ce_mend (hd : 200 ≤ d) (hk : k ≤ 511) (h : Rel k σ) (hz1 : zin (l3 + 1) X.1 = true) (hz2 : zin (l3 + 2) X.1 = true) (hz3 : zin (l3 + 3) X.1 = true) (hN : ∀ σ' : zS, Rel (k + 1) σ' → zwp X d ML_law 18 [.ref 1005, .ref 0, .ref 66, .int (l3 + 6)] [] (zen σ') Q) : zwp X (d - 1) MX11_mend 0 [.ref 0, .int (X.2 (ix (l3 + 1))), .int (X.2 (ix (l3 + 2))), .int (X.2 (ix (l3 + 3))), .null, .null] [] (zen σ) (fun v h' => zwp X d ML_law 356 [.ref 1005, .ref 0, .ref 66, .int l3] (zpsh v []) h' Q) := by
  have H := o_mend (X := X) (d := d - 1) (hd := by omega) (hk := by omega) (h := h) ((X.2 (ix (l3 + 1)))) ((X.2 (ix (l3 + 2)))) ((X.2 (ix (l3 + 3))))
  unfold zOp at H
  refine zwp_mono H (fun v h' he => ?_)
  obtain ⟨x, σ1, e1, e2, hw⟩ := he
  subst e1 e2
  show zwp X d ML_law 356 [.ref 1005, .ref 0, .ref 66, .int l3] [.int x] (zen σ1) Q
  rw [b_L_law_356 (hd := by omega)]
  refine ⟨hz1, hz2, hz3, zwp_mono hw (fun v' h2 he2 => ?_)⟩
  obtain ⟨e3, σ', e4, hR⟩ := he2
  subst e3 e4
  show zwp X d ML_law 375 [.ref 1005, .ref 0, .ref 66, .int l3] [.int x, .int x] (zen σ') Q
  rw [b_L_law_375, if_pos rfl]
  exact hN σ' hR
theorem ce_of (hd : 200 ≤ d) (hk : k ≤ 511) (h : Rel k σ) (hz1 : zin (l3 + 1) X.1 = true) (hz2 : zin (l3 + 2) X.1 = true) (hN : ∀ σ' : zS, Rel (k + 1) σ' → zwp X d ML_law 18 [.ref 1005, .ref 0, .ref 66, .int (l3 + 6)] [] (zen σ') Q) : zwp X (d - 1) MX11_of 0 [.ref 0, .int (X.2 (ix (l3 + 1))), .int (X.2 (ix (l3 + 2))), .null] [] (zen σ) (fun v h' => zwp X d ML_law 394 [.ref 1005, .ref 0, .ref 66, .int l3] (zpsh v []) h' Q) := by
  have H := o_of (X := X) (d := d - 1) (hd := by omega) (h := h) ((X.2 (ix (l3 + 1)))) ((X.2 (ix (l3 + 2))))
  unfold zOp at H
  refine zwp_mono H (fun v h' he => ?_)
  obtain ⟨x, σ1, e1, e2, hw⟩ := he
  subst e1 e2
  show zwp X d ML_law 394 [.ref 1005, .ref 0, .ref 66, .int l3] [.int x] (zen σ1) Q
  rw [b_L_law_394 (hd := by omega)]
  refine ⟨hz1, hz2, zwp_mono hw (fun v' h2 he2 => ?_)⟩
  obtain ⟨e3, σ', e4, hR⟩ := he2
  subst e3 e4
  show zwp X d ML_law 408 [.ref 1005, .ref 0, .ref 66, .int l3] [.int x, .int x] (zen σ') Q
  rw [b_L_law_408, if_pos rfl]
  exact hN σ' hR
theorem ce_feed (hd : 200 ≤ d) (hk : k ≤ 511) (h : Rel k σ) (hz1 : zin (l3 + 1) X.1 = true) (hN : ∀ σ' : zS, Rel (k + 1) σ' → zwp X d ML_law 18 [.ref 1005, .ref 0, .ref 66, .int (l3 + 6)] [] (zen σ') Q) : zwp X (d - 1) MX11_feed 0 [.ref 0, .int (X.2 (ix (l3 + 1)))] [] (zen σ) (fun v h' => zwp X d ML_law 422 [.ref 1005, .ref 0, .ref 66, .int l3] (zpsh v []) h' Q) := by
  have H := o_feed (X := X) (d := d - 1) (hd := by omega) (h := h) ((X.2 (ix (l3 + 1))))
  unfold zOp at H
  refine zwp_mono H (fun v h' he => ?_)
  obtain ⟨x, σ1, e1, e2, hw⟩ := he
  subst e1 e2
  show zwp X d ML_law 422 [.ref 1005, .ref 0, .ref 66, .int l3] [.int x] (zen σ1) Q
  rw [b_L_law_422 (hd := by omega)]
  refine ⟨hz1, zwp_mono hw (fun v' h2 he2 => ?_)⟩
  obtain ⟨e3, σ', e4, hR⟩ := he2
  subst e3 e4
  show zwp X d ML_law 431 [.ref 1005, .ref 0, .ref 66, .int l3] [.int x, .int x] (zen σ') Q
  rw [b_L_law_431, if_pos rfl]
  exact hN σ' hR
theorem ce_law (hd : 200 ≤ d) (hk : k ≤ 511) (h : Rel k σ)  (hN : ∀ σ' : zS, Rel (k + 1) σ' → zwp X d ML_law 18 [.ref 1005, .ref 0, .ref 66, .int (l3 + 6)] [] (zen σ') Q) : zwp X (d - 1) MX11_law 0 [.ref 0, .null] [] (zen σ) (fun v h' => zwp X d ML_law 440 [.ref 1005, .ref 0, .ref 66, .int l3] (zpsh v []) h' Q) := by
  have H := o_law (X := X) (d := d - 1) (hd := by omega) (h := h) 
  unfold zOp at H
  refine zwp_mono H (fun v h' he => ?_)
  obtain ⟨x, σ1, e1, e2, hw⟩ := he
  subst e1 e2
  show zwp X d ML_law 440 [.ref 1005, .ref 0, .ref 66, .int l3] [.int x] (zen σ1) Q
  rw [b_L_law_440 (hd := by omega)]
  refine zwp_mono hw (fun v' h2 he2 => ?_)
  obtain ⟨e3, σ', e4, hR⟩ := he2
  subst e3 e4
  show zwp X d ML_law 444 [.ref 1005, .ref 0, .ref 66, .int l3] [.int x, .int x] (zen σ') Q
  rw [b_L_law_444, if_pos rfl]
  exact hN σ' hR
theorem ce_gives (hd : 200 ≤ d) (hk : k ≤ 511) (h : Rel k σ) (hz1 : zin (l3 + 1) X.1 = true) (hz2 : zin (l3 + 2) X.1 = true) (hN : ∀ σ' : zS, Rel (k + 1) σ' → zwp X d ML_law 18 [.ref 1005, .ref 0, .ref 66, .int (l3 + 6)] [] (zen σ') Q) : zwp X (d - 1) MX11_gives 0 [.ref 0, .int (X.2 (ix (l3 + 1))), .int (X.2 (ix (l3 + 2))), .null, .null] [] (zen σ) (fun v h' => zwp X d ML_law 463 [.ref 1005, .ref 0, .ref 66, .int l3] (zpsh v []) h' Q) := by
  have H := o_gives (X := X) (d := d - 1) (hd := by omega) (h := h) ((X.2 (ix (l3 + 1)))) ((X.2 (ix (l3 + 2))))
  unfold zOp at H
  refine zwp_mono H (fun v h' he => ?_)
  obtain ⟨x, σ1, e1, e2, hw⟩ := he
  subst e1 e2
  show zwp X d ML_law 463 [.ref 1005, .ref 0, .ref 66, .int l3] [.int x] (zen σ1) Q
  rw [b_L_law_463 (hd := by omega)]
  refine ⟨hz1, hz2, zwp_mono hw (fun v' h2 he2 => ?_)⟩
  obtain ⟨e3, σ', e4, hR⟩ := he2
  subst e3 e4
  show zwp X d ML_law 477 [.ref 1005, .ref 0, .ref 66, .int l3] [.int x, .int x] (zen σ') Q
  rw [b_L_law_477, if_pos rfl]
  exact hN σ' hR
theorem ce_ice (hd : 200 ≤ d) (hk : k ≤ 511) (h : Rel k σ) (hz1 : zin (l3 + 1) X.1 = true) (hz2 : zin (l3 + 2) X.1 = true) (hN : ∀ σ' : zS, Rel (k + 1) σ' → zwp X d ML_law 18 [.ref 1005, .ref 0, .ref 66, .int (l3 + 6)] [] (zen σ') Q) : zwp X (d - 1) MX11_ice 0 [.ref 0, .int (X.2 (ix (l3 + 1))), .int (X.2 (ix (l3 + 2))), .null] [] (zen σ) (fun v h' => zwp X d ML_law 496 [.ref 1005, .ref 0, .ref 66, .int l3] (zpsh v []) h' Q) := by
  have H := o_ice (X := X) (d := d - 1) (hd := by omega) (h := h) ((X.2 (ix (l3 + 1)))) ((X.2 (ix (l3 + 2))))
  unfold zOp at H
  refine zwp_mono H (fun v h' he => ?_)
  obtain ⟨x, σ1, e1, e2, hw⟩ := he
  subst e1 e2
  show zwp X d ML_law 496 [.ref 1005, .ref 0, .ref 66, .int l3] [.int x] (zen σ1) Q
  rw [b_L_law_496 (hd := by omega)]
  refine ⟨hz1, hz2, zwp_mono hw (fun v' h2 he2 => ?_)⟩
  obtain ⟨e3, σ', e4, hR⟩ := he2
  subst e3 e4
  show zwp X d ML_law 510 [.ref 1005, .ref 0, .ref 66, .int l3] [.int x, .int x] (zen σ') Q
  rw [b_L_law_510, if_pos rfl]
  exact hN σ' hR
theorem ce_cross (hd : 200 ≤ d) (hk : k ≤ 511) (h : Rel k σ) (hz1 : zin (l3 + 1) X.1 = true) (hz2 : zin (l3 + 2) X.1 = true) (hN : ∀ σ' : zS, Rel (k + 1) σ' → zwp X d ML_law 18 [.ref 1005, .ref 0, .ref 66, .int (l3 + 6)] [] (zen σ') Q) : zwp X (d - 1) MX11_cross 0 [.ref 0, .int (X.2 (ix (l3 + 1))), .int (X.2 (ix (l3 + 2))), .null] [] (zen σ) (fun v h' => zwp X d ML_law 529 [.ref 1005, .ref 0, .ref 66, .int l3] (zpsh v []) h' Q) := by
  have H := o_cross (X := X) (d := d - 1) (hd := by omega) (h := h) ((X.2 (ix (l3 + 1)))) ((X.2 (ix (l3 + 2))))
  unfold zOp at H
  refine zwp_mono H (fun v h' he => ?_)
  obtain ⟨x, σ1, e1, e2, hw⟩ := he
  subst e1 e2
  show zwp X d ML_law 529 [.ref 1005, .ref 0, .ref 66, .int l3] [.int x] (zen σ1) Q
  rw [b_L_law_529 (hd := by omega)]
  refine ⟨hz1, hz2, zwp_mono hw (fun v' h2 he2 => ?_)⟩
  obtain ⟨e3, σ', e4, hR⟩ := he2
  subst e3 e4
  show zwp X d ML_law 543 [.ref 1005, .ref 0, .ref 66, .int l3] [.int x, .int x] (zen σ') Q
  rw [b_L_law_543, if_pos rfl]
  exact hN σ' hR
theorem ce_heaviest (hd : 200 ≤ d) (hk : k ≤ 511) (h : Rel k σ) (hz1 : zin (l3 + 1) X.1 = true) (hz2 : zin (l3 + 2) X.1 = true) (hN : ∀ σ' : zS, Rel (k + 1) σ' → zwp X d ML_law 18 [.ref 1005, .ref 0, .ref 66, .int (l3 + 6)] [] (zen σ') Q) : zwp X (d - 1) MX11_heaviest 0 [.ref 0, .int (X.2 (ix (l3 + 1))), .int (X.2 (ix (l3 + 2))), .null] [] (zen σ) (fun v h' => zwp X d ML_law 562 [.ref 1005, .ref 0, .ref 66, .int l3] (zpsh v []) h' Q) := by
  have H := o_heaviest (X := X) (d := d - 1) (hd := by omega) (h := h) ((X.2 (ix (l3 + 1)))) ((X.2 (ix (l3 + 2))))
  unfold zOp at H
  refine zwp_mono H (fun v h' he => ?_)
  obtain ⟨x, σ1, e1, e2, hw⟩ := he
  subst e1 e2
  show zwp X d ML_law 562 [.ref 1005, .ref 0, .ref 66, .int l3] [.int x] (zen σ1) Q
  rw [b_L_law_562 (hd := by omega)]
  refine ⟨hz1, hz2, zwp_mono hw (fun v' h2 he2 => ?_)⟩
  obtain ⟨e3, σ', e4, hR⟩ := he2
  subst e3 e4
  show zwp X d ML_law 576 [.ref 1005, .ref 0, .ref 66, .int l3] [.int x, .int x] (zen σ') Q
  rw [b_L_law_576, if_pos rfl]
  exact hN σ' hR
theorem ce_waits (hd : 200 ≤ d) (hk : k ≤ 511) (h : Rel k σ) (hz1 : zin (l3 + 1) X.1 = true) (hz2 : zin (l3 + 2) X.1 = true) (hN : ∀ σ' : zS, Rel (k + 1) σ' → zwp X d ML_law 18 [.ref 1005, .ref 0, .ref 66, .int (l3 + 6)] [] (zen σ') Q) : zwp X (d - 1) MX11_waits 0 [.ref 0, .int (X.2 (ix (l3 + 1))), .int (X.2 (ix (l3 + 2))), .null] [] (zen σ) (fun v h' => zwp X d ML_law 595 [.ref 1005, .ref 0, .ref 66, .int l3] (zpsh v []) h' Q) := by
  have H := o_waits (X := X) (d := d - 1) (hd := by omega) (h := h) ((X.2 (ix (l3 + 1)))) ((X.2 (ix (l3 + 2))))
  unfold zOp at H
  refine zwp_mono H (fun v h' he => ?_)
  obtain ⟨x, σ1, e1, e2, hw⟩ := he
  subst e1 e2
  show zwp X d ML_law 595 [.ref 1005, .ref 0, .ref 66, .int l3] [.int x] (zen σ1) Q
  rw [b_L_law_595 (hd := by omega)]
  refine ⟨hz1, hz2, zwp_mono hw (fun v' h2 he2 => ?_)⟩
  obtain ⟨e3, σ', e4, hR⟩ := he2
  subst e3 e4
  show zwp X d ML_law 609 [.ref 1005, .ref 0, .ref 66, .int l3] [.int x, .int x] (zen σ') Q
  rw [b_L_law_609, if_pos rfl]
  exact hN σ' hR
theorem ce_first (hd : 200 ≤ d) (hk : k ≤ 511) (h : Rel k σ) (hz1 : zin (l3 + 1) X.1 = true) (hz2 : zin (l3 + 2) X.1 = true) (hN : ∀ σ' : zS, Rel (k + 1) σ' → zwp X d ML_law 18 [.ref 1005, .ref 0, .ref 66, .int (l3 + 6)] [] (zen σ') Q) : zwp X (d - 1) MX11_first 0 [.ref 0, .int (X.2 (ix (l3 + 1))), .int (X.2 (ix (l3 + 2))), .null] [] (zen σ) (fun v h' => zwp X d ML_law 628 [.ref 1005, .ref 0, .ref 66, .int l3] (zpsh v []) h' Q) := by
  have H := o_first (X := X) (d := d - 1) (hd := by omega) (h := h) ((X.2 (ix (l3 + 1)))) ((X.2 (ix (l3 + 2))))
  unfold zOp at H
  refine zwp_mono H (fun v h' he => ?_)
  obtain ⟨x, σ1, e1, e2, hw⟩ := he
  subst e1 e2
  show zwp X d ML_law 628 [.ref 1005, .ref 0, .ref 66, .int l3] [.int x] (zen σ1) Q
  rw [b_L_law_628 (hd := by omega)]
  refine ⟨hz1, hz2, zwp_mono hw (fun v' h2 he2 => ?_)⟩
  obtain ⟨e3, σ', e4, hR⟩ := he2
  subst e3 e4
  show zwp X d ML_law 642 [.ref 1005, .ref 0, .ref 66, .int l3] [.int x, .int x] (zen σ') Q
  rw [b_L_law_642, if_pos rfl]
  exact hN σ' hR
theorem ce_order (hd : 200 ≤ d) (hk : k ≤ 511) (h : Rel k σ) (hz1 : zin (l3 + 1) X.1 = true) (hN : ∀ σ' : zS, Rel (k + 1) σ' → zwp X d ML_law 18 [.ref 1005, .ref 0, .ref 66, .int (l3 + 6)] [] (zen σ') Q) : zwp X (d - 1) MX11_order 0 [.ref 0, .int (X.2 (ix (l3 + 1))), .null] [] (zen σ) (fun v h' => zwp X d ML_law 656 [.ref 1005, .ref 0, .ref 66, .int l3] (zpsh v []) h' Q) := by
  have H := o_order (X := X) (d := d - 1) (hd := by omega) (h := h) ((X.2 (ix (l3 + 1))))
  unfold zOp at H
  refine zwp_mono H (fun v h' he => ?_)
  obtain ⟨x, σ1, e1, e2, hw⟩ := he
  subst e1 e2
  show zwp X d ML_law 656 [.ref 1005, .ref 0, .ref 66, .int l3] [.int x] (zen σ1) Q
  rw [b_L_law_656 (hd := by omega)]
  refine ⟨hz1, zwp_mono hw (fun v' h2 he2 => ?_)⟩
  obtain ⟨e3, σ', e4, hR⟩ := he2
  subst e3 e4
  show zwp X d ML_law 665 [.ref 1005, .ref 0, .ref 66, .int l3] [.int x, .int x] (zen σ') Q
  rw [b_L_law_665, if_pos rfl]
  exact hN σ' hR
theorem ce_fewest (hd : 200 ≤ d) (hk : k ≤ 511) (h : Rel k σ) (hz1 : zin (l3 + 1) X.1 = true) (hz2 : zin (l3 + 2) X.1 = true) (hN : ∀ σ' : zS, Rel (k + 1) σ' → zwp X d ML_law 18 [.ref 1005, .ref 0, .ref 66, .int (l3 + 6)] [] (zen σ') Q) : zwp X (d - 1) MX11_fewest 0 [.ref 0, .int (X.2 (ix (l3 + 1))), .int (X.2 (ix (l3 + 2))), .null] [] (zen σ) (fun v h' => zwp X d ML_law 684 [.ref 1005, .ref 0, .ref 66, .int l3] (zpsh v []) h' Q) := by
  have H := o_fewest (X := X) (d := d - 1) (hd := by omega) (h := h) ((X.2 (ix (l3 + 1)))) ((X.2 (ix (l3 + 2))))
  unfold zOp at H
  refine zwp_mono H (fun v h' he => ?_)
  obtain ⟨x, σ1, e1, e2, hw⟩ := he
  subst e1 e2
  show zwp X d ML_law 684 [.ref 1005, .ref 0, .ref 66, .int l3] [.int x] (zen σ1) Q
  rw [b_L_law_684 (hd := by omega)]
  refine ⟨hz1, hz2, zwp_mono hw (fun v' h2 he2 => ?_)⟩
  obtain ⟨e3, σ', e4, hR⟩ := he2
  subst e3 e4
  show zwp X d ML_law 698 [.ref 1005, .ref 0, .ref 66, .int l3] [.int x, .int x] (zen σ') Q
  rw [b_L_law_698, if_pos rfl]
  exact hN σ' hR
theorem ce_spare (hd : 200 ≤ d) (hk : k ≤ 511) (h : Rel k σ) (hz1 : zin (l3 + 1) X.1 = true) (hz2 : zin (l3 + 2) X.1 = true) (hN : ∀ σ' : zS, Rel (k + 1) σ' → zwp X d ML_law 18 [.ref 1005, .ref 0, .ref 66, .int (l3 + 6)] [] (zen σ') Q) : zwp X (d - 1) MX11_spare 0 [.ref 0, .int (X.2 (ix (l3 + 1))), .int (X.2 (ix (l3 + 2))), .null] [] (zen σ) (fun v h' => zwp X d ML_law 717 [.ref 1005, .ref 0, .ref 66, .int l3] (zpsh v []) h' Q) := by
  have H := o_spare (X := X) (d := d - 1) (hd := by omega) (h := h) ((X.2 (ix (l3 + 1)))) ((X.2 (ix (l3 + 2))))
  unfold zOp at H
  refine zwp_mono H (fun v h' he => ?_)
  obtain ⟨x, σ1, e1, e2, hw⟩ := he
  subst e1 e2
  show zwp X d ML_law 717 [.ref 1005, .ref 0, .ref 66, .int l3] [.int x] (zen σ1) Q
  rw [b_L_law_717 (hd := by omega)]
  refine ⟨hz1, hz2, zwp_mono hw (fun v' h2 he2 => ?_)⟩
  obtain ⟨e3, σ', e4, hR⟩ := he2
  subst e3 e4
  show zwp X d ML_law 731 [.ref 1005, .ref 0, .ref 66, .int l3] [.int x, .int x] (zen σ') Q
  rw [b_L_law_731, if_pos rfl]
  exact hN σ' hR
theorem ce_harm (hd : 200 ≤ d) (hk : k ≤ 511) (h : Rel k σ) (hz1 : zin (l3 + 1) X.1 = true) (hN : ∀ σ' : zS, Rel (k + 1) σ' → zwp X d ML_law 18 [.ref 1005, .ref 0, .ref 66, .int (l3 + 6)] [] (zen σ') Q) : zwp X (d - 1) MX11_harm 0 [.ref 0, .int (X.2 (ix (l3 + 1))), .null] [] (zen σ) (fun v h' => zwp X d ML_law 745 [.ref 1005, .ref 0, .ref 66, .int l3] (zpsh v []) h' Q) := by
  have H := o_harm (X := X) (d := d - 1) (hd := by omega) (h := h) ((X.2 (ix (l3 + 1))))
  unfold zOp at H
  refine zwp_mono H (fun v h' he => ?_)
  obtain ⟨x, σ1, e1, e2, hw⟩ := he
  subst e1 e2
  show zwp X d ML_law 745 [.ref 1005, .ref 0, .ref 66, .int l3] [.int x] (zen σ1) Q
  rw [b_L_law_745 (hd := by omega)]
  refine ⟨hz1, zwp_mono hw (fun v' h2 he2 => ?_)⟩
  obtain ⟨e3, σ', e4, hR⟩ := he2
  subst e3 e4
  show zwp X d ML_law 754 [.ref 1005, .ref 0, .ref 66, .int l3] [.int x, .int x] (zen σ') Q
  rw [b_L_law_754, if_pos rfl]
  exact hN σ' hR
theorem ce_seat (hd : 200 ≤ d) (hk : k ≤ 511) (h : Rel k σ) (hz1 : zin (l3 + 1) X.1 = true) (hz2 : zin (l3 + 2) X.1 = true) (hz3 : zin (l3 + 3) X.1 = true) (hN : ∀ σ' : zS, Rel (k + 1) σ' → zwp X d ML_law 18 [.ref 1005, .ref 0, .ref 66, .int (l3 + 6)] [] (zen σ') Q) : zwp X (d - 1) MX11_seat 0 [.ref 0, .int (X.2 (ix (l3 + 1))), .int (X.2 (ix (l3 + 2))), .int (X.2 (ix (l3 + 3))), .null] [] (zen σ) (fun v h' => zwp X d ML_law 778 [.ref 1005, .ref 0, .ref 66, .int l3] (zpsh v []) h' Q) := by
  have H := o_seat (X := X) (d := d - 1) (hd := by omega) (hk := by omega) (h := h) ((X.2 (ix (l3 + 1)))) ((X.2 (ix (l3 + 2)))) ((X.2 (ix (l3 + 3))))
  unfold zOp at H
  refine zwp_mono H (fun v h' he => ?_)
  obtain ⟨x, σ1, e1, e2, hw⟩ := he
  subst e1 e2
  show zwp X d ML_law 778 [.ref 1005, .ref 0, .ref 66, .int l3] [.int x] (zen σ1) Q
  rw [b_L_law_778 (hd := by omega)]
  refine ⟨hz1, hz2, hz3, zwp_mono hw (fun v' h2 he2 => ?_)⟩
  obtain ⟨e3, σ', e4, hR⟩ := he2
  subst e3 e4
  show zwp X d ML_law 797 [.ref 1005, .ref 0, .ref 66, .int l3] [.int x, .int x] (zen σ') Q
  rw [b_L_law_797, if_pos rfl]
  exact hN σ' hR
theorem ce_encore (hd : 200 ≤ d) (hk : k ≤ 511) (h : Rel k σ) (hz1 : zin (l3 + 1) X.1 = true) (hN : ∀ σ' : zS, Rel (k + 1) σ' → zwp X d ML_law 18 [.ref 1005, .ref 0, .ref 66, .int (l3 + 6)] [] (zen σ') Q) : zwp X (d - 1) MX11_encore 0 [.ref 0, .int (X.2 (ix (l3 + 1)))] [] (zen σ) (fun v h' => zwp X d ML_law 811 [.ref 1005, .ref 0, .ref 66, .int l3] (zpsh v []) h' Q) := by
  have H := o_encore (X := X) (d := d - 1) (hd := by omega) (h := h) ((X.2 (ix (l3 + 1))))
  unfold zOp at H
  refine zwp_mono H (fun v h' he => ?_)
  obtain ⟨x, σ1, e1, e2, hw⟩ := he
  subst e1 e2
  show zwp X d ML_law 811 [.ref 1005, .ref 0, .ref 66, .int l3] [.int x] (zen σ1) Q
  rw [b_L_law_811 (hd := by omega)]
  refine ⟨hz1, zwp_mono hw (fun v' h2 he2 => ?_)⟩
  obtain ⟨e3, σ', e4, hR⟩ := he2
  subst e3 e4
  show zwp X d ML_law 820 [.ref 1005, .ref 0, .ref 66, .int l3] [.int x, .int x] (zen σ') Q
  rw [b_L_law_820, if_pos rfl]
  exact hN σ' hR
theorem ce_claque (hd : 200 ≤ d) (hk : k ≤ 511) (h : Rel k σ) (hz1 : zin (l3 + 1) X.1 = true) (hz2 : zin (l3 + 2) X.1 = true) (hN : ∀ σ' : zS, Rel (k + 1) σ' → zwp X d ML_law 18 [.ref 1005, .ref 0, .ref 66, .int (l3 + 6)] [] (zen σ') Q) : zwp X (d - 1) MX11_claque 0 [.ref 0, .int (X.2 (ix (l3 + 1))), .int (X.2 (ix (l3 + 2))), .null] [] (zen σ) (fun v h' => zwp X d ML_law 839 [.ref 1005, .ref 0, .ref 66, .int l3] (zpsh v []) h' Q) := by
  have H := o_claque (X := X) (d := d - 1) (hd := by omega) (hk := by omega) (h := h) ((X.2 (ix (l3 + 1)))) ((X.2 (ix (l3 + 2))))
  unfold zOp at H
  refine zwp_mono H (fun v h' he => ?_)
  obtain ⟨x, σ1, e1, e2, hw⟩ := he
  subst e1 e2
  show zwp X d ML_law 839 [.ref 1005, .ref 0, .ref 66, .int l3] [.int x] (zen σ1) Q
  rw [b_L_law_839 (hd := by omega)]
  refine ⟨hz1, hz2, zwp_mono hw (fun v' h2 he2 => ?_)⟩
  obtain ⟨e3, σ', e4, hR⟩ := he2
  subst e3 e4
  show zwp X d ML_law 853 [.ref 1005, .ref 0, .ref 66, .int l3] [.int x, .int x] (zen σ') Q
  rw [b_L_law_853, if_pos rfl]
  exact hN σ' hR
theorem ce_judge (hd : 200 ≤ d) (hk : k ≤ 511) (h : Rel k σ) (hz1 : zin (l3 + 1) X.1 = true) (hN : ∀ σ' : zS, Rel (k + 1) σ' → zwp X d ML_law 18 [.ref 1005, .ref 0, .ref 66, .int (l3 + 6)] [] (zen σ') Q) : zwp X (d - 1) MX11_judge 0 [.ref 0, .int (X.2 (ix (l3 + 1))), .null] [] (zen σ) (fun v h' => zwp X d ML_law 867 [.ref 1005, .ref 0, .ref 66, .int l3] (zpsh v []) h' Q) := by
  have H := o_judge (X := X) (d := d - 1) (hd := by omega) (h := h) ((X.2 (ix (l3 + 1))))
  unfold zOp at H
  refine zwp_mono H (fun v h' he => ?_)
  obtain ⟨x, σ1, e1, e2, hw⟩ := he
  subst e1 e2
  show zwp X d ML_law 867 [.ref 1005, .ref 0, .ref 66, .int l3] [.int x] (zen σ1) Q
  rw [b_L_law_867 (hd := by omega)]
  refine ⟨hz1, zwp_mono hw (fun v' h2 he2 => ?_)⟩
  obtain ⟨e3, σ', e4, hR⟩ := he2
  subst e3 e4
  show zwp X d ML_law 876 [.ref 1005, .ref 0, .ref 66, .int l3] [.int x, .int x] (zen σ') Q
  rw [b_L_law_876, if_pos rfl]
  exact hN σ' hR
theorem ce_which (hd : 200 ≤ d) (hk : k ≤ 511) (h : Rel k σ) (hz1 : zin (l3 + 1) X.1 = true) (hz2 : zin (l3 + 2) X.1 = true) (hN : ∀ σ' : zS, Rel (k + 1) σ' → zwp X d ML_law 18 [.ref 1005, .ref 0, .ref 66, .int (l3 + 6)] [] (zen σ') Q) : zwp X (d - 1) MX11_which 0 [.ref 0, .int (X.2 (ix (l3 + 1))), .int (X.2 (ix (l3 + 2))), .null] [] (zen σ) (fun v h' => zwp X d ML_law 895 [.ref 1005, .ref 0, .ref 66, .int l3] (zpsh v []) h' Q) := by
  have H := o_which (X := X) (d := d - 1) (hd := by omega) (h := h) ((X.2 (ix (l3 + 1)))) ((X.2 (ix (l3 + 2))))
  unfold zOp at H
  refine zwp_mono H (fun v h' he => ?_)
  obtain ⟨x, σ1, e1, e2, hw⟩ := he
  subst e1 e2
  show zwp X d ML_law 895 [.ref 1005, .ref 0, .ref 66, .int l3] [.int x] (zen σ1) Q
  rw [b_L_law_895 (hd := by omega)]
  refine ⟨hz1, hz2, zwp_mono hw (fun v' h2 he2 => ?_)⟩
  obtain ⟨e3, σ', e4, hR⟩ := he2
  subst e3 e4
  show zwp X d ML_law 909 [.ref 1005, .ref 0, .ref 66, .int l3] [.int x, .int x] (zen σ') Q
  rw [b_L_law_909, if_pos rfl]
  exact hN σ' hR
theorem ce_good (hd : 200 ≤ d) (hk : k ≤ 511) (h : Rel k σ) (hz1 : zin (l3 + 1) X.1 = true) (hz2 : zin (l3 + 2) X.1 = true) (hz3 : zin (l3 + 3) X.1 = true) (hN : ∀ σ' : zS, Rel (k + 1) σ' → zwp X d ML_law 18 [.ref 1005, .ref 0, .ref 66, .int (l3 + 6)] [] (zen σ') Q) : zwp X (d - 1) MX11_good 0 [.ref 0, .int (X.2 (ix (l3 + 1))), .int (X.2 (ix (l3 + 2))), .int (X.2 (ix (l3 + 3))), .null] [] (zen σ) (fun v h' => zwp X d ML_law 933 [.ref 1005, .ref 0, .ref 66, .int l3] (zpsh v []) h' Q) := by
  have H := o_good (X := X) (d := d - 1) (hd := by omega) (hk := by omega) (h := h) ((X.2 (ix (l3 + 1)))) ((X.2 (ix (l3 + 2)))) ((X.2 (ix (l3 + 3))))
  unfold zOp at H
  refine zwp_mono H (fun v h' he => ?_)
  obtain ⟨x, σ1, e1, e2, hw⟩ := he
  subst e1 e2
  show zwp X d ML_law 933 [.ref 1005, .ref 0, .ref 66, .int l3] [.int x] (zen σ1) Q
  rw [b_L_law_933 (hd := by omega)]
  refine ⟨hz1, hz2, hz3, zwp_mono hw (fun v' h2 he2 => ?_)⟩
  obtain ⟨e3, σ', e4, hR⟩ := he2
  subst e3 e4
  show zwp X d ML_law 952 [.ref 1005, .ref 0, .ref 66, .int l3] [.int x, .int x] (zen σ') Q
  rw [b_L_law_952, if_pos rfl]
  exact hN σ' hR
theorem ce_orders (hd : 200 ≤ d) (hk : k ≤ 511) (h : Rel k σ) (hz1 : zin (l3 + 1) X.1 = true) (hz2 : zin (l3 + 2) X.1 = true) (hN : ∀ σ' : zS, Rel (k + 1) σ' → zwp X d ML_law 18 [.ref 1005, .ref 0, .ref 66, .int (l3 + 6)] [] (zen σ') Q) : zwp X (d - 1) MX11_orders 0 [.ref 0, .int (X.2 (ix (l3 + 1))), .int (X.2 (ix (l3 + 2))), .null] [] (zen σ) (fun v h' => zwp X d ML_law 971 [.ref 1005, .ref 0, .ref 66, .int l3] (zpsh v []) h' Q) := by
  have H := o_orders (X := X) (d := d - 1) (hd := by omega) (h := h) ((X.2 (ix (l3 + 1)))) ((X.2 (ix (l3 + 2))))
  unfold zOp at H
  refine zwp_mono H (fun v h' he => ?_)
  obtain ⟨x, σ1, e1, e2, hw⟩ := he
  subst e1 e2
  show zwp X d ML_law 971 [.ref 1005, .ref 0, .ref 66, .int l3] [.int x] (zen σ1) Q
  rw [b_L_law_971 (hd := by omega)]
  refine ⟨hz1, hz2, zwp_mono hw (fun v' h2 he2 => ?_)⟩
  obtain ⟨e3, σ', e4, hR⟩ := he2
  subst e3 e4
  show zwp X d ML_law 985 [.ref 1005, .ref 0, .ref 66, .int l3] [.int x, .int x] (zen σ') Q
  rw [b_L_law_985, if_pos rfl]
  exact hN σ' hR
theorem ce_warm (hd : 200 ≤ d) (hk : k ≤ 511) (h : Rel k σ) (hz1 : zin (l3 + 1) X.1 = true) (hN : ∀ σ' : zS, Rel (k + 1) σ' → zwp X d ML_law 18 [.ref 1005, .ref 0, .ref 66, .int (l3 + 6)] [] (zen σ') Q) : zwp X (d - 1) MX11_warm 0 [.ref 0, .int (X.2 (ix (l3 + 1))), .null] [] (zen σ) (fun v h' => zwp X d ML_law 999 [.ref 1005, .ref 0, .ref 66, .int l3] (zpsh v []) h' Q) := by
  have H := o_warm (X := X) (d := d - 1) (hd := by omega) (hk := by omega) (h := h) ((X.2 (ix (l3 + 1))))
  unfold zOp at H
  refine zwp_mono H (fun v h' he => ?_)
  obtain ⟨x, σ1, e1, e2, hw⟩ := he
  subst e1 e2
  show zwp X d ML_law 999 [.ref 1005, .ref 0, .ref 66, .int l3] [.int x] (zen σ1) Q
  rw [b_L_law_999 (hd := by omega)]
  refine ⟨hz1, zwp_mono hw (fun v' h2 he2 => ?_)⟩
  obtain ⟨e3, σ', e4, hR⟩ := he2
  subst e3 e4
  show zwp X d ML_law 1008 [.ref 1005, .ref 0, .ref 66, .int l3] [.int x, .int x] (zen σ') Q
  rw [b_L_law_1008, if_pos rfl]
  exact hN σ' hR
theorem ce_drawn (hd : 200 ≤ d) (hk : k ≤ 511) (h : Rel k σ) (hz1 : zin (l3 + 1) X.1 = true) (hz2 : zin (l3 + 2) X.1 = true) (hz3 : zin (l3 + 3) X.1 = true) (hN : ∀ σ' : zS, Rel (k + 1) σ' → zwp X d ML_law 18 [.ref 1005, .ref 0, .ref 66, .int (l3 + 6)] [] (zen σ') Q) : zwp X (d - 1) MX11_drawn 0 [.ref 0, .int (X.2 (ix (l3 + 1))), .int (X.2 (ix (l3 + 2))), .int (X.2 (ix (l3 + 3))), .null, .null] [] (zen σ) (fun v h' => zwp X d ML_law 1032 [.ref 1005, .ref 0, .ref 66, .int l3] (zpsh v []) h' Q) := by
  have H := o_drawn (X := X) (d := d - 1) (hd := by omega) (h := h) ((X.2 (ix (l3 + 1)))) ((X.2 (ix (l3 + 2)))) ((X.2 (ix (l3 + 3))))
  unfold zOp at H
  refine zwp_mono H (fun v h' he => ?_)
  obtain ⟨x, σ1, e1, e2, hw⟩ := he
  subst e1 e2
  show zwp X d ML_law 1032 [.ref 1005, .ref 0, .ref 66, .int l3] [.int x] (zen σ1) Q
  rw [b_L_law_1032 (hd := by omega)]
  refine ⟨hz1, hz2, hz3, zwp_mono hw (fun v' h2 he2 => ?_)⟩
  obtain ⟨e3, σ', e4, hR⟩ := he2
  subst e3 e4
  show zwp X d ML_law 1051 [.ref 1005, .ref 0, .ref 66, .int l3] [.int x, .int x] (zen σ') Q
  rw [b_L_law_1051, if_pos rfl]
  exact hN σ' hR
theorem ce_play (hd : 200 ≤ d) (hk : k ≤ 511) (h : Rel k σ) (hz1 : zin (l3 + 1) X.1 = true) (hN : ∀ σ' : zS, Rel (k + 1) σ' → zwp X d ML_law 18 [.ref 1005, .ref 0, .ref 66, .int (l3 + 6)] [] (zen σ') Q) : zwp X (d - 1) MX11_play 0 [.ref 0, .int (X.2 (ix (l3 + 1)))] [] (zen σ) (fun v h' => zwp X d ML_law 1065 [.ref 1005, .ref 0, .ref 66, .int l3] (zpsh v []) h' Q) := by
  have H := o_play (X := X) (d := d - 1) (hd := by omega) (h := h) ((X.2 (ix (l3 + 1))))
  unfold zOp at H
  refine zwp_mono H (fun v h' he => ?_)
  obtain ⟨x, σ1, e1, e2, hw⟩ := he
  subst e1 e2
  show zwp X d ML_law 1065 [.ref 1005, .ref 0, .ref 66, .int l3] [.int x] (zen σ1) Q
  rw [b_L_law_1065 (hd := by omega)]
  refine ⟨hz1, zwp_mono hw (fun v' h2 he2 => ?_)⟩
  obtain ⟨e3, σ', e4, hR⟩ := he2
  subst e3 e4
  show zwp X d ML_law 1074 [.ref 1005, .ref 0, .ref 66, .int l3] [.int x, .int x] (zen σ') Q
  rw [b_L_law_1074, if_pos rfl]
  exact hN σ' hR
theorem ce_interval (hd : 200 ≤ d) (hk : k ≤ 511) (h : Rel k σ)  (hN : ∀ σ' : zS, Rel (k + 1) σ' → zwp X d ML_law 18 [.ref 1005, .ref 0, .ref 66, .int (l3 + 6)] [] (zen σ') Q) : zwp X (d - 1) MX11_interval 0 [.ref 0] [] (zen σ) (fun v h' => zwp X d ML_law 1083 [.ref 1005, .ref 0, .ref 66, .int l3] (zpsh v []) h' Q) := by
  have H := o_interval (X := X) (d := d - 1) (hd := by omega) (h := h) 
  unfold zOp at H
  refine zwp_mono H (fun v h' he => ?_)
  obtain ⟨x, σ1, e1, e2, hw⟩ := he
  subst e1 e2
  show zwp X d ML_law 1083 [.ref 1005, .ref 0, .ref 66, .int l3] [.int x] (zen σ1) Q
  rw [b_L_law_1083 (hd := by omega)]
  refine zwp_mono hw (fun v' h2 he2 => ?_)
  obtain ⟨e3, σ', e4, hR⟩ := he2
  subst e3 e4
  show zwp X d ML_law 1087 [.ref 1005, .ref 0, .ref 66, .int l3] [.int x, .int x] (zen σ') Q
  rw [b_L_law_1087, if_pos rfl]
  exact hN σ' hR
theorem ce_goes (hd : 200 ≤ d) (hk : k ≤ 511) (h : Rel k σ) (hz1 : zin (l3 + 1) X.1 = true) (hN : ∀ σ' : zS, Rel (k + 1) σ' → zwp X d ML_law 18 [.ref 1005, .ref 0, .ref 66, .int (l3 + 6)] [] (zen σ') Q) : zwp X (d - 1) MX11_goes 0 [.ref 0, .int (X.2 (ix (l3 + 1)))] [] (zen σ) (fun v h' => zwp X d ML_law 1101 [.ref 1005, .ref 0, .ref 66, .int l3] (zpsh v []) h' Q) := by
  have H := o_goes (X := X) (d := d - 1) (hd := by omega) (h := h) ((X.2 (ix (l3 + 1))))
  unfold zOp at H
  refine zwp_mono H (fun v h' he => ?_)
  obtain ⟨x, σ1, e1, e2, hw⟩ := he
  subst e1 e2
  show zwp X d ML_law 1101 [.ref 1005, .ref 0, .ref 66, .int l3] [.int x] (zen σ1) Q
  rw [b_L_law_1101 (hd := by omega)]
  refine ⟨hz1, zwp_mono hw (fun v' h2 he2 => ?_)⟩
  obtain ⟨e3, σ', e4, hR⟩ := he2
  subst e3 e4
  show zwp X d ML_law 1110 [.ref 1005, .ref 0, .ref 66, .int l3] [.int x, .int x] (zen σ') Q
  rw [b_L_law_1110, if_pos rfl]
  exact hN σ' hR
theorem ce_salt (hd : 200 ≤ d) (hk : k ≤ 511) (h : Rel k σ) (hz1 : zin (l3 + 1) X.1 = true) (hN : ∀ σ' : zS, Rel (k + 1) σ' → zwp X d ML_law 18 [.ref 1005, .ref 0, .ref 66, .int (l3 + 6)] [] (zen σ') Q) : zwp X (d - 1) MX11_salt 0 [.ref 0, .int (X.2 (ix (l3 + 1))), .null] [] (zen σ) (fun v h' => zwp X d ML_law 1124 [.ref 1005, .ref 0, .ref 66, .int l3] (zpsh v []) h' Q) := by
  have H := o_salt (X := X) (d := d - 1) (hd := by omega) (h := h) ((X.2 (ix (l3 + 1))))
  unfold zOp at H
  refine zwp_mono H (fun v h' he => ?_)
  obtain ⟨x, σ1, e1, e2, hw⟩ := he
  subst e1 e2
  show zwp X d ML_law 1124 [.ref 1005, .ref 0, .ref 66, .int l3] [.int x] (zen σ1) Q
  rw [b_L_law_1124 (hd := by omega)]
  refine ⟨hz1, zwp_mono hw (fun v' h2 he2 => ?_)⟩
  obtain ⟨e3, σ', e4, hR⟩ := he2
  subst e3 e4
  show zwp X d ML_law 1133 [.ref 1005, .ref 0, .ref 66, .int l3] [.int x, .int x] (zen σ') Q
  rw [b_L_law_1133, if_pos rfl]
  exact hN σ' hR
theorem ce_led (hd : 200 ≤ d) (hk : k ≤ 511) (h : Rel k σ) (hz1 : zin (l3 + 1) X.1 = true) (hN : ∀ σ' : zS, Rel (k + 1) σ' → zwp X d ML_law 18 [.ref 1005, .ref 0, .ref 66, .int (l3 + 6)] [] (zen σ') Q) : zwp X (d - 1) MX11_led 0 [.ref 0, .int (X.2 (ix (l3 + 1)))] [] (zen σ) (fun v h' => zwp X d ML_law 1147 [.ref 1005, .ref 0, .ref 66, .int l3] (zpsh v []) h' Q) := by
  have H := o_led (X := X) (d := d - 1) (hd := by omega) (h := h) ((X.2 (ix (l3 + 1))))
  unfold zOp at H
  refine zwp_mono H (fun v h' he => ?_)
  obtain ⟨x, σ1, e1, e2, hw⟩ := he
  subst e1 e2
  show zwp X d ML_law 1147 [.ref 1005, .ref 0, .ref 66, .int l3] [.int x] (zen σ1) Q
  rw [b_L_law_1147 (hd := by omega)]
  refine ⟨hz1, zwp_mono hw (fun v' h2 he2 => ?_)⟩
  obtain ⟨e3, σ', e4, hR⟩ := he2
  subst e3 e4
  show zwp X d ML_law 1156 [.ref 1005, .ref 0, .ref 66, .int l3] [.int x, .int x] (zen σ') Q
  rw [b_L_law_1156, if_pos rfl]
  exact hN σ' hR
theorem ce_image (hd : 200 ≤ d) (hk : k ≤ 511) (h : Rel k σ)  (hN : ∀ σ' : zS, Rel (k + 1) σ' → zwp X d ML_law 18 [.ref 1005, .ref 0, .ref 66, .int (l3 + 6)] [] (zen σ') Q) : zwp X (d - 1) MX11_image 0 [.ref 0] [] (zen σ) (fun v h' => zwp X d ML_law 1165 [.ref 1005, .ref 0, .ref 66, .int l3] (zpsh v []) h' Q) := by
  have H := o_image (X := X) (d := d - 1) (hd := by omega) (h := h) 
  unfold zOp at H
  refine zwp_mono H (fun v h' he => ?_)
  obtain ⟨x, σ1, e1, e2, hw⟩ := he
  subst e1 e2
  show zwp X d ML_law 1165 [.ref 1005, .ref 0, .ref 66, .int l3] [.int x] (zen σ1) Q
  rw [b_L_law_1165 (hd := by omega)]
  refine zwp_mono hw (fun v' h2 he2 => ?_)
  obtain ⟨e3, σ', e4, hR⟩ := he2
  subst e3 e4
  show zwp X d ML_law 1169 [.ref 1005, .ref 0, .ref 66, .int l3] [.int x, .int x] (zen σ') Q
  rw [b_L_law_1169, if_pos rfl]
  exact hN σ' hR
theorem ce_back (hd : 200 ≤ d) (hk : k ≤ 511) (h : Rel k σ)  (hN : ∀ σ' : zS, Rel (k + 1) σ' → zwp X d ML_law 18 [.ref 1005, .ref 0, .ref 66, .int (l3 + 6)] [] (zen σ') Q) : zwp X (d - 1) MX11_back 0 [.ref 0] [] (zen σ) (fun v h' => zwp X d ML_law 1178 [.ref 1005, .ref 0, .ref 66, .int l3] (zpsh v []) h' Q) := by
  have H := o_back (X := X) (d := d - 1) (hd := by omega) (h := h) 
  unfold zOp at H
  refine zwp_mono H (fun v h' he => ?_)
  obtain ⟨x, σ1, e1, e2, hw⟩ := he
  subst e1 e2
  show zwp X d ML_law 1178 [.ref 1005, .ref 0, .ref 66, .int l3] [.int x] (zen σ1) Q
  rw [b_L_law_1178 (hd := by omega)]
  refine zwp_mono hw (fun v' h2 he2 => ?_)
  obtain ⟨e3, σ', e4, hR⟩ := he2
  subst e3 e4
  show zwp X d ML_law 1182 [.ref 1005, .ref 0, .ref 66, .int l3] [.int x, .int x] (zen σ') Q
  rw [b_L_law_1182, if_pos rfl]
  exact hN σ' hR
theorem ce_undo (hd : 200 ≤ d) (hk : k ≤ 511) (h : Rel k σ)  (hN : ∀ σ' : zS, Rel (k + 1) σ' → zwp X d ML_law 18 [.ref 1005, .ref 0, .ref 66, .int (l3 + 6)] [] (zen σ') Q) : zwp X (d - 1) MX11_undo 0 [.ref 0] [] (zen σ) (fun v h' => zwp X d ML_law 1191 [.ref 1005, .ref 0, .ref 66, .int l3] (zpsh v []) h' Q) := by
  have H := o_undo (X := X) (d := d - 1) (hd := by omega) (hk := by omega) (h := h) 
  unfold zOp at H
  refine zwp_mono H (fun v h' he => ?_)
  obtain ⟨x, σ1, e1, e2, hw⟩ := he
  subst e1 e2
  show zwp X d ML_law 1191 [.ref 1005, .ref 0, .ref 66, .int l3] [.int x] (zen σ1) Q
  rw [b_L_law_1191 (hd := by omega)]
  refine zwp_mono hw (fun v' h2 he2 => ?_)
  obtain ⟨e3, σ', e4, hR⟩ := he2
  subst e3 e4
  show zwp X d ML_law 1195 [.ref 1005, .ref 0, .ref 66, .int l3] [.int x, .int x] (zen σ') Q
  rw [b_L_law_1195, if_pos rfl]
  exact hN σ' hR
theorem ce_redo (hd : 200 ≤ d) (hk : k ≤ 511) (h : Rel k σ)  (hN : ∀ σ' : zS, Rel (k + 1) σ' → zwp X d ML_law 18 [.ref 1005, .ref 0, .ref 66, .int (l3 + 6)] [] (zen σ') Q) : zwp X (d - 1) MX11_redo 0 [.ref 0] [] (zen σ) (fun v h' => zwp X d ML_law 1204 [.ref 1005, .ref 0, .ref 66, .int l3] (zpsh v []) h' Q) := by
  have H := o_redo (X := X) (d := d - 1) (hd := by omega) (hk := by omega) (h := h) 
  unfold zOp at H
  refine zwp_mono H (fun v h' he => ?_)
  obtain ⟨x, σ1, e1, e2, hw⟩ := he
  subst e1 e2
  show zwp X d ML_law 1204 [.ref 1005, .ref 0, .ref 66, .int l3] [.int x] (zen σ1) Q
  rw [b_L_law_1204 (hd := by omega)]
  refine zwp_mono hw (fun v' h2 he2 => ?_)
  obtain ⟨e3, σ', e4, hR⟩ := he2
  subst e3 e4
  show zwp X d ML_law 1208 [.ref 1005, .ref 0, .ref 66, .int l3] [.int x, .int x] (zen σ') Q
  rw [b_L_law_1208, if_pos rfl]
  exact hN σ' hR
theorem ce_body (hd : 200 ≤ d) (hk : k ≤ 511) (h : Rel k σ) (hz1 : zin (l3 + 1) X.1 = true) (hN : ∀ σ' : zS, Rel (k + 1) σ' → zwp X d ML_law 18 [.ref 1005, .ref 0, .ref 66, .int (l3 + 6)] [] (zen σ') Q) : zwp X (d - 1) MX11_body 0 [.ref 0, .int (X.2 (ix (l3 + 1)))] [] (zen σ) (fun v h' => zwp X d ML_law 1222 [.ref 1005, .ref 0, .ref 66, .int l3] (zpsh v []) h' Q) := by
  have H := o_body (X := X) (d := d - 1) (hd := by omega) (h := h) ((X.2 (ix (l3 + 1))))
  unfold zOp at H
  refine zwp_mono H (fun v h' he => ?_)
  obtain ⟨x, σ1, e1, e2, hw⟩ := he
  subst e1 e2
  show zwp X d ML_law 1222 [.ref 1005, .ref 0, .ref 66, .int l3] [.int x] (zen σ1) Q
  rw [b_L_law_1222 (hd := by omega)]
  refine ⟨hz1, zwp_mono hw (fun v' h2 he2 => ?_)⟩
  obtain ⟨e3, σ', e4, hR⟩ := he2
  subst e3 e4
  show zwp X d ML_law 1231 [.ref 1005, .ref 0, .ref 66, .int l3] [.int x, .int x] (zen σ') Q
  rw [b_L_law_1231, if_pos rfl]
  exact hN σ' hR
theorem ce_act (hd : 200 ≤ d) (hk : k ≤ 511) (h : Rel k σ) (hz1 : zin (l3 + 1) X.1 = true) (hz2 : zin (l3 + 2) X.1 = true) (hz3 : zin (l3 + 3) X.1 = true) (hN : ∀ σ' : zS, Rel (k + 1) σ' → zwp X d ML_law 18 [.ref 1005, .ref 0, .ref 66, .int (l3 + 6)] [] (zen σ') Q) : zwp X (d - 1) MX11_act 0 [.ref 0, .int (X.2 (ix (l3 + 1))), .int (X.2 (ix (l3 + 2))), .int (X.2 (ix (l3 + 3)))] [] (zen σ) (fun v h' => zwp X d ML_law 1255 [.ref 1005, .ref 0, .ref 66, .int l3] (zpsh v []) h' Q) := by
  have H := o_act (X := X) (d := d - 1) (hd := by omega) (h := h) ((X.2 (ix (l3 + 1)))) ((X.2 (ix (l3 + 2)))) ((X.2 (ix (l3 + 3))))
  unfold zOp at H
  refine zwp_mono H (fun v h' he => ?_)
  obtain ⟨x, σ1, e1, e2, hw⟩ := he
  subst e1 e2
  show zwp X d ML_law 1255 [.ref 1005, .ref 0, .ref 66, .int l3] [.int x] (zen σ1) Q
  rw [b_L_law_1255 (hd := by omega)]
  refine ⟨hz1, hz2, hz3, zwp_mono hw (fun v' h2 he2 => ?_)⟩
  obtain ⟨e3, σ', e4, hR⟩ := he2
  subst e3 e4
  show zwp X d ML_law 1274 [.ref 1005, .ref 0, .ref 66, .int l3] [.int x, .int x] (zen σ') Q
  rw [b_L_law_1274, if_pos rfl]
  exact hN σ' hR
theorem ce_trace (hd : 200 ≤ d) (hk : k ≤ 511) (h : Rel k σ) (hz1 : zin (l3 + 1) X.1 = true) (hN : ∀ σ' : zS, Rel (k + 1) σ' → zwp X d ML_law 18 [.ref 1005, .ref 0, .ref 66, .int (l3 + 6)] [] (zen σ') Q) : zwp X (d - 1) MX11_trace 0 [.ref 0, .int (X.2 (ix (l3 + 1)))] [] (zen σ) (fun v h' => zwp X d ML_law 1288 [.ref 1005, .ref 0, .ref 66, .int l3] (zpsh v []) h' Q) := by
  have H := o_trace (X := X) (d := d - 1) (hd := by omega) (h := h) ((X.2 (ix (l3 + 1))))
  unfold zOp at H
  refine zwp_mono H (fun v h' he => ?_)
  obtain ⟨x, σ1, e1, e2, hw⟩ := he
  subst e1 e2
  show zwp X d ML_law 1288 [.ref 1005, .ref 0, .ref 66, .int l3] [.int x] (zen σ1) Q
  rw [b_L_law_1288 (hd := by omega)]
  refine ⟨hz1, zwp_mono hw (fun v' h2 he2 => ?_)⟩
  obtain ⟨e3, σ', e4, hR⟩ := he2
  subst e3 e4
  show zwp X d ML_law 1297 [.ref 1005, .ref 0, .ref 66, .int l3] [.int x, .int x] (zen σ') Q
  rw [b_L_law_1297, if_pos rfl]
  exact hN σ' hR
theorem ce_keep (hd : 200 ≤ d) (hk : k ≤ 511) (h : Rel k σ) (hz1 : zin (l3 + 1) X.1 = true) (hz2 : zin (l3 + 2) X.1 = true) (hN : ∀ σ' : zS, Rel (k + 1) σ' → zwp X d ML_law 18 [.ref 1005, .ref 0, .ref 66, .int (l3 + 6)] [] (zen σ') Q) : zwp X (d - 1) MX11_keep 0 [.ref 0, .int (X.2 (ix (l3 + 1))), .int (X.2 (ix (l3 + 2)))] [] (zen σ) (fun v h' => zwp X d ML_law 1316 [.ref 1005, .ref 0, .ref 66, .int l3] (zpsh v []) h' Q) := by
  have H := o_keep (X := X) (d := d - 1) (hd := by omega) (h := h) ((X.2 (ix (l3 + 1)))) ((X.2 (ix (l3 + 2))))
  unfold zOp at H
  refine zwp_mono H (fun v h' he => ?_)
  obtain ⟨x, σ1, e1, e2, hw⟩ := he
  subst e1 e2
  show zwp X d ML_law 1316 [.ref 1005, .ref 0, .ref 66, .int l3] [.int x] (zen σ1) Q
  rw [b_L_law_1316 (hd := by omega)]
  refine ⟨hz1, hz2, zwp_mono hw (fun v' h2 he2 => ?_)⟩
  obtain ⟨e3, σ', e4, hR⟩ := he2
  subst e3 e4
  show zwp X d ML_law 1330 [.ref 1005, .ref 0, .ref 66, .int l3] [.int x, .int x] (zen σ') Q
  rw [b_L_law_1330, if_pos rfl]
  exact hN σ' hR
theorem ce_row (hd : 200 ≤ d) (hk : k ≤ 511) (h : Rel k σ) (hz1 : zin (l3 + 1) X.1 = true) (hz2 : zin (l3 + 2) X.1 = true) (hz3 : zin (l3 + 3) X.1 = true) (hN : ∀ σ' : zS, Rel (k + 1) σ' → zwp X d ML_law 18 [.ref 1005, .ref 0, .ref 66, .int (l3 + 6)] [] (zen σ') Q) : zwp X (d - 1) MX11_row 0 [.ref 0, .int (X.2 (ix (l3 + 1))), .int (X.2 (ix (l3 + 2))), .int (X.2 (ix (l3 + 3)))] [] (zen σ) (fun v h' => zwp X d ML_law 1354 [.ref 1005, .ref 0, .ref 66, .int l3] (zpsh v []) h' Q) := by
  have H := o_row (X := X) (d := d - 1) (hd := by omega) (h := h) ((X.2 (ix (l3 + 1)))) ((X.2 (ix (l3 + 2)))) ((X.2 (ix (l3 + 3))))
  unfold zOp at H
  refine zwp_mono H (fun v h' he => ?_)
  obtain ⟨x, σ1, e1, e2, hw⟩ := he
  subst e1 e2
  show zwp X d ML_law 1354 [.ref 1005, .ref 0, .ref 66, .int l3] [.int x] (zen σ1) Q
  rw [b_L_law_1354 (hd := by omega)]
  refine ⟨hz1, hz2, hz3, zwp_mono hw (fun v' h2 he2 => ?_)⟩
  obtain ⟨e3, σ', e4, hR⟩ := he2
  subst e3 e4
  show zwp X d ML_law 1373 [.ref 1005, .ref 0, .ref 66, .int l3] [.int x, .int x] (zen σ') Q
  rw [b_L_law_1373, if_pos rfl]
  exact hN σ' hR
theorem ce_put (hd : 200 ≤ d) (hk : k ≤ 511) (h : Rel k σ) (hz1 : zin (l3 + 1) X.1 = true) (hz2 : zin (l3 + 2) X.1 = true) (hz3 : zin (l3 + 3) X.1 = true) (hz4 : zin (l3 + 4) X.1 = true) (hN : ∀ σ' : zS, Rel (k + 1) σ' → zwp X d ML_law 18 [.ref 1005, .ref 0, .ref 66, .int (l3 + 6)] [] (zen σ') Q) : zwp X (d - 1) MX11_put 0 [.ref 0, .int (X.2 (ix (l3 + 1))), .int (X.2 (ix (l3 + 2))), .long (((Int32.toInt64 (X.2 (ix (l3 + 3)))) <<< (Int32.toInt64 32 &&& 63)) ||| ((Int32.toInt64 (X.2 (ix (l3 + 4)))) &&& 4294967295)), .null, .null] [] (zen σ) (fun v h' => zwp X d ML_law 1412 [.ref 1005, .ref 0, .ref 66, .int l3] (zpsh v []) h' Q) := by
  have H := o_put (X := X) (d := d - 1) (hd := by omega) (h := h) ((X.2 (ix (l3 + 1)))) ((X.2 (ix (l3 + 2)))) ((((Int32.toInt64 (X.2 (ix (l3 + 3)))) <<< (Int32.toInt64 32 &&& 63)) ||| ((Int32.toInt64 (X.2 (ix (l3 + 4)))) &&& 4294967295)))
  unfold zOp at H
  refine zwp_mono H (fun v h' he => ?_)
  obtain ⟨x, σ1, e1, e2, hw⟩ := he
  subst e1 e2
  show zwp X d ML_law 1412 [.ref 1005, .ref 0, .ref 66, .int l3] [.int x] (zen σ1) Q
  rw [b_L_law_1412 (hd := by omega)]
  refine ⟨hz1, hz2, hz3, hz4, zwp_mono hw (fun v' h2 he2 => ?_)⟩
  obtain ⟨e3, σ', e4, hR⟩ := he2
  subst e3 e4
  show zwp X d ML_law 1446 [.ref 1005, .ref 0, .ref 66, .int l3] [.int x, .int x] (zen σ') Q
  rw [b_L_law_1446, if_pos rfl]
  exact hN σ' hR
theorem ce_element (hd : 200 ≤ d) (hk : k ≤ 511) (h : Rel k σ) (hz1 : zin (l3 + 1) X.1 = true) (hz2 : zin (l3 + 2) X.1 = true) (hN : ∀ σ' : zS, Rel (k + 1) σ' → zwp X d ML_law 18 [.ref 1005, .ref 0, .ref 66, .int (l3 + 6)] [] (zen σ') Q) : zwp X (d - 1) MX11_element 0 [.ref 0, .int (X.2 (ix (l3 + 1))), .int (X.2 (ix (l3 + 2)))] [] (zen σ) (fun v h' => zwp X d ML_law 1465 [.ref 1005, .ref 0, .ref 66, .int l3] (zpsh v []) h' Q) := by
  have H := o_element (X := X) (d := d - 1) (hd := by omega) (h := h) ((X.2 (ix (l3 + 1)))) ((X.2 (ix (l3 + 2))))
  unfold zOpL at H
  refine zwp_mono H (fun v h' he => ?_)
  obtain ⟨x, σ1, e1, e2, hw⟩ := he
  subst e1 e2
  show zwp X d ML_law 1465 [.ref 1005, .ref 0, .ref 66, .int l3] [.long x] (zen σ1) Q
  rw [b_L_law_1465 (hd := by omega)]
  refine ⟨hz1, hz2, zwp_mono hw (fun v' h2 he2 => ?_)⟩
  obtain ⟨e3, σ', e4, hR⟩ := he2
  subst e3 e4
  show zwp X d ML_law 1479 [.ref 1005, .ref 0, .ref 66, .int l3] [.long x, .long x] (zen σ') Q
  rw [b_L_law_1479, if_pos (lgc_self x)]
  exact hN σ' hR
theorem ce_shift (hd : 200 ≤ d) (hk : k ≤ 511) (h : Rel k σ) (hz1 : zin (l3 + 1) X.1 = true) (hz2 : zin (l3 + 2) X.1 = true) (hz3 : zin (l3 + 3) X.1 = true) (hz4 : zin (l3 + 4) X.1 = true) (hz5 : zin (l3 + 5) X.1 = true) (hN : ∀ σ' : zS, Rel (k + 1) σ' → zwp X d ML_law 18 [.ref 1005, .ref 0, .ref 66, .int (l3 + 6)] [] (zen σ') Q) : zwp X (d - 1) MX11_shift 0 [.ref 0, .int (X.2 (ix (l3 + 1))), .int (X.2 (ix (l3 + 2))), .int (X.2 (ix (l3 + 3))), .int (X.2 (ix (l3 + 4))), .int (X.2 (ix (l3 + 5))), .null, .null, .null] [] (zen σ) (fun v h' => zwp X d ML_law 1514 [.ref 1005, .ref 0, .ref 66, .int l3] (zpsh v []) h' Q) := by
  have H := o_shift (X := X) (d := d - 1) (hd := by omega) (h := h) ((X.2 (ix (l3 + 1)))) ((X.2 (ix (l3 + 2)))) ((X.2 (ix (l3 + 3)))) ((X.2 (ix (l3 + 4)))) ((X.2 (ix (l3 + 5))))
  unfold zOp at H
  refine zwp_mono H (fun v h' he => ?_)
  obtain ⟨x, σ1, e1, e2, hw⟩ := he
  subst e1 e2
  show zwp X d ML_law 1514 [.ref 1005, .ref 0, .ref 66, .int l3] [.int x] (zen σ1) Q
  rw [b_L_law_1514 (hd := by omega)]
  refine ⟨hz1, hz2, hz3, hz4, hz5, zwp_mono hw (fun v' h2 he2 => ?_)⟩
  obtain ⟨e3, σ', e4, hR⟩ := he2
  subst e3 e4
  show zwp X d ML_law 1543 [.ref 1005, .ref 0, .ref 66, .int l3] [.int x, .int x] (zen σ') Q
  rw [b_L_law_1543, if_pos rfl]
  exact hN σ' hR
theorem ce_taken (hd : 200 ≤ d) (hk : k ≤ 511) (h : Rel k σ) (hz1 : zin (l3 + 1) X.1 = true) (hz2 : zin (l3 + 2) X.1 = true) (hN : ∀ σ' : zS, Rel (k + 1) σ' → zwp X d ML_law 18 [.ref 1005, .ref 0, .ref 66, .int (l3 + 6)] [] (zen σ') Q) : zwp X (d - 1) MX11_taken 0 [.ref 0, .int (X.2 (ix (l3 + 1))), .int (X.2 (ix (l3 + 2))), .null] [] (zen σ) (fun v h' => zwp X d ML_law 1562 [.ref 1005, .ref 0, .ref 66, .int l3] (zpsh v []) h' Q) := by
  have H := o_taken (X := X) (d := d - 1) (hd := by omega) (h := h) ((X.2 (ix (l3 + 1)))) ((X.2 (ix (l3 + 2))))
  unfold zOp at H
  refine zwp_mono H (fun v h' he => ?_)
  obtain ⟨x, σ1, e1, e2, hw⟩ := he
  subst e1 e2
  show zwp X d ML_law 1562 [.ref 1005, .ref 0, .ref 66, .int l3] [.int x] (zen σ1) Q
  rw [b_L_law_1562 (hd := by omega)]
  refine ⟨hz1, hz2, zwp_mono hw (fun v' h2 he2 => ?_)⟩
  obtain ⟨e3, σ', e4, hR⟩ := he2
  subst e3 e4
  show zwp X d ML_law 1576 [.ref 1005, .ref 0, .ref 66, .int l3] [.int x, .int x] (zen σ') Q
  rw [b_L_law_1576, if_pos rfl]
  exact hN σ' hR
theorem ce_count (hd : 200 ≤ d) (hk : k ≤ 511) (h : Rel k σ) (hz1 : zin (l3 + 1) X.1 = true) (hN : ∀ σ' : zS, Rel (k + 1) σ' → zwp X d ML_law 18 [.ref 1005, .ref 0, .ref 66, .int (l3 + 6)] [] (zen σ') Q) : zwp X (d - 1) MX11_count 0 [.ref 0, .int (X.2 (ix (l3 + 1)))] [] (zen σ) (fun v h' => zwp X d ML_law 1590 [.ref 1005, .ref 0, .ref 66, .int l3] (zpsh v []) h' Q) := by
  have H := o_count (X := X) (d := d - 1) (hd := by omega) (h := h) ((X.2 (ix (l3 + 1))))
  unfold zOp at H
  refine zwp_mono H (fun v h' he => ?_)
  obtain ⟨x, σ1, e1, e2, hw⟩ := he
  subst e1 e2
  show zwp X d ML_law 1590 [.ref 1005, .ref 0, .ref 66, .int l3] [.int x] (zen σ1) Q
  rw [b_L_law_1590 (hd := by omega)]
  refine ⟨hz1, zwp_mono hw (fun v' h2 he2 => ?_)⟩
  obtain ⟨e3, σ', e4, hR⟩ := he2
  subst e3 e4
  show zwp X d ML_law 1599 [.ref 1005, .ref 0, .ref 66, .int l3] [.int x, .int x] (zen σ') Q
  rw [b_L_law_1599, if_pos rfl]
  exact hN σ' hR
theorem w_call (hd : 200 ≤ d) (hk : k ≤ 511) (h : Rel k σ) (hc : ¬ (Int32.ofNat X.1) - 6 < l3) (hz0 : zin l3 X.1 = true) (hz1 : zin (l3 + 1) X.1 = true) (hz2 : zin (l3 + 2) X.1 = true) (hz3 : zin (l3 + 3) X.1 = true) (hz4 : zin (l3 + 4) X.1 = true) (hz5 : zin (l3 + 5) X.1 = true) (hN : ∀ σ' : zS, Rel (k + 1) σ' → zwp X d ML_law 18 [.ref 1005, .ref 0, .ref 66, .int (l3 + 6)] [] (zen σ') Q) : zwp X d ML_law 18 [.ref 1005, .ref 0, .ref 66, .int l3] [] (zen σ) Q := by
  rw [b_L_law_18 (hd := by omega), if_neg hc]
  refine ⟨hz0, ?_⟩
  by_cases c0 : X.2 (ix l3) &&& 63 = 0
  · rw [if_pos c0]
    exact ⟨hz1, hz2, ce_hands hd hk h hz1 hz2 hN⟩
  rw [if_neg c0]
  by_cases c1 : X.2 (ix l3) &&& 63 = 1
  · rw [if_pos c1]
    exact ⟨hz1, hz2, hz3, ce_rows hd hk h hz1 hz2 hz3 hN⟩
  rw [if_neg c1]
  by_cases c2 : X.2 (ix l3) &&& 63 = 2
  · rw [if_pos c2]
    exact ⟨hz1, hz2, ce_turn hd hk h hz1 hz2 hN⟩
  rw [if_neg c2]
  by_cases c3 : X.2 (ix l3) &&& 63 = 3
  · rw [if_pos c3]
    exact ⟨hz1, hz2, hz3, ce_mend hd hk h hz1 hz2 hz3 hN⟩
  rw [if_neg c3]
  by_cases c4 : X.2 (ix l3) &&& 63 = 4
  · rw [if_pos c4]
    exact ⟨hz1, hz2, ce_of hd hk h hz1 hz2 hN⟩
  rw [if_neg c4]
  by_cases c5 : X.2 (ix l3) &&& 63 = 5
  · rw [if_pos c5]
    exact ⟨hz1, ce_feed hd hk h hz1 hN⟩
  rw [if_neg c5]
  by_cases c6 : X.2 (ix l3) &&& 63 = 6
  · rw [if_pos c6]
    exact ce_law hd hk h  hN
  rw [if_neg c6]
  by_cases c7 : X.2 (ix l3) &&& 63 = 7
  · rw [if_pos c7]
    exact ⟨hz1, hz2, ce_gives hd hk h hz1 hz2 hN⟩
  rw [if_neg c7]
  by_cases c8 : X.2 (ix l3) &&& 63 = 8
  · rw [if_pos c8]
    exact ⟨hz1, hz2, ce_ice hd hk h hz1 hz2 hN⟩
  rw [if_neg c8]
  by_cases c9 : X.2 (ix l3) &&& 63 = 9
  · rw [if_pos c9]
    exact ⟨hz1, hz2, ce_cross hd hk h hz1 hz2 hN⟩
  rw [if_neg c9]
  by_cases c10 : X.2 (ix l3) &&& 63 = 10
  · rw [if_pos c10]
    exact ⟨hz1, hz2, ce_heaviest hd hk h hz1 hz2 hN⟩
  rw [if_neg c10]
  by_cases c11 : X.2 (ix l3) &&& 63 = 11
  · rw [if_pos c11]
    exact ⟨hz1, hz2, ce_waits hd hk h hz1 hz2 hN⟩
  rw [if_neg c11]
  by_cases c12 : X.2 (ix l3) &&& 63 = 12
  · rw [if_pos c12]
    exact ⟨hz1, hz2, ce_first hd hk h hz1 hz2 hN⟩
  rw [if_neg c12]
  by_cases c13 : X.2 (ix l3) &&& 63 = 13
  · rw [if_pos c13]
    exact ⟨hz1, ce_order hd hk h hz1 hN⟩
  rw [if_neg c13]
  by_cases c14 : X.2 (ix l3) &&& 63 = 14
  · rw [if_pos c14]
    exact ⟨hz1, hz2, ce_fewest hd hk h hz1 hz2 hN⟩
  rw [if_neg c14]
  by_cases c15 : X.2 (ix l3) &&& 63 = 15
  · rw [if_pos c15]
    exact ⟨hz1, hz2, ce_spare hd hk h hz1 hz2 hN⟩
  rw [if_neg c15]
  by_cases c16 : X.2 (ix l3) &&& 63 = 16
  · rw [if_pos c16]
    exact ⟨hz1, ce_harm hd hk h hz1 hN⟩
  rw [if_neg c16]
  by_cases c17 : X.2 (ix l3) &&& 63 = 17
  · rw [if_pos c17]
    exact ⟨hz1, hz2, hz3, ce_seat hd hk h hz1 hz2 hz3 hN⟩
  rw [if_neg c17]
  by_cases c18 : X.2 (ix l3) &&& 63 = 18
  · rw [if_pos c18]
    exact ⟨hz1, ce_encore hd hk h hz1 hN⟩
  rw [if_neg c18]
  by_cases c19 : X.2 (ix l3) &&& 63 = 19
  · rw [if_pos c19]
    exact ⟨hz1, hz2, ce_claque hd hk h hz1 hz2 hN⟩
  rw [if_neg c19]
  by_cases c20 : X.2 (ix l3) &&& 63 = 20
  · rw [if_pos c20]
    exact ⟨hz1, ce_judge hd hk h hz1 hN⟩
  rw [if_neg c20]
  by_cases c21 : X.2 (ix l3) &&& 63 = 21
  · rw [if_pos c21]
    exact ⟨hz1, hz2, ce_which hd hk h hz1 hz2 hN⟩
  rw [if_neg c21]
  by_cases c22 : X.2 (ix l3) &&& 63 = 22
  · rw [if_pos c22]
    exact ⟨hz1, hz2, hz3, ce_good hd hk h hz1 hz2 hz3 hN⟩
  rw [if_neg c22]
  by_cases c23 : X.2 (ix l3) &&& 63 = 23
  · rw [if_pos c23]
    exact ⟨hz1, hz2, ce_orders hd hk h hz1 hz2 hN⟩
  rw [if_neg c23]
  by_cases c24 : X.2 (ix l3) &&& 63 = 24
  · rw [if_pos c24]
    exact ⟨hz1, ce_warm hd hk h hz1 hN⟩
  rw [if_neg c24]
  by_cases c25 : X.2 (ix l3) &&& 63 = 25
  · rw [if_pos c25]
    exact ⟨hz1, hz2, hz3, ce_drawn hd hk h hz1 hz2 hz3 hN⟩
  rw [if_neg c25]
  by_cases c26 : X.2 (ix l3) &&& 63 = 26
  · rw [if_pos c26]
    exact ⟨hz1, ce_play hd hk h hz1 hN⟩
  rw [if_neg c26]
  by_cases c27 : X.2 (ix l3) &&& 63 = 27
  · rw [if_pos c27]
    exact ce_interval hd hk h  hN
  rw [if_neg c27]
  by_cases c28 : X.2 (ix l3) &&& 63 = 28
  · rw [if_pos c28]
    exact ⟨hz1, ce_goes hd hk h hz1 hN⟩
  rw [if_neg c28]
  by_cases c29 : X.2 (ix l3) &&& 63 = 29
  · rw [if_pos c29]
    exact ⟨hz1, ce_salt hd hk h hz1 hN⟩
  rw [if_neg c29]
  by_cases c30 : X.2 (ix l3) &&& 63 = 30
  · rw [if_pos c30]
    exact ⟨hz1, ce_led hd hk h hz1 hN⟩
  rw [if_neg c30]
  by_cases c31 : X.2 (ix l3) &&& 63 = 31
  · rw [if_pos c31]
    exact ce_image hd hk h  hN
  rw [if_neg c31]
  by_cases c32 : X.2 (ix l3) &&& 63 = 32
  · rw [if_pos c32]
    exact ce_back hd hk h  hN
  rw [if_neg c32]
  by_cases c33 : X.2 (ix l3) &&& 63 = 33
  · rw [if_pos c33]
    exact ce_undo hd hk h  hN
  rw [if_neg c33]
  by_cases c34 : X.2 (ix l3) &&& 63 = 34
  · rw [if_pos c34]
    exact ce_redo hd hk h  hN
  rw [if_neg c34]
  by_cases c35 : X.2 (ix l3) &&& 63 = 35
  · rw [if_pos c35]
    exact ⟨hz1, ce_body hd hk h hz1 hN⟩
  rw [if_neg c35]
  by_cases c36 : X.2 (ix l3) &&& 63 = 36
  · rw [if_pos c36]
    exact ⟨hz1, hz2, hz3, ce_act hd hk h hz1 hz2 hz3 hN⟩
  rw [if_neg c36]
  by_cases c37 : X.2 (ix l3) &&& 63 = 37
  · rw [if_pos c37]
    exact ⟨hz1, ce_trace hd hk h hz1 hN⟩
  rw [if_neg c37]
  by_cases c38 : X.2 (ix l3) &&& 63 = 38
  · rw [if_pos c38]
    exact ⟨hz1, hz2, ce_keep hd hk h hz1 hz2 hN⟩
  rw [if_neg c38]
  by_cases c39 : X.2 (ix l3) &&& 63 = 39
  · rw [if_pos c39]
    exact ⟨hz1, hz2, hz3, ce_row hd hk h hz1 hz2 hz3 hN⟩
  rw [if_neg c39]
  by_cases c40 : X.2 (ix l3) &&& 63 = 40
  · rw [if_pos c40]
    exact ⟨hz1, hz2, hz3, hz4, ce_put hd hk h hz1 hz2 hz3 hz4 hN⟩
  rw [if_neg c40]
  by_cases c41 : X.2 (ix l3) &&& 63 = 41
  · rw [if_pos c41]
    exact ⟨hz1, hz2, ce_element hd hk h hz1 hz2 hN⟩
  rw [if_neg c41]
  by_cases c42 : X.2 (ix l3) &&& 63 = 42
  · rw [if_pos c42]
    exact ⟨hz1, hz2, hz3, hz4, hz5, ce_shift hd hk h hz1 hz2 hz3 hz4 hz5 hN⟩
  rw [if_neg c42]
  by_cases c43 : X.2 (ix l3) &&& 63 = 43
  · rw [if_pos c43]
    exact ⟨hz1, hz2, ce_taken hd hk h hz1 hz2 hN⟩
  rw [if_neg c43]
  by_cases c44 : X.2 (ix l3) &&& 63 = 44
  · rw [if_pos c44]
    exact ⟨hz1, ce_count hd hk h hz1 hN⟩
  rw [if_neg c44]
  obtain ⟨nr, nt, N, V, I, h⟩ := h
  exact hN σ h.next
theorem lp_law (hd : 200 ≤ d) (hX : X.1 ≤ 3072) (hQ : ∀ σ' : zS, Q (some (.int 1)) (zen σ')) : ∀ (m k : Nat) (σ : zS) (l3 : Int32), Rel k σ → l3.toInt = 6 * (k : Int) → 6 * k + 6 * m ≤ X.1 → X.1 < 6 * k + 6 * m + 6 → zwp X d ML_law 18 [.ref 1005, .ref 0, .ref 66, .int l3] [] (zen σ) Q := by
  have e0 := l0
  have e1 := l1
  have e2 : (2 : Int32).toInt = 2 := rfl
  have e3 : (3 : Int32).toInt = 3 := rfl
  have e4 : (4 : Int32).toInt = 4 := rfl
  have e5 : (5 : Int32).toInt = 5 := rfl
  have e6 : (6 : Int32).toInt = 6 := rfl
  have eX : (Int32.ofNat X.1).toInt = X.1 := Int32.toInt_ofNat_of_lt (by omega)
  have eY : ((Int32.ofNat X.1) - 6).toInt = (X.1 : Int) - 6 := by rw [t_sub (by rw [eX, e6]; omega), eX, e6]
  intro m
  induction m with
  | zero =>
    intro k σ l3 h hl h1 h2
    rw [b_L_law_18 (hd := by omega), if_pos (il.mpr (by omega))]
    exact hQ σ
  | succ m ih =>
    intro k σ l3 h hl h1 h2
    have a1 : (l3 + 1).toInt = 6 * (k : Int) + 1 := by rw [t_add (by omega), hl, e1]
    have a2 : (l3 + 2).toInt = 6 * (k : Int) + 2 := by rw [t_add (by omega), hl, e2]
    have a3 : (l3 + 3).toInt = 6 * (k : Int) + 3 := by rw [t_add (by omega), hl, e3]
    have a4 : (l3 + 4).toInt = 6 * (k : Int) + 4 := by rw [t_add (by omega), hl, e4]
    have a5 : (l3 + 5).toInt = 6 * (k : Int) + 5 := by rw [t_add (by omega), hl, e5]
    have a6 : (l3 + 6).toInt = 6 * (k : Int) + 6 := by rw [t_add (by omega), hl, e6]
    refine w_call hd (by omega) h (fun y => by have := il.mp y; omega) (zin_of (by omega) (by omega)) (zin_of (by omega) (by omega)) (zin_of (by omega) (by omega)) (zin_of (by omega) (by omega)) (zin_of (by omega) (by omega)) (zin_of (by omega) (by omega)) (fun σ' hR => ?_)
    exact ih (k + 1) σ' (l3 + 6) hR (by rw [a6]; omega) (by omega) (by omega)
/-- the size of a heap of that shape -/
theorem zfl_ln2 (f g : Nat → Int32) : ∀ (fs : List (Option Nat)) (j i : Nat), (zfl f j fs).length = (zfl g i fs).length := by
  intro fs
  induction fs with
  | nil => intro j i; rfl
  | cons x r ih =>
    intro j i
    cases x with
    | none => show (zfl f (j + 1) r).length + 1 = (zfl g (i + 1) r).length + 1; rw [ih (j + 1) (i + 1)]
    | some q => show (zfl f (j + 1) r).length + 1 = (zfl g (i + 1) r).length + 1; rw [ih (j + 1) (i + 1)]
theorem zone_mk (p : zSp) (f f' : Nat → Int32) (g g' : Nat → Int64) : zone (zmk p f g) = zone (zmk p f' g') := by
  cases p with
  | inl q => exact zfl_ln2 f f' q.2 0 0
  | inr q => rfl
theorem zsz_zen (σ : zS) : zsz (zen σ) ≤ 100000 := by
  have e : zsz (zen σ) = zsz (zen (fun _ _ => 0, fun _ _ => 0)) := by
    unfold zsz zen
    rw [List.map_map, List.map_map]
    congr 1
  rw [e]
  decide +kernel
end LOOP
