/-! the law is kept -/
def zfin0 : Bool := match zadv 4000 300 ML_law 10 0 [.ref 1005, .null, .null, .null] [] [] with
  | some (pc, ls, st, h) => decide (pc = 18) && decide (ls = [.ref 1005, .ref 0, .ref 66, .int 0]) && decide (st = []) && shp h && relB (zext0 h)
  | none => false
set_option maxRecDepth 100000 in
theorem zfin0_ok : zfin0 = true := by decide +kernel
theorem z_law_ok : zLawOk := by
  intro L xs hL
  have h := zfin0_ok
  unfold zfin0 at h
  cases he : zadv 4000 300 ML_law 10 0 [.ref 1005, .null, .null, .null] [] [] with
  | none => rw [he] at h; cases h
  | some q =>
    obtain ⟨pc, ls, st, h1⟩ := q
    rw [he] at h
    dsimp only at h
    rw [Bool.and_eq_true, Bool.and_eq_true, Bool.and_eq_true, Bool.and_eq_true] at h
    obtain ⟨⟨⟨⟨a1, a2⟩, a3⟩, a4⟩, a5⟩ := h
    have a1 := of_decide_eq_true a1
    have a2 := of_decide_eq_true a2
    have a3 := of_decide_eq_true a3
    obtain ⟨b1, b2⟩ := adv_X (X := (L, xs)) (n := 4000) (d := 300) (by decide) 10 0 _ _ _ pc ls st h1 he
    have hz := shp_zen a4 (b1 (fun k e q => by rw [List.getElem?_nil] at q; cases q))
    refine b2 _ ?_
    rw [a1, a2, a3, hz]
    refine lp_law (X := (L, xs)) (by decide) hL (fun σ' => ⟨rfl, by rw [zen_len]; decide, zsz_zen σ'⟩) (L / 6) 0 (zext0 h1) 0 (relB_rel a5) l0 ?_ ?_
    · show 6 * 0 + 6 * (L / 6) ≤ L; omega
    · show L < 6 * 0 + 6 * (L / 6) + 6; omega
