/-! numbers of mend() -/
def updN (N : Nat → Nat → Int) (w i : Nat) (v : Int) : Nat → Nat → Int := fun w' i' => if w' = w ∧ i' = i then v else N w' i'
theorem updN_at (N : Nat → Nat → Int) (w i : Nat) (v : Int) : updN N w i v w i = v := by unfold updN; rw [if_pos ⟨rfl, rfl⟩]
theorem updN_ne {N : Nat → Nat → Int} {w i w' i' : Nat} {v : Int} (h : ¬ (w' = w ∧ i' = i)) : updN N w i v w' i' = N w' i' := by unfold updN; rw [if_neg h]
theorem updN_back (N : Nat → Nat → Int) (w i : Nat) (v : Int) : updN (updN N w i v) w i (N w i) = N := by
  funext w' i'
  by_cases h : w' = w ∧ i' = i
  · rw [h.1, h.2, updN_at]
  · rw [updN_ne h, updN_ne h]
theorem updN_updN (N : Nat → Nat → Int) (w i : Nat) (v u : Int) : updN (updN N w i v) w i u = updN N w i u := by
  funext w' i'
  by_cases h : w' = w ∧ i' = i
  · rw [h.1, h.2, updN_at, updN_at]
  · rw [updN_ne h, updN_ne h, updN_ne h]
theorem updN_self (N : Nat → Nat → Int) (w i : Nat) : updN N w i (N w i) = N := by
  funext w' i'
  by_cases h : w' = w ∧ i' = i
  · rw [h.1, h.2, updN_at]
  · rw [updN_ne h]
theorem zmean_lt {nr nt w i : Nat} {N : Nat → Nat → Int} (hR : HallR nr nt N) (h : zmean nr nt w i) : i < 8 ∧ w < 10 := by
  have := hR.1
  have := hR.2.1
  unfold zmean at h
  omega
theorem HallR.upd {nr nt w i : Nat} {N : Nat → Nat → Int} {v : Int} (hR : HallR nr nt N) (h1 : zloB w ≤ v) (h2 : v ≤ zhiB w) : HallR nr nt (updN N w i v) := by
  refine ⟨hR.1, hR.2.1, fun w' i' hm => ?_⟩
  by_cases h : w' = w ∧ i' = i
  · rw [h.1, h.2, updN_at]; exact ⟨h1, h2⟩
  · rw [updN_ne h]; exact hR.2.2 w' i' hm
theorem HallC.upd {σ : zS} {nr nt w i : Nat} {N : Nat → Nat → Int} {v : Int32} (h : HallC σ nr nt N) (hR : HallR nr nt N) (hm : zmean nr nt w i) : HallC (si σ 2 (8 * w + i) v) nr nt (updN N w i v.toInt) := by
  have hl := zmean_lt hR hm
  refine ⟨h.1, h.2.1, fun w' i' hm' => ?_⟩
  have hl' := zmean_lt hR hm'
  by_cases e : w' = w ∧ i' = i
  · rw [e.1, e.2, updN_at, gi_si]
  · rw [updN_ne e, gi_si_j (by omega)]; exact h.2.2 w' i' hm'
theorem HallM_lay0 {σ : zS} {nr nt : Nat} {N : Nat → Nat → Int} {v : Int32} {i : Nat} (h : HallM σ nr nt N) : HallM (si σ 67 i v) nr nt (updN N 0 i v.toInt) := by
  have h12 := h.2.2
  refine ⟨h.1, h.2.1, fun i' hi' => ⟨?_, ?_, ?_, ?_⟩, fun i' hi' => ⟨?_, ?_⟩, ?_, ?_, ?_, ?_⟩
  · by_cases e : i' = i
    · rw [e, gi_si, updN_at]
    · rw [gi_si_j e, updN_ne (by omega)]; exact (h12.1 i' hi').1
  · rw [updN_ne (by omega)]; exact (h12.1 i' hi').2.1
  · rw [updN_ne (by omega)]; exact (h12.1 i' hi').2.2.1
  · rw [updN_ne (by omega)]; exact (h12.1 i' hi').2.2.2
  · rw [updN_ne (by omega)]; exact (h12.2.1 i' hi').1
  · rw [updN_ne (by omega)]; exact (h12.2.1 i' hi').2
  · rw [updN_ne (by omega)]; exact h12.2.2.1
  · rw [updN_ne (by omega)]; exact h12.2.2.2.1
  · rw [updN_ne (by omega)]; exact h12.2.2.2.2.1
  · rw [updN_ne (by omega)]; exact h12.2.2.2.2.2
theorem HallM_lay1 {σ : zS} {nr nt : Nat} {N : Nat → Nat → Int} {v : Int32} {i : Nat} (h : HallM σ nr nt N) : HallM (si σ 68 i v) nr nt (updN N 1 i v.toInt) := by
  have h12 := h.2.2
  refine ⟨h.1, h.2.1, fun i' hi' => ⟨?_, ?_, ?_, ?_⟩, fun i' hi' => ⟨?_, ?_⟩, ?_, ?_, ?_, ?_⟩
  · rw [updN_ne (by omega)]; exact (h12.1 i' hi').1
  · by_cases e : i' = i
    · rw [e, gi_si, updN_at]
    · rw [gi_si_j e, updN_ne (by omega)]; exact (h12.1 i' hi').2.1
  · rw [updN_ne (by omega)]; exact (h12.1 i' hi').2.2.1
  · rw [updN_ne (by omega)]; exact (h12.1 i' hi').2.2.2
  · rw [updN_ne (by omega)]; exact (h12.2.1 i' hi').1
  · rw [updN_ne (by omega)]; exact (h12.2.1 i' hi').2
  · rw [updN_ne (by omega)]; exact h12.2.2.1
  · rw [updN_ne (by omega)]; exact h12.2.2.2.1
  · rw [updN_ne (by omega)]; exact h12.2.2.2.2.1
  · rw [updN_ne (by omega)]; exact h12.2.2.2.2.2
theorem HallM_lay2 {σ : zS} {nr nt : Nat} {N : Nat → Nat → Int} {v : Int32} {i : Nat} (h : HallM σ nr nt N) : HallM (si σ 69 i v) nr nt (updN N 2 i v.toInt) := by
  have h12 := h.2.2
  refine ⟨h.1, h.2.1, fun i' hi' => ⟨?_, ?_, ?_, ?_⟩, fun i' hi' => ⟨?_, ?_⟩, ?_, ?_, ?_, ?_⟩
  · rw [updN_ne (by omega)]; exact (h12.1 i' hi').1
  · rw [updN_ne (by omega)]; exact (h12.1 i' hi').2.1
  · by_cases e : i' = i
    · rw [e, gi_si, updN_at]
    · rw [gi_si_j e, updN_ne (by omega)]; exact (h12.1 i' hi').2.2.1
  · rw [updN_ne (by omega)]; exact (h12.1 i' hi').2.2.2
  · rw [updN_ne (by omega)]; exact (h12.2.1 i' hi').1
  · rw [updN_ne (by omega)]; exact (h12.2.1 i' hi').2
  · rw [updN_ne (by omega)]; exact h12.2.2.1
  · rw [updN_ne (by omega)]; exact h12.2.2.2.1
  · rw [updN_ne (by omega)]; exact h12.2.2.2.2.1
  · rw [updN_ne (by omega)]; exact h12.2.2.2.2.2
theorem HallM_lay3 {σ : zS} {nr nt : Nat} {N : Nat → Nat → Int} {v : Int32} {i : Nat} (h : HallM σ nr nt N) : HallM (si σ 70 i v) nr nt (updN N 3 i v.toInt) := by
  have h12 := h.2.2
  refine ⟨h.1, h.2.1, fun i' hi' => ⟨?_, ?_, ?_, ?_⟩, fun i' hi' => ⟨?_, ?_⟩, ?_, ?_, ?_, ?_⟩
  · rw [updN_ne (by omega)]; exact (h12.1 i' hi').1
  · rw [updN_ne (by omega)]; exact (h12.1 i' hi').2.1
  · rw [updN_ne (by omega)]; exact (h12.1 i' hi').2.2.1
  · by_cases e : i' = i
    · rw [e, gi_si, updN_at]
    · rw [gi_si_j e, updN_ne (by omega)]; exact (h12.1 i' hi').2.2.2
  · rw [updN_ne (by omega)]; exact (h12.2.1 i' hi').1
  · rw [updN_ne (by omega)]; exact (h12.2.1 i' hi').2
  · rw [updN_ne (by omega)]; exact h12.2.2.1
  · rw [updN_ne (by omega)]; exact h12.2.2.2.1
  · rw [updN_ne (by omega)]; exact h12.2.2.2.2.1
  · rw [updN_ne (by omega)]; exact h12.2.2.2.2.2
theorem HallM_lay4 {σ : zS} {nr nt : Nat} {N : Nat → Nat → Int} {v : Int32} {i : Nat} (h : HallM σ nr nt N) : HallM (si σ 71 i v) nr nt (updN N 4 i v.toInt) := by
  have h12 := h.2.2
  refine ⟨h.1, h.2.1, fun i' hi' => ⟨?_, ?_, ?_, ?_⟩, fun i' hi' => ⟨?_, ?_⟩, ?_, ?_, ?_, ?_⟩
  · rw [updN_ne (by omega)]; exact (h12.1 i' hi').1
  · rw [updN_ne (by omega)]; exact (h12.1 i' hi').2.1
  · rw [updN_ne (by omega)]; exact (h12.1 i' hi').2.2.1
  · rw [updN_ne (by omega)]; exact (h12.1 i' hi').2.2.2
  · by_cases e : i' = i
    · rw [e, gi_si, updN_at]
    · rw [gi_si_j e, updN_ne (by omega)]; exact (h12.2.1 i' hi').1
  · rw [updN_ne (by omega)]; exact (h12.2.1 i' hi').2
  · rw [updN_ne (by omega)]; exact h12.2.2.1
  · rw [updN_ne (by omega)]; exact h12.2.2.2.1
  · rw [updN_ne (by omega)]; exact h12.2.2.2.2.1
  · rw [updN_ne (by omega)]; exact h12.2.2.2.2.2
theorem HallM_lay5 {σ : zS} {nr nt : Nat} {N : Nat → Nat → Int} {v : Int32} {i : Nat} (h : HallM σ nr nt N) : HallM (si σ 72 i v) nr nt (updN N 5 i v.toInt) := by
  have h12 := h.2.2
  refine ⟨h.1, h.2.1, fun i' hi' => ⟨?_, ?_, ?_, ?_⟩, fun i' hi' => ⟨?_, ?_⟩, ?_, ?_, ?_, ?_⟩
  · rw [updN_ne (by omega)]; exact (h12.1 i' hi').1
  · rw [updN_ne (by omega)]; exact (h12.1 i' hi').2.1
  · rw [updN_ne (by omega)]; exact (h12.1 i' hi').2.2.1
  · rw [updN_ne (by omega)]; exact (h12.1 i' hi').2.2.2
  · rw [updN_ne (by omega)]; exact (h12.2.1 i' hi').1
  · by_cases e : i' = i
    · rw [e, gi_si, updN_at]
    · rw [gi_si_j e, updN_ne (by omega)]; exact (h12.2.1 i' hi').2
  · rw [updN_ne (by omega)]; exact h12.2.2.1
  · rw [updN_ne (by omega)]; exact h12.2.2.2.1
  · rw [updN_ne (by omega)]; exact h12.2.2.2.2.1
  · rw [updN_ne (by omega)]; exact h12.2.2.2.2.2
theorem HallM_lay6 {σ : zS} {nr nt : Nat} {N : Nat → Nat → Int} {v : Int32} (h : HallM σ nr nt N) : HallM (si σ 66 9 v) nr nt (updN N 6 0 v.toInt) := by
  have h12 := h.2.2
  refine ⟨h.1, h.2.1, fun i' hi' => ⟨?_, ?_, ?_, ?_⟩, fun i' hi' => ⟨?_, ?_⟩, ?_, ?_, ?_, ?_⟩
  · rw [updN_ne (by omega)]; exact (h12.1 i' hi').1
  · rw [updN_ne (by omega)]; exact (h12.1 i' hi').2.1
  · rw [updN_ne (by omega)]; exact (h12.1 i' hi').2.2.1
  · rw [updN_ne (by omega)]; exact (h12.1 i' hi').2.2.2
  · rw [updN_ne (by omega)]; exact (h12.2.1 i' hi').1
  · rw [updN_ne (by omega)]; exact (h12.2.1 i' hi').2
  · rw [gi_si, updN_at]
  · rw [updN_ne (by omega)]; exact h12.2.2.2.1
  · rw [updN_ne (by omega)]; exact h12.2.2.2.2.1
  · rw [updN_ne (by omega)]; exact h12.2.2.2.2.2
theorem HallM_lay7 {σ : zS} {nr nt : Nat} {N : Nat → Nat → Int} {v : Int32} (h : HallM σ nr nt N) : HallM (si σ 66 10 v) nr nt (updN N 7 0 v.toInt) := by
  have h12 := h.2.2
  refine ⟨h.1, h.2.1, fun i' hi' => ⟨?_, ?_, ?_, ?_⟩, fun i' hi' => ⟨?_, ?_⟩, ?_, ?_, ?_, ?_⟩
  · rw [updN_ne (by omega)]; exact (h12.1 i' hi').1
  · rw [updN_ne (by omega)]; exact (h12.1 i' hi').2.1
  · rw [updN_ne (by omega)]; exact (h12.1 i' hi').2.2.1
  · rw [updN_ne (by omega)]; exact (h12.1 i' hi').2.2.2
  · rw [updN_ne (by omega)]; exact (h12.2.1 i' hi').1
  · rw [updN_ne (by omega)]; exact (h12.2.1 i' hi').2
  · rw [updN_ne (by omega)]; exact h12.2.2.1
  · rw [gi_si, updN_at]
  · rw [updN_ne (by omega)]; exact h12.2.2.2.2.1
  · rw [updN_ne (by omega)]; exact h12.2.2.2.2.2
theorem HallM_lay8 {σ : zS} {nr nt : Nat} {N : Nat → Nat → Int} {v : Int32} (h : HallM σ nr nt N) : HallM (si σ 66 11 v) nr nt (updN N 8 0 v.toInt) := by
  have h12 := h.2.2
  refine ⟨h.1, h.2.1, fun i' hi' => ⟨?_, ?_, ?_, ?_⟩, fun i' hi' => ⟨?_, ?_⟩, ?_, ?_, ?_, ?_⟩
  · rw [updN_ne (by omega)]; exact (h12.1 i' hi').1
  · rw [updN_ne (by omega)]; exact (h12.1 i' hi').2.1
  · rw [updN_ne (by omega)]; exact (h12.1 i' hi').2.2.1
  · rw [updN_ne (by omega)]; exact (h12.1 i' hi').2.2.2
  · rw [updN_ne (by omega)]; exact (h12.2.1 i' hi').1
  · rw [updN_ne (by omega)]; exact (h12.2.1 i' hi').2
  · rw [updN_ne (by omega)]; exact h12.2.2.1
  · rw [updN_ne (by omega)]; exact h12.2.2.2.1
  · rw [gi_si, updN_at]
  · rw [updN_ne (by omega)]; exact h12.2.2.2.2.2
theorem HallM_lay9 {σ : zS} {nr nt : Nat} {N : Nat → Nat → Int} {v : Int32} (h : HallM σ nr nt N) : HallM (si σ 66 12 v) nr nt (updN N 9 0 v.toInt) := by
  have h12 := h.2.2
  refine ⟨h.1, h.2.1, fun i' hi' => ⟨?_, ?_, ?_, ?_⟩, fun i' hi' => ⟨?_, ?_⟩, ?_, ?_, ?_, ?_⟩
  · rw [updN_ne (by omega)]; exact (h12.1 i' hi').1
  · rw [updN_ne (by omega)]; exact (h12.1 i' hi').2.1
  · rw [updN_ne (by omega)]; exact (h12.1 i' hi').2.2.1
  · rw [updN_ne (by omega)]; exact (h12.1 i' hi').2.2.2
  · rw [updN_ne (by omega)]; exact (h12.2.1 i' hi').1
  · rw [updN_ne (by omega)]; exact (h12.2.1 i' hi').2
  · rw [updN_ne (by omega)]; exact h12.2.2.1
  · rw [updN_ne (by omega)]; exact h12.2.2.2.1
  · rw [updN_ne (by omega)]; exact h12.2.2.2.2.1
  · rw [gi_si, updN_at]
theorem zmean_w {nr nt w i : Nat} {aw : Int32} (hw : aw.toInt = w) (hw2 : w < 10) : (aw = 0 ∧ w = 0) ∨ (aw = 1 ∧ w = 1) ∨ (aw = 2 ∧ w = 2) ∨ (aw = 3 ∧ w = 3) ∨ (aw = 4 ∧ w = 4) ∨ (aw = 5 ∧ w = 5) ∨ (aw = 6 ∧ w = 6) ∨ (aw = 7 ∧ w = 7) ∨ (aw = 8 ∧ w = 8) ∨ (aw = 9 ∧ w = 9) := by
  have e : w = 0 ∨ w = 1 ∨ w = 2 ∨ w = 3 ∨ w = 4 ∨ w = 5 ∨ w = 6 ∨ w = 7 ∨ w = 8 ∨ w = 9 := by omega
  rcases e with e | e | e | e | e | e | e | e | e | e
  · exact Or.inl ⟨ieq.mpr (by rw [hw, e]; rfl), e⟩
  · exact Or.inr (Or.inl ⟨ieq.mpr (by rw [hw, e]; rfl), e⟩)
  · exact Or.inr (Or.inr (Or.inl ⟨ieq.mpr (by rw [hw, e]; rfl), e⟩))
  · exact Or.inr (Or.inr (Or.inr (Or.inl ⟨ieq.mpr (by rw [hw, e]; rfl), e⟩)))
  · exact Or.inr (Or.inr (Or.inr (Or.inr (Or.inl ⟨ieq.mpr (by rw [hw, e]; rfl), e⟩))))
  · exact Or.inr (Or.inr (Or.inr (Or.inr (Or.inr (Or.inl ⟨ieq.mpr (by rw [hw, e]; rfl), e⟩)))))
  · exact Or.inr (Or.inr (Or.inr (Or.inr (Or.inr (Or.inr (Or.inl ⟨ieq.mpr (by rw [hw, e]; rfl), e⟩))))))
  · exact Or.inr (Or.inr (Or.inr (Or.inr (Or.inr (Or.inr (Or.inr (Or.inl ⟨ieq.mpr (by rw [hw, e]; rfl), e⟩)))))))
  · exact Or.inr (Or.inr (Or.inr (Or.inr (Or.inr (Or.inr (Or.inr (Or.inr (Or.inl ⟨ieq.mpr (by rw [hw, e]; rfl), e⟩))))))))
  · exact Or.inr (Or.inr (Or.inr (Or.inr (Or.inr (Or.inr (Or.inr (Or.inr (Or.inr (⟨ieq.mpr (by rw [hw, e]; rfl), e⟩)))))))))
theorem HallM.lay {σ : zS} {nr nt w i : Nat} {N : Nat → Nat → Int} {aw ai v : Int32} (h : HallM σ nr nt N) (hR : HallR nr nt N) (hm : zmean nr nt w i) (hw : aw.toInt = w) (hi : ai.toInt = i) : p_X12_lays σ aw ai v ∧ HallM (g_X12_lays σ aw ai v) nr nt (updN N w i v.toInt) ∧ (∃ c j, g_X12_lays σ aw ai v = si σ c j v ∧ ((67 ≤ c ∧ c ≤ 72) ∨ (c = 66 ∧ (j = 9 ∨ j = 10 ∨ j = 11 ∨ j = 12)))) := by
  have hl := zmean_lt hR hm
  have h6 := hR.1
  have h8 := hR.2.1
  have iw : ix ai = i := by rw [ix_t, hi]; omega
  have z6 : i < 6 → zin ai 6 = true := fun q => zin_of (by omega) (by omega)
  have z8 : i < 8 → zin ai 8 = true := fun q => zin_of (by omega) (by omega)
  unfold zmean at hm
  rcases zmean_w (nr := nr) (nt := nt) (i := i) hw hl.2 with e | e | e | e | e | e | e | e | e | e
  · obtain ⟨ea, ew⟩ := e
    subst ea; subst ew
    have eg : g_X12_lays σ 0 ai v = si σ 67 i v := by rw [← iw]; rfl
    rw [eg]
    exact ⟨z6 (by omega), HallM_lay0 h, 67, i, rfl, by omega⟩
  · obtain ⟨ea, ew⟩ := e
    subst ea; subst ew
    have eg : g_X12_lays σ 1 ai v = si σ 68 i v := by rw [← iw]; rfl
    rw [eg]
    exact ⟨z6 (by omega), HallM_lay1 h, 68, i, rfl, by omega⟩
  · obtain ⟨ea, ew⟩ := e
    subst ea; subst ew
    have eg : g_X12_lays σ 2 ai v = si σ 69 i v := by rw [← iw]; rfl
    rw [eg]
    exact ⟨z6 (by omega), HallM_lay2 h, 69, i, rfl, by omega⟩
  · obtain ⟨ea, ew⟩ := e
    subst ea; subst ew
    have eg : g_X12_lays σ 3 ai v = si σ 70 i v := by rw [← iw]; rfl
    rw [eg]
    exact ⟨z6 (by omega), HallM_lay3 h, 70, i, rfl, by omega⟩
  · obtain ⟨ea, ew⟩ := e
    subst ea; subst ew
    have eg : g_X12_lays σ 4 ai v = si σ 71 i v := by rw [← iw]; rfl
    rw [eg]
    exact ⟨z8 (by omega), HallM_lay4 h, 71, i, rfl, by omega⟩
  · obtain ⟨ea, ew⟩ := e
    subst ea; subst ew
    have eg : g_X12_lays σ 5 ai v = si σ 72 i v := by rw [← iw]; rfl
    rw [eg]
    exact ⟨z8 (by omega), HallM_lay5 h, 72, i, rfl, by omega⟩
  · obtain ⟨ea, ew⟩ := e
    subst ea; subst ew
    have e0 : i = 0 := by omega
    rw [e0]
    exact ⟨trivial, HallM_lay6 h, 66, 9, rfl, by omega⟩
  · obtain ⟨ea, ew⟩ := e
    subst ea; subst ew
    have e0 : i = 0 := by omega
    rw [e0]
    exact ⟨trivial, HallM_lay7 h, 66, 10, rfl, by omega⟩
  · obtain ⟨ea, ew⟩ := e
    subst ea; subst ew
    have e0 : i = 0 := by omega
    rw [e0]
    exact ⟨trivial, HallM_lay8 h, 66, 11, rfl, by omega⟩
  · obtain ⟨ea, ew⟩ := e
    subst ea; subst ew
    have e0 : i = 0 := by omega
    rw [e0]
    exact ⟨trivial, HallM_lay9 h, 66, 12, rfl, by omega⟩
theorem valueAt_ok {σ : zS} {nr nt w i : Nat} {N : Nat → Nat → Int} {aw ai : Int32} (h : HallM σ nr nt N) (hR : HallR nr nt N) (hm : zmean nr nt w i) (hw : aw.toInt = w) (hi : ai.toInt = i) : p_X12_valueAt σ aw ai ∧ (f_X12_valueAt σ aw ai).toInt = N w i := by
  have hl := zmean_lt hR hm
  have h6 := hR.1
  have h8 := hR.2.1
  have iw : ix ai = i := by rw [ix_t, hi]; omega
  have z6 : i < 6 → zin ai 6 = true := fun q => zin_of (by omega) (by omega)
  have z8 : i < 8 → zin ai 8 = true := fun q => zin_of (by omega) (by omega)
  have h12 := h.2.2
  unfold zmean at hm
  rcases zmean_w (nr := nr) (nt := nt) (i := i) hw hl.2 with e | e | e | e | e | e | e | e | e | e
  · obtain ⟨ea, ew⟩ := e
    subst ea; subst ew
    have eg : f_X12_valueAt σ 0 ai = gi σ 67 i := by rw [← iw]; rfl
    rw [eg]
    exact ⟨z6 (by omega), (h12.1 i (by omega)).1⟩
  · obtain ⟨ea, ew⟩ := e
    subst ea; subst ew
    have eg : f_X12_valueAt σ 1 ai = gi σ 68 i := by rw [← iw]; rfl
    rw [eg]
    exact ⟨z6 (by omega), (h12.1 i (by omega)).2.1⟩
  · obtain ⟨ea, ew⟩ := e
    subst ea; subst ew
    have eg : f_X12_valueAt σ 2 ai = gi σ 69 i := by rw [← iw]; rfl
    rw [eg]
    exact ⟨z6 (by omega), (h12.1 i (by omega)).2.2.1⟩
  · obtain ⟨ea, ew⟩ := e
    subst ea; subst ew
    have eg : f_X12_valueAt σ 3 ai = gi σ 70 i := by rw [← iw]; rfl
    rw [eg]
    exact ⟨z6 (by omega), (h12.1 i (by omega)).2.2.2⟩
  · obtain ⟨ea, ew⟩ := e
    subst ea; subst ew
    have eg : f_X12_valueAt σ 4 ai = gi σ 71 i := by rw [← iw]; rfl
    rw [eg]
    exact ⟨z8 (by omega), (h12.2.1 i (by omega)).1⟩
  · obtain ⟨ea, ew⟩ := e
    subst ea; subst ew
    have eg : f_X12_valueAt σ 5 ai = gi σ 72 i := by rw [← iw]; rfl
    rw [eg]
    exact ⟨z8 (by omega), (h12.2.1 i (by omega)).2⟩
  · obtain ⟨ea, ew⟩ := e
    subst ea; subst ew
    have e0 : i = 0 := by omega
    rw [e0]
    exact ⟨trivial, h12.2.2.1⟩
  · obtain ⟨ea, ew⟩ := e
    subst ea; subst ew
    have e0 : i = 0 := by omega
    rw [e0]
    exact ⟨trivial, h12.2.2.2.1⟩
  · obtain ⟨ea, ew⟩ := e
    subst ea; subst ew
    have e0 : i = 0 := by omega
    rw [e0]
    exact ⟨trivial, h12.2.2.2.2.1⟩
  · obtain ⟨ea, ew⟩ := e
    subst ea; subst ew
    have e0 : i = 0 := by omega
    rw [e0]
    exact ⟨trivial, h12.2.2.2.2.2⟩
def zmok (nr nt : Nat) (w i : Int) : Prop := 0 ≤ w ∧ 0 ≤ i ∧ zmean nr nt w.toNat i.toNat
theorem place_ok {σ : zS} {nr nt : Nat} {N : Nat → Nat → Int} {w i : Int32} (h : HallC σ nr nt N) (hR : HallR nr nt N) (hm : zmok nr nt w.toInt i.toInt) : (f_X5_placeOf σ i w).toInt = 8 * w.toInt + i.toInt := by
  have hl := zmean_lt hR hm.2.2
  unfold zmok zmean at hm
  have h1 := h.1
  have h2 := h.2.1
  have e0 := l0; have e1 := l1; have e3 := l3; have e5 := l5; have e8 := l8; have e9 := l9
  have ew : (w * 8).toInt = w.toInt * 8 := by rw [t_mul (by rw [e8]; omega), e8]
  have es : (w * 8 + i).toInt = 8 * w.toInt + i.toInt := by rw [t_add (by rw [ew]; omega), ew]; omega
  unfold f_X5_placeOf
  rw [if_neg (fun q => by have := il.mp q; omega), if_neg (fun q => by have := il.mp q; omega), if_pos (ile.mpr (by omega))]
  by_cases c3 : 3 < w
  · have := il.mp c3
    rw [if_pos c3]
    by_cases c5 : 5 < w
    · have := il.mp c5
      rw [if_pos c5, if_neg (fun q => by have := ile.mp q; omega), es]
    · have := nil_ c5
      rw [if_neg c5, if_neg (fun q => by have := ile.mp q; omega), es]
  · have := nil_ c3
    rw [if_neg c3, if_neg (fun q => by have := ile.mp q; omega), es]
theorem place_no {σ : zS} {nr nt : Nat} {N : Nat → Nat → Int} {w i : Int32} (h : HallC σ nr nt N) (hm : ¬ zmok nr nt w.toInt i.toInt) : f_X5_placeOf σ i w = -1 := by
  unfold zmok zmean at hm
  have h1 := h.1
  have h2 := h.2.1
  have e0 := l0; have e1 := l1; have e3 := l3; have e5 := l5; have e8 := l8; have e9 := l9
  unfold f_X5_placeOf
  by_cases c0 : w < 0
  · rw [if_pos c0]
  have := nil_ c0
  rw [if_neg c0]
  by_cases c9 : 9 < w
  · rw [if_pos c9]
  have := nil_ c9
  rw [if_neg c9]
  by_cases ci : 0 ≤ i
  · have := ile.mp ci
    rw [if_pos ci]
    by_cases c3 : 3 < w
    · have := il.mp c3
      rw [if_pos c3]
      by_cases c5 : 5 < w
      · have := il.mp c5
        rw [if_pos c5, if_pos (ile.mpr (by omega))]
      · have := nil_ c5
        rw [if_neg c5, if_pos (ile.mpr (by omega))]
    · have := nil_ c3
      rw [if_neg c3, if_pos (ile.mpr (by omega))]
  · rw [if_neg ci]
theorem isOne_eq {σ : zS} {nr nt : Nat} {N : Nat → Nat → Int} {w i : Int32} (h : HallM σ nr nt N) (hR : HallR nr nt N) : (zmok nr nt w.toInt i.toInt → f_X12_isOne σ i w = 1) ∧ (¬ zmok nr nt w.toInt i.toInt → f_X12_isOne σ i w = 0) := by
  have h1 := h.1
  have h2 := h.2.1
  have h6 := hR.1
  have h8 := hR.2.1
  have e0 := l0; have e1 := l1; have e3 := l3; have e4 := l4; have e5 := l5; have e6 := l6; have e9 := l9
  have er : (gi σ 66 1 - 1).toInt = nr - 1 := by rw [t_sub (by omega), h1, e1]
  have et : (gi σ 66 6 - 1).toInt = nt - 1 := by rw [t_sub (by omega), h2, e1]
  unfold zmok zmean f_X12_isOne f_X12_isTurn f_X12_isRow
  by_cases c3 : w.toInt < 0 ∨ 3 < w.toInt
  · rw [t_in0 (lo := 0) (hi := 3) (by omega), if_pos rfl]
    by_cases c5 : w.toInt < 4 ∨ 5 < w.toInt
    · rw [t_in0 (lo := 4) (hi := 5) (by omega), if_pos rfl]
      by_cases c9 : w.toInt < 6 ∨ 9 < w.toInt
      · rw [t_in0 (lo := 6) (hi := 9) (by omega), if_pos rfl]
        exact ⟨fun q => by omega, fun _ => rfl⟩
      · rw [t_in1 (lo := 6) (hi := 9) (by omega), if_neg (by decide)]
        by_cases ci : i = 0
        · have := what0.mp ci
          rw [if_neg (fun q => q ci)]
          exact ⟨fun _ => rfl, fun q => by omega⟩
        · have : ¬ i.toInt = 0 := fun q => ci (what0.mpr q)
          rw [if_pos ci]
          exact ⟨fun q => by omega, fun _ => rfl⟩
    · rw [t_in1 (lo := 4) (hi := 5) (by omega), if_neg (by decide)]
      refine ⟨fun q => t_in1 (by omega), fun q => t_in0 (by omega)⟩
  · rw [t_in1 (lo := 0) (hi := 3) (by omega), if_neg (by decide)]
    refine ⟨fun q => t_in1 (by omega), fun q => t_in0 (by omega)⟩
theorem wcases {w : Int32} (h : 0 ≤ w.toInt ∧ w.toInt ≤ 9) : w = 0 ∨ w = 1 ∨ w = 2 ∨ w = 3 ∨ w = 4 ∨ w = 5 ∨ w = 6 ∨ w = 7 ∨ w = 8 ∨ w = 9 := by
  have e : w.toInt = 0 ∨ w.toInt = 1 ∨ w.toInt = 2 ∨ w.toInt = 3 ∨ w.toInt = 4 ∨ w.toInt = 5 ∨ w.toInt = 6 ∨ w.toInt = 7 ∨ w.toInt = 8 ∨ w.toInt = 9 := by omega
  rcases e with e | e | e | e | e | e | e | e | e | e
  · exact Or.inl (ieq.mpr e)
  · exact Or.inr (Or.inl (ieq.mpr e))
  · exact Or.inr (Or.inr (Or.inl (ieq.mpr e)))
  · exact Or.inr (Or.inr (Or.inr (Or.inl (ieq.mpr e))))
  · exact Or.inr (Or.inr (Or.inr (Or.inr (Or.inl (ieq.mpr e)))))
  · exact Or.inr (Or.inr (Or.inr (Or.inr (Or.inr (Or.inl (ieq.mpr e))))))
  · exact Or.inr (Or.inr (Or.inr (Or.inr (Or.inr (Or.inr (Or.inl (ieq.mpr e)))))))
  · exact Or.inr (Or.inr (Or.inr (Or.inr (Or.inr (Or.inr (Or.inr (Or.inl (ieq.mpr e))))))))
  · exact Or.inr (Or.inr (Or.inr (Or.inr (Or.inr (Or.inr (Or.inr (Or.inr (Or.inl (ieq.mpr e)))))))))
  · exact Or.inr (Or.inr (Or.inr (Or.inr (Or.inr (Or.inr (Or.inr (Or.inr (Or.inr (ieq.mpr e)))))))))
theorem tabs {w : Int32} (h : 0 ≤ w.toInt ∧ w.toInt ≤ 9) : (zK0 (ix w)).toInt = zloB w.toInt.toNat ∧ (zK1 (ix w)).toInt = zhiB w.toInt.toNat := by
  rcases wcases h with e | e | e | e | e | e | e | e | e | e <;> subst e <;> decide
theorem fits_eq {σ : zS} {w v : Int32} (h : 0 ≤ w.toInt ∧ w.toInt ≤ 9) : p_X5_fits σ w v ∧ f_X5_fits σ w v = if zloB w.toInt.toNat ≤ v.toInt ∧ v.toInt ≤ zhiB w.toInt.toNat then 1 else 0 := by
  have hz : zin w 10 = true := zin_of h.1 (by omega)
  have T := tabs h
  have e0 := l0; have e9 := l9
  have w0 : ¬ w < 0 := fun q => by have := il.mp q; omega
  have w9 : ¬ 9 < w := fun q => by have := il.mp q; omega
  unfold p_X5_fits f_X5_fits
  rw [if_neg w0, if_neg w9, if_neg w0, if_neg w9]
  constructor
  · refine ⟨hz, ?_⟩
    split
    · exact trivial
    · exact hz
  · by_cases c1 : v < zK0 (ix w)
    · have := il.mp c1
      rw [if_pos c1, if_neg (by omega)]
    · have := nil_ c1
      rw [if_neg c1]
      by_cases c2 : zK1 (ix w) < v
      · have := il.mp c2
        rw [if_pos c2, if_neg (by omega)]
      · have := nil_ c2
        rw [if_neg c2, if_pos (by omega)]
theorem mayBe_eq {σ : zS} {w v : Int32} (h : 0 ≤ w.toInt ∧ w.toInt ≤ 9) : f_X12_mayBe σ w v = if zloB w.toInt.toNat ≤ v.toInt ∧ v.toInt ≤ zhiB w.toInt.toNat then 1 else 0 := by
  have key : ∀ lo hi : Int32, f_X12_in σ v lo hi = if lo.toInt ≤ v.toInt ∧ v.toInt ≤ hi.toInt then 1 else 0 := by
    intro lo hi
    rw [t_inM]
    by_cases c : v.toInt < lo.toInt ∨ hi.toInt < v.toInt
    · rw [if_pos c, if_neg (by omega)]
    · rw [if_neg c, if_pos (by omega)]
  unfold f_X12_mayBe
  rcases wcases h with e | e | e | e | e | e | e | e | e | e <;> subst e <;> simp only [key] <;> rfl
theorem CacheC.bump {σ τ : zS} {nr nt nr' nt' : Nat} {N N' : Nat → Nat → Int} {V V' : zV} {lo : Int} (h : CacheC σ nr nt N V lo) (c13 : τ.1 13 = σ.1 13) (c1 : (gi τ 1 3).toInt = (gi σ 1 3).toInt + 1) : CacheC τ nr' nt' N' V' lo := by
  have g : ∀ j, gi τ 13 j = gi σ 13 j := fun j => by show τ.1 13 j = _; rw [c13]; rfl
  have h2 := h.2.1
  refine ⟨by rw [g]; exact h.1, by rw [g]; omega, by rw [g]; exact h.2.2.1, fun e => ?_⟩
  rw [g] at e
  have := congrArg Int32.toInt e
  omega
