/-! the class beside the reference -/
def zdis (S : List Nat) (F : List (Nat × Nat)) (T : List Nat) (TF : List (Nat × Nat)) : Bool := (S.all fun k => !T.contains k && TF.all fun q => q.1 != k) && (F.all fun q => !T.contains q.1 && !TF.contains q)
theorem zdis_c {S T : List Nat} {F TF : List (Nat × Nat)} {σ τ : zS} {k : Nat} (hz : zdis S F T TF = true) (hF : zFr S F σ τ) (hk : k ∈ T) : τ.1 k = σ.1 k ∧ τ.2 k = σ.2 k := by
  unfold zdis at hz
  rw [Bool.and_eq_true, List.all_eq_true, List.all_eq_true] at hz
  have hS : k ∉ S := by
    intro q
    have := hz.1 k q
    rw [Bool.and_eq_true] at this
    have h2 := this.1
    rw [Bool.not_eq_true', ← Bool.not_eq_true, List.contains_iff_mem] at h2
    exact h2 hk
  refine ⟨hF.c hS (fun q hq e => ?_), hF.2 k hS⟩
  have := hz.2 q hq
  rw [Bool.and_eq_true] at this
  have h2 := this.1
  rw [Bool.not_eq_true', ← Bool.not_eq_true, List.contains_iff_mem] at h2
  exact h2 (e ▸ hk)
theorem zdis_f {S T : List Nat} {F TF : List (Nat × Nat)} {σ τ : zS} {k j : Nat} (hz : zdis S F T TF = true) (hF : zFr S F σ τ) (hk : (k, j) ∈ TF) : gi τ k j = gi σ k j := by
  unfold zdis at hz
  rw [Bool.and_eq_true, List.all_eq_true, List.all_eq_true] at hz
  refine hF.1 k (fun q => ?_) j (fun q => ?_)
  · have := hz.1 k q
    rw [Bool.and_eq_true, List.all_eq_true] at this
    have h2 := this.2 (k, j) hk
    simp at h2
  · have := hz.2 (k, j) q
    rw [Bool.and_eq_true] at this
    have h2 := this.2
    rw [Bool.not_eq_true', ← Bool.not_eq_true, List.contains_iff_mem] at h2
    exact h2 hk
def RH (σ : zS) (nr nt : Nat) (N : Nat → Nat → Int) : Prop := HallC σ nr nt N ∧ HallM σ nr nt N ∧ HallR nr nt N
def RW (σ : zS) (V : zV) : Prop := LawC σ V ∧ LawM σ V
def RC (σ : zS) (b : Int) (nr nt : Nat) (N : Nat → Nat → Int) (V : zV) : Prop := CacheC σ nr nt N V (-1) ∧ 0 ≤ (gi σ 1 3).toInt ∧ (gi σ 1 3).toInt ≤ b ∧ (gi σ 66 36).toInt = -1
def RI (σ : zS) (nt : Nat) (I : Nat → Int) : Prop := IceAt (σ.1 19) I ∧ IceAt (σ.1 85) I ∧ IceR I ∧ (nt = 0 → ∀ p, p < 16 → I p = 0)
def RP (σ : zS) (nt : Nat) : Prop := (∃ J, IceAt (σ.1 22) J ∧ IceAt (σ.1 91) J ∧ IceR J ∧ (nt = 0 → ∀ p, p < 16 → J p = 0)) ∧ gi σ 17 4 = gi σ 66 46 ∧ ∀ j, j < 5 → gi σ 20 j = gi σ 90 j ∧ gi σ 23 j = gi σ 92 j
def RX (σ : zS) (nr nt : Nat) : Prop := ∃ D U : Nat, D + U ≤ 40 ∧ (gi σ 24 3).toInt = D ∧ (gi σ 24 4).toInt = D + U ∧ (gi σ 66 13).toInt = D ∧ (gi σ 66 14).toInt = U ∧ ∀ j, j < D + U → ∃ w i, zmean nr nt w i ∧ (gi σ 25 j).toInt = 8 * w + i ∧ (gi σ 73 j).toInt = w ∧ (gi σ 74 j).toInt = i ∧ gi σ 26 j = gi σ 75 j ∧ gi σ 27 j = gi σ 76 j ∧ zloB w ≤ (gi σ 26 j).toInt ∧ (gi σ 26 j).toInt ≤ zhiB w ∧ zloB w ≤ (gi σ 27 j).toInt ∧ (gi σ 27 j).toInt ≤ zhiB w
def RT (σ : zS) : Prop := ∃ n : Nat, n ≤ 120 ∧ (gi σ 7 2).toInt = n ∧ (gi σ 66 20).toInt = n ∧ ∀ j, j < n → 0 ≤ (gi σ 8 j).toInt ∧ (gi σ 8 j).toInt ≤ 255 ∧ gi σ 77 j = (Int32.toInt8 (gi σ 8 j)).toInt32
def RS1 (σ : zS) (s r : Nat) : Prop := 0 ≤ (gi σ r 4).toInt ∧ (gi σ r 4).toInt ≤ 60 ∧ gi σ 96 s = gi σ r 4 ∧ (∀ j, j < 60 → gl σ (r + 1) j = gl σ 97 (60 * s + j)) ∧ ((gi σ r 1 = 0 ∧ (gi σ 95 s).toInt = -1) ∨ (gi σ r 1 = 1 ∧ gi σ 95 s = gi σ r 2 ∧ 0 ≤ (gi σ r 2).toInt ∧ (gi σ r 2).toInt < (gi σ 63 2).toInt) ∨ (gi σ r 1 = 2 ∧ 0 ≤ (gi σ r 3).toInt ∧ (gi σ r 3).toInt ≤ 4 ∧ (gi σ 95 s).toInt = -2 - (gi σ r 3).toInt ∧ ((gi σ r 3).toInt = 0 → ∀ j, j < 60 → -128 ≤ (gl σ 97 (60 * s + j)).toInt ∧ (gl σ 97 (60 * s + j)).toInt ≤ 127) ∧ ((gi σ r 3).toInt = 1 → ∀ j, j < 60 → -32768 ≤ (gl σ 97 (60 * s + j)).toInt ∧ (gl σ 97 (60 * s + j)).toInt ≤ 32767)))
def RS (σ : zS) : Prop := ∀ s, s < 6 → RS1 σ s (29 + 2 * s)
def RB (σ : zS) : Prop := ∃ nb ran : Nat, nb ≤ 50 ∧ (gi σ 63 2).toInt = nb ∧ (gi σ 66 49).toInt = nb ∧ (∀ j, j < nb → gi σ 64 j = gi σ 93 j ∧ 0 ≤ (gi σ 64 j).toInt ∧ (gi σ 64 j).toInt ≤ 7) ∧ ran ≤ 100 ∧ (gi σ 63 3).toInt = ran ∧ (gi σ 66 51).toInt = ran ∧ ∀ j, j < ran → j < 24 → gi σ 65 j = gi σ 94 j
section ZFR
variable {S : List Nat} {F : List (Nat × Nat)} {σ τ : zS} {nr nt : Nat} {N : Nat → Nat → Int} {V : zV} {I : Nat → Int}
theorem RH.zfr (h : RH σ nr nt N) (hF : zFr S F σ τ) (hz : zdis S F [2, 67, 68, 69, 70, 71, 72] [(1, 1), (1, 2), (66, 1), (66, 6), (66, 9), (66, 10), (66, 11), (66, 12)] = true) : RH τ nr nt N := by
  refine ⟨?_, h.2.1.fr (fun k h1 h2 => ?_) (fun j hj => ?_), h.2.2⟩
  · have h0 := h.1
    unfold HallC at *
    rw [zdis_f hz hF (k := 1) (j := 1) (by decide), zdis_f hz hF (k := 1) (j := 2) (by decide)]
    unfold gi at *
    rw [(zdis_c hz hF (k := 2) (by decide)).1]
    exact h0
  · exact (zdis_c hz hF (k := k) (by simp; omega)).1
  · exact zdis_f hz hF (by simp; omega)
theorem RW.zfr (h : RW σ V) (hF : zFr S F σ τ) (hz : zdis S F [3, 4, 5, 78, 79, 80, 81, 82] [(66, 32)] = true) : RW τ V :=
  ⟨h.1.fr (zdis_c hz hF (by decide)).1 (zdis_c hz hF (by decide)).1 (zdis_c hz hF (by decide)).1, h.2.fr (fun k h1 h2 => (zdis_c hz hF (by simp; omega)).1) (zdis_f hz hF (by decide))⟩
theorem RI.zfr (h : RI σ nt I) (hF : zFr S F σ τ) (hz : zdis S F [19, 85] [] = true) : RI τ nt I := by
  refine ⟨?_, ?_, h.2.2⟩
  · rw [(zdis_c hz hF (by decide)).1]; exact h.1
  · rw [(zdis_c hz hF (by decide)).1]; exact h.2.1
theorem RP.zfr (h : RP σ nt) (hF : zFr S F σ τ) (hz : zdis S F [20, 22, 23, 90, 91, 92] [(17, 4), (66, 46)] = true) : RP τ nt := by
  unfold RP at *
  rw [zdis_f hz hF (k := 17) (j := 4) (by decide), zdis_f hz hF (k := 66) (j := 46) (by decide)]
  unfold gi at *
  rw [(zdis_c hz hF (k := 20) (by decide)).1, (zdis_c hz hF (k := 22) (by decide)).1, (zdis_c hz hF (k := 23) (by decide)).1, (zdis_c hz hF (k := 90) (by decide)).1, (zdis_c hz hF (k := 91) (by decide)).1, (zdis_c hz hF (k := 92) (by decide)).1]
  exact h
theorem RX.zfr (h : RX σ nr nt) (hF : zFr S F σ τ) (hz : zdis S F [24, 25, 26, 27, 73, 74, 75, 76] [(66, 13), (66, 14)] = true) : RX τ nr nt := by
  unfold RX at *
  rw [zdis_f hz hF (k := 66) (j := 13) (by decide), zdis_f hz hF (k := 66) (j := 14) (by decide)]
  unfold gi at *
  rw [(zdis_c hz hF (k := 24) (by decide)).1, (zdis_c hz hF (k := 25) (by decide)).1, (zdis_c hz hF (k := 26) (by decide)).1, (zdis_c hz hF (k := 27) (by decide)).1, (zdis_c hz hF (k := 73) (by decide)).1, (zdis_c hz hF (k := 74) (by decide)).1, (zdis_c hz hF (k := 75) (by decide)).1, (zdis_c hz hF (k := 76) (by decide)).1]
  exact h
theorem RT.zfr (h : RT σ) (hF : zFr S F σ τ) (hz : zdis S F [8, 77] [(7, 2), (66, 20)] = true) : RT τ := by
  unfold RT at *
  rw [zdis_f hz hF (k := 7) (j := 2) (by decide), zdis_f hz hF (k := 66) (j := 20) (by decide)]
  unfold gi at *
  rw [(zdis_c hz hF (k := 8) (by decide)).1, (zdis_c hz hF (k := 77) (by decide)).1]
  exact h
theorem RS1.fr {s r : Nat} (h : RS1 σ s r) (h1 : τ.1 r = σ.1 r) (h2 : τ.2 (r + 1) = σ.2 (r + 1)) (h3 : gi τ 95 s = gi σ 95 s) (h4 : gi τ 96 s = gi σ 96 s) (h5 : ∀ j, j < 60 → gl τ 97 (60 * s + j) = gl σ 97 (60 * s + j)) (h6 : (gi σ 63 2).toInt ≤ (gi τ 63 2).toInt) : RS1 τ s r := by
  have hg : ∀ j, gi τ r j = gi σ r j := fun j => by show τ.1 r j = _; rw [h1]; rfl
  have hl : ∀ j, gl τ (r + 1) j = gl σ (r + 1) j := fun j => by show τ.2 (r + 1) j = _; rw [h2]; rfl
  unfold RS1 at *
  rw [hg, hg, hg, hg, h3, h4]
  refine ⟨h.1, h.2.1, h.2.2.1, fun j hj => by rw [hl, h5 j hj]; exact h.2.2.2.1 j hj, ?_⟩
  rcases h.2.2.2.2 with q | q | q
  · exact Or.inl q
  · exact Or.inr (Or.inl ⟨q.1, q.2.1, q.2.2.1, by omega⟩)
  · refine Or.inr (Or.inr ⟨q.1, q.2.1, q.2.2.1, q.2.2.2.1, fun h0 j hj => ?_, fun h0 j hj => ?_⟩)
    · rw [h5 j hj]; exact q.2.2.2.2.1 h0 j hj
    · rw [h5 j hj]; exact q.2.2.2.2.2 h0 j hj
theorem RS.zfr (h : RS σ) (hF : zFr S F σ τ) (hz : zdis S F [29, 30, 31, 32, 33, 34, 35, 36, 37, 38, 39, 40, 95, 96, 97] [(63, 2)] = true) : RS τ := by
  intro s hs
  have g : ∀ k j, k ∈ [29, 30, 31, 32, 33, 34, 35, 36, 37, 38, 39, 40, 95, 96, 97] → gi τ k j = gi σ k j := fun k j hk => by show τ.1 k j = _; rw [(zdis_c hz hF hk).1]; rfl
  refine (h s hs).fr (zdis_c hz hF (by simp; omega)).1 (zdis_c hz hF (by simp; omega)).2 (g 95 s (by decide)) (g 96 s (by decide)) (fun j _ => ?_) (by rw [zdis_f hz hF (k := 63) (j := 2) (by decide)]; exact Int.le_refl _)
  show τ.2 97 _ = _
  rw [(zdis_c hz hF (k := 97) (by decide)).2]; rfl
theorem RB.zfr (h : RB σ) (hF : zFr S F σ τ) (hz : zdis S F [64, 65, 93, 94] [(63, 2), (63, 3), (66, 49), (66, 51)] = true) : RB τ := by
  unfold RB at *
  rw [zdis_f hz hF (k := 63) (j := 2) (by decide), zdis_f hz hF (k := 63) (j := 3) (by decide), zdis_f hz hF (k := 66) (j := 49) (by decide), zdis_f hz hF (k := 66) (j := 51) (by decide)]
  unfold gi at *
  rw [(zdis_c hz hF (k := 64) (by decide)).1, (zdis_c hz hF (k := 65) (by decide)).1, (zdis_c hz hF (k := 93) (by decide)).1, (zdis_c hz hF (k := 94) (by decide)).1]
  exact h
end ZFR
def RelP (b : Int) (σ : zS) (nr nt : Nat) (N : Nat → Nat → Int) (V : zV) (I : Nat → Int) : Prop := RH σ nr nt N ∧ RW σ V ∧ RC σ b nr nt N V ∧ RI σ nt I ∧ RP σ nt ∧ RX σ nr nt ∧ RT σ ∧ RS σ ∧ RB σ
def Rel (k : Nat) (σ : zS) : Prop := ∃ nr nt N V I, RelP (200 * (k : Int)) σ nr nt N V I
abbrev SC1 : List Nat := [6, 14, 15, 16, 42, 44, 47, 48, 50, 52, 54, 56, 58, 60, 62]
abbrev FC1 : List (Nat × Nat) := [(1, 3), (13, 5), (13, 6), (41, 4), (41, 5)]
abbrev SC2 : List Nat := [83, 84, 86, 87, 88, 89]
abbrev FC2 : List (Nat × Nat) := [(66, 36), (66, 37), (66, 39), (66, 41), (66, 42), (66, 43), (66, 44)]
def Cpost (σ : zS) (nr nt : Nat) (N : Nat → Nat → Int) (V : zV) (τ : zS) : Prop := zFr SC1 FC1 σ τ ∧ CacheC τ nr nt N V (-1) ∧ (gi σ 1 3).toInt ≤ (gi τ 1 3).toInt ∧ (gi τ 1 3).toInt ≤ (gi σ 1 3).toInt + 150
def Mpost (σ τ : zS) : Prop := zFr SC2 FC2 σ τ ∧ (gi τ 66 36).toInt = -1
theorem RelP.c {b : Int} {σ τ : zS} {nr nt : Nat} {N : Nat → Nat → Int} {V : zV} {I : Nat → Int} (h : RelP b σ nr nt N V I) (hC : Cpost σ nr nt N V τ) : RelP (b + 150) τ nr nt N V I := by
  obtain ⟨h1, h2, h3, h4, h5, h6, h7, h8, h9⟩ := h
  have hF := hC.1
  refine ⟨h1.zfr hF (by decide), h2.zfr hF (by decide), ⟨hC.2.1, by have := h3.2.1; have := hC.2.2.1; omega, by have := h3.2.2.1; have := hC.2.2.2; omega, ?_⟩, h4.zfr hF (by decide), h5.zfr hF (by decide), h6.zfr hF (by decide), h7.zfr hF (by decide), h8.zfr hF (by decide), h9.zfr hF (by decide)⟩
  rw [hF.1 66 (by decide) 36 (by decide)]; exact h3.2.2.2
theorem RelP.m {b : Int} {σ τ : zS} {nr nt : Nat} {N : Nat → Nat → Int} {V : zV} {I : Nat → Int} (h : RelP b σ nr nt N V I) (hM : Mpost σ τ) : RelP b τ nr nt N V I := by
  obtain ⟨h1, h2, h3, h4, h5, h6, h7, h8, h9⟩ := h
  have hF := hM.1
  have e1 : gi τ 1 3 = gi σ 1 3 := hF.1 1 (by decide) 3 (by decide)
  refine ⟨h1.zfr hF (by decide), h2.zfr hF (by decide), ⟨h3.1.fr (hF.c (by decide) (by decide)) (hF.c (by decide) (by decide)) (hF.c (by decide) (by decide)) e1, by rw [e1]; exact h3.2.1, by rw [e1]; exact h3.2.2.1, hM.2⟩, h4.zfr hF (by decide), h5.zfr hF (by decide), h6.zfr hF (by decide), h7.zfr hF (by decide), h8.zfr hF (by decide), h9.zfr hF (by decide)⟩
theorem RelP.up {b b' : Int} {σ : zS} {nr nt : Nat} {N : Nat → Nat → Int} {V : zV} {I : Nat → Int} (h : RelP b σ nr nt N V I) (hb : b ≤ b') : RelP b' σ nr nt N V I := by
  obtain ⟨h1, h2, h3, h4, h5, h6, h7, h8, h9⟩ := h
  exact ⟨h1, h2, ⟨h3.1, h3.2.1, by have := h3.2.2.1; omega, h3.2.2.2⟩, h4, h5, h6, h7, h8, h9⟩
/-- one call of both -/
def zOp (k : Nat) (σ : zS) (X : zX) (d : Nat) (mC mM : zM) (lC lM : List Value) : Prop := zwp X d mC 0 lC [] (zen σ) (fun v h => ∃ (x : Int32) (σ1 : zS), v = some (.int x) ∧ h = zen σ1 ∧ zwp X d mM 0 lM [] (zen σ1) (fun v' h' => v' = some (.int x) ∧ ∃ σ', h' = zen σ' ∧ Rel (k + 1) σ'))
theorem zOp.think {k : Nat} {σ : zS} {X : zX} {d : Nat} {mC mM : zM} {lC lM : List Value} {nr nt : Nat} {N : Nat → Nat → Int} {V : zV} {I : Nat → Int} {val : Int} (h : RelP (200 * (k : Int)) σ nr nt N V I)
    (hc : ∀ Q : Option Value → zH → Prop, (∀ (x : Int32) (τ : zS), Cpost σ nr nt N V τ → x.toInt = val → Q (some (.int x)) (zen τ)) → zwp X d mC 0 lC [] (zen σ) Q)
    (hm : ∀ τ : zS, RelP (200 * (k : Int) + 150) τ nr nt N V I → zFr SC1 FC1 σ τ → ∀ Q : Option Value → zH → Prop, (∀ (x : Int32) (ρ : zS), Mpost τ ρ → x.toInt = val → Q (some (.int x)) (zen ρ)) → zwp X d mM 0 lM [] (zen τ) Q) : zOp k σ X d mC mM lC lM := by
  refine hc _ (fun x τ hC hx => ⟨x, τ, rfl, rfl, ?_⟩)
  have hR := h.c hC
  refine hm τ hR hC.1 _ (fun y ρ hM hy => ⟨?_, ρ, rfl, nr, nt, N, V, I, (hR.m hM).up ?_⟩)
  · rw [ieq.mpr (hy.trans hx.symm)]
  · rw [Int.natCast_add]; omega
/-! what lies on a shelf -/
def refI (σ : zS) (a sort : Int) : Int := if a < 0 ∨ 6 ≤ a then -1 else if (gi σ 95 a.toNat).toInt = -1 then -11 else if (gi σ 95 a.toNat).toInt = -2 - sort then 0 else -12
def progS (σ : zS) (nt : Nat) (a : Int) : List Int := progE nt (fun j => (gl σ 97 (60 * a.toNat + j)).toInt) (min (gi σ 96 a.toNat).toInt.toNat 20) 0
theorem t_isShelf {σ : zS} {a : Int32} : f_X11_isShelf σ a = if a.toInt < 0 ∨ 6 ≤ a.toInt then 0 else 1 := by
  unfold f_X11_isShelf
  have e0 : (0 : Int32).toInt = 0 := rfl
  have e6 : (6 : Int32).toInt = 6 := rfl
  by_cases h1 : a < 0
  · have := il.mp h1
    rw [if_pos h1, if_pos (by omega)]
  · have := nil_ h1
    rw [if_neg h1]
    by_cases h2 : 6 ≤ a
    · have := ile.mp h2
      rw [if_pos h2, if_pos (by omega)]
    · have := nile h2
      rw [if_neg h2, if_neg (by omega)]
theorem t_isShelfM {σ : zS} {a : Int32} : f_X12_isShelf σ a = if a.toInt < 0 ∨ 6 ≤ a.toInt then 0 else 1 := by
  unfold f_X12_isShelf f_X12_in
  have e0 : (0 : Int32).toInt = 0 := rfl
  have e5 : (5 : Int32).toInt = 5 := rfl
  by_cases h1 : a < 0
  · have := il.mp h1
    rw [if_pos h1, if_pos (by omega)]
  · have := nil_ h1
    rw [if_neg h1]
    by_cases h2 : 5 < a
    · have := il.mp h2
      rw [if_pos h2, if_pos (by omega)]
    · have := nil_ h2
      rw [if_neg h2, if_neg (by omega)]
theorem refC {σ : zS} (h : RS σ) {a sort : Int32} (hs : 0 ≤ sort.toInt ∧ sort.toInt ≤ 4) : p_X11_refusal σ a sort ∧ (f_X11_refusal σ a sort).toInt = refI σ a.toInt sort.toInt := by
  unfold p_X11_refusal f_X11_refusal refI
  rw [t_isShelf]
  by_cases hc : a.toInt < 0 ∨ 6 ≤ a.toInt
  · rw [if_pos hc, if_pos hc, if_neg (by decide), if_neg (by decide)]
    exact ⟨trivial, rfl⟩
  · rw [if_neg hc, if_neg hc, if_pos (by decide), if_pos (by decide)]
    have hz : zin a 6 = true := zin_of (by omega) (by omega)
    have hix := ix_t a
    refine ⟨hz, ?_⟩
    have H := (h (ix a) (by omega)).2.2.2.2
    rw [hix] at H ⊢
    rcases H with q | q | q
    · rw [q.1, if_neg (by decide), if_pos q.2]; rfl
    · have e95 : gi σ 95 a.toInt.toNat = gi σ (29 + 2 * a.toInt.toNat) 2 := q.2.1
      rw [q.1, if_pos (by decide), if_pos (by decide), e95, if_neg (by omega), if_neg (by omega)]; rfl
    · rw [q.1, if_pos (by decide), if_neg (by decide), if_neg (show ¬ (gi σ 95 a.toInt.toNat).toInt = -1 by omega)]
      by_cases e : gi σ (29 + 2 * a.toInt.toNat) 3 = sort
      · rw [if_neg (fun x => x e), if_pos (by rw [q.2.2.2.1, e])]; rfl
      · have e2 : ¬ (gi σ (29 + 2 * a.toInt.toNat) 3).toInt = sort.toInt := fun x => e (ieq.mpr x)
        rw [if_pos e, if_neg (by omega)]; rfl
theorem refM {σ : zS} {a sort : Int32} (hs : 0 ≤ sort.toInt ∧ sort.toInt ≤ 4) (ha : 0 ≤ a.toInt ∧ a.toInt < 6) : p_X12_rowFault σ a sort ∧ (f_X12_rowFault σ a sort).toInt = refI σ a.toInt sort.toInt := by
  have hz : zin a 6 = true := zin_of ha.1 (by omega)
  have em1 : (-1 : Int32).toInt = -1 := rfl
  have em2 : (-2 : Int32).toInt = -2 := rfl
  have es : (-2 - sort).toInt = -2 - sort.toInt := by rw [t_sub (by rw [em2]; omega), em2]
  unfold p_X12_rowFault f_X12_rowFault refI
  rw [if_neg (show ¬ (a.toInt < 0 ∨ 6 ≤ a.toInt) by omega), ix_t]
  constructor
  · refine ⟨hz, ?_⟩
    split
    · exact hz
    · exact trivial
  · by_cases h1 : gi σ 95 a.toInt.toNat = -1
    · rw [if_neg (fun q => q h1), if_pos (by rw [h1]; rfl)]; rfl
    · have h1' : ¬ (gi σ 95 a.toInt.toNat).toInt = -1 := fun q => h1 (ieq.mpr (by rw [q, em1]))
      rw [if_pos h1, if_neg h1']
      by_cases h2 : gi σ 95 a.toInt.toNat = -2 - sort
      · rw [if_neg (fun q => q h2), if_pos (by rw [h2, es])]; rfl
      · rw [if_pos h2, if_neg (fun q => h2 (ieq.mpr (by rw [q, es])))]; rfl
theorem RS.bytes {σ : zS} (h : RS σ) {a : Int} (hr : refI σ a 0 = 0) : 0 ≤ a ∧ a < 6 ∧ (gi σ (29 + 2 * a.toNat) 1 = 2 ∧ (gi σ (29 + 2 * a.toNat) 3).toInt = 0) ∧ ∀ j, j < 60 → gl σ (29 + 2 * a.toNat + 1) j = gl σ 97 (60 * a.toNat + j) ∧ -128 ≤ (gl σ 97 (60 * a.toNat + j)).toInt ∧ (gl σ 97 (60 * a.toNat + j)).toInt ≤ 127 := by
  unfold refI at hr
  by_cases hc : a < 0 ∨ 6 ≤ a
  · rw [if_pos hc] at hr; omega
  · rw [if_neg hc] at hr
    have H := h a.toNat (by omega)
    by_cases h1 : (gi σ 95 a.toNat).toInt = -1
    · rw [if_pos h1] at hr; omega
    · rw [if_neg h1] at hr
      by_cases h2 : (gi σ 95 a.toNat).toInt = -2 - 0
      · rcases H.2.2.2.2 with q | q | q
        · exact absurd q.2 h1
        · have := congrArg Int32.toInt q.2.1; omega
        · have e0 : (gi σ (29 + 2 * a.toNat) 3).toInt = 0 := by omega
          exact ⟨by omega, by omega, ⟨q.1, e0⟩, fun j hj => ⟨H.2.2.2.1 j hj, q.2.2.2.2.1 e0 j hj⟩⟩
      · rw [if_neg h2] at hr; omega
theorem c_read {X : zX} {d : Nat} {Q : Option Value → zH → Prop} (hd : 3 ≤ d) {b : Int} {σ : zS} {nr nt : Nat} {N : Nat → Nat → Int} {V : zV} {I : Nat → Int} {a : Int32} (h : RelP b σ nr nt N V I)
    (hQ : ∀ (v : Int32) (τ : zS), zFr [42] [(41, 4)] σ τ → v.toInt = refI σ a.toInt 0 → (refI σ a.toInt 0 = 0 → ThC τ nr nt N V (-1) I (progS σ nt a.toInt)) → Q (some (.int v)) (zen τ)) : zwp X d MX11_readProgramme 0 [.ref 0, .int a, .null] [] (zen σ) Q := by
  have e0 : (0 : Int32).toInt = 0 := rfl
  have R := refC h.2.2.2.2.2.2.2.1 (a := a) (sort := 0) (by omega)
  rw [e0] at R
  rw [b_X11_readProgramme_0 (hd := by omega), ztrue_and R.1]
  by_cases hc : f_X11_refusal σ a 0 = 0
  · have hr : refI σ a.toInt 0 = 0 := by rw [← R.2, hc]; rfl
    have B := h.2.2.2.2.2.2.2.1.bytes hr
    have hz : zin a 6 = true := zin_of B.1 (by omega)
    have hix := ix_t a
    have S1 := h.2.2.2.2.2.2.2.1 (ix a) (by omega)
    rw [if_neg (fun q => q hc), ztrue_and hz]
    refine w_X10_read (by omega) (zS_at hz) (nt := nt) (e := fun j => (gl σ 97 (60 * a.toInt.toNat + j)).toInt) h.1.1.2.1 (fun j hj => ?_) ⟨S1.1, S1.2.1⟩ (fun τ hF hP => ?_)
    · have := B.2.2.2 j hj
      rw [hix]
      exact ⟨by rw [this.1], this.2⟩
    · show zwp X d MX11_readProgramme 24 _ [] (zen τ) Q
      rw [b_X11_readProgramme_24]
      refine hQ _ τ hF R.2 (fun _ => ⟨h.1.1.fr (hF.c (by decide) (by decide)) (hF.c (by decide) (by decide)), h.2.1.1.fr (hF.c (by decide) (by decide)) (hF.c (by decide) (by decide)) (hF.c (by decide) (by decide)), h.2.2.1.1.fr (hF.c (by decide) (by decide)) (hF.c (by decide) (by decide)) (hF.c (by decide) (by decide)) (hF.1 1 (by decide) 3 (by decide)), ?_, ?_⟩)
      · rw [hF.c (by decide) (by decide)]; exact h.2.2.2.1.1
      · unfold progS
        rw [← hix, S1.2.2.1, hix]
        exact hP
  · rw [if_pos hc]
    refine hQ _ σ zFr.rf R.2 (fun hr => absurd (ieq.mpr ?_) hc)
    rw [R.2, hr]; rfl
theorem m_lay {X : zX} {d : Nat} {Q : Option Value → zH → Prop} (hd : 3 ≤ d) {b : Int} {σ : zS} {nr nt : Nat} {N : Nat → Nat → Int} {V : zV} {I : Nat → Int} {a : Int32} (h : RelP b σ nr nt N V I) (ha : 0 ≤ a.toInt ∧ a.toInt < 6)
    (hQ : ∀ (v : Int32) (τ : zS), zFr [88] [(66, 39)] σ τ → v.toInt = refI σ a.toInt 0 → (refI σ a.toInt 0 = 0 → ThM τ nr nt N V (-1) I (progS σ nt a.toInt)) → Q (some (.int v)) (zen τ)) : zwp X d MX12_layOr 0 [.ref 66, .int a, .null] [] (zen σ) Q := by
  have e0 : (0 : Int32).toInt = 0 := rfl
  have R := refM (σ := σ) (a := a) (sort := 0) (by omega) ha
  rw [e0] at R
  rw [b_X12_layOr_0 (hd := by omega), ztrue_and R.1]
  by_cases hc : f_X12_rowFault σ a 0 = 0
  · have hr : refI σ a.toInt 0 = 0 := by rw [← R.2, hc]; rfl
    have B := h.2.2.2.2.2.2.2.1.bytes hr
    have hix := ix_t a
    have S1 := h.2.2.2.2.2.2.2.1 (ix a) (by omega)
    rw [if_neg (fun q => q hc)]
    refine w_X12_layProgramme (by omega) ha (nt := nt) (e := fun j => (gl σ 97 (60 * a.toInt.toNat + j)).toInt) h.1.2.1.2.1 h.1.2.2.2.1 (by rw [S1.2.2.1]; exact ⟨S1.1, S1.2.1⟩) (fun j hj => ⟨rfl, (B.2.2.2 j hj).2⟩) (fun τ hF hP => ?_)
    show zwp X d MX12_layOr 16 _ [] (zen τ) Q
    rw [b_X12_layOr_16]
    refine hQ _ τ hF R.2 (fun _ => ⟨h.1.2.1.zfr hF (by decide) (by decide), h.2.1.2.zfr hF (by decide) (by decide), ?_, ?_, ?_⟩)
    · rw [hF.1 66 (by decide) 36 (by decide)]; exact h.2.2.1.2.2.2
    · rw [hF.c (by decide) (by decide)]; exact h.2.2.2.1.2.1
    · unfold progS
      exact hP
  · rw [if_pos hc]
    refine hQ _ σ zFr.rf R.2 (fun hr => absurd (ieq.mpr ?_) hc)
    rw [R.2, hr]; rfl
