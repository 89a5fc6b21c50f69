/-! mend, undo, redo -/
def entX (σ : zS) (nr nt j : Nat) : Prop := ∃ w i, zmean nr nt w i ∧ (gi σ 25 j).toInt = 8 * w + i ∧ (gi σ 73 j).toInt = w ∧ (gi σ 74 j).toInt = i ∧ gi σ 26 j = gi σ 75 j ∧ gi σ 27 j = gi σ 76 j ∧ zloB w ≤ (gi σ 26 j).toInt ∧ (gi σ 26 j).toInt ≤ zhiB w ∧ zloB w ≤ (gi σ 27 j).toInt ∧ (gi σ 27 j).toInt ≤ zhiB w
theorem entX.mv {σ τ : zS} {nr nt j j' : Nat} (h : entX σ nr nt j') (hg : ∀ c, c = 25 ∨ c = 26 ∨ c = 27 ∨ c = 73 ∨ c = 74 ∨ c = 75 ∨ c = 76 → gi τ c j = gi σ c j') : entX τ nr nt j := by
  unfold entX at *
  rw [hg 25 (by omega), hg 26 (by omega), hg 27 (by omega), hg 73 (by omega), hg 74 (by omega), hg 75 (by omega), hg 76 (by omega)]
  exact h
/-- a number of both becomes another -/
theorem RelP.set {b : Int} {σ τ ρ : zS} {nr nt w i : Nat} {N : Nat → Nat → Int} {V : zV} {I : Nat → Int} {v : Int32} (h : RelP b σ nr nt N V I) (hm : zmean nr nt w i) (hv : zloB w ≤ v.toInt ∧ v.toInt ≤ zhiB w) (hb : b < 2000000000)
    (hC : HallC τ nr nt (updN N w i v.toInt)) (hM : HallM ρ nr nt (updN N w i v.toInt)) (hF1 : zFr [2, 25, 26, 27] [(1, 3), (24, 3), (24, 4)] σ τ) (hF2 : zFr [67, 68, 69, 70, 71, 72, 73, 74, 75, 76] [(66, 9), (66, 10), (66, 11), (66, 12), (66, 13), (66, 14)] τ ρ) (h13 : gi τ 1 3 = gi σ 1 3 + 1) (hX : RX ρ nr nt) : RelP (b + 1) ρ nr nt (updN N w i v.toInt) V I := by
  obtain ⟨h1, h2, h3, h4, h5, h6, h7, h8, h9⟩ := h
  have hFF : zFr [2, 25, 26, 27, 67, 68, 69, 70, 71, 72, 73, 74, 75, 76] [(1, 3), (24, 3), (24, 4), (66, 9), (66, 10), (66, 11), (66, 12), (66, 13), (66, 14)] σ ρ := (hF1.sub (by decide) (by decide)).tr (hF2.sub (by decide) (by decide))
  have hv1 := h3.2.1
  have hv2 := h3.2.2.1
  have e13 : (gi ρ 1 3).toInt = (gi σ 1 3).toInt + 1 := by rw [hF2.1 1 (by decide) 3 (by decide), h13, t_succ (by omega)]
  refine ⟨⟨hC.fr (hF2.c (by decide) (by decide)) (hF2.c (by decide) (by decide)), hM, h1.2.2.upd hv.1 hv.2⟩, h2.zfr hFF (by decide), ⟨h3.1.bump (hFF.c (by decide) (by decide)) e13, by omega, by omega, ?_⟩, h4.zfr hFF (by decide), h5.zfr hFF (by decide), hX, h7.zfr hFF (by decide), h8.zfr hFF (by decide), h9.zfr hFF (by decide)⟩
  rw [hFF.1 66 (by decide) 36 (by decide)]; exact h3.2.2.2
theorem lay_fr {ρ τ : zS} {c j : Nat} {v : Int32} (e : ρ = si τ c j v) (hc : (67 ≤ c ∧ c ≤ 72) ∨ (c = 66 ∧ (j = 9 ∨ j = 10 ∨ j = 11 ∨ j = 12))) : zFr [67, 68, 69, 70, 71, 72] [(66, 9), (66, 10), (66, 11), (66, 12)] τ ρ := by
  subst e
  rcases hc with hc | ⟨hc, hj⟩
  · exact zFr.rf.ws (by simp; omega)
  · subst hc
    rcases hj with q | q | q | q <;> subst q <;> exact zFr.rf.sf (by decide)
section OPSG
variable {X : zX} {d : Nat} {σ : zS} {k : Nat}
theorem o_undo (hd : 20 ≤ d) (hk : k ≤ 512) (h : Rel k σ) : zOp k σ X d MX11_undo MX12_undo [.ref 0] [.ref 66] := by
  have hn : Rel (k + 1) σ := by obtain ⟨nr, nt, N, V, I, h⟩ := h; exact h.next
  obtain ⟨nr, nt, N, V, I, h⟩ := h
  have e0 := l0
  have e1 := l1
  obtain ⟨D, U, hDU, x1, x2, x3, x4, x5⟩ := h.2.2.2.2.2.1
  by_cases cD : D = 0
  · have c1 : gi σ 24 3 = 0 := ieq.mpr (by rw [x1, cD]; rfl)
    have c2 : gi σ 66 13 = 0 := ieq.mpr (by rw [x3, cD]; rfl)
    refine zOp.same hn (x := -5) (fm := -5) (fun Q => ?_) (fun Q => ?_) rfl
    · have q : g_X11_undo σ = σ ∧ f_X11_undo σ = -5 ∧ p_X11_undo σ := by
        unfold g_X11_undo f_X11_undo p_X11_undo
        rw [if_neg (fun q => q c1), if_neg (fun q => q c1), if_neg (fun q => q c1)]; exact ⟨rfl, rfl, trivial⟩
      rw [s_X11_undo (hd := by omega), q.1, q.2.1, ztrue_and q.2.2]
    · have q : g_X12_undo σ = σ ∧ f_X12_undo σ = -5 ∧ p_X12_undo σ := by
        unfold g_X12_undo f_X12_undo p_X12_undo
        rw [if_neg (fun q => q c2), if_neg (fun q => q c2), if_neg (fun q => q c2)]; exact ⟨rfl, rfl, trivial⟩
      rw [s_X12_undo (hd := by omega), q.1, q.2.1, ztrue_and q.2.2]
  · have c1 : ¬ gi σ 24 3 = 0 := fun q => cD (by rw [q] at x1; omega)
    have c2 : ¬ gi σ 66 13 = 0 := fun q => cD (by rw [q] at x3; omega)
    have s1 : (gi σ 24 3 - 1).toInt = D - 1 := by rw [t_sub (by omega), x1, e1]
    have s2 : (gi σ 66 13 - 1).toInt = D - 1 := by rw [t_sub (by omega), x3, e1]
    have s3 : (gi σ 66 14 + 1).toInt = U + 1 := by rw [t_succ (by omega), x4]
    have i1 : ix (gi σ 24 3 - 1) = D - 1 := by rw [ix_t, s1]; omega
    have i2 : ix (gi σ 66 13 - 1) = D - 1 := by rw [ix_t, s2]; omega
    have z1 : zin (gi σ 24 3 - 1) 40 = true := zin_of (by omega) (by omega)
    have z2 : zin (gi σ 66 13 - 1) 40 = true := zin_of (by omega) (by omega)
    obtain ⟨w, i, hm, y1, y2, y3, y4, y5, y6, y7, y8, y9⟩ := x5 (D - 1) (by omega)
    have hl := zmean_lt h.1.2.2 hm
    have zp : zin (gi σ 25 (D - 1)) 80 = true := zin_of (by omega) (by omega)
    have ip : ix (gi σ 25 (D - 1)) = 8 * w + i := by rw [ix_t, y1]; omega
    have hv := h.2.2.1.2.1
    have hv2 := h.2.2.1.2.2.1
    -- the class
    have gCe : g_X11_undo σ = si (si (si σ 24 3 (gi σ 24 3 - 1)) 2 (8 * w + i) (gi σ 26 (D - 1))) 1 3 (gi σ 1 3 + 1) := by
      unfold g_X11_undo g_X3_takeBack g_X5_change
      rw [if_pos c1, i1, ip]; rfl
    have hC : HallC (si (si (si σ 24 3 (gi σ 24 3 - 1)) 2 (8 * w + i) (gi σ 26 (D - 1))) 1 3 (gi σ 1 3 + 1)) nr nt (updN N w i (gi σ 26 (D - 1)).toInt) := by
      have h0 : HallC (si σ 24 3 (gi σ 24 3 - 1)) nr nt N := h.1.1.fr rfl rfl
      have := h0.upd (v := gi σ 26 (D - 1)) h.1.2.2 hm
      exact ⟨this.1, this.2.1, this.2.2⟩
    have hF1 : zFr [2, 25, 26, 27] [(1, 3), (24, 3), (24, 4)] σ (si (si (si σ 24 3 (gi σ 24 3 - 1)) 2 (8 * w + i) (gi σ 26 (D - 1))) 1 3 (gi σ 1 3 + 1)) := ((zFr.rf.sf (by decide)).ws (by decide)).sf (by decide)
    have fC : f_X11_undo σ = gi σ 24 3 - 1 ∧ p_X11_undo σ := by
      unfold f_X11_undo p_X11_undo f_X3_takeBack p_X3_takeBack p_X5_change
      rw [if_pos c1, if_pos c1, i1]
      exact ⟨rfl, z1, z1, zp⟩
    have hM1 : HallM (si (si (si σ 24 3 (gi σ 24 3 - 1)) 2 (8 * w + i) (gi σ 26 (D - 1))) 1 3 (gi σ 1 3 + 1)) nr nt N := h.1.2.1.zfr hF1 (by decide) (by decide)
    refine zOp.sum2 (fc := gi σ 24 3 - 1) (fm := f_X12_undo (si (si (si σ 24 3 (gi σ 24 3 - 1)) 2 (8 * w + i) (gi σ 26 (D - 1))) 1 3 (gi σ 1 3 + 1))) (gc := si (si (si σ 24 3 (gi σ 24 3 - 1)) 2 (8 * w + i) (gi σ 26 (D - 1))) 1 3 (gi σ 1 3 + 1)) (gm := g_X12_undo (si (si (si σ 24 3 (gi σ 24 3 - 1)) 2 (8 * w + i) (gi σ 26 (D - 1))) 1 3 (gi σ 1 3 + 1))) (pc := True) (fun Q => and_true_eq (by rw [s_X11_undo (hd := by omega), gCe, fC.1, ztrue_and fC.2])) (fun Q => s_X12_undo (hd := by omega) _) trivial ?_ ?_ ?_
    all_goals
      generalize hτ : si (si (si σ 24 3 (gi σ 24 3 - 1)) 2 (8 * w + i) (gi σ 26 (D - 1))) 1 3 (gi σ 1 3 + 1) = τ at *
      have m13 : gi τ 66 13 = gi σ 66 13 := hF1.1 66 (by decide) 13 (by decide)
      have m14 : gi τ 66 14 = gi σ 66 14 := hF1.1 66 (by decide) 14 (by decide)
      have m73 : ∀ j, gi τ 73 j = gi σ 73 j := fun j => hF1.1 73 (by decide) j (by simp)
      have m74 : ∀ j, gi τ 74 j = gi σ 74 j := fun j => hF1.1 74 (by decide) j (by simp)
      have m75 : ∀ j, gi τ 75 j = gi σ 75 j := fun j => hF1.1 75 (by decide) j (by simp)
      have hFm : zFr [67, 68, 69, 70, 71, 72] [(66, 9), (66, 10), (66, 11), (66, 12), (66, 13), (66, 14)] τ (si (si τ 66 13 (gi σ 66 13 - 1)) 66 14 (gi σ 66 14 + 1)) := (zFr.rf.sf (by decide)).sf (by decide)
      have hM2 : HallM (si (si τ 66 13 (gi σ 66 13 - 1)) 66 14 (gi σ 66 14 + 1)) nr nt N := hM1.fr (fun q h1 h2 => by rw [c_si_ne (by omega), c_si_ne (by omega)]) (fun j hj => by rw [gi_si_j (by omega), gi_si_j (by omega)])
      have Ly := hM2.lay (v := gi σ 75 (D - 1)) h.1.2.2 hm y2 y3
    · unfold p_X12_undo
      rw [m13, if_pos c2, i2, m73, m74, m75, m14]
      exact ⟨z2, z2, z2, Ly.1⟩
    · obtain ⟨c, j, eL, hcj⟩ := Ly.2.2
      have hFl := lay_fr eL hcj
      unfold f_X12_undo
      rw [m13, if_pos c2, i2, m73, m74, m75, m14, hFl.1 66 (by decide) 13 (by decide), gi_si_j (by decide), gi_si]
      exact ieq.mpr (by rw [s1, s2])
    · obtain ⟨c, j, eL, hcj⟩ := Ly.2.2
      have hFl := lay_fr eL hcj
      have gMe : g_X12_undo τ = g_X12_lays (si (si τ 66 13 (gi σ 66 13 - 1)) 66 14 (gi σ 66 14 + 1)) (gi σ 73 (D - 1)) (gi σ 74 (D - 1)) (gi σ 75 (D - 1)) := by
        unfold g_X12_undo
        rw [m13, if_pos c2, i2, m73, m74, m75, m14]
      rw [gMe]
      have hF2 : zFr [67, 68, 69, 70, 71, 72, 73, 74, 75, 76] [(66, 9), (66, 10), (66, 11), (66, 12), (66, 13), (66, 14)] τ (g_X12_lays (si (si τ 66 13 (gi σ 66 13 - 1)) 66 14 (gi σ 66 14 + 1)) (gi σ 73 (D - 1)) (gi σ 74 (D - 1)) (gi σ 75 (D - 1))) := (hFm.sub (by decide) (by decide)).tr (hFl.sub (by decide) (by decide))
      have hM3 := Ly.2.1
      rw [← y4] at hM3
      rw [← y4] at hF2 ⊢
      refine ⟨nr, nt, updN N w i (gi σ 26 (D - 1)).toInt, V, I, (h.set hm ⟨y6, y7⟩ (by omega) hC hM3 hF1 hF2 (by rw [← hτ, gi_si]) ?_).up (by rw [Int.natCast_add]; omega)⟩
      rw [y4]
      have t24 : ∀ q, gi (g_X12_lays (si (si τ 66 13 (gi σ 66 13 - 1)) 66 14 (gi σ 66 14 + 1)) (gi σ 73 (D - 1)) (gi σ 74 (D - 1)) (gi σ 75 (D - 1))) 24 q = gi (si σ 24 3 (gi σ 24 3 - 1)) 24 q := fun q => by
        rw [hFl.1 24 (by decide) q (by simp), gi_si_ne (by decide), gi_si_ne (by decide), ← hτ, gi_si_ne (by decide), gi_si_ne (by decide)]
      have t66 : ∀ q, q = 13 ∨ q = 14 → gi (g_X12_lays (si (si τ 66 13 (gi σ 66 13 - 1)) 66 14 (gi σ 66 14 + 1)) (gi σ 73 (D - 1)) (gi σ 74 (D - 1)) (gi σ 75 (D - 1))) 66 q = gi (si (si τ 66 13 (gi σ 66 13 - 1)) 66 14 (gi σ 66 14 + 1)) 66 q := fun q hq => hFl.1 66 (by decide) q (by simp; omega)
      refine ⟨D - 1, U + 1, by omega, ?_, ?_, ?_, ?_, fun j hj => ?_⟩
      · rw [t24, gi_si, s1]; omega
      · rw [t24, gi_si_j (by decide), x2]; omega
      · rw [t66 13 (by omega), gi_si_j (by decide), gi_si, s2]; omega
      · rw [t66 14 (by omega), gi_si, s3]; omega
      · refine entX.mv (σ := σ) (j' := j) (x5 j (by omega)) (fun c hc => ?_)
        rw [hFl.1 c (by simp; omega) j (by simp; omega), gi_si_ne (by omega), gi_si_ne (by omega), ← hτ, gi_si_ne (by omega), gi_si_ne (by omega), gi_si_ne (by omega)]
end OPSG
