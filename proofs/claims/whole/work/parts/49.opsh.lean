/-! redo, mend -/
section OPSH
variable {X : zX} {d : Nat} {σ : zS} {k : Nat}
theorem o_redo (hd : 20 ≤ d) (hk : k ≤ 512) (h : Rel k σ) : zOp k σ X d MX11_redo MX12_redo [.ref 0] [.ref 66] := by
  have hn : Rel (k + 1) σ := by obtain ⟨nr, nt, N, V, I, h⟩ := h; exact h.next
  obtain ⟨nr, nt, N, V, I, h⟩ := h
  have e0 := l0
  have e1 := l1
  obtain ⟨D, U, hDU, x1, x2, x3, x4, x5⟩ := h.2.2.2.2.2.1
  by_cases cU : U = 0
  · have c1 : gi σ 24 3 = gi σ 24 4 := ieq.mpr (by rw [x1, x2, cU]; omega)
    have c2 : gi σ 66 14 = 0 := ieq.mpr (by rw [x4, cU]; rfl)
    refine zOp.same hn (x := -5) (fm := -5) (fun Q => ?_) (fun Q => ?_) rfl
    · have q : g_X11_redo σ = σ ∧ f_X11_redo σ = -5 ∧ p_X11_redo σ := by
        unfold g_X11_redo f_X11_redo p_X11_redo
        rw [if_neg (fun q => q c1), if_neg (fun q => q c1), if_neg (fun q => q c1)]; exact ⟨rfl, rfl, trivial⟩
      rw [s_X11_redo (hd := by omega), q.1, q.2.1, ztrue_and q.2.2]
    · have q : g_X12_redo σ = σ ∧ f_X12_redo σ = -5 ∧ p_X12_redo σ := by
        unfold g_X12_redo f_X12_redo p_X12_redo
        rw [if_neg (fun q => q c2), if_neg (fun q => q c2), if_neg (fun q => q c2)]; exact ⟨rfl, rfl, trivial⟩
      rw [s_X12_redo (hd := by omega), q.1, q.2.1, ztrue_and q.2.2]
  · have c1 : ¬ gi σ 24 3 = gi σ 24 4 := fun q => cU (by rw [q] at x1; omega)
    have c2 : ¬ gi σ 66 14 = 0 := fun q => cU (by rw [q] at x4; omega)
    have s1 : (gi σ 24 3 + 1).toInt = D + 1 := by rw [t_succ (by omega), x1]
    have s2 : (gi σ 66 13 + 1).toInt = D + 1 := by rw [t_succ (by omega), x3]
    have s3 : (gi σ 66 14 - 1).toInt = U - 1 := by rw [t_sub (by omega), x4, e1]
    have i1 : ix (gi σ 24 3) = D := by rw [ix_t, x1]; omega
    have i2 : ix (gi σ 66 13) = D := by rw [ix_t, x3]; omega
    have z1 : zin (gi σ 24 3) 40 = true := zin_of (by omega) (by omega)
    have z2 : zin (gi σ 66 13) 40 = true := zin_of (by omega) (by omega)
    obtain ⟨w, i, hm, y1, y2, y3, y4, y5, y6, y7, y8, y9⟩ := x5 D (by omega)
    have hl := zmean_lt h.1.2.2 hm
    have zp : zin (gi σ 25 D) 80 = true := zin_of (by omega) (by omega)
    have ip : ix (gi σ 25 D) = 8 * w + i := by rw [ix_t, y1]; omega
    have hv := h.2.2.1.2.1
    have hv2 := h.2.2.1.2.2.1
    have gCe : g_X11_redo σ = si (si (si σ 2 (8 * w + i) (gi σ 27 D)) 1 3 (gi σ 1 3 + 1)) 24 3 (gi σ 24 3 + 1) := by
      unfold g_X11_redo g_X3_doAgain g_X5_change
      rw [if_pos c1, i1, ip]; rfl
    have hC : HallC (si (si (si σ 2 (8 * w + i) (gi σ 27 D)) 1 3 (gi σ 1 3 + 1)) 24 3 (gi σ 24 3 + 1)) nr nt (updN N w i (gi σ 27 D).toInt) := by
      have := h.1.1.upd (v := gi σ 27 D) h.1.2.2 hm
      exact ⟨this.1, this.2.1, this.2.2⟩
    have hF1 : zFr [2, 25, 26, 27] [(1, 3), (24, 3), (24, 4)] σ (si (si (si σ 2 (8 * w + i) (gi σ 27 D)) 1 3 (gi σ 1 3 + 1)) 24 3 (gi σ 24 3 + 1)) := ((zFr.rf.ws (by decide)).sf (by decide)).sf (by decide)
    have fC : f_X11_redo σ = gi σ 24 4 - (gi σ 24 3 + 1) ∧ p_X11_redo σ := by
      unfold f_X11_redo p_X11_redo f_X3_doAgain p_X3_doAgain p_X5_change
      rw [if_pos c1, if_pos c1, i1]
      exact ⟨rfl, z1, z1, zp⟩
    have hM1 : HallM (si (si (si σ 2 (8 * w + i) (gi σ 27 D)) 1 3 (gi σ 1 3 + 1)) 24 3 (gi σ 24 3 + 1)) nr nt N := h.1.2.1.zfr hF1 (by decide) (by decide)
    refine zOp.sum2 (fc := gi σ 24 4 - (gi σ 24 3 + 1)) (fm := f_X12_redo (si (si (si σ 2 (8 * w + i) (gi σ 27 D)) 1 3 (gi σ 1 3 + 1)) 24 3 (gi σ 24 3 + 1))) (gc := si (si (si σ 2 (8 * w + i) (gi σ 27 D)) 1 3 (gi σ 1 3 + 1)) 24 3 (gi σ 24 3 + 1)) (gm := g_X12_redo (si (si (si σ 2 (8 * w + i) (gi σ 27 D)) 1 3 (gi σ 1 3 + 1)) 24 3 (gi σ 24 3 + 1))) (pc := True) (fun Q => and_true_eq (by rw [s_X11_redo (hd := by omega), gCe, fC.1, ztrue_and fC.2])) (fun Q => s_X12_redo (hd := by omega) _) trivial ?_ ?_ ?_
    all_goals
      generalize hτ : si (si (si σ 2 (8 * w + i) (gi σ 27 D)) 1 3 (gi σ 1 3 + 1)) 24 3 (gi σ 24 3 + 1) = τ at *
      have m13 : gi τ 66 13 = gi σ 66 13 := hF1.1 66 (by decide) 13 (by decide)
      have m14 : gi τ 66 14 = gi σ 66 14 := hF1.1 66 (by decide) 14 (by decide)
      have m73 : ∀ j, gi τ 73 j = gi σ 73 j := fun j => hF1.1 73 (by decide) j (by simp)
      have m74 : ∀ j, gi τ 74 j = gi σ 74 j := fun j => hF1.1 74 (by decide) j (by simp)
      have m76 : ∀ j, gi τ 76 j = gi σ 76 j := fun j => hF1.1 76 (by decide) j (by simp)
      have Ly := hM1.lay (v := gi σ 76 D) h.1.2.2 hm y2 y3
      have Ly0 := Ly.1
      have Ly1 := Ly.2.1
      obtain ⟨c, j, eL, hcj⟩ := Ly.2.2
      have hFl := lay_fr eL hcj
      have l13 : gi (g_X12_lays τ (gi σ 73 D) (gi σ 74 D) (gi σ 76 D)) 66 13 = gi σ 66 13 := by rw [hFl.1 66 (by decide) 13 (by decide), m13]
      have l14 : gi (g_X12_lays τ (gi σ 73 D) (gi σ 74 D) (gi σ 76 D)) 66 14 = gi σ 66 14 := by rw [hFl.1 66 (by decide) 14 (by decide), m14]
    · unfold p_X12_redo
      rw [m14, if_pos c2, m13, i2, m73, m74, m76]
      exact ⟨z2, z2, z2, Ly0⟩
    · unfold f_X12_redo
      rw [m14, if_pos c2, m13, i2, m73, m74, m76, l14]
      exact ieq.mpr (by rw [s3, t_sub (by rw [s1, x2]; omega), s1, x2]; omega)
    · have gMe : g_X12_redo τ = si (si (g_X12_lays τ (gi σ 73 D) (gi σ 74 D) (gi σ 76 D)) 66 13 (gi σ 66 13 + 1)) 66 14 (gi σ 66 14 - 1) := by
        unfold g_X12_redo
        rw [m14, if_pos c2, m13, i2, m73, m74, m76, l13, l14]
      rw [gMe]
      have hFm : zFr [67, 68, 69, 70, 71, 72, 73, 74, 75, 76] [(66, 9), (66, 10), (66, 11), (66, 12), (66, 13), (66, 14)] τ (si (si (g_X12_lays τ (gi σ 73 D) (gi σ 74 D) (gi σ 76 D)) 66 13 (gi σ 66 13 + 1)) 66 14 (gi σ 66 14 - 1)) := ((hFl.sub (by decide) (by decide)).sf (by decide)).sf (by decide)
      have hM3 : HallM (si (si (g_X12_lays τ (gi σ 73 D) (gi σ 74 D) (gi σ 76 D)) 66 13 (gi σ 66 13 + 1)) 66 14 (gi σ 66 14 - 1)) nr nt (updN N w i (gi σ 76 D).toInt) := Ly1.fr (fun q h1 h2 => by rw [c_si_ne (by omega), c_si_ne (by omega)]) (fun j hj => by rw [gi_si_j (by omega), gi_si_j (by omega)])
      rw [← y5] at hM3
      rw [← y5] at hFm ⊢
      refine ⟨nr, nt, updN N w i (gi σ 27 D).toInt, V, I, (h.set hm ⟨y8, y9⟩ (by omega) hC hM3 hF1 hFm (by rw [← hτ, gi_si_ne (by decide), gi_si]) ?_).up (by rw [Int.natCast_add]; omega)⟩
      rw [y5]
      have t24 : ∀ q, gi (si (si (g_X12_lays τ (gi σ 73 D) (gi σ 74 D) (gi σ 76 D)) 66 13 (gi σ 66 13 + 1)) 66 14 (gi σ 66 14 - 1)) 24 q = gi (si σ 24 3 (gi σ 24 3 + 1)) 24 q := fun q => by
        rw [gi_si_ne (by decide), gi_si_ne (by decide), hFl.1 24 (by decide) q (by simp), ← hτ]
        by_cases e : q = 3
        · rw [e, gi_si, gi_si]
        · rw [gi_si_j e, gi_si_j e, gi_si_ne (by decide), gi_si_ne (by decide)]
      refine ⟨D + 1, U - 1, by omega, ?_, ?_, ?_, ?_, fun j hj => ?_⟩
      · rw [t24, gi_si, s1]; omega
      · rw [t24, gi_si_j (by decide), x2]; omega
      · rw [gi_si_j (by decide), gi_si, s2]; omega
      · rw [gi_si, s3]; omega
      · refine entX.mv (σ := σ) (j' := j) (x5 j (by omega)) (fun c hc => ?_)
        rw [gi_si_ne (by omega), gi_si_ne (by omega), hFl.1 c (by simp; omega) j (by simp; omega), ← hτ, gi_si_ne (by omega), gi_si_ne (by omega), gi_si_ne (by omega)]
/-- the reference drops its oldest change -/
theorem lp_X12_changes {Q : Option Value → zH → Prop} (hd : 2 ≤ d) (w i v was : Int32) (σ0 : zS) (hD : (gi σ0 66 13).toInt = 40) : ∀ (n : Nat) (τ : zS) (q : Int32), 1 ≤ q.toInt → q.toInt + n = 40 → zFr [73, 74, 75, 76] [] σ0 τ → (∀ c, c = 73 ∨ c = 74 ∨ c = 75 ∨ c = 76 → ∀ j, gi τ c j = if (j : Int) + 1 < q.toInt then gi σ0 c (j + 1) else gi σ0 c j) → (∀ τ' : zS, zFr [73, 74, 75, 76] [] σ0 τ' → (∀ c, c = 73 ∨ c = 74 ∨ c = 75 ∨ c = 76 → ∀ j, j < 39 → gi τ' c j = gi σ0 c (j + 1)) → (p_X12_lays (si (si (si (si (si (si τ' 66 13 (gi σ0 66 13 - 1)) 73 39 w) 74 39 i) 75 39 was) 76 39 v) 66 13 (gi σ0 66 13 - 1 + 1)) w i v ∧ Q (some (.int was)) (zen (g_X12_lays (si (si (si (si (si (si τ' 66 13 (gi σ0 66 13 - 1)) 73 39 w) 74 39 i) 75 39 was) 76 39 v) 66 13 (gi σ0 66 13 - 1 + 1)) w i v)))) → zwp X d MX12_changes 34 [.ref 66, .int w, .int i, .int v, .int was, .int q] [] (zen τ) Q := by
  have e1 := l1
  have e40 : (40 : Int32).toInt = 40 := rfl
  have s39 : (gi σ0 66 13 - 1).toInt = 39 := by rw [t_sub (by omega), hD, e1]; omega
  have i39 : ix (gi σ0 66 13 - 1) = 39 := by rw [ix_t, s39]; rfl
  have z39 : zin (gi σ0 66 13 - 1) 40 = true := zin_of (by omega) (by omega)
  intro n
  induction n with
  | zero =>
    intro τ q h1 hn hF hs hQ
    have m13 : gi τ 66 13 = gi σ0 66 13 := hF.1 66 (by decide) 13 (by simp)
    rw [b_X12_changes_34 (hd := by omega), if_pos (ile.mpr (by omega)), m13, i39, ztrue_and z39, ztrue_and z39, ztrue_and z39, ztrue_and z39]
    exact hQ τ hF (fun c hc j hj => by rw [hs c hc j, if_pos (by omega)])
  | succ n ih =>
    intro τ q h1 hn hF hs hQ
    have es : (q + 1).toInt = q.toInt + 1 := t_succ (by omega)
    have sm : (q - 1).toInt = q.toInt - 1 := by rw [t_sub (by omega), e1]
    have zq : zin q 40 = true := zin_of (by omega) (by omega)
    have zm : zin (q - 1) 40 = true := zin_of (by omega) (by omega)
    have iq := ix_t q
    have im : ix (q - 1) + 1 = ix q := by rw [ix_t, sm, iq]; omega
    rw [b_X12_changes_34 (hd := by omega), if_neg (fun x => by have := ile.mp x; omega), ztrue_and zq, ztrue_and zm, ztrue_and zq, ztrue_and zm, ztrue_and zq, ztrue_and zm, ztrue_and zq, ztrue_and zm]
    refine ih _ (q + 1) (by omega) (by omega) ((((hF.ws (by decide)).ws (by decide)).ws (by decide)).ws (by decide)) (fun c hc j => ?_) hQ
    have base : ∀ c, c = 73 ∨ c = 74 ∨ c = 75 ∨ c = 76 → gi τ c (ix q) = gi σ0 c (ix q) := fun c hc => by rw [hs c hc, if_neg (by omega)]
    have fin : ∀ x, x = gi σ0 c (ix q) → (if c = c ∧ j = ix (q - 1) then x else gi τ c j) = if (j : Int) + 1 < (q + 1).toInt then gi σ0 c (j + 1) else gi σ0 c j := by
      intro x hx
      by_cases e : j = ix (q - 1)
      · rw [if_pos ⟨rfl, e⟩, if_pos (by omega), hx, e, im]
      · rw [if_neg (fun y => e y.2), hs c hc j]
        by_cases e2 : (j : Int) + 1 < q.toInt
        · rw [if_pos e2, if_pos (by omega)]
        · rw [if_neg e2, if_neg (by omega)]
    rcases hc with hc | hc | hc | hc <;> subst hc
    · rw [gi_si_ne (by decide), gi_si_ne (by decide), gi_si_ne (by decide), gi_all]
      exact fin _ (base 73 (by omega))
    · rw [gi_si_ne (by decide), gi_si_ne (by decide), gi_all, gi_si_ne (by decide)]
      exact fin _ (base 74 (by omega))
    · rw [gi_si_ne (by decide), gi_all, gi_si_ne (by decide), gi_si_ne (by decide)]
      exact fin _ (base 75 (by omega))
    · rw [gi_all, gi_si_ne (by decide), gi_si_ne (by decide), gi_si_ne (by decide)]
      exact fin _ (base 76 (by omega))
end OPSH
