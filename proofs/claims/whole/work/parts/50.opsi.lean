/-! mend -/
section OPSI
variable {X : zX} {d : Nat} {σ : zS} {k : Nat}
theorem va_c {f : Nat → Int32} {j : Nat} (hj : j < 39) : va_cpy f f (ix 1) (ix 0) (ix 39) j = f (j + 1) := by
  have i1 : ix 1 = 1 := rfl
  have i0 : ix 0 = 0 := rfl
  have i39 : ix 39 = 39 := rfl
  unfold va_cpy
  rw [i1, i0, i39, if_pos (by omega), show 1 + (j - 0) = j + 1 by omega]
theorem drop_spec (h3 : (gi σ 24 3).toInt = 40) : zFr [25, 26, 27] [(24, 3)] σ (g_X3_dropOldest σ) ∧ (gi (g_X3_dropOldest σ) 24 3).toInt = 39 ∧ ∀ c, c = 25 ∨ c = 26 ∨ c = 27 → ∀ j, j < 39 → gi (g_X3_dropOldest σ) c j = gi σ c (j + 1) := by
  have e1 := l1
  unfold g_X3_dropOldest
  refine ⟨(((zFr.rf.wA (by decide)).wA (by decide)).wA (by decide)).sf (by decide), ?_, fun c hc j hj => ?_⟩
  · rw [gi_si, t_sub (by omega), h3, e1]; omega
  · rw [gi_si_ne (by omega)]
    rcases hc with hc | hc | hc <;> subst hc
    · rw [gi_sA_ne (by decide), gi_sA_ne (by decide), gi_sA, va_c hj]; rfl
    · rw [gi_sA_ne (by decide), gi_sA, c_sA_ne (by decide), va_c hj]; rfl
    · rw [gi_sA, c_sA_ne (by decide), c_sA_ne (by decide), va_c hj]; rfl
theorem note_spec {D : Nat} (h3 : (gi σ 24 3).toInt = D) (hD : D ≤ 40) (pl was v : Int32) : p_X3_note σ pl was v ∧ zFr [25, 26, 27] [(24, 3), (24, 4)] σ (g_X3_note σ pl was v) ∧ (gi (g_X3_note σ pl was v) 24 3).toInt = (min D 39 : Nat) + 1 ∧ (gi (g_X3_note σ pl was v) 24 4).toInt = (min D 39 : Nat) + 1 ∧ (gi (g_X3_note σ pl was v) 25 (min D 39) = pl ∧ gi (g_X3_note σ pl was v) 26 (min D 39) = was ∧ gi (g_X3_note σ pl was v) 27 (min D 39) = v) ∧ ∀ c, c = 25 ∨ c = 26 ∨ c = 27 → ∀ j, j < min D 39 → gi (g_X3_note σ pl was v) c j = gi σ c (if D = 40 then j + 1 else j) := by
  have e40 : (40 : Int32).toInt = 40 := rfl
  unfold p_X3_note g_X3_note
  by_cases c40 : D = 40
  · have c1 : gi σ 24 3 = 40 := ieq.mpr (by rw [h3, c40]; rfl)
    have DS := drop_spec (σ := σ) (by omega)
    have z : zin (gi (g_X3_dropOldest σ) 24 3) 40 = true := zin_of (by omega) (by omega)
    have iz : ix (gi (g_X3_dropOldest σ) 24 3) = 39 := by rw [ix_t, DS.2.1]; rfl
    have s1 : (gi (g_X3_dropOldest σ) 24 3 + 1).toInt = 40 := by rw [t_succ (by omega), DS.2.1]; rfl
    rw [if_neg (fun q => q c1), if_neg (fun q => q c1), iz, show min D 39 = 39 by omega]
    refine ⟨⟨z, z, z⟩, (((((DS.1.sub (by decide) (by decide)).ws (by decide)).ws (by decide)).ws (by decide)).sf (by decide)).sf (by decide), ?_, ?_, ⟨?_, ?_, ?_⟩, fun c hc j hj => ?_⟩
    · rw [gi_si_j (by decide), gi_si, s1]; rfl
    · rw [gi_si, s1]; rfl
    · rw [gi_si_ne (by decide), gi_si_ne (by decide), gi_si_ne (by decide), gi_si_ne (by decide), gi_si]
    · rw [gi_si_ne (by decide), gi_si_ne (by decide), gi_si_ne (by decide), gi_si]
    · rw [gi_si_ne (by decide), gi_si_ne (by decide), gi_si]
    · rw [if_pos c40, gi_si_ne (by omega), gi_si_ne (by omega), gi_all, gi_all, gi_all, if_neg (by omega), if_neg (by omega), if_neg (by omega)]
      exact DS.2.2 c hc j hj
  · have c1 : ¬ gi σ 24 3 = 40 := fun q => c40 (by rw [q, e40] at h3; omega)
    have z : zin (gi σ 24 3) 40 = true := zin_of (by omega) (by omega)
    have iz : ix (gi σ 24 3) = D := by rw [ix_t, h3]; rfl
    have s1 : (gi σ 24 3 + 1).toInt = D + 1 := by rw [t_succ (by omega), h3]
    rw [if_pos c1, if_pos c1, iz, show min D 39 = D by omega]
    refine ⟨⟨z, z, z⟩, ((((zFr.rf.ws (by decide)).ws (by decide)).ws (by decide)).sf (by decide)).sf (by decide), ?_, ?_, ⟨?_, ?_, ?_⟩, fun c hc j hj => ?_⟩
    · rw [gi_si_j (by decide), gi_si, s1]
    · rw [gi_si, s1]
    · rw [gi_si_ne (by decide), gi_si_ne (by decide), gi_si_ne (by decide), gi_si_ne (by decide), gi_si]
    · rw [gi_si_ne (by decide), gi_si_ne (by decide), gi_si_ne (by decide), gi_si]
    · rw [gi_si_ne (by decide), gi_si_ne (by decide), gi_si]
    · rw [if_neg c40, gi_si_ne (by omega), gi_si_ne (by omega), gi_all, gi_all, gi_all, if_neg (by omega), if_neg (by omega), if_neg (by omega)]
theorem changes_spec {Q : Option Value → zH → Prop} (hd : 3 ≤ d) {τ : zS} {nr nt w i D : Nat} {N : Nat → Nat → Int} {aw ai v was : Int32} (hM : HallM τ nr nt N) (hR : HallR nr nt N) (hm : zmean nr nt w i) (hw : aw.toInt = w) (hi : ai.toInt = i) (hwas : was.toInt = N w i) (hne : ¬ was = v) (h13 : (gi τ 66 13).toInt = D) (hD : D ≤ 40)
    (hQ : ∀ ρ : zS, zFr [67, 68, 69, 70, 71, 72, 73, 74, 75, 76] [(66, 9), (66, 10), (66, 11), (66, 12), (66, 13), (66, 14)] τ ρ → HallM ρ nr nt (updN N w i v.toInt) → (gi ρ 66 13).toInt = (min D 39 : Nat) + 1 → (gi ρ 66 14).toInt = 0 → (gi ρ 73 (min D 39) = aw ∧ gi ρ 74 (min D 39) = ai ∧ gi ρ 75 (min D 39) = was ∧ gi ρ 76 (min D 39) = v) → (∀ c, c = 73 ∨ c = 74 ∨ c = 75 ∨ c = 76 → ∀ j, j < min D 39 → gi ρ c j = gi τ c (if D = 40 then j + 1 else j)) → Q (some (.int was)) (zen ρ)) : zwp X d MX12_changes 0 [.ref 66, .int aw, .int ai, .int v, .null, .null] [] (zen τ) Q := by
  have e0 := l0
  have e1 := l1
  have e40 : (40 : Int32).toInt = 40 := rfl
  have VA := valueAt_ok (aw := aw) (ai := ai) hM hR hm hw hi
  have ev : f_X12_valueAt τ aw ai = was := ieq.mpr (by rw [VA.2, hwas])
  rw [b_X12_changes_0 (hd := by omega), ztrue_and VA.1, ev, if_pos hne]
  -- what both roads come to
  have fin : ∀ (τ' : zS) (q x1 : Int32) (D' : Nat), D' = min D 39 → zFr [73, 74, 75, 76] [(66, 13), (66, 14)] τ τ' → (gi τ' 66 14).toInt = 0 → q.toInt = D' + 1 → (∀ c, c = 73 ∨ c = 74 ∨ c = 75 ∨ c = 76 → ∀ j, j < D' → gi τ' c j = gi τ c (if D = 40 then j + 1 else j)) → (p_X12_lays (si (si (si (si (si τ' 73 D' aw) 74 D' ai) 75 D' was) 76 D' v) 66 13 q) aw ai v ∧ Q (some (.int was)) (zen (g_X12_lays (si (si (si (si (si τ' 73 D' aw) 74 D' ai) 75 D' was) 76 D' v) 66 13 q) aw ai v))) := by
    intro τ' q x1 D' hD' hF h14 hq hs
    have hF2 : zFr [73, 74, 75, 76] [(66, 13), (66, 14)] τ (si (si (si (si (si τ' 73 D' aw) 74 D' ai) 75 D' was) 76 D' v) 66 13 q) := ((((hF.ws (by decide)).ws (by decide)).ws (by decide)).ws (by decide)).sf (by decide)
    have hM2 : HallM (si (si (si (si (si τ' 73 D' aw) 74 D' ai) 75 D' was) 76 D' v) 66 13 q) nr nt N := hM.zfr hF2 (by decide) (by decide)
    have Ly := hM2.lay (v := v) hR hm hw hi
    obtain ⟨c, j, eL, hcj⟩ := Ly.2.2
    have hFl := lay_fr eL hcj
    refine ⟨Ly.1, hQ _ ((hF2.sub (by decide) (by decide)).tr (hFl.sub (by decide) (by decide))) Ly.2.1 ?_ ?_ ⟨?_, ?_, ?_, ?_⟩ (fun c hc j hj => ?_)⟩
    · rw [hFl.1 66 (by decide) 13 (by decide), gi_si, hq, hD']
    · rw [hFl.1 66 (by decide) 14 (by decide), gi_si_j (by decide), gi_si_ne (by decide), gi_si_ne (by decide), gi_si_ne (by decide), gi_si_ne (by decide)]; exact h14
    · rw [← hD', hFl.1 73 (by decide) D' (by simp), gi_si_ne (by decide), gi_si_ne (by decide), gi_si_ne (by decide), gi_si_ne (by decide), gi_si]
    · rw [← hD', hFl.1 74 (by decide) D' (by simp), gi_si_ne (by decide), gi_si_ne (by decide), gi_si_ne (by decide), gi_si]
    · rw [← hD', hFl.1 75 (by decide) D' (by simp), gi_si_ne (by decide), gi_si_ne (by decide), gi_si]
    · rw [← hD', hFl.1 76 (by decide) D' (by simp), gi_si_ne (by decide), gi_si]
    · rw [hFl.1 c (by simp; omega) j (by simp; omega), gi_si_ne (by omega), gi_all, gi_all, gi_all, gi_all, if_neg (by omega), if_neg (by omega), if_neg (by omega), if_neg (by omega)]
      exact hs c hc j (by omega)
  by_cases c40 : D = 40
  · have c1 : gi τ 66 13 = 40 := ieq.mpr (by rw [h13, c40]; rfl)
    rw [if_neg (fun q => q c1)]
    have s39 : (gi (si τ 66 14 0) 66 13 - 1).toInt = 39 := by rw [gi_si_j (by decide), t_sub (by omega), h13, e1, c40]; rfl
    refine lp_X12_changes (by omega) aw ai v was (si τ 66 14 0) (by rw [gi_si_j (by decide), h13, c40]; rfl) 39 (si τ 66 14 0) 1 (by omega) (by omega) zFr.rf (fun c hc j => by rw [if_neg (by omega)]) (fun τ' hF hs => ?_)
    have hF' : zFr [73, 74, 75, 76] [(66, 13), (66, 14)] τ τ' := ((zFr.rf.sf (by decide)).tr (hF.sub (by decide) (by decide)))
    have := fin (si τ' 66 13 (gi (si τ 66 14 0) 66 13 - 1)) (gi (si τ 66 14 0) 66 13 - 1 + 1) 0 39 (by omega) (hF'.sf (by decide)) (by rw [gi_si_j (by decide), hF.1 66 (by decide) 14 (by simp), gi_si]; rfl) (by rw [t_succ (by omega), s39]; rfl) (fun c hc j hj => by
      rw [if_pos c40, gi_si_ne (by omega), hs c hc j hj, gi_si_ne (by omega)])
    exact this
  · have c1 : ¬ gi τ 66 13 = 40 := fun q => c40 (by rw [q, e40] at h13; omega)
    have z : zin (gi τ 66 13) 40 = true := zin_of (by omega) (by omega)
    have iz : ix (gi τ 66 13) = D := by rw [ix_t, h13]; rfl
    rw [if_pos c1, ztrue_and z, ztrue_and z, ztrue_and z, ztrue_and z, iz]
    exact fin (si τ 66 14 0) (gi τ 66 13 + 1) 0 D (by omega) (zFr.rf.sf (by decide)) (by rw [gi_si]; rfl) (by rw [t_succ (by omega), h13]) (fun c hc j hj => by
      rw [if_neg c40, gi_si_ne (by omega)])
theorem o_mend (hd : 20 ≤ d) (hk : k ≤ 512) (h : Rel k σ) (a b v : Int32) : zOp k σ X d MX11_mend MX12_mend [.ref 0, .int a, .int b, .int v, .null, .null] [.ref 66, .int a, .int b, .int v] := by
  have hn : Rel (k + 1) σ := by obtain ⟨nr, nt, N, V, I, h⟩ := h; exact h.next
  obtain ⟨nr, nt, N, V, I, h⟩ := h
  have e0 := l0
  have em1 := lm1
  have z10 : ¬ (1 : Int32) = 0 := by decide
  have O := isOne_eq (σ := σ) (w := b) (i := a) h.1.2.1 h.1.2.2
  by_cases hm : zmok nr nt b.toInt a.toInt
  · have P := place_ok h.1.1 h.1.2.2 hm
    have hl := zmean_lt h.1.2.2 hm.2.2
    have hm1 := hm.1
    have hm2 := hm.2.1
    have hb : b.toInt = b.toInt.toNat := by omega
    have ha : a.toInt = a.toInt.toNat := by omega
    have nP : ¬ f_X5_placeOf σ a b < 0 := fun q => by have := il.mp q; omega
    have F := fits_eq (σ := σ) (w := b) (v := v) (by omega)
    have B := mayBe_eq (σ := σ) (w := b) (v := v) (by omega)
    have hz : zin (f_X5_placeOf σ a b) 80 = true := zin_of (by omega) (by omega)
    have ip : ix (f_X5_placeOf σ a b) = 8 * b.toInt.toNat + a.toInt.toNat := by rw [ix_t, P]; omega
    have hwas : (gi σ 2 (ix (f_X5_placeOf σ a b))).toInt = N b.toInt.toNat a.toInt.toNat := by rw [ip]; exact h.1.1.2.2 _ _ hm.2.2
    by_cases cv : zloB b.toInt.toNat ≤ v.toInt ∧ v.toInt ≤ zhiB b.toInt.toNat
    · rw [if_pos cv] at F B
      by_cases cw : gi σ 2 (ix (f_X5_placeOf σ a b)) = v
      · -- nothing is other
        have VA := valueAt_ok (aw := b) (ai := a) h.1.2.1 h.1.2.2 hm.2.2 hb ha
        have ev : f_X12_valueAt σ b a = v := ieq.mpr (by rw [VA.2, ← hwas, cw])
        refine zOp.same hn (x := v) (fm := v) (fun Q => ?_) (fun Q => ?_) rfl
        · have q : g_X11_mend σ a b v = σ ∧ f_X11_mend σ a b v = v ∧ p_X11_mend σ a b v := by
            unfold g_X11_mend f_X11_mend p_X11_mend
            rw [if_neg nP, if_neg nP, if_neg nP, F.2, if_pos z10, if_pos z10, if_pos z10, if_pos cw, if_pos cw]
            exact ⟨rfl, cw, F.1, hz, trivial⟩
          rw [s_X11_mend (hd := by omega), q.1, q.2.1, ztrue_and q.2.2]
        · rw [b_X12_mend_0 (hd := by omega), O.1 hm, if_neg z10, B, if_neg z10, b_X12_changes_0 (hd := by omega), ztrue_and VA.1, ev, if_neg (fun q => q rfl)]
          show zwp X d MX12_mend 24 _ [.int v] (zen σ) Q = _
          rw [b_X12_mend_24]
      · obtain ⟨D, U, hDU, x1, x2, x3, x4, x5⟩ := h.2.2.2.2.2.1
        have hv := h.2.2.1.2.1
        have hv2 := h.2.2.1.2.2.1
        have NS := note_spec (σ := σ) (D := D) x1 (by omega) (f_X5_placeOf σ a b) (gi σ 2 (ix (f_X5_placeOf σ a b))) v
        have gN13 : gi (g_X3_note σ (f_X5_placeOf σ a b) (gi σ 2 (ix (f_X5_placeOf σ a b))) v) 1 3 = gi σ 1 3 := NS.2.1.1 1 (by decide) 3 (by decide)
        generalize hwv : gi σ 2 (ix (f_X5_placeOf σ a b)) = was at *
        generalize hpl : f_X5_placeOf σ a b = pl at *
        generalize hτ1 : g_X3_note σ pl was v = τ1 at *
        have gCe : g_X11_mend σ a b v = si (si τ1 2 (8 * b.toInt.toNat + a.toInt.toNat) v) 1 3 (gi σ 1 3 + 1) := by
          unfold g_X11_mend g_X5_change
          rw [hpl, if_neg nP, F.2, if_pos z10, hwv, if_neg cw, hτ1, ip, gN13]
        have hC : HallC (si (si τ1 2 (8 * b.toInt.toNat + a.toInt.toNat) v) 1 3 (gi σ 1 3 + 1)) nr nt (updN N b.toInt.toNat a.toInt.toNat v.toInt) := by
          have h0 : HallC τ1 nr nt N := h.1.1.fr (NS.2.1.c (by decide) (by decide)) (NS.2.1.c (by decide) (by decide))
          have := h0.upd (v := v) h.1.2.2 hm.2.2
          exact ⟨this.1, this.2.1, this.2.2⟩
        have hF1 : zFr [2, 25, 26, 27] [(1, 3), (24, 3), (24, 4)] σ (si (si τ1 2 (8 * b.toInt.toNat + a.toInt.toNat) v) 1 3 (gi σ 1 3 + 1)) := ((NS.2.1.sub (by decide) (by decide)).ws (by decide)).sf (by decide)
        have fC : f_X11_mend σ a b v = was ∧ p_X11_mend σ a b v := by
          unfold f_X11_mend p_X11_mend p_X5_change
          rw [hpl, if_neg nP, if_neg nP, F.2, if_pos z10, if_pos z10, hwv, if_neg cw]
          exact ⟨rfl, F.1, hz, NS.1, hz⟩
        unfold zOp
        rw [s_X11_mend (hd := by omega), gCe, fC.1, ztrue_and fC.2]
        refine ⟨was, _, rfl, rfl, ?_⟩
        have hM1 : HallM (si (si τ1 2 (8 * b.toInt.toNat + a.toInt.toNat) v) 1 3 (gi σ 1 3 + 1)) nr nt N := h.1.2.1.zfr hF1 (by decide) (by decide)
        have t25 : ∀ c, c = 25 ∨ c = 26 ∨ c = 27 → ∀ j, gi (si (si τ1 2 (8 * b.toInt.toNat + a.toInt.toNat) v) 1 3 (gi σ 1 3 + 1)) c j = gi τ1 c j := fun c hc j => by rw [gi_si_ne (by omega), gi_si_ne (by omega)]
        have t24 : ∀ j, gi (si (si τ1 2 (8 * b.toInt.toNat + a.toInt.toNat) v) 1 3 (gi σ 1 3 + 1)) 24 j = gi τ1 24 j := fun j => by rw [gi_si_ne (by decide), gi_si_ne (by decide)]
        have t13 : gi (si (si τ1 2 (8 * b.toInt.toNat + a.toInt.toNat) v) 1 3 (gi σ 1 3 + 1)) 1 3 = gi σ 1 3 + 1 := gi_si
        generalize si (si τ1 2 (8 * b.toInt.toNat + a.toInt.toNat) v) 1 3 (gi σ 1 3 + 1) = τ at *
        have O2 := isOne_eq (σ := τ) (w := b) (i := a) hM1 h.1.2.2
        have B2 := mayBe_eq (σ := τ) (w := b) (v := v) (by omega)
        rw [if_pos cv] at B2
        have m13 : (gi τ 66 13).toInt = D := by rw [hF1.1 66 (by decide) 13 (by decide)]; exact x3
        rw [b_X12_mend_0 (hd := by omega), O2.1 hm, if_neg z10, B2, if_neg z10]
        refine changes_spec (by omega) hM1 h.1.2.2 hm.2.2 hb ha hwas cw m13 (by omega) (fun ρ hF2 hM3 r13 r14 rE rJ => ?_)
        show zwp X d MX12_mend 24 _ [.int was] (zen ρ) _
        rw [b_X12_mend_24]
        refine ⟨rfl, ρ, rfl, nr, nt, updN N b.toInt.toNat a.toInt.toNat v.toInt, V, I, (h.set hm.2.2 cv (by omega) hC hM3 hF1 hF2 t13 ?_).up (by rw [Int.natCast_add]; omega)⟩
        have c24 : ∀ q, gi ρ 24 q = gi τ1 24 q := fun q => (hF2.1 24 (by decide) q (by simp)).trans (t24 q)
        have c25 : ∀ c, c = 25 ∨ c = 26 ∨ c = 27 → ∀ j, gi ρ c j = gi τ1 c j := fun c hc j => (hF2.1 c (by simp; omega) j (by simp; omega)).trans (t25 c hc j)
        have bw := h.1.2.2.2.2 _ _ hm.2.2
        refine ⟨min D 39 + 1, 0, by omega, ?_, ?_, ?_, by rw [r14]; rfl, fun j hj => ?_⟩
        · rw [c24, NS.2.2.1]; rfl
        · rw [c24, NS.2.2.2.1]; rfl
        · rw [r13]; rfl
        · by_cases ej : j = min D 39
          · refine ⟨b.toInt.toNat, a.toInt.toNat, hm.2.2, ?_, ?_, ?_, ?_, ?_, ?_⟩
            · rw [c25 25 (by omega), ej, NS.2.2.2.2.1.1, P]; omega
            · rw [ej, rE.1]; exact hb
            · rw [ej, rE.2.1]; exact ha
            · rw [c25 26 (by omega), ej, NS.2.2.2.2.1.2.1, rE.2.2.1]
            · rw [c25 27 (by omega), ej, NS.2.2.2.2.1.2.2, rE.2.2.2]
            · rw [c25 26 (by omega), c25 27 (by omega), ej, NS.2.2.2.2.1.2.1, NS.2.2.2.2.1.2.2]
              exact ⟨by omega, by omega, cv.1, cv.2⟩
          · refine entX.mv (σ := σ) (j' := if D = 40 then j + 1 else j) (x5 _ (by split <;> omega)) (fun c hc => ?_)
            by_cases h25 : c = 25 ∨ c = 26 ∨ c = 27
            · rw [c25 c h25]; exact NS.2.2.2.2.2 c h25 j (by omega)
            · rw [rJ c (by omega) j (by omega)]
              exact hF1.1 c (by simp; omega) _ (by simp; omega)
    · rw [if_neg cv] at F B
      refine zOp.same hn (x := -1) (fm := -1) (fun Q => ?_) (fun Q => ?_) rfl
      · have q : g_X11_mend σ a b v = σ ∧ f_X11_mend σ a b v = -1 ∧ p_X11_mend σ a b v := by
          unfold g_X11_mend f_X11_mend p_X11_mend
          rw [if_neg nP, if_neg nP, if_neg nP, F.2, if_neg (fun q => q rfl), if_neg (fun q => q rfl), if_neg (fun q => q rfl)]
          exact ⟨rfl, rfl, F.1, trivial⟩
        rw [s_X11_mend (hd := by omega), q.1, q.2.1, ztrue_and q.2.2]
      · rw [b_X12_mend_0 (hd := by omega), O.1 hm, if_neg z10, B, if_pos rfl]
  · have P := place_no (σ := σ) h.1.1 hm
    have nP : f_X5_placeOf σ a b < 0 := by rw [P]; decide
    refine zOp.same hn (x := -1) (fm := -1) (fun Q => ?_) (fun Q => ?_) rfl
    · have q : g_X11_mend σ a b v = σ ∧ f_X11_mend σ a b v = -1 ∧ p_X11_mend σ a b v := by
        unfold g_X11_mend f_X11_mend p_X11_mend
        rw [if_pos nP, if_pos nP, if_pos nP]; exact ⟨rfl, rfl, trivial⟩
      rw [s_X11_mend (hd := by omega), q.1, q.2.1, ztrue_and q.2.2]
    · rw [b_X12_mend_0 (hd := by omega), O.2 hm, if_pos rfl]
end OPSI
