/-! act -/
theorem am (b n : Int32) : ∀ K, K < 8 → ∀ m, m < 4 → aCal 12 K b K m n = mAct K m b n := by
  intro K hK m hm
  have h1 : K = 0 ∨ K = 1 ∨ K = 2 ∨ K = 3 ∨ K = 4 ∨ K = 5 ∨ K = 6 ∨ K = 7 := by omega
  have h2 : m = 0 ∨ m = 1 ∨ m = 2 ∨ m = 3 := by omega
  rcases h1 with e | e | e | e | e | e | e | e <;> rcases h2 with e' | e' | e' | e' <;> rw [e, e']
  · exact am_0_0 b n
  · exact am_0_1 b n
  · exact am_0_2 b n
  · exact am_0_3 b n
  · exact am_1_0 b n
  · exact am_1_1 b n
  · exact am_1_2 b n
  · exact am_1_3 b n
  · exact am_2_0 b n
  · exact am_2_1 b n
  · exact am_2_2 b n
  · exact am_2_3 b n
  · exact am_3_0 b n
  · exact am_3_1 b n
  · exact am_3_2 b n
  · exact am_3_3 b n
  · exact am_4_0 b n
  · exact am_4_1 b n
  · exact am_4_2 b n
  · exact am_4_3 b n
  · exact am_5_0 b n
  · exact am_5_1 b n
  · exact am_5_2 b n
  · exact am_5_3 b n
  · exact am_6_0 b n
  · exact am_6_1 b n
  · exact am_6_2 b n
  · exact am_6_3 b n
  · exact am_7_0 b n
  · exact am_7_1 b n
  · exact am_7_2 b n
  · exact am_7_3 b n
theorem aK_t : ∀ n, n < 32 → (aK n).toInt = n := by decide
theorem aK_of {x : Int32} (h : 0 ≤ x.toInt ∧ x.toInt < 32) : aK x.toInt.toNat = x := ieq.mpr (by rw [aK_t _ (by omega)]; omega)
theorem note_eq {l : List Nat} : ∀ {σ ρ : zS} {c : Nat}, (gi σ 63 3).toInt = c → (gi ρ 66 51).toInt = c → c + l.length ≤ 1000 → (∀ j, j < c → j < 24 → gi σ 65 j = gi ρ 94 j) → ∀ j, j < c + l.length → j < 24 → gi (noteC σ l) 65 j = gi (noteM ρ l) 94 j := by
  induction l with
  | nil => intro σ ρ c _ _ _ h j hj h24; exact h j hj h24
  | cons x l ih =>
    intro σ ρ c h1 h2 h3 h j hj h24
    rw [List.length_cons] at h3 hj
    have e1 := l1
    have q1 : (gi (gC σ (aK x)) 63 3).toInt = ((c + 1 : Nat) : Int) := by rw [gC_n, t_add (by omega), e1, h1]; omega
    have q2 : (gi (g_X12_ran ρ (aK x)) 66 51).toInt = ((c + 1 : Nat) : Int) := by rw [gM_n, t_add (by omega), e1, h2]; omega
    refine ih (σ := gC σ (aK x)) (ρ := g_X12_ran ρ (aK x)) q1 q2 (by omega) (fun i hi hi24 => ?_) j (by omega) h24
    unfold gC g_X12_ran
    by_cases c24 : 24 ≤ c
    · rw [if_pos (ile.mpr (by rw [l24]; omega)), if_pos (ile.mpr (by rw [l24]; omega)), gi_si_ne (by decide), gi_si_ne (by decide)]
      exact h i (by omega) hi24
    · rw [if_neg (fun y => by have := ile.mp y; rw [l24] at this; omega), if_neg (fun y => by have := ile.mp y; rw [l24] at this; omega), gi_si_ne (k := 63) (by decide), gi_si_ne (k := 66) (by decide)]
      have i1 : ix (gi σ 63 3) = c := by rw [ix_t]; omega
      have i2 : ix (gi ρ 66 51) = c := by rw [ix_t]; omega
      rw [i1, i2]
      by_cases e : i = c
      · rw [e, gi_si, gi_si]
      · rw [gi_si_j e, gi_si_j e]; exact h i (by omega) hi24
theorem r_act {σ : zS} {K m : Nat} {b : Int32} (hK : K < 8) (hm : m < 4) (hb : zin b 50 = true) (hk : gi σ 93 (ix b) = aK K) (hB : f_X12_isBody (si σ 66 51 0) b = 1) (n : Int32) : MR (p_X12_act σ b (aK m) n) (f_X12_act σ b (aK m) n) (g_X12_act σ b (aK m) n) (si σ 66 51 0) (mAct K m b n) := by
  have z10 : ¬ (1 : Int32) = 0 := by decide
  have h0 : gi (si σ 66 51 0) 66 51 = 0 := gi_si
  have hn : 0 ≤ (gi (si σ 66 51 0) 66 51).toInt ∧ (gi (si σ 66 51 0) 66 51).toInt ≤ 500 := by rw [h0, l0]; omega
  have hk' : gi (si σ 66 51 0) 93 (ix b) = aK K := by rw [gi_si_ne (by decide)]; exact hk
  have hi : f_X12_in σ (aK m) 0 3 = 1 := t_in1 (by rw [aK_t m (by omega), l0, l3]; omega)
  unfold p_X12_act f_X12_act g_X12_act mAct
  rw [hB, hi, if_neg z10, if_neg z10, if_neg z10, if_pos z10, if_pos z10, if_pos z10]
  have h2 : m = 0 ∨ m = 1 ∨ m = 2 ∨ m = 3 := by omega
  rcases h2 with e | e | e | e
  · have a0 : ¬ ¬ aK m = 0 := fun y => y (by rw [e]; rfl)
    rw [if_neg a0, if_neg a0, if_neg a0, if_pos e]
    exact r_bear hK hb hk' (by omega) n
  · have a0 : ¬ aK m = 0 := by rw [e]; decide
    have a1 : ¬ ¬ aK m = 1 := fun y => y (by rw [e]; rfl)
    rw [if_pos a0, if_pos a0, if_pos a0, if_neg a1, if_neg a1, if_neg a1, if_neg (show ¬ m = 0 by omega), if_pos e]
    exact r_clap hK hb hk' (by omega) n
  · have a0 : ¬ aK m = 0 := by rw [e]; decide
    have a1 : ¬ aK m = 1 := by rw [e]; decide
    have a2 : ¬ ¬ aK m = 2 := fun y => y (by rw [e]; rfl)
    rw [if_pos a0, if_pos a0, if_pos a0, if_pos a1, if_pos a1, if_pos a1, if_neg a2, if_neg a2, if_neg a2, if_neg (show ¬ m = 0 by omega), if_neg (show ¬ m = 1 by omega), if_pos e]
    exact r_thaw hK hb hk' (by omega) n
  · have a0 : ¬ aK m = 0 := by rw [e]; decide
    have a1 : ¬ aK m = 1 := by rw [e]; decide
    have a2 : ¬ aK m = 2 := by rw [e]; decide
    rw [if_pos a0, if_pos a0, if_pos a0, if_pos a1, if_pos a1, if_pos a1, if_pos a2, if_pos a2, if_pos a2, if_neg (show ¬ m = 0 by omega), if_neg (show ¬ m = 1 by omega), if_neg (show ¬ m = 2 by omega)]
    exact r_tell hK hb hk' hn n
theorem RelP.body2 {b : Int} {σ τ : zS} {nr nt : Nat} {N : Nat → Nat → Int} {V : zV} {I : Nat → Int} (h : RelP b σ nr nt N V I) (hF : zFr [64, 65, 93, 94] [(63, 2), (63, 3), (63, 4), (63, 5), (66, 49), (66, 51)] σ τ) (hm : (gi σ 63 2).toInt ≤ (gi τ 63 2).toInt) (hB : RB τ) : RelP b τ nr nt N V I := by
  obtain ⟨h1, h2, h3, h4, h5, h6, h7, h8, h9⟩ := h
  have e13 : gi τ 1 3 = gi σ 1 3 := hF.1 1 (by decide) 3 (by decide)
  refine ⟨h1.zfr hF (by decide), h2.zfr hF (by decide), ⟨h3.1.fr (hF.c (by decide) (by decide)) (hF.c (by decide) (by decide)) (hF.c (by decide) (by decide)) e13, by rw [e13]; exact h3.2.1, by rw [e13]; exact h3.2.2.1, by rw [hF.1 66 (by decide) 36 (by decide)]; exact h3.2.2.2⟩, h4.zfr hF (by decide), h5.zfr hF (by decide), h6.zfr hF (by decide), h7.zfr hF (by decide), fun s hs => ?_, hB⟩
  refine (h8 s hs).fr (hF.c (by simp; omega) (by simp; omega)) (hF.2 _ (by simp; omega)) (hF.1 95 (by decide) s (by simp)) (hF.1 96 (by decide) s (by simp)) (fun j _ => ?_) hm
  show τ.2 97 _ = _
  rw [hF.2 97 (by decide)]; rfl
section ACT
variable {X : zX} {d : Nat} {σ : zS} {k : Nat}
theorem o_act (hd : 60 ≤ d) (h : Rel k σ) (a m n : Int32) : zOp k σ X d MX11_act MX12_act [.ref 0, .int a, .int m, .int n] [.ref 66, .int a, .int m, .int n] := by
  obtain ⟨nr, nt, N, V, I, h⟩ := h
  obtain ⟨nb, ran, b1, b2, b3, b4, b5, b6, b7, b8⟩ := h.2.2.2.2.2.2.2.2
  have e0 := l0
  have e1 := l1
  have e3 := l3
  have e4 := l4
  have z10 : ¬ (1 : Int32) = 0 := by decide
  have hup : 200 * (k : Int) ≤ 200 * ((k + 1 : Nat) : Int) := by rw [Int.natCast_add]; omega
  have g63 : gi (si σ 63 3 0) 63 2 = gi σ 63 2 := gi_si_j (by decide)
  have fx : ∀ τ : zS, gi τ 66 49 = gi σ 66 49 → f_X12_isBody τ a = if 0 ≤ a.toInt ∧ a.toInt < nb then 1 else 0 := fun τ g => by
    unfold f_X12_isBody
    rw [g]
    have : (gi σ 66 49 - 1).toInt = nb - 1 := by rw [t_sub (by omega), b3, e1]
    by_cases c : 0 ≤ a.toInt ∧ a.toInt < nb
    · rw [if_pos c]; exact t_in1 (by omega)
    · rw [if_neg c]; exact t_in0 (by omega)
  by_cases c : (0 ≤ a.toInt ∧ a.toInt < nb) ∧ 0 ≤ m.toInt ∧ m.toInt < 4
  · obtain ⟨ca, cm⟩ := c
    have hh : f_X1_has (si σ 63 3 0) a = 1 := by
      unfold f_X1_has
      rw [g63, if_neg (fun q => by have := il.mp q; omega), if_neg (fun q => by have := ile.mp q; omega)]
    have hix := ix_t a
    have hz : zin a 50 = true := zin_of (by omega) (by omega)
    have hk := b4 (ix a) (by omega)
    have eK : gi σ 64 (ix a) = aK (gi σ 64 (ix a)).toInt.toNat := (aK_of (by omega)).symm
    have hK8 : (gi σ 64 (ix a)).toInt.toNat < 8 := by omega
    have em : m = aK m.toInt.toNat := (aK_of (by omega)).symm
    have hm4 : m.toInt.toNat < 4 := by omega
    have ek93 : gi σ 93 (ix a) = aK (gi σ 64 (ix a)).toInt.toNat := by rw [← hk.1]; exact eK
    generalize (gi σ 64 (ix a)).toInt.toNat = K at *
    generalize m.toInt.toNat = m' at *
    subst em
    unfold zOp
    rw [b_X11_act_0 (hd := by omega), hh, if_neg z10, if_neg (fun q => by have := il.mp q; omega), if_pos (il.mpr (by omega)), b_X1_perform_0 (hd := by omega), ztrue_and hz]
    have g64 : gi (si σ 63 3 0) 64 (ix a) = aK K := by rw [gi_si_ne (by decide)]; exact eK
    rw [g64]
    generalize hτ : si (si (si σ 63 3 0) 63 4 a) 63 5 (aK K) = τ
    have t3 : gi τ 63 3 = 0 := by rw [← hτ, gi_si_j (by decide), gi_si_j (by decide), gi_si]
    have t4 : gi τ 63 4 = a := by rw [← hτ, gi_si_j (by decide), gi_si]
    have t5 : gi τ 63 5 = aK K := by rw [← hτ, gi_si]
    have hl := lA K hK8 m' a n
    have ea := am a n K hK8 m' hm4
    refine w_called 12 (K := K) (k := K) (m := m') (b := a) (n := n) (dep := 0) (aOk12 K hK8 m' hm4) hK8 hK8 hm4 (by rw [e0]; omega) (by rw [e0]; omega) (by omega) t5 t4 (by rw [t3, e0]; omega) (by rw [t3, e0, ea]; omega) ?_
    show zwp _ _ _ _ _ [_] _ _
    rw [b_X1_perform_26]
    show zwp _ _ _ _ _ [_] _ _
    rw [b_X11_act_40, ea]
    have hFC : zFr [64, 65, 93, 94] [(63, 2), (63, 3), (63, 4), (63, 5), (66, 49), (66, 51)] σ (noteC τ (mAct K m' a n).1) := by
      have q : zFr [64, 65, 93, 94] [(63, 2), (63, 3), (63, 4), (63, 5), (66, 49), (66, 51)] σ τ := by rw [← hτ]; exact ((zFr.rf.sf (by decide)).sf (by decide)).sf (by decide)
      exact q.tr (noteC_fr.sub (by decide) (by decide))
    have nC := noteC_n (σ := τ) (l := (mAct K m' a n).1) (by rw [t3, e0]; omega) (by rw [t3, e0]; omega)
    rw [t3, e0] at nC
    have k64 : ∀ j, gi (noteC τ (mAct K m' a n).1) 64 j = gi σ 64 j := fun j => by rw [noteC_fr.1 64 (by decide) j (by simp), ← hτ, gi_si_ne (by decide), gi_si_ne (by decide), gi_si_ne (by decide)]
    have k93 : ∀ j, gi (noteC τ (mAct K m' a n).1) 93 j = gi σ 93 j := fun j => by rw [noteC_fr.1 93 (by decide) j (by simp), ← hτ, gi_si_ne (by decide), gi_si_ne (by decide), gi_si_ne (by decide)]
    have k49 : gi (noteC τ (mAct K m' a n).1) 66 49 = gi σ 66 49 := by rw [noteC_fr.1 66 (by decide) 49 (by decide), ← hτ, gi_si_ne (by decide), gi_si_ne (by decide), gi_si_ne (by decide)]
    have k632 : gi (noteC τ (mAct K m' a n).1) 63 2 = gi σ 63 2 := by rw [noteC_fr.1 63 (by decide) 2 (by decide), ← hτ, gi_si_j (by decide), gi_si_j (by decide), gi_si_j (by decide)]
    have nE := fun ρ => note_eq (l := (mAct K m' a n).1) (σ := τ) (ρ := ρ) (c := 0) (by rw [t3]; rfl)
    generalize hτ2 : noteC τ (mAct K m' a n).1 = τ2 at *
    have A := r_act (σ := τ2) hK8 hm4 hz (by rw [k93]; exact ek93) (by rw [fx _ (by rw [gi_si_j (by decide)]; exact k49), if_pos ca]) n
    refine ⟨_, τ2, rfl, rfl, ?_⟩
    rw [s_X12_act (hd := by omega), A.2.1, A.2.2]
    have u0 : gi (si τ2 66 51 0) 66 51 = 0 := gi_si
    have nM := noteM_n (σ := si τ2 66 51 0) (l := (mAct K m' a n).1) (by rw [u0, e0]; omega) (by rw [u0, e0]; omega)
    rw [u0, e0] at nM
    have nE := nE (si τ2 66 51 0) (by rw [u0]; rfl) (by omega) (fun j hj => by omega)
    refine ⟨A.1, rfl, noteM (si τ2 66 51 0) (mAct K m' a n).1, rfl, nr, nt, N, V, I, (h.body2 (hFC.tr ((zFr.rf.sf (by decide)).tr (noteM_fr.sub (by decide) (by decide)))) ?_ ⟨nb, (mAct K m' a n).1.length, b1, ?_, ?_, fun j hj => ?_, by omega, ?_, ?_, fun j hj h24 => ?_⟩).up hup⟩
    · rw [noteM_fr.1 63 (by decide) 2 (by decide), gi_si_ne (by decide), k632]; exact Int.le_refl _
    · rw [noteM_fr.1 63 (by decide) 2 (by decide), gi_si_ne (by decide), k632]; exact b2
    · rw [noteM_fr.1 66 (by decide) 49 (by decide), gi_si_j (by decide), k49]; exact b3
    · rw [noteM_fr.1 64 (by decide) j (by simp), gi_si_ne (by decide), k64, noteM_fr.1 93 (by decide) j (by simp), gi_si_ne (by decide), k93]; exact b4 j hj
    · rw [noteM_fr.1 63 (by decide) 3 (by decide), gi_si_ne (by decide), nC]; omega
    · rw [nM]; omega
    · rw [noteM_fr.1 65 (by decide) j (by simp), gi_si_ne (by decide)]
      exact nE j (by omega) h24
  · have hF : zFr [64, 65, 93, 94] [(63, 2), (63, 3), (63, 4), (63, 5), (66, 49), (66, 51)] σ (si (si σ 63 3 0) 66 51 0) := (zFr.rf.sf (by decide)).sf (by decide)
    have g49 : gi (si (si σ 63 3 0) 66 51 0) 66 49 = gi σ 66 49 := by rw [gi_si_j (by decide), gi_si_ne (by decide)]
    refine zOp.sum2 (gc := si σ 63 3 0) (gm := si (si σ 63 3 0) 66 51 0) (fc := 0) (fm := 0) (pc := True) (pm := True) (fun Q => and_true_eq ?_) (fun Q => and_true_eq ?_) trivial trivial rfl ⟨nr, nt, N, V, I, (h.body2 hF ?_ ⟨nb, 0, b1, ?_, ?_, fun j hj => ?_, by omega, ?_, ?_, fun j hj => by omega⟩).up hup⟩
    · rw [b_X11_act_0 (hd := by omega)]
      unfold f_X1_has
      rw [g63]
      by_cases c1 : a < 0
      · rw [if_pos c1, if_pos rfl]
      · rw [if_neg c1]
        by_cases c2 : gi σ 63 2 ≤ a
        · rw [if_pos c2, if_pos rfl]
        · have d1 := nil_ c1
          have d2 := nile c2
          rw [if_neg c2, if_neg z10]
          by_cases c3 : m < 0
          · rw [if_pos c3]
          · have d3 := nil_ c3
            rw [if_neg c3, if_neg (fun q => by have := il.mp q; omega)]
    · have q : p_X12_act (si σ 63 3 0) a m n ∧ f_X12_act (si σ 63 3 0) a m n = 0 ∧ g_X12_act (si σ 63 3 0) a m n = si (si σ 63 3 0) 66 51 0 := by
        unfold p_X12_act f_X12_act g_X12_act
        rw [fx _ g49]
        by_cases ca : 0 ≤ a.toInt ∧ a.toInt < nb
        · rw [if_pos ca, if_neg z10, if_neg z10, if_neg z10, t_in0 (by omega), if_neg (fun y => y rfl), if_neg (fun y => y rfl), if_neg (fun y => y rfl)]; exact ⟨trivial, rfl, rfl⟩
        · rw [if_neg ca, if_pos rfl, if_pos rfl, if_pos rfl]; exact ⟨trivial, rfl, rfl⟩
      rw [s_X12_act (hd := by omega), q.2.1, q.2.2, ztrue_and q.1]
    · rw [gi_si_ne (by decide), g63]; exact Int.le_refl _
    · rw [gi_si_ne (by decide), g63]; exact b2
    · rw [g49]; exact b3
    · rw [gi_si_ne (by decide), gi_si_ne (by decide), gi_si_ne (by decide), gi_si_ne (by decide)]; exact b4 j hj
    · rw [gi_si_ne (by decide), gi_si]; rfl
    · rw [gi_si]; rfl
end ACT
