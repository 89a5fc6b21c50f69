/-! warm; a hall without a programme -/
def ThB (σ : zS) (nr nt : Nat) (N : Nat → Nat → Int) (V : zV) (I : Nat → Int) : Prop := HallC σ nr nt N ∧ LawC σ V ∧ CacheC σ nr nt N V (-1) ∧ IceAt (σ.1 19) I
theorem ThB.of {b : Int} {σ : zS} {nr nt : Nat} {N : Nat → Nat → Int} {V : zV} {I : Nat → Int} (h : RelP b σ nr nt N V I) : ThB σ nr nt N V I := ⟨h.1.1, h.2.1.1, h.2.2.1.1, h.2.2.2.1.1⟩
theorem ThB.zfr {σ τ : zS} {nr nt : Nat} {N : Nat → Nat → Int} {V : zV} {I : Nat → Int} (h : ThB σ nr nt N V I) (hF : zFr [6, 14, 15, 16, 44] [(13, 5), (41, 5)] σ τ) (hC : CacheC τ nr nt N V (-1)) : ThB τ nr nt N V I := by
  refine ⟨h.1.fr (hF.c (by decide) (by simp)) (hF.c (by decide) (by simp)), h.2.1.fr (hF.c (by decide) (by simp)) (hF.c (by decide) (by simp)) (hF.c (by decide) (by simp)), hC, ?_⟩
  rw [hF.c (by decide) (by simp)]; exact h.2.2.2
def ThN (σ : zS) (nr nt : Nat) (N : Nat → Nat → Int) (V : zV) (I : Nat → Int) : Prop := HallM σ nr nt N ∧ LawM σ V ∧ (gi σ 66 36).toInt = -1 ∧ IceAt (σ.1 85) I
theorem ThN.of {b : Int} {σ : zS} {nr nt : Nat} {N : Nat → Nat → Int} {V : zV} {I : Nat → Int} (h : RelP b σ nr nt N V I) : ThN σ nr nt N V I := ⟨h.1.2.1, h.2.1.2, h.2.2.1.2.2.2, h.2.2.2.1.2.1⟩
theorem ThN.hall {σ τ : zS} {nr nt : Nat} {N N' : Nat → Nat → Int} {V : zV} {I : Nat → Int} {S : List Nat} {F : List (Nat × Nat)} (h : ThN σ nr nt N V I) (hM : HallM τ nr nt N') (hF : zFr S F σ τ) (hz : zdis S F [78, 79, 80, 81, 82, 85] [(66, 32), (66, 36)] = true) : ThN τ nr nt N' V I := by
  refine ⟨hM, h.2.1.fr (fun k h1 h2 => (zdis_c hz hF (k := k) (by simp; omega)).1) (zdis_f hz hF (k := 66) (j := 32) (by decide)), by rw [zdis_f hz hF (k := 66) (j := 36) (by decide)]; exact h.2.2.1, ?_⟩
  rw [(zdis_c hz hF (k := 85) (by decide)).1]; exact h.2.2.2
theorem ThN.zfr {σ τ : zS} {nr nt : Nat} {N : Nat → Nat → Int} {V : zV} {I : Nat → Int} (h : ThN σ nr nt N V I) (hF : zFr [83, 84, 86, 87] [(66, 37)] σ τ) : ThN τ nr nt N V I := h.hall (h.1.zfr hF (by simp) (by simp)) hF (by decide)
/-- the class changes one number, without a programme -/
theorem ch_B {σ : zS} {nr nt w i : Nat} {N : Nat → Nat → Int} {V : zV} {I : Nat → Int} {v p : Int32} (hR : HallR nr nt N) (hT : ThB σ nr nt N V I) (hm : zmean nr nt w i) (hp : p.toInt = 8 * w + i) (h0 : 0 ≤ (gi σ 1 3).toInt ∧ (gi σ 1 3).toInt ≤ 1000000) : p_X5_change σ p v ∧ ThB (g_X5_change σ p v) nr nt (updN N w i v.toInt) V I ∧ (gi (g_X5_change σ p v) 1 3).toInt = (gi σ 1 3).toInt + 1 ∧ g_X5_change σ p v = si (si σ 2 (8 * w + i) v) 1 3 (gi σ 1 3 + 1) := by
  have hl := zmean_lt hR hm
  have e1 := l1
  have hix : ix p = 8 * w + i := by rw [ix_t, hp]; omega
  have ev : (gi σ 1 3 + 1).toInt = (gi σ 1 3).toInt + 1 := by rw [t_add (by omega), e1]
  have eg : g_X5_change σ p v = si (si σ 2 (8 * w + i) v) 1 3 (gi σ 1 3 + 1) := by unfold g_X5_change; rw [hix]
  have g13 : gi (si (si σ 2 (8 * w + i) v) 1 3 (gi σ 1 3 + 1)) 1 3 = gi σ 1 3 + 1 := gi_si
  have c : ∀ k, k ≠ 1 → k ≠ 2 → (si (si σ 2 (8 * w + i) v) 1 3 (gi σ 1 3 + 1)).1 k = σ.1 k := fun k h1 h2 => by rw [c_si_ne h1, c_si_ne h2]
  refine ⟨zin_of (by omega) (by omega), ?_, by rw [eg, g13]; exact ev, eg⟩
  rw [eg]
  obtain ⟨t1, t2, t3, t4⟩ := hT
  refine ⟨?_, t2.fr (c 3 (by decide) (by decide)) (c 4 (by decide) (by decide)) (c 5 (by decide) (by decide)), t3.bump (c 13 (by decide) (by decide)) (by rw [g13]; exact ev), ?_⟩
  · have u := t1.upd (v := v) hR hm
    have a1 : ∀ j, j ≠ 3 → gi (si (si σ 2 (8 * w + i) v) 1 3 (gi σ 1 3 + 1)) 1 j = gi (si σ 2 (8 * w + i) v) 1 j := fun j hj => gi_si_j hj
    have a2 : ∀ j, gi (si (si σ 2 (8 * w + i) v) 1 3 (gi σ 1 3 + 1)) 2 j = gi (si σ 2 (8 * w + i) v) 2 j := fun j => gi_si_ne (by decide)
    exact ⟨by rw [a1 1 (by decide)]; exact u.1, by rw [a1 2 (by decide)]; exact u.2.1, fun w2 i2 h2 => by rw [a2]; exact u.2.2 w2 i2 h2⟩
  · rw [c 19 (by decide) (by decide)]; exact t4
/-- a cell whose change is undone -/
theorem cell2 {σ τ : zS} {c j0 : Nat} {was x : Int32} (h : ∀ j, gi τ c j = if j = j0 then was else gi σ c j) (hw : gi σ c j0 = was) : ∀ j, gi τ c j = gi σ c j := fun j => by
  rw [h]
  by_cases e : j = j0
  · rw [if_pos e, e, hw]
  · rw [if_neg e]
/-! warm -/
abbrev cWarm (N : Nat → Nat → Int) (V : zV) (nr : Nat) (L : List Int) (I : Nat → Int) (e : Nat → Int) (z : Int) : Nat → Int := fun q => unl e z (N 6 0) (play (updN N 7 0 q) (gG V (updN N 7 0 q) (-1) nr) L I)
def warmI (c : Nat → Int) : Nat → Nat → Int
  | 0, _ => -2
  | n + 1, q => if c q = -2 then q else warmI c n (q + 1)
theorem zm7 {nr nt : Nat} : zmean nr nt 7 0 := Or.inr (Or.inr (by omega))
theorem lp_warmC {X : zX} {d : Nat} {Q : Option Value → zH → Prop} (hd : 10 ≤ d) {nr nt s : Nat} {e : Nat → Int} {z : Int} {N : Nat → Nat → Int} {V : zV} {I : Nat → Int} {L : List Int} (hR : HallR nr nt N) (hs : s < 6) (hI : IceR I) (pl was : Int32) (hpl : pl.toInt = 8 * (7 : Nat) + (0 : Nat)) (hwas : was.toInt = N 7 0) : ∀ (n : Nat) (σ : zS) (q : Int32) (x : Int), Seen σ s e z → ThC σ nr nt (updN N 7 0 x) V (-1) I L → HallR nr nt (updN N 7 0 x) → 0 ≤ (gi σ 1 3).toInt → (gi σ 1 3).toInt + n ≤ 900000 → 0 ≤ q.toInt → q.toInt + n = 10 →
    (∀ (v : Int32) (τ : zS), zFr [2, 6, 14, 15, 16, 44] [(1, 3), (13, 5), (41, 5)] σ τ → ((∀ j, gi τ 2 j = if j = 8 * 7 + 0 then was else gi σ 2 j) ∧ τ.2 2 = σ.2 2) → ThC τ nr nt N V (-1) I L → (gi σ 1 3).toInt ≤ (gi τ 1 3).toInt ∧ (gi τ 1 3).toInt ≤ (gi σ 1 3).toInt + n + 1 → v.toInt = warmI (cWarm N V nr L I e z) n q.toInt.toNat → Q (some (.int v)) (zen τ)) →
    zwp X d MX10_leastWarm 34 [.ref 41, .ref (29 + 2 * s), .int pl, .int was, .int (-2), .int q] [] (zen σ) Q := by
  intro n
  have hzS : zisS (29 + 2 * s) = true := zS_all s hs
  have e1 := l1
  have em2 : (-2 : Int32).toInt = -2 := rfl
  have e9 : (zK1 (ix 7)).toInt = 9 := rfl
  have hm : zmean nr nt 7 0 := zm7
  induction n with
  | zero =>
    intro σ q x hS hT hRx h0 h9 hq0 hqn hQ
    rw [b_X10_leastWarm_34 (hd := by omega) (hl1 := hzS), if_neg (fun y => y rfl), if_pos (il.mpr (by omega))]
    have H := ch_C (v := was) (p := pl) hRx hT hm hpl (by omega)
    rw [updN_two, hwas, updN_back'] at H
    refine ⟨H.1, hQ _ _ ?_ ⟨fun j => ?_, ?_⟩ H.2.1 (by rw [H.2.2.1]; omega) rfl⟩
    · rw [H.2.2.2]; exact (zFr.rf.ws (by decide)).sf (by decide)
    · rw [H.2.2.2, gi_si_ne (by decide)]
      by_cases e : j = 8 * 7 + 0
      · rw [e, gi_si, if_pos rfl]
      · rw [gi_si_j e, if_neg e]
    · rw [H.2.2.2]; rfl
  | succ n ih =>
    intro σ q x hS hT hRx h0 h9 hq0 hqn hQ
    have eq1 : (q + 1).toInt = q.toInt + 1 := by rw [t_add (by omega), e1]
    rw [b_X10_leastWarm_34 (hd := by omega) (hl1 := hzS), if_neg (fun y => y rfl), if_neg (fun y => by have := il.mp y; omega)]
    have H := ch_C (v := q) (p := pl) hRx hT hm hpl (by omega)
    rw [updN_two] at H
    have hRq : HallR nr nt (updN N 7 0 q.toInt) := hR.upd (by show (0 : Int) ≤ _; omega) (by show q.toInt ≤ 9; omega)
    refine ⟨H.1, c_all (by omega) hRq hI H.2.1 (fun v τ hF hT2 hic _ _ => ?_)⟩
    show zwp X d MX10_leastWarm 67 _ [.int v] (zen τ) Q
    have hF1 : zFr [2, 6, 14, 15, 16, 44] [(1, 3), (13, 5), (41, 5)] σ (g_X5_change σ pl q) := by rw [H.2.2.2]; exact (zFr.rf.ws (by decide)).sf (by decide)
    have hF2 : zFr [2, 6, 14, 15, 16, 44] [(1, 3), (13, 5), (41, 5)] σ τ := hF1.tr (hF.sub (by decide) (by decide))
    have hS2 : Seen τ s e z := hS.zfr hs hF2 (by decide)
    have v13 : gi τ 1 3 = gi (g_X5_change σ pl q) 1 3 := hF.1 1 (by decide) 3 (by decide)
    have w13 : (gi τ 1 3).toInt = (gi σ 1 3).toInt + 1 := by rw [v13]; exact H.2.2.1
    have c2 : ∀ j, gi τ 2 j = if j = 8 * 7 + 0 then q else gi σ 2 j := fun j => by
      rw [hF.1 2 (by decide) j (by simp), H.2.2.2, gi_si_ne (by decide)]
      by_cases e : j = 8 * 7 + 0
      · rw [e, gi_si, if_pos rfl]
      · rw [gi_si_j e, if_neg e]
    have l2c : τ.2 2 = σ.2 2 := by rw [hF.2 2 (by decide), H.2.2.2]; rfl
    rw [b_X10_leastWarm_67 (hd := by omega) (hl1 := hzS)]
    refine w_X10_firstUnlike (by omega) hs hS2 hT2.1 hRq hic (fun u hu => ?_)
    show zwp X d MX10_leastWarm 73 _ [.int u] (zen τ) Q
    have hu' : u.toInt = cWarm N V nr L I e z q.toInt.toNat := by
      rw [hu]
      have := nat_cast (q := q) (by omega)
      show _ = unl e z (N 6 0) (play (updN N 7 0 ((q.toInt.toNat : Nat) : Int)) (gG V (updN N 7 0 ((q.toInt.toNat : Nat) : Int)) (-1) nr) L I)
      rw [this]; rfl
    rw [b_X10_leastWarm_73 (hl1 := hzS)]
    unfold warmI at hQ
    by_cases cv : u = -2
    · have hc : cWarm N V nr L I e z q.toInt.toNat = -2 := by rw [← hu', cv]; rfl
      rw [if_neg (fun y => y cv)]
      rw [if_pos hc] at hQ
      rw [b_X10_leastWarm_34 (hd := by omega) (hl1 := hzS), if_pos (fun y => by have := congrArg Int32.toInt y; omega)]
      have H2 := ch_C (v := was) (p := pl) hRq hT2 hm hpl (by omega)
      rw [updN_two, hwas, updN_back'] at H2
      refine ⟨H2.1, hQ _ _ (hF2.tr ?_) ⟨fun j => ?_, ?_⟩ H2.2.1 (by rw [H2.2.2.1]; omega) (by omega)⟩
      · rw [H2.2.2.2]; exact (zFr.rf.ws (by decide)).sf (by decide)
      · rw [H2.2.2.2, gi_si_ne (by decide)]
        by_cases e : j = 8 * 7 + 0
        · rw [e, gi_si, if_pos rfl]
        · rw [gi_si_j e, if_neg e, c2, if_neg e]
      · rw [H2.2.2.2]; exact l2c
    · have hc : ¬ cWarm N V nr L I e z q.toInt.toNat = -2 := fun y => cv (ieq.mpr (by rw [hu', y]; rfl))
      rw [if_pos cv]
      rw [if_neg hc] at hQ
      refine ih τ (q + 1) q.toInt hS2 hT2 hRq (by omega) (by omega) (by omega) (by omega) (fun y ρ f1 f2 f3 f4 f5 => hQ y ρ (hF2.tr f1) ⟨fun j => ?_, f2.2.trans l2c⟩ f3 (by omega) ?_)
      · rw [f2.1, c2]
        by_cases e : j = 8 * 7 + 0
        · rw [if_pos e, if_pos e]
        · rw [if_neg e, if_neg e, if_neg e]
      · rw [f5, eq1, show (q.toInt + 1).toNat = q.toInt.toNat + 1 by omega]
theorem lp_warmM {X : zX} {d : Nat} {Q : Option Value → zH → Prop} (hd : 12 ≤ d) {nr nt : Nat} {e : Nat → Int} {z : Int} {N : Nat → Nat → Int} {V : zV} {I : Nat → Int} {L : List Int} (hR : HallR nr nt N) (hI : IceR I) (ps t0 was : Int32) (hs : 0 ≤ (ps - ps / 10 * 10).toInt ∧ (ps - ps / 10 * 10).toInt < 6) (hwas : was.toInt = N 7 0) : ∀ (n : Nat) (σ : zS) (q : Int32) (x : Int), Seen σ (ps - ps / 10 * 10).toInt.toNat e z → ThM σ nr nt (updN N 7 0 x) V (-1) I L → 0 ≤ q.toInt → q.toInt + n = 10 →
    (∀ (v : Int32) (τ : zS), zFr [83, 84, 86, 87] [(66, 10), (66, 37)] σ τ → gi τ 66 10 = was → ThM τ nr nt N V (-1) I L → v.toInt = warmI (cWarm N V nr L I e z) n q.toInt.toNat → Q (some (.int v)) (zen τ)) →
    zwp X d MX12_warm 33 [.ref 66, .int ps, .int t0, .int was, .int (-2), .int q] [] (zen σ) Q := by
  intro n
  have e0 := l0
  have e1 := l1
  have em2 : (-2 : Int32).toInt = -2 := rfl
  have e9 := l9
  have back : ∀ (σ : zS) (x : Int), ThM σ nr nt (updN N 7 0 x) V (-1) I L → ThM (si σ 66 10 was) nr nt N V (-1) I L := fun σ x hT => by
    have hM := HallM_lay7 (v := was) hT.1
    rw [updN_two, hwas, updN_back'] at hM
    exact hT.hall hM (zFr.rf.sf (k := 66) (j := 10) (S := []) (F := [(66, 10)]) (by decide)) (by decide)
  induction n with
  | zero =>
    intro σ q x hS hT hq0 hqn hQ
    rw [b_X12_warm_33 (hd := by omega), if_pos (il.mpr (by omega))]
    exact hQ _ _ (zFr.rf.sf (by decide)) gi_si (back σ x hT) rfl
  | succ n ih =>
    intro σ q x hS hT hq0 hqn hQ
    have eq1 : (q + 1).toInt = q.toInt + 1 := by rw [t_add (by omega), e1]
    rw [b_X12_warm_33 (hd := by omega), if_neg (fun y => by have := il.mp y; omega), if_neg (fun y => by have := ile.mp y; omega)]
    have hM := HallM_lay7 (v := q) hT.1
    rw [updN_two] at hM
    have hF0 : zFr [] [(66, 10)] σ (si σ 66 10 q) := zFr.rf.sf (by decide)
    have H : ThM (si σ 66 10 q) nr nt (updN N 7 0 q.toInt) V (-1) I L := hT.hall hM hF0 (by decide)
    have hRq : HallR nr nt (updN N 7 0 q.toInt) := hR.upd (by show (0 : Int) ≤ _; omega) (by show q.toInt ≤ 9; omega)
    refine w_X12_goAll (by omega) hRq H hI (fun τ hF hT2 hic _ => ?_)
    show zwp X d MX12_warm 55 _ [] (zen τ) Q
    have hF2 : zFr [83, 84, 86, 87] [(66, 10), (66, 37)] σ τ := (hF0.sub (by decide) (by decide)).tr (hF.sub (by decide) (by decide))
    have hS2 : Seen τ _ e z := hS.zfr (by omega) hF2 (by decide)
    rw [b_X12_warm_55 (hd := by omega)]
    refine w_X12_wrongSeen (by omega) hs hS2 hT2.1.2.2.2.2.1 hRq.long hic (fun u hu => ?_)
    show zwp X d MX12_warm 63 _ [.int u] (zen τ) Q
    have hu' : u.toInt = cWarm N V nr L I e z q.toInt.toNat := by
      rw [hu]
      have := nat_cast (q := q) (by omega)
      show _ = unl e z (N 6 0) (play (updN N 7 0 ((q.toInt.toNat : Nat) : Int)) (gG V (updN N 7 0 ((q.toInt.toNat : Nat) : Int)) (-1) nr) L I)
      rw [this]; rfl
    have ub : u.toInt = -2 ∨ 0 ≤ u.toInt := by rw [hu]; exact unlI_b _ _ _ _
    rw [b_X12_warm_63]
    unfold warmI at hQ
    by_cases cv : 0 ≤ u
    · have := ile.mp cv
      rw [if_pos cv]
      rw [if_neg (show ¬ cWarm N V nr L I e z q.toInt.toNat = -2 by omega)] at hQ
      refine ih τ (q + 1) q.toInt hS2 hT2 (by omega) (by omega) (fun y ρ f1 f2 f3 f5 => hQ y ρ (hF2.tr f1) f2 f3 ?_)
      rw [f5, eq1, show (q.toInt + 1).toNat = q.toInt.toNat + 1 by omega]
    · have := nile cv
      rw [if_neg cv]
      rw [if_pos (show cWarm N V nr L I e z q.toInt.toNat = -2 by omega)] at hQ
      have fin : Q (some (.int q)) (zen (si τ 66 10 was)) := hQ _ _ (hF2.tr (zFr.rf.sf (by decide))) gi_si (back τ _ hT2) (by omega)
      rw [b_X12_warm_33 (hd := by omega)]
      by_cases c9 : 9 < q + 1
      · rw [if_pos c9]; exact fin
      · rw [if_neg c9, if_pos (ile.mpr (by omega))]; exact fin
section WARM
variable {X : zX} {d : Nat} {b : Int} {σ τ : zS} {nr nt : Nat} {N : Nat → Nat → Int} {V : zV} {I : Nat → Int} {Q : Option Value → zH → Prop} {a : Int32}
theorem zFr.fdrop {S : List Nat} {F : List (Nat × Nat)} {σ τ : zS} {c j0 : Nat} (h : zFr S ((c, j0) :: F) σ τ) (h1 : gi τ c j0 = gi σ c j0) : zFr S F σ τ := by
  refine ⟨fun k hk j hj => ?_, h.2⟩
  by_cases e : k = c ∧ j = j0
  · rw [e.1, e.2]; exact h1
  · exact h.1 k hk j (fun q => by
      rcases List.mem_cons.mp q with y | y
      · exact e (by cases y; exact ⟨rfl, rfl⟩)
      · exact hj y)
def v_warm (σ : zS) (nr nt : Nat) (N : Nat → Nat → Int) (V : zV) (I : Nat → Int) (x : Int) : Int := if ¬ refB σ x = 0 then refB σ x else warmI (cWarm N V nr (progS σ nt (x / 10)) I (seenE σ (x % 10)) (seenZ σ (x % 10))) 10 0
theorem c_warm (hd : 14 ≤ d) (h : RelP b σ nr nt N V I) (hb8 : b ≤ 800000) (hQ : ∀ (x : Int32) (τ : zS), Cpost σ nr nt N V τ → x.toInt = v_warm σ nr nt N V I a.toInt → Q (some (.int x)) (zen τ)) : zwp X d MX11_warm 0 [.ref 0, .int a, .null] [] (zen σ) Q := by
  have hR := h.1.2.2
  have hI := h.2.2.2.1.2.2.1
  have e0 := l0
  have e7 := l7
  unfold v_warm at hQ
  rw [b_X11_warm_0 (hd := by omega)]
  refine c_both (by omega) h (fun hb v hv hv2 => ?_) (fun ho h0 τ hF hT => ?_)
  · show zwp X d MX11_warm 5 _ [.int v] (zen σ) Q
    rw [b_X11_warm_5 (hd := by omega), if_neg hv]
    exact hQ v σ (Cpost.rf h) (by rw [if_pos hb]; exact hv2)
  · show zwp X d MX11_warm 5 _ [.int 0] (zen τ) Q
    rw [if_neg (fun q => q ho)] at hQ
    have yy := refB_y ho
    have SS := h.2.2.2.2.2.2.2.1.shorts yy.2.2
    have T := t10 (w := a) h0
    have z2 : zin (a - a / 10 * 10) 6 = true := zin_of (by omega) (by omega)
    have i2 : ix (a - a / 10 * 10) = (a.toInt % 10).toNat := by rw [ix_t, T.2]
    have S1 := SS.2.2.zfr (by omega) hF (by decide)
    have hm : zmean nr nt 7 0 := zm7
    have pl := place_ok (σ := τ) (nr := nr) (nt := nt) (N := N) (w := 7) (i := 0) hT.1 hR (by rw [e0, e7]; unfold zmok; exact ⟨by omega, by omega, hm⟩)
    rw [e0, e7] at pl
    have hz : zin (f_X5_placeOf τ 0 7) 80 = true := zin_of (by omega) (by omega)
    have ip : ix (f_X5_placeOf τ 0 7) = 8 * 7 + 0 := by rw [ix_t, pl]; rfl
    have v2 : (gi τ 2 (8 * 7 + 0)).toInt = N 7 0 := hT.1.2.2 7 _ hm
    have hv1 := h.2.2.1.2.1
    have hv2 := h.2.2.1.2.2.1
    have g13 : gi τ 1 3 = gi σ 1 3 := hF.1 1 (by decide) 3 (by decide)
    rw [b_X11_warm_5 (hd := by omega), if_pos rfl, ztrue_and z2, i2, b_X10_leastWarm_0 (hd := by omega) (h2 := zS_all _ (by omega)), if_pos (ile.mpr (by omega))]
    refine ⟨hz, ?_⟩
    rw [ip]
    refine lp_warmC (by omega) hR (by omega) hI _ _ (by rw [pl]; rfl) v2 10 τ 0 (N 7 0) S1 (by rw [updN_back']; exact hT) (by rw [updN_back']; exact hR) (by rw [g13]; omega) (by rw [g13]; omega) (by omega) (by omega) (fun v ρ f1 f2 f3 f4 f5 => ?_)
    show zwp X d MX11_warm 30 _ [.int v] (zen ρ) Q
    rw [b_X11_warm_30]
    have fz : zFr [6, 14, 15, 16, 44] [(1, 3), (13, 5), (41, 5)] τ ρ := f1.drop (fun j => by rw [f2.1]; by_cases e : j = 8 * 7 + 0; (rw [if_pos e, e]); (rw [if_neg e])) f2.2
    rw [g13] at f4
    exact hQ v ρ ⟨(fr42 hF).tr (fz.sub (by decide) (by decide)), f3.2.2.1, by omega, by omega⟩ f5
theorem m_warm (hd : 16 ≤ d) (h : RelP b σ nr nt N V I) (hQ : ∀ (x : Int32) (τ : zS), Mpost σ τ → x.toInt = v_warm σ nr nt N V I a.toInt → Q (some (.int x)) (zen τ)) : zwp X d MX12_warm 0 [.ref 66, .int a, .null, .null, .null, .null] [] (zen σ) Q := by
  have hR := h.1.2.2
  have hI := h.2.2.2.1.2.2.1
  unfold v_warm at hQ
  rw [b_X12_warm_0 (hd := by omega), areSh]
  by_cases ha : a.toInt < 0 ∨ 6 ≤ a.toInt / 10 ∨ 6 ≤ a.toInt % 10
  · rw [if_pos ha, if_neg (fun y => y rfl)]
    refine hQ _ σ (Mpost.rf h) ?_
    rw [refB_bad ha, if_pos (by omega)]; rfl
  · rw [if_neg ha, if_pos (by decide)]
    have T := t10 (w := a) (by omega)
    refine m_both (by omega) h (by omega) (by omega) (by omega) (fun hb v hv hv2 => ?_) (fun ho τ hF hT => ?_)
    · show zwp X d MX12_warm 14 _ [.int v] (zen σ) Q
      rw [b_X12_warm_14, if_neg (fun q => by have := ile.mp q; have := l0; omega)]
      exact hQ v σ (Mpost.rf h) (by rw [if_pos hb]; exact hv2)
    · show zwp X d MX12_warm 14 _ [.int 0] (zen τ) Q
      rw [if_neg (fun q => q ho)] at hQ
      have yy := refB_y ho
      have SS := h.2.2.2.2.2.2.2.1.shorts yy.2.2
      have S2 := SS.2.2.zfr (by omega) hF (by decide)
      have v2 : (gi τ 66 10).toInt = N 7 0 := hT.1.2.2.2.2.2.1
      rw [b_X12_warm_14, if_pos (by decide)]
      refine lp_warmM (by omega) hR hI a 0 _ (by omega) v2 10 τ 0 (N 7 0) (by rw [T.2]; exact S2) (by rw [updN_back']; exact hT) (by decide) (by decide) (fun v ρ f1 f2 f3 f5 => ?_)
      have fz := f1.fdrop f2
      exact hQ v ρ ⟨(fr88 hF).tr (fr86 fz), f3.2.2.1⟩ f5
theorem v_warm_fr (hF : zFr SC1 FC1 σ τ) (x : Int) : v_warm τ nr nt N V I x = v_warm σ nr nt N V I x := by unfold v_warm; rw [refB_fr hF, progS_fr hF, (seenE_fr hF _).1, (seenE_fr hF _).2]
theorem o_warm (hd : 20 ≤ d) {k : Nat} (hk : k ≤ 512) (h : Rel k σ) (a : Int32) : zOp k σ X d MX11_warm MX12_warm [.ref 0, .int a, .null] [.ref 66, .int a, .null, .null, .null, .null] := by
  obtain ⟨nr, nt, N, V, I, h⟩ := h
  exact zOp.think h (fun Q hQ => c_warm (by omega) h (by omega) hQ) (fun τ h2 hF Q hQ => m_warm (by omega) h2 (fun x ρ hM hx => hQ x ρ hM (by rw [hx, v_warm_fr hF])))
end WARM
