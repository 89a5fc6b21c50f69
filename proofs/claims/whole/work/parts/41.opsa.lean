/-! programmes in thought: ice, cross, heaviest -/
theorem t_div {x y : Int32} (hx : 0 ≤ x.toInt) (hy : 0 < y.toInt) : (x / y).toInt = x.toInt / y.toInt := by
  have hne : y ≠ -1 := fun q => by rw [q] at hy; exact absurd hy (by decide)
  rw [Int32.toInt_div_of_ne_right _ _ hne, Int.tdiv_eq_ediv_of_nonneg hx]
theorem t_mod {x y : Int32} (hx : 0 ≤ x.toInt) (hy : 0 < y.toInt) : (x - x / y * y).toInt = x.toInt % y.toInt := by
  rw [rem_toInt, Int.tmod_eq_emod_of_nonneg hx]
theorem t_wp {σ : zS} {x : Int32} : f_X11_isWeightAndPace σ x = if x.toInt < 0 ∨ 9999 < x.toInt then 0 else 1 := by
  unfold f_X11_isWeightAndPace
  have e0 : (0 : Int32).toInt = 0 := rfl
  have e9 : (9999 : Int32).toInt = 9999 := rfl
  by_cases h1 : x < 0
  · have := il.mp h1
    rw [if_pos h1, if_pos (by omega)]
  · have := nil_ h1
    rw [if_neg h1]
    by_cases h2 : 9999 < x
    · have := il.mp h2
      rw [if_pos h2, if_pos (by omega)]
    · have := nil_ h2
      rw [if_neg h2, if_neg (by omega)]
theorem t_wpM {σ : zS} {x : Int32} : f_X12_areWeight σ x = if x.toInt < 0 ∨ 9999 < x.toInt then 0 else 1 := by
  unfold f_X12_areWeight
  have e0 : (0 : Int32).toInt = 0 := rfl
  have e9 : (999 : Int32).toInt = 999 := rfl
  have e10 : (10 : Int32).toInt = 10 := rfl
  by_cases h1 : x < 0
  · have := il.mp h1
    rw [if_pos h1, if_pos (by omega)]
  · have := nil_ h1
    have ed : (x / 10).toInt = x.toInt / 10 := t_div (x := x) (y := 10) (by omega) (by omega)
    rw [if_neg h1]
    by_cases h2 : 999 < x / 10
    · have := il.mp h2
      rw [if_pos h2, if_pos (by omega)]
    · have := nil_ h2
      rw [if_neg h2, if_neg (by omega)]
theorem t_inM {σ : zS} {x lo hi : Int32} : f_X12_in σ x lo hi = if x.toInt < lo.toInt ∨ hi.toInt < x.toInt then 0 else 1 := by
  unfold f_X12_in
  by_cases h1 : x < lo
  · have := il.mp h1
    rw [if_pos h1, if_pos (by omega)]
  · have := nil_ h1
    rw [if_neg h1]
    by_cases h2 : hi < x
    · have := il.mp h2
      rw [if_pos h2, if_pos (by omega)]
    · have := nil_ h2
      rw [if_neg h2, if_neg (by omega)]
section OPS
variable {X : zX} {d : Nat} {Q : Option Value → zH → Prop} {b : Int} {σ τ : zS} {nr nt : Nat} {N : Nat → Nat → Int} {V : zV} {I : Nat → Int} {a : Int32}
theorem refI_le (σ : zS) (a s : Int) : refI σ a s = 0 ∨ refI σ a s < 0 := by
  unfold refI
  split
  · right; omega
  · split
    · right; omega
    · split
      · left; rfl
      · right; omega
theorem Cpost.rf (h : RelP b σ nr nt N V I) : Cpost σ nr nt N V σ := ⟨zFr.rf, h.2.2.1.1, Int.le_refl _, by omega⟩
theorem Cpost.of (hF : zFr SC1 FC1 σ τ) (hC : CacheC τ nr nt N V (-1)) (hv : gi τ 1 3 = gi σ 1 3) : Cpost σ nr nt N V τ := ⟨hF, hC, by rw [hv]; exact Int.le_refl _, by rw [hv]; omega⟩
theorem fr42 (hF : zFr [42] [(41, 4)] σ τ) : zFr SC1 FC1 σ τ := hF.sub (by decide) (by decide)
theorem fr44 (hF : zFr [6, 14, 15, 16, 44] [(13, 5), (41, 5)] σ τ) : zFr SC1 FC1 σ τ := hF.sub (by decide) (by decide)
theorem fr88 (hF : zFr [88] [(66, 39)] σ τ) : zFr SC2 FC2 σ τ := hF.sub (by decide) (by decide)
theorem fr86 (hF : zFr [83, 84, 86, 87] [(66, 37)] σ τ) : zFr SC2 FC2 σ τ := hF.sub (by decide) (by decide)
theorem Mpost.rf (h : RelP b σ nr nt N V I) : Mpost σ σ := ⟨zFr.rf, h.2.2.1.2.2.2⟩
theorem c_readB (hd : 3 ≤ d) (h : RelP b σ nr nt N V I) (hr : ¬ refI σ a.toInt 0 = 0) (hQ : ∀ (v : Int32) (τ : zS), ¬ v = 0 → v.toInt = refI σ a.toInt 0 → Cpost σ nr nt N V τ → Q (some (.int v)) (zen τ)) : zwp X d MX11_readProgramme 0 [.ref 0, .int a, .null] [] (zen σ) Q := by
  refine c_read hd h (fun v τ hF hv _ => hQ v τ (fun q => hr (by rw [← hv, q]; rfl)) hv (Cpost.of (fr42 hF) (h.2.2.1.1.fr (hF.c (by decide) (by decide)) (hF.c (by decide) (by decide)) (hF.c (by decide) (by decide)) (hF.1 1 (by decide) 3 (by decide))) (hF.1 1 (by decide) 3 (by decide))))
theorem c_readO (hd : 3 ≤ d) (h : RelP b σ nr nt N V I) (hr : refI σ a.toInt 0 = 0) (hQ : ∀ τ : zS, zFr [42] [(41, 4)] σ τ → ThC τ nr nt N V (-1) I (progS σ nt a.toInt) → Q (some (.int 0)) (zen τ)) : zwp X d MX11_readProgramme 0 [.ref 0, .int a, .null] [] (zen σ) Q := by
  refine c_read hd h (fun v τ hF hv hT => ?_)
  have : v = 0 := ieq.mpr (by rw [hv, hr]; rfl)
  subst this
  exact hQ τ hF (hT hr)
theorem m_layB (hd : 3 ≤ d) (h : RelP b σ nr nt N V I) (ha : 0 ≤ a.toInt ∧ a.toInt < 6) (hr : ¬ refI σ a.toInt 0 = 0) (hQ : ∀ (v : Int32) (τ : zS), v.toInt < 0 → v.toInt = refI σ a.toInt 0 → Mpost σ τ → Q (some (.int v)) (zen τ)) : zwp X d MX12_layOr 0 [.ref 66, .int a, .null] [] (zen σ) Q := by
  refine m_lay hd h ha (fun v τ hF hv _ => hQ v τ ?_ hv ⟨fr88 hF, ?_⟩)
  · have := refI_le σ a.toInt 0; omega
  · rw [hF.1 66 (by decide) 36 (by decide)]; exact h.2.2.1.2.2.2
theorem m_layO (hd : 3 ≤ d) (h : RelP b σ nr nt N V I) (ha : 0 ≤ a.toInt ∧ a.toInt < 6) (hr : refI σ a.toInt 0 = 0) (hQ : ∀ τ : zS, zFr [88] [(66, 39)] σ τ → ThM τ nr nt N V (-1) I (progS σ nt a.toInt) → Q (some (.int 0)) (zen τ)) : zwp X d MX12_layOr 0 [.ref 66, .int a, .null] [] (zen σ) Q := by
  refine m_lay hd h ha (fun v τ hF hv hT => ?_)
  have : v = 0 := ieq.mpr (by rw [hv, hr]; rfl)
  subst this
  exact hQ τ hF (hT hr)
theorem refI_bad {s : Int} (hc : a.toInt < 0 ∨ 6 ≤ a.toInt) : refI σ a.toInt s = -1 := by unfold refI; rw [if_pos hc]
theorem refI_fr (hF : zFr SC1 FC1 σ τ) (x s : Int) : refI τ x s = refI σ x s := by
  unfold refI gi
  rw [hF.c (by decide) (by decide)]
theorem progS_fr (hF : zFr SC1 FC1 σ τ) (nt : Nat) (x : Int) : progS τ nt x = progS σ nt x := by
  unfold progS gi gl
  rw [hF.c (k := 96) (by decide) (by decide), hF.2 97 (by decide)]
/-- what a programme on a shelf comes to -/
abbrev jS (σ : zS) (nr nt : Nat) (N : Nat → Nat → Int) (V : zV) (I : Nat → Int) (x : Int) : Nat → Int := play N (gG V N (-1) nr) (progS σ nt x) I
theorem c_all (hd : 6 ≤ d) (hR : HallR nr nt N) (hI : IceR I) {L : List Int} (hT : ThC σ nr nt N V (-1) I L) (hQ : ∀ (v : Int32) (τ : zS), zFr [6, 14, 15, 16, 44] [(13, 5), (41, 5)] σ τ → ThC τ nr nt N V (-1) I L → IceAt (τ.1 44) (play N (gG V N (-1) nr) L I) → gi τ 41 5 = Int32.ofInt (mins N L) → v.toInt = carries (N 6 0) 0 (play N (gG V N (-1) nr) L I) → Q (some (.int v)) (zen τ)) : zwp X d MX10_carriedWithout 0 [.ref 41, .int (-1), .null] [] (zen σ) Q := by
  refine w_X10_carriedWithout hd hR hT hI (fun v τ hF hT2 hic hm hv => ?_)
  have em : (-1 : Int32).toInt = -1 := rfl
  rw [em, skipL_neg] at hic hm hv
  exact hQ v τ hF hT2 hic hm hv
def v_cross (σ : zS) (nr nt : Nat) (N : Nat → Nat → Int) (V : zV) (I : Nat → Int) (x w : Int) : Int := if w < 0 ∨ 9999 < w then -1 else if ¬ refI σ x 0 = 0 then refI σ x 0 else falls (N 6 0) (w % 10 * N 7 0) (w / 10) (jS σ nr nt N V I x)
theorem c_cross (hd : 10 ≤ d) (h : RelP b σ nr nt N V I) (w : Int32) (hQ : ∀ (x : Int32) (τ : zS), Cpost σ nr nt N V τ → x.toInt = v_cross σ nr nt N V I a.toInt w.toInt → Q (some (.int x)) (zen τ)) : zwp X d MX11_cross 0 [.ref 0, .int a, .int w, .null] [] (zen σ) Q := by
  have hR := h.1.2.2
  have hI := h.2.2.2.1.2.2.1
  unfold v_cross at hQ
  rw [b_X11_cross_0 (hd := by omega), b_X11_readProgrammeFor_0 (hd := by omega), t_wp]
  by_cases hw : w.toInt < 0 ∨ 9999 < w.toInt
  · rw [if_pos hw, if_pos rfl]
    show zwp X d MX11_cross 6 _ [.int (-1)] (zen σ) Q
    rw [b_X11_cross_6 (hd := by omega), if_neg (by decide)]
    exact hQ _ σ (Cpost.rf h) (by rw [if_pos hw]; rfl)
  · rw [if_neg hw, if_neg (by decide)]
    rw [if_neg hw] at hQ
    by_cases hr : refI σ a.toInt 0 = 0
    · refine c_readO (by omega) h hr (fun τ hF hT => ?_)
      show zwp X (d - 1) MX11_readProgrammeFor 12 _ [.int 0] (zen τ) _
      rw [b_X11_readProgrammeFor_12]
      show zwp X d MX11_cross 6 _ [.int 0] (zen τ) Q
      rw [b_X11_cross_6 (hd := by omega), if_pos rfl]
      refine c_all (by omega) hR hI hT (fun v ρ hF2 hT2 hic _ _ => ?_)
      show zwp X d MX11_cross 21 _ [.int v] (zen ρ) Q
      rw [b_X11_cross_21 (hd := by omega)]
      have e10 : (10 : Int32).toInt = 10 := rfl
      have ed : (w / 10).toInt = w.toInt / 10 := t_div (x := w) (y := 10) (by omega) (by omega)
      have em : (w - w / 10 * 10).toInt = w.toInt % 10 := t_mod (x := w) (y := 10) (by omega) (by omega)
      refine w_X2_fallsOn (by omega) zB_43 hT2.1 hR hic (play_R hR _ _ hT.2.2.2.2.2.2.1 hI) (by omega) (fun x hx => ?_)
      show zwp X d MX11_cross 44 _ [.int x] (zen ρ) Q
      rw [b_X11_cross_44]
      rw [if_neg (fun q => q hr)] at hQ
      rw [ed, em] at hx
      exact hQ x ρ (Cpost.of ((fr42 hF).tr (fr44 hF2)) hT2.2.2.1 ((hF2.1 1 (by decide) 3 (by decide)).trans (hF.1 1 (by decide) 3 (by decide)))) hx
    · refine c_readB (by omega) h hr (fun v τ hv hv2 hC => ?_)
      show zwp X (d - 1) MX11_readProgrammeFor 12 _ [.int v] (zen τ) _
      rw [b_X11_readProgrammeFor_12]
      show zwp X d MX11_cross 6 _ [.int v] (zen τ) Q
      rw [b_X11_cross_6 (hd := by omega), if_neg hv]
      exact hQ v τ hC (by rw [if_pos hr]; exact hv2)
theorem m_cross (hd : 12 ≤ d) (h : RelP b σ nr nt N V I) (w : Int32) (hQ : ∀ (x : Int32) (τ : zS), Mpost σ τ → x.toInt = v_cross σ nr nt N V I a.toInt w.toInt → Q (some (.int x)) (zen τ)) : zwp X d MX12_cross 0 [.ref 66, .int a, .int w, .null] [] (zen σ) Q := by
  have hR := h.1.2.2
  have hI := h.2.2.2.1.2.2.1
  unfold v_cross at hQ
  rw [b_X12_cross_0 (hd := by omega), t_isShelfM, t_wpM]
  by_cases ha : a.toInt < 0 ∨ 6 ≤ a.toInt
  · rw [if_pos ha, if_pos rfl]
    refine hQ _ σ (Mpost.rf h) ?_
    rw [refI_bad ha]
    split
    · rfl
    · rw [if_pos (by omega)]; rfl
  · rw [if_neg ha, if_neg (by decide)]
    by_cases hw : w.toInt < 0 ∨ 9999 < w.toInt
    · rw [if_pos hw, if_neg (by decide)]
      exact hQ _ σ (Mpost.rf h) (by rw [if_pos hw]; rfl)
    · rw [if_neg hw, if_pos (by decide)]
      rw [if_neg hw] at hQ
      have e0 : (0 : Int32).toInt = 0 := rfl
      by_cases hr : refI σ a.toInt 0 = 0
      · refine m_layO (by omega) h (by omega) hr (fun τ hF hT => ?_)
        show zwp X d MX12_cross 21 _ [.int 0] (zen τ) Q
        rw [b_X12_cross_21 (hd := by omega), if_pos (by decide)]
        refine w_X12_goAll (by omega) hR hT hI (fun ρ hF2 hT2 hic _ => ?_)
        show zwp X d MX12_cross 32 _ [] (zen ρ) Q
        rw [b_X12_cross_32 (hd := by omega)]
        have e10 : (10 : Int32).toInt = 10 := rfl
        have ed : (w / 10).toInt = w.toInt / 10 := t_div (x := w) (y := 10) (by omega) (by omega)
        have em : (w - w / 10 * 10).toInt = w.toInt % 10 := t_mod (x := w) (y := 10) (by omega) (by omega)
        refine w_X12_fallsOn (by omega) hR hT2.1 (by omega) hic (play_R hR _ _ hT.2.2.2.2.2.2.1 hI) (fun x hx => ?_)
        show zwp X d MX12_cross 44 _ [.int x] (zen ρ) Q
        rw [b_X12_cross_44]
        rw [if_neg (fun q => q hr)] at hQ
        rw [ed, em] at hx
        exact hQ x ρ ⟨(fr88 hF).tr (fr86 hF2), hT2.2.2.1⟩ hx
      · refine m_layB (by omega) h (by omega) hr (fun v τ hv hv2 hM => ?_)
        show zwp X d MX12_cross 21 _ [.int v] (zen τ) Q
        rw [b_X12_cross_21 (hd := by omega), if_neg (fun q => by have := ile.mp q; omega)]
        exact hQ v τ hM (by rw [if_pos hr]; exact hv2)
theorem v_cross_fr (hF : zFr SC1 FC1 σ τ) (x w : Int) : v_cross τ nr nt N V I x w = v_cross σ nr nt N V I x w := by unfold v_cross jS; rw [refI_fr hF, progS_fr hF]
theorem o_cross (hd : 20 ≤ d) {k : Nat} (h : Rel k σ) (a w : Int32) : zOp k σ X d MX11_cross MX12_cross [.ref 0, .int a, .int w, .null] [.ref 66, .int a, .int w, .null] := by
  obtain ⟨nr, nt, N, V, I, h⟩ := h
  exact zOp.think h (fun Q hQ => c_cross (by omega) h w hQ) (fun τ h2 hF Q hQ => m_cross (by omega) h2 w (fun x ρ hM hx => hQ x ρ hM (by rw [hx, v_cross_fr hF])))
def v_heavy (σ : zS) (nr nt : Nat) (N : Nat → Nat → Int) (V : zV) (I : Nat → Int) (x w : Int) : Int := if w < 0 ∨ 9 < w then -1 else if ¬ refI σ x 0 = 0 then refI σ x 0 else carries (N 6 0) (w * N 7 0) (jS σ nr nt N V I x)
theorem c_heaviest (hd : 10 ≤ d) (h : RelP b σ nr nt N V I) (w : Int32) (hQ : ∀ (x : Int32) (τ : zS), Cpost σ nr nt N V τ → x.toInt = v_heavy σ nr nt N V I a.toInt w.toInt → Q (some (.int x)) (zen τ)) : zwp X d MX11_heaviest 0 [.ref 0, .int a, .int w, .null] [] (zen σ) Q := by
  have hR := h.1.2.2
  have hI := h.2.2.2.1.2.2.1
  have e0 : (0 : Int32).toInt = 0 := rfl
  have e9 : (9 : Int32).toInt = 9 := rfl
  unfold v_heavy at hQ
  rw [b_X11_heaviest_0 (hd := by omega)]
  by_cases hw1 : w < 0
  · have := il.mp hw1
    rw [if_pos hw1]
    exact hQ _ σ (Cpost.rf h) (by rw [if_pos (by omega)]; rfl)
  · have := nil_ hw1
    rw [if_neg hw1]
    by_cases hw2 : w ≤ 9
    · have := ile.mp hw2
      rw [if_pos hw2]
      rw [if_neg (by omega)] at hQ
      by_cases hr : refI σ a.toInt 0 = 0
      · refine c_readO (by omega) h hr (fun τ hF hT => ?_)
        show zwp X d MX11_heaviest 17 _ [.int 0] (zen τ) Q
        rw [b_X11_heaviest_17 (hd := by omega), if_pos rfl]
        refine c_all (by omega) hR hI hT (fun v ρ hF2 hT2 hic _ _ => ?_)
        show zwp X d MX11_heaviest 32 _ [.int v] (zen ρ) Q
        rw [b_X11_heaviest_32 (hd := by omega)]
        refine w_X2_carries (by omega) zB_43 hT2.1 hR hic (play_R hR _ _ hT.2.2.2.2.2.2.1 hI) (by omega) (fun x hx => ?_)
        show zwp X d MX11_heaviest 48 _ [.int x] (zen ρ) Q
        rw [b_X11_heaviest_48]
        rw [if_neg (fun q => q hr)] at hQ
        exact hQ x ρ (Cpost.of ((fr42 hF).tr (fr44 hF2)) hT2.2.2.1 ((hF2.1 1 (by decide) 3 (by decide)).trans (hF.1 1 (by decide) 3 (by decide)))) hx
      · refine c_readB (by omega) h hr (fun v τ hv hv2 hC => ?_)
        show zwp X d MX11_heaviest 17 _ [.int v] (zen τ) Q
        rw [b_X11_heaviest_17 (hd := by omega), if_neg hv]
        exact hQ v τ hC (by rw [if_pos hr]; exact hv2)
    · have := nile hw2
      rw [if_neg hw2]
      exact hQ _ σ (Cpost.rf h) (by rw [if_pos (by omega)]; rfl)
theorem m_heaviest (hd : 12 ≤ d) (h : RelP b σ nr nt N V I) (w : Int32) (hQ : ∀ (x : Int32) (τ : zS), Mpost σ τ → x.toInt = v_heavy σ nr nt N V I a.toInt w.toInt → Q (some (.int x)) (zen τ)) : zwp X d MX12_heaviest 0 [.ref 66, .int a, .int w, .null] [] (zen σ) Q := by
  have hR := h.1.2.2
  have hI := h.2.2.2.1.2.2.1
  have e0 : (0 : Int32).toInt = 0 := rfl
  have e9 : (9 : Int32).toInt = 9 := rfl
  unfold v_heavy at hQ
  rw [b_X12_heaviest_0 (hd := by omega), t_isShelfM, t_inM, e0, e9]
  by_cases ha : a.toInt < 0 ∨ 6 ≤ a.toInt
  · rw [if_pos ha, if_pos rfl]
    refine hQ _ σ (Mpost.rf h) ?_
    rw [refI_bad ha]
    split
    · rfl
    · rw [if_pos (by omega)]; rfl
  · rw [if_neg ha, if_neg (by decide)]
    by_cases hw : w.toInt < 0 ∨ 9 < w.toInt
    · rw [if_pos hw, if_neg (by decide)]
      exact hQ _ σ (Mpost.rf h) (by rw [if_pos hw]; rfl)
    · rw [if_neg hw, if_pos (by decide)]
      rw [if_neg hw] at hQ
      by_cases hr : refI σ a.toInt 0 = 0
      · refine m_layO (by omega) h (by omega) hr (fun τ hF hT => ?_)
        show zwp X d MX12_heaviest 24 _ [.int 0] (zen τ) Q
        rw [b_X12_heaviest_24 (hd := by omega), if_pos (by decide)]
        refine w_X12_goAll (by omega) hR hT hI (fun ρ hF2 hT2 hic _ => ?_)
        show zwp X d MX12_heaviest 35 _ [] (zen ρ) Q
        rw [b_X12_heaviest_35 (hd := by omega)]
        refine w_X12_heaviestAt (by omega) hR hT2.1 (by omega) hic (play_R hR _ _ hT.2.2.2.2.2.2.1 hI) (fun x hx => ?_)
        show zwp X d MX12_heaviest 40 _ [.int x] (zen ρ) Q
        rw [b_X12_heaviest_40]
        rw [if_neg (fun q => q hr)] at hQ
        exact hQ x ρ ⟨(fr88 hF).tr (fr86 hF2), hT2.2.2.1⟩ hx
      · refine m_layB (by omega) h (by omega) hr (fun v τ hv hv2 hM => ?_)
        show zwp X d MX12_heaviest 24 _ [.int v] (zen τ) Q
        rw [b_X12_heaviest_24 (hd := by omega), if_neg (fun q => by have := ile.mp q; omega)]
        exact hQ v τ hM (by rw [if_pos hr]; exact hv2)
theorem v_heavy_fr (hF : zFr SC1 FC1 σ τ) (x w : Int) : v_heavy τ nr nt N V I x w = v_heavy σ nr nt N V I x w := by unfold v_heavy jS; rw [refI_fr hF, progS_fr hF]
theorem o_heaviest (hd : 20 ≤ d) {k : Nat} (h : Rel k σ) (a w : Int32) : zOp k σ X d MX11_heaviest MX12_heaviest [.ref 0, .int a, .int w, .null] [.ref 66, .int a, .int w, .null] := by
  obtain ⟨nr, nt, N, V, I, h⟩ := h
  exact zOp.think h (fun Q hQ => c_heaviest (by omega) h w hQ) (fun τ h2 hF Q hQ => m_heaviest (by omega) h2 w (fun x ρ hM hx => hQ x ρ hM (by rw [hx, v_heavy_fr hF])))
def v_ice (σ : zS) (nr nt : Nat) (N : Nat → Nat → Int) (V : zV) (I : Nat → Int) (x p : Int) : Int := if p < -4 ∨ N 6 0 ≤ p then -1 else if ¬ refI σ x 0 = 0 then refI σ x 0 else if p = -4 then jS σ nr nt N V I x (thinnest (N 6 0) (jS σ nr nt N V I x)) else if p = -3 then thinnest (N 6 0) (jS σ nr nt N V I x) else if p = -2 then mins N (progS σ nt x) else if p = -1 then (progS σ nt x).length else jS σ nr nt N V I x p.toNat
theorem c_ice (hd : 10 ≤ d) (h : RelP b σ nr nt N V I) (p : Int32) (hQ : ∀ (x : Int32) (τ : zS), Cpost σ nr nt N V τ → x.toInt = v_ice σ nr nt N V I a.toInt p.toInt → Q (some (.int x)) (zen τ)) : zwp X d MX11_ice 0 [.ref 0, .int a, .int p, .null] [] (zen σ) Q := by
  have hR := h.1.2.2
  have hI := h.2.2.2.1.2.2.1
  have hl := hR.long
  have e4 : (-4 : Int32).toInt = -4 := rfl
  have e3 : (-3 : Int32).toInt = -3 := rfl
  have e2 : (-2 : Int32).toInt = -2 := rfl
  have e1 : (-1 : Int32).toInt = -1 := rfl
  have e0 : (0 : Int32).toInt = 0 := rfl
  have e16 : (16 : Int32).toInt = 16 := rfl
  have epl : (f_X5_planks σ).toInt = N 6 0 := h.1.1.long
  unfold v_ice at hQ
  rw [b_X11_ice_0 (hd := by omega)]
  by_cases hw1 : p < -4
  · have := il.mp hw1
    rw [if_pos hw1]
    exact hQ _ σ (Cpost.rf h) (by rw [if_pos (by omega)]; rfl)
  · have := nil_ hw1
    rw [if_neg hw1]
    by_cases hw2 : p < f_X5_planks σ
    · have := il.mp hw2
      rw [if_pos hw2]
      rw [if_neg (by omega)] at hQ
      by_cases hr : refI σ a.toInt 0 = 0
      · refine c_readO (by omega) h hr (fun τ hF hT => ?_)
        show zwp X d MX11_ice 24 _ [.int 0] (zen τ) Q
        rw [b_X11_ice_24 (hd := by omega), if_pos rfl, b_X10_behind_0 (hd := by omega)]
        refine c_all (by omega) hR hI hT (fun v ρ hF2 hT2 hic hm _ => ?_)
        show zwp X (d - 1) MX10_behind 5 _ [.int v] (zen ρ) _
        rw [b_X10_behind_5 (hd := by omega)]
        rw [if_neg (fun q => q hr)] at hQ
        have fin : ∀ x : Int32, (x.toInt = if p.toInt = -4 then jS σ nr nt N V I a.toInt (thinnest (N 6 0) (jS σ nr nt N V I a.toInt)) else if p.toInt = -3 then thinnest (N 6 0) (jS σ nr nt N V I a.toInt) else if p.toInt = -2 then mins N (progS σ nt a.toInt) else if p.toInt = -1 then (progS σ nt a.toInt).length else jS σ nr nt N V I a.toInt p.toInt.toNat) → zwp X d MX11_ice 41 [.ref 0, .int a, .int p, .int 0] [.int x] (zen ρ) Q := by
          intro x hx
          rw [b_X11_ice_41]
          exact hQ x ρ (Cpost.of ((fr42 hF).tr (fr44 hF2)) hT2.2.2.1 ((hF2.1 1 (by decide) 3 (by decide)).trans (hF.1 1 (by decide) 3 (by decide)))) hx
        have hth := thinnest_lt (long := N 6 0) (by omega) (play N (gG V N (-1) nr) (progS σ nt a.toInt) I)
        by_cases c4 : p = -4
        · have q4 : p.toInt = -4 := by rw [c4]; rfl
          rw [if_pos c4]
          refine w_X2_thinnest (by omega) zB_43 hT2.1 hR hic (fun x hx => ?_)
          show zwp X (d - 1) MX10_behind 76 _ [.int x, .ref 44] (zen ρ) _
          have hz : zin x 16 = true := zin_of (by omega) (by rw [hx]; omega)
          rw [b_X10_behind_76, ztrue_and hz]
          refine fin _ ?_
          rw [if_pos q4]
          have : ix x = thinnest (N 6 0) (play N (gG V N (-1) nr) (progS σ nt a.toInt) I) := by rw [ix_t, hx]; omega
          rw [this]
          exact hic _ hth
        · have q4 : ¬ p.toInt = -4 := fun q => c4 (ieq.mpr (by rw [q, e4]))
          rw [if_neg c4]
          by_cases c3 : p = -3
          · have q3 : p.toInt = -3 := by rw [c3]; rfl
            rw [if_pos c3]
            refine w_X2_thinnest (by omega) zB_43 hT2.1 hR hic (fun x hx => ?_)
            show zwp X (d - 1) MX10_behind 57 _ [.int x] (zen ρ) _
            rw [b_X10_behind_57]
            refine fin _ ?_
            rw [if_neg q4, if_pos q3]; exact hx
          · have q3 : ¬ p.toInt = -3 := fun q => c3 (ieq.mpr (by rw [q, e3]))
            rw [if_neg c3]
            by_cases c2 : p = -2
            · have q2 : p.toInt = -2 := by rw [c2]; rfl
              rw [if_pos c2]
              refine fin _ ?_
              have mb := mins_b hR _ hT.2.2.2.2.2.2.1
              have l20 := hT.2.2.2.2.2.1
              rw [if_neg q4, if_neg q3, if_pos q2, hm, t_oi (by omega)]
            · have q2 : ¬ p.toInt = -2 := fun q => c2 (ieq.mpr (by rw [q, e2]))
              rw [if_neg c2]
              by_cases c1 : p = -1
              · have q1 : p.toInt = -1 := by rw [c1]; rfl
                rw [if_pos c1]
                refine fin _ ?_
                rw [if_neg q4, if_neg q3, if_neg q2, if_pos q1]; exact hT2.2.2.2.2.1
              · have q1 : ¬ p.toInt = -1 := fun q => c1 (ieq.mpr (by rw [q, e1]))
                have hz : zin p 16 = true := zin_of (by omega) (by omega)
                rw [if_neg c1, if_neg (fun q => by have := il.mp q; omega), if_pos (il.mpr (by omega)), ztrue_and hz]
                refine fin _ ?_
                rw [if_neg q4, if_neg q3, if_neg q2, if_neg q1]
                exact hic p.toInt.toNat (by omega)
      · refine c_readB (by omega) h hr (fun v τ hv hv2 hC => ?_)
        show zwp X d MX11_ice 24 _ [.int v] (zen τ) Q
        rw [b_X11_ice_24 (hd := by omega), if_neg hv]
        exact hQ v τ hC (by rw [if_pos hr]; exact hv2)
    · have := nil_ hw2
      rw [if_neg hw2]
      exact hQ _ σ (Cpost.rf h) (by rw [if_pos (by omega)]; rfl)
theorem m_ice (hd : 12 ≤ d) (h : RelP b σ nr nt N V I) (p : Int32) (hQ : ∀ (x : Int32) (τ : zS), Mpost σ τ → x.toInt = v_ice σ nr nt N V I a.toInt p.toInt → Q (some (.int x)) (zen τ)) : zwp X d MX12_ice 0 [.ref 66, .int a, .int p, .null] [] (zen σ) Q := by
  have hR := h.1.2.2
  have hI := h.2.2.2.1.2.2.1
  have hl := hR.long
  have h9 := h.1.2.1.2.2.2.2.1
  have e4 : (-4 : Int32).toInt = -4 := rfl
  have e3 : (-3 : Int32).toInt = -3 := rfl
  have e2 : (-2 : Int32).toInt = -2 := rfl
  have e1 : (-1 : Int32).toInt = -1 := rfl
  have e1' : (1 : Int32).toInt = 1 := rfl
  have e0 : (0 : Int32).toInt = 0 := rfl
  have e9 : (gi σ 66 9 - 1).toInt = N 6 0 - 1 := by rw [t_sub (by rw [h9, e1']; omega), h9, e1']
  unfold v_ice at hQ
  rw [b_X12_ice_0 (hd := by omega), t_isShelfM, t_inM, e4, e9]
  by_cases ha : a.toInt < 0 ∨ 6 ≤ a.toInt
  · rw [if_pos ha, if_pos rfl]
    refine hQ _ σ (Mpost.rf h) ?_
    rw [refI_bad ha]
    split
    · rfl
    · rw [if_pos (by omega)]; rfl
  · rw [if_neg ha, if_neg (by decide)]
    by_cases hw : p.toInt < -4 ∨ N 6 0 ≤ p.toInt
    · rw [if_pos (show p.toInt < -4 ∨ N 6 0 - 1 < p.toInt by omega), if_neg (by decide)]
      exact hQ _ σ (Mpost.rf h) (by rw [if_pos hw]; rfl)
    · rw [if_neg (show ¬ (p.toInt < -4 ∨ N 6 0 - 1 < p.toInt) by omega), if_pos (by decide)]
      rw [if_neg hw] at hQ
      by_cases hr : refI σ a.toInt 0 = 0
      · refine m_layO (by omega) h (by omega) hr (fun τ hF hT => ?_)
        show zwp X d MX12_ice 29 _ [.int 0] (zen τ) Q
        rw [b_X12_ice_29 (hd := by omega), if_pos (by decide)]
        refine w_X12_goAll (by omega) hR hT hI (fun ρ hF2 hT2 hic hm => ?_)
        show zwp X d MX12_ice 40 _ [] (zen ρ) Q
        rw [b_X12_ice_40 (hd := by omega)]
        rw [if_neg (fun q => q hr)] at hQ
        have hM : Mpost σ ρ := ⟨(fr88 hF).tr (fr86 hF2), hT2.2.2.1⟩
        have hth := thinnest_lt (long := N 6 0) (by omega) (play N (gG V N (-1) nr) (progS σ nt a.toInt) I)
        by_cases c4 : p = -4
        · have q4 : p.toInt = -4 := by rw [c4]; rfl
          rw [if_pos c4]
          refine w_X12_thinnest hR hT2.1 hic (fun x hx => ?_)
          show zwp X d MX12_ice 95 _ [.int x, .ref 86] (zen ρ) _
          have hz : zin x 16 = true := zin_of (by omega) (by rw [hx]; omega)
          rw [b_X12_ice_95, ztrue_and hz]
          refine hQ _ _ hM ?_
          rw [if_pos q4]
          have : ix x = thinnest (N 6 0) (play N (gG V N (-1) nr) (progS σ nt a.toInt) I) := by rw [ix_t, hx]; omega
          rw [this]
          exact hic _ hth
        · have q4 : ¬ p.toInt = -4 := fun q => c4 (ieq.mpr (by rw [q, e4]))
          rw [if_neg c4]
          by_cases c3 : p = -3
          · have q3 : p.toInt = -3 := by rw [c3]; rfl
            rw [if_pos c3]
            refine w_X12_thinnest hR hT2.1 hic (fun x hx => ?_)
            show zwp X d MX12_ice 86 _ [.int x] (zen ρ) _
            rw [b_X12_ice_86]
            refine hQ _ _ hM ?_
            rw [if_neg q4, if_pos q3]; exact hx
          · have q3 : ¬ p.toInt = -3 := fun q => c3 (ieq.mpr (by rw [q, e3]))
            rw [if_neg c3]
            by_cases c2 : p = -2
            · have q2 : p.toInt = -2 := by rw [c2]; rfl
              rw [if_pos c2]
              refine hQ _ _ hM ?_
              have mb := mins_b hR _ hT.2.2.2.2.2.2.1
              have l20 := hT.2.2.2.2.2.1
              rw [if_neg q4, if_neg q3, if_pos q2, hm, t_oi (by omega)]
            · have q2 : ¬ p.toInt = -2 := fun q => c2 (ieq.mpr (by rw [q, e2]))
              rw [if_neg c2]
              by_cases c1 : p = -1
              · have q1 : p.toInt = -1 := by rw [c1]; rfl
                rw [if_pos c1]
                refine hQ _ _ hM ?_
                rw [if_neg q4, if_neg q3, if_neg q2, if_pos q1]; exact hT2.2.2.2.2.1
              · have q1 : ¬ p.toInt = -1 := fun q => c1 (ieq.mpr (by rw [q, e1]))
                have hz : zin p 16 = true := zin_of (by omega) (by omega)
                rw [if_neg c1, ztrue_and hz]
                refine hQ _ _ hM ?_
                rw [if_neg q4, if_neg q3, if_neg q2, if_neg q1]
                exact hic p.toInt.toNat (by omega)
      · refine m_layB (by omega) h (by omega) hr (fun v τ hv hv2 hM => ?_)
        show zwp X d MX12_ice 29 _ [.int v] (zen τ) Q
        rw [b_X12_ice_29 (hd := by omega), if_neg (fun q => by have := ile.mp q; omega)]
        exact hQ v τ hM (by rw [if_pos hr]; exact hv2)
theorem v_ice_fr (hF : zFr SC1 FC1 σ τ) (x w : Int) : v_ice τ nr nt N V I x w = v_ice σ nr nt N V I x w := by unfold v_ice jS; rw [refI_fr hF, progS_fr hF]
theorem o_ice (hd : 20 ≤ d) {k : Nat} (h : Rel k σ) (a w : Int32) : zOp k σ X d MX11_ice MX12_ice [.ref 0, .int a, .int w, .null] [.ref 66, .int a, .int w, .null] := by
  obtain ⟨nr, nt, N, V, I, h⟩ := h
  exact zOp.think h (fun Q hQ => c_ice (by omega) h w hQ) (fun τ h2 hF Q hQ => m_ice (by omega) h2 w (fun x ρ hM hx => hQ x ρ hM (by rw [hx, v_ice_fr hF])))
end OPS
