/-! which, good -/
/-- is all as seen behind turn t alone -/
abbrev mkI (N : Nat → Nat → Int) (V : zV) (nr : Nat) (I : Nat → Int) (e : Nat → Int) (z : Int) (t : Int) : Int := unl e z (N 6 0) (stepI N (gG V N (-1) nr) t I)
theorem w_X10_makes {X : zX} {d : Nat} {Q : Option Value → zH → Prop} (hd : 8 ≤ d) {σ : zS} {nr nt s : Nat} {e : Nat → Int} {z : Int} {N : Nat → Nat → Int} {V : zV} {I : Nat → Int} {t : Int32} (hR : HallR nr nt N) (hs : s < 6) (hS : Seen σ s e z) (hT : ThB σ nr nt N V I) (hI : IceR I) (ht : 0 ≤ t.toInt ∧ t.toInt < nt)
    (hQ : ∀ (v : Int32) (τ : zS), zFr [6, 14, 15, 16, 44] [(13, 5), (41, 5)] σ τ → ThB τ nr nt N V I → (v = 0 ∨ v = 1) → (v = 1 ↔ mkI N V nr I e z t.toInt = -2) → Q (some (.int v)) (zen τ)) : zwp X d MX10_makes 0 [.ref 41, .ref (29 + 2 * s), .int t] [] (zen σ) Q := by
  have hzS : zisS (29 + 2 * s) = true := zS_all s hs
  have hT1 : ThB (g_X10_begin σ) nr nt N V I := hT.zfr (begin_fr σ) (hT.2.2.1.fr rfl rfl rfl rfl)
  rw [b_X10_makes_0 (hd := by omega) (h2 := hzS)]
  refine w_X0_step (by omega) (V := V) (lo := -1) hR zB_43 hT1.1 hT1.2.1 hT1.2.2.1 (begin_ice hT.2.2.2) hI (Or.inr ht) (fun v τ hF hC hic _ => ?_)
  show zwp X d MX10_makes 16 _ [.int v] (zen τ) Q
  have hF1 : zFr [6, 14, 15, 16, 44] [(13, 5), (41, 5)] σ τ := (begin_fr σ).tr (hF.sub (fun _ q => q) (by simp))
  have hT2 : ThB τ nr nt N V I := hT.zfr hF1 hC
  rw [b_X10_makes_16 (hd := by omega) (hl1 := hzS)]
  refine w_X10_firstUnlike (by omega) hs (hS.zfr hs hF1 (by decide)) hT2.1 hR hic (fun u hu => ?_)
  show zwp X d MX10_makes 22 _ [.int u] (zen τ) Q
  rw [b_X10_makes_22 (hl1 := hzS)]
  by_cases c : u = -2
  · rw [if_neg (fun q => q c)]
    exact hQ 1 τ hF1 hT2 (Or.inr rfl) ⟨fun _ => by show unl e z (N 6 0) _ = -2; rw [← hu, c]; rfl, fun _ => rfl⟩
  · rw [if_pos c]
    exact hQ 0 τ hF1 hT2 (Or.inl rfl) ⟨fun q => absurd q (by decide), fun q => absurd (ieq.mpr (by rw [hu]; exact q)) c⟩
theorem w_X12_isAlone {X : zX} {d : Nat} {Q : Option Value → zH → Prop} (hd : 8 ≤ d) {σ : zS} {nr nt : Nat} {e : Nat → Int} {z : Int} {N : Nat → Nat → Int} {V : zV} {I : Nat → Int} {s t : Int32} (hR : HallR nr nt N) (hs : 0 ≤ s.toInt ∧ s.toInt < 6) (hS : Seen σ s.toInt.toNat e z) (hT : ThN σ nr nt N V I) (hI : IceR I) (ht : 0 ≤ t.toInt ∧ t.toInt < nt)
    (hQ : ∀ (v : Int32) (τ : zS), zFr [83, 84, 86, 87] [(66, 37)] σ τ → ThN τ nr nt N V I → (v = 0 ∨ v = 1) → (v = 1 ↔ mkI N V nr I e z t.toInt = -2) → Q (some (.int v)) (zen τ)) : zwp X d MX12_isAlone 0 [.ref 66, .int t, .int s] [] (zen σ) Q := by
  rw [b_X12_isAlone_0 (hd := by omega)]
  refine w_X12_beginIce hT.2.2.2 (fun f hf => ?_)
  show zwp X d MX12_isAlone 4 _ [] _ Q
  have hF0 : zFr [83, 84, 86, 87] [(66, 37)] σ (si (sA σ 86 f) 66 37 0) := (zFr.rf.wA (by decide)).sf (by decide)
  have hT0 := hT.zfr hF0
  rw [b_X12_isAlone_4 (hd := by omega)]
  have h86 : IceAt ((si (sA σ 86 f) 66 37 0).1 86) I := by rw [c_si_ne (by decide), sA_1]; exact hf
  have h8 := hR.2.1
  refine w_X12_goTurn (by omega) (V := V) (lo := -1) (t := t.toInt.toNat) hR hT0.1 hT0.2.1 hT0.2.2.1 h86 hI (by omega) (by omega) (fun τ hF hic _ => ?_)
  show zwp X d MX12_isAlone 9 _ [] (zen τ) Q
  have hF1 := hF0.tr hF
  have hT1 := hT.zfr hF1
  rw [b_X12_isAlone_9 (hd := by omega)]
  have hst : stepI N (gG V N (-1) nr) t.toInt I = clapI (N 6 0) (fun p i => gainR V N (-1) t.toInt.toNat p i nr 0) (thawI (N 6 0) (N 5 t.toInt.toNat * N 7 0) I) := by
    unfold stepI
    rw [if_neg (by omega)]
  rw [← hst] at hic
  refine w_X12_wrongSeen (by omega) hs (hS.zfr (by omega) hF1 (by decide)) hT1.1.2.2.2.2.1 hR.long hic (fun u hu => ?_)
  show zwp X d MX12_isAlone 14 _ [.int u] (zen τ) Q
  have ub : u.toInt = -2 ∨ 0 ≤ u.toInt := by rw [hu]; exact unlI_b _ _ _ _
  have e0 := l0
  rw [b_X12_isAlone_14]
  by_cases c : 0 ≤ u
  · have := ile.mp c
    rw [if_pos c]
    exact hQ 0 τ hF1 hT1 (Or.inl rfl) ⟨fun q => absurd q (by decide), fun q => by have q2 : unl e z (N 6 0) (stepI N (gG V N (-1) nr) t.toInt I) = -2 := q; omega⟩
  · have := nile c
    rw [if_neg c]
    exact hQ 1 τ hF1 hT1 (Or.inr rfl) ⟨fun _ => by show unl e z (N 6 0) (stepI N (gG V N (-1) nr) t.toInt I) = -2; omega, fun _ => rfl⟩
/-- how many, the first -/
def cntI (f : Nat → Int) : Nat → Nat → Int → Int → Int × Int
  | 0, _, m, b => (m, b)
  | n + 1, k, m, b => if f k = -2 then cntI f n (k + 1) (m + 1) (if m = 0 then k else b) else cntI f n (k + 1) m b
def half2 (f : Int) (p : Int × Int) : Int := if f = 0 then p.1 else p.2
theorem lp_whichC {X : zX} {d : Nat} {Q : Option Value → zH → Prop} (hd : 10 ≤ d) {nr nt s : Nat} {e : Nat → Int} {z : Int} {N : Nat → Nat → Int} {V : zV} {I : Nat → Int} (hR : HallR nr nt N) (hs : s < 6) (hI : IceR I) (half : Int32) : ∀ (n : Nat) (σ : zS) (m b q : Int32), Seen σ s e z → ThB σ nr nt N V I → 0 ≤ q.toInt → q.toInt + n = nt → 0 ≤ m.toInt → m.toInt ≤ q.toInt →
    (∀ (v : Int32) (τ : zS), zFr [6, 14, 15, 16, 44] [(13, 5), (41, 5)] σ τ → ThB τ nr nt N V I → v.toInt = half2 half.toInt (cntI (fun t => mkI N V nr I e z t) n q.toInt.toNat m.toInt b.toInt) → Q (some (.int v)) (zen τ)) →
    zwp X d MX10_turnsThatMake 9 [.ref 41, .ref (29 + 2 * s), .int half, .int m, .int b, .int q] [] (zen σ) Q := by
  intro n
  have hzS : zisS (29 + 2 * s) = true := zS_all s hs
  have e0 := l0
  have e1 := l1
  have h8 := hR.2.1
  induction n with
  | zero =>
    intro σ m b q hS hT hq0 hqn hm0 hmq hQ
    have hc := hT.1.2.1
    rw [b_X10_turnsThatMake_9 (hd := by omega) (hl1 := hzS), if_pos (ile.mpr (by omega))]
    unfold half2 at hQ
    by_cases ch : half = 0
    · rw [if_neg (fun y => y ch)]
      exact hQ m σ zFr.rf hT (by rw [if_pos (by rw [ch]; rfl)]; rfl)
    · rw [if_pos ch]
      exact hQ b σ zFr.rf hT (by rw [if_neg (fun y => ch (ieq.mpr (by rw [y]; rfl)))]; rfl)
  | succ n ih =>
    intro σ m b q hS hT hq0 hqn hm0 hmq hQ
    have hc := hT.1.2.1
    have eq1 : (q + 1).toInt = q.toInt + 1 := by rw [t_add (by omega), e1]
    have em1 : (m + 1).toInt = m.toInt + 1 := by rw [t_add (by omega), e1]
    have eqn : (((q.toInt.toNat : Nat)) : Int) = q.toInt := nat_cast hq0
    rw [b_X10_turnsThatMake_9 (hd := by omega) (hl1 := hzS), if_neg (fun y => by have := ile.mp y; omega)]
    refine w_X10_makes (by omega) hR hs hS hT hI (by omega) (fun v τ hF hT2 hv01 hv => ?_)
    show zwp X d MX10_turnsThatMake 28 _ [.int v] (zen τ) Q
    have hS2 := hS.zfr hs hF (by decide)
    rw [b_X10_turnsThatMake_28 (hl1 := hzS)]
    unfold cntI at hQ
    rw [eqn] at hQ
    rcases hv01 with rfl | rfl
    · rw [if_pos rfl]
      rw [if_neg (fun y => absurd (hv.mpr y) (by decide))] at hQ
      refine ih τ m b (q + 1) hS2 hT2 (by omega) (by omega) hm0 (by omega) (fun u ρ f1 f2 f3 => hQ u ρ (hF.tr f1) f2 ?_)
      rw [f3, eq1, show (q.toInt + 1).toNat = q.toInt.toNat + 1 by omega]
    · rw [if_neg (by decide)]
      rw [if_pos (hv.mp rfl)] at hQ
      by_cases c : m = 0
      · have c' : m.toInt = 0 := by rw [c]; rfl
        rw [if_neg (fun y => y c)]
        rw [if_pos c'] at hQ
        refine ih τ (m + 1) q (q + 1) hS2 hT2 (by omega) (by omega) (by omega) (by omega) (fun u ρ f1 f2 f3 => hQ u ρ (hF.tr f1) f2 ?_)
        rw [f3, eq1, em1, show (q.toInt + 1).toNat = q.toInt.toNat + 1 by omega]
      · have c' : ¬ m.toInt = 0 := fun y => c (ieq.mpr (by rw [y]; rfl))
        rw [if_pos c]
        rw [if_neg c'] at hQ
        refine ih τ (m + 1) b (q + 1) hS2 hT2 (by omega) (by omega) (by omega) (by omega) (fun u ρ f1 f2 f3 => hQ u ρ (hF.tr f1) f2 ?_)
        rw [f3, eq1, em1, show (q.toInt + 1).toNat = q.toInt.toNat + 1 by omega]
theorem lp_whichM {X : zX} {d : Nat} {Q : Option Value → zH → Prop} (hd : 10 ≤ d) {nr nt : Nat} {e : Nat → Int} {z : Int} {N : Nat → Nat → Int} {V : zV} {I : Nat → Int} (hR : HallR nr nt N) (hI : IceR I) (s half : Int32) (hs : 0 ≤ s.toInt ∧ s.toInt < 6) : ∀ (n : Nat) (σ : zS) (m b q : Int32), Seen σ s.toInt.toNat e z → ThN σ nr nt N V I → 0 ≤ q.toInt → q.toInt + n = nt → 0 ≤ m.toInt → m.toInt ≤ q.toInt →
    (∀ (v : Int32) (τ : zS), zFr [83, 84, 86, 87] [(66, 37)] σ τ → ThN τ nr nt N V I → v.toInt = half2 half.toInt (cntI (fun t => mkI N V nr I e z t) n q.toInt.toNat m.toInt b.toInt) → Q (some (.int v)) (zen τ)) →
    zwp X d MX12_which 43 [.ref 66, .int s, .int half, .int m, .int b, .int q] [] (zen σ) Q := by
  intro n
  have e0 := l0
  have e1 := l1
  have h8 := hR.2.1
  induction n with
  | zero =>
    intro σ m b q hS hT hq0 hqn hm0 hmq hQ
    have hc := hT.1.2.1
    rw [b_X12_which_43 (hd := by omega), if_pos (ile.mpr (by omega))]
    unfold half2 at hQ
    by_cases ch : half = 0
    · rw [if_neg (fun y => y ch)]
      exact hQ m σ zFr.rf hT (by rw [if_pos (by rw [ch]; rfl)]; rfl)
    · rw [if_pos ch]
      exact hQ b σ zFr.rf hT (by rw [if_neg (fun y => ch (ieq.mpr (by rw [y]; rfl)))]; rfl)
  | succ n ih =>
    intro σ m b q hS hT hq0 hqn hm0 hmq hQ
    have hc := hT.1.2.1
    have eq1 : (q + 1).toInt = q.toInt + 1 := by rw [t_add (by omega), e1]
    have em1 : (m + 1).toInt = m.toInt + 1 := by rw [t_add (by omega), e1]
    have eqn : (((q.toInt.toNat : Nat)) : Int) = q.toInt := nat_cast hq0
    rw [b_X12_which_43 (hd := by omega), if_neg (fun y => by have := ile.mp y; omega)]
    refine w_X12_isAlone (by omega) hR hs hS hT hI (by omega) (fun v τ hF hT2 hv01 hv => ?_)
    show zwp X d MX12_which 59 _ [.int v] (zen τ) Q
    have hS2 := hS.zfr (by omega) hF (by decide)
    rw [b_X12_which_59]
    unfold cntI at hQ
    rw [eqn] at hQ
    rcases hv01 with rfl | rfl
    · rw [if_neg (fun y => y rfl)]
      rw [if_neg (fun y => absurd (hv.mpr y) (by decide))] at hQ
      refine ih τ m b (q + 1) hS2 hT2 (by omega) (by omega) hm0 (by omega) (fun u ρ f1 f2 f3 => hQ u ρ (hF.tr f1) f2 ?_)
      rw [f3, eq1, show (q.toInt + 1).toNat = q.toInt.toNat + 1 by omega]
    · rw [if_pos (by decide)]
      rw [if_pos (hv.mp rfl)] at hQ
      by_cases c : m = 0
      · have c' : m.toInt = 0 := by rw [c]; rfl
        rw [if_neg (fun y => y c)]
        rw [if_pos c'] at hQ
        refine ih τ (m + 1) q (q + 1) hS2 hT2 (by omega) (by omega) (by omega) (by omega) (fun u ρ f1 f2 f3 => hQ u ρ (hF.tr f1) f2 ?_)
        rw [f3, eq1, em1, show (q.toInt + 1).toNat = q.toInt.toNat + 1 by omega]
      · have c' : ¬ m.toInt = 0 := fun y => c (ieq.mpr (by rw [y]; rfl))
        rw [if_pos c]
        rw [if_neg c'] at hQ
        refine ih τ (m + 1) b (q + 1) hS2 hT2 (by omega) (by omega) (by omega) (by omega) (fun u ρ f1 f2 f3 => hQ u ρ (hF.tr f1) f2 ?_)
        rw [f3, eq1, em1, show (q.toInt + 1).toNat = q.toInt.toNat + 1 by omega]
section WHICH
variable {X : zX} {d : Nat} {b : Int} {σ τ : zS} {nr nt : Nat} {N : Nat → Nat → Int} {V : zV} {I : Nat → Int} {Q : Option Value → zH → Prop} {a f t : Int32}
def v_which (σ : zS) (nr nt : Nat) (N : Nat → Nat → Int) (V : zV) (I : Nat → Int) (x f : Int) : Int := if f < 0 ∨ 1 < f then -1 else if ¬ refI σ x 1 = 0 then refI σ x 1 else half2 f (cntI (fun t => mkI N V nr I (seenE σ x) (seenZ σ x) t) nt 0 0 (-2))
theorem c_which (hd : 14 ≤ d) (h : RelP b σ nr nt N V I) (hQ : ∀ (x : Int32) (τ : zS), Cpost σ nr nt N V τ → x.toInt = v_which σ nr nt N V I a.toInt f.toInt → Q (some (.int x)) (zen τ)) : zwp X d MX11_which 0 [.ref 0, .int a, .int f, .null] [] (zen σ) Q := by
  have hR := h.1.2.2
  have hI := h.2.2.2.1.2.2.1
  have e0 := l0
  have e1 := l1
  have R := refC h.2.2.2.2.2.2.2.1 (a := a) (sort := 1) (by omega)
  rw [e1] at R
  unfold v_which at hQ
  rw [b_X11_which_0 (hd := by omega), t_half]
  by_cases x3 : f.toInt < 0 ∨ 1 < f.toInt
  · rw [if_pos x3, if_neg (fun y => y rfl)]
    exact hQ _ σ (Cpost.rf h) (by rw [if_pos x3]; rfl)
  · rw [if_neg x3, if_pos (by decide), ztrue_and R.1]
    rw [if_neg x3] at hQ
    by_cases c : f_X11_refusal σ a 1 = 0
    · have hr : refI σ a.toInt 1 = 0 := by rw [← R.2, c]; rfl
      have SS := h.2.2.2.2.2.2.2.1.shorts hr
      have hz : zin a 6 = true := zin_of SS.1 SS.2.1
      rw [if_pos c, ztrue_and hz, ix_t, b_X10_turnsThatMake_0 (h2 := zS_all _ (by omega))]
      rw [if_neg (fun y => y hr)] at hQ
      refine lp_whichC (by omega) hR (by omega) hI f nt σ 0 (-2) 0 SS.2.2 (ThB.of h) (by decide) (by rw [e0]; omega) (by decide) (by decide) (fun v τ f1 f2 f3 => ?_)
      show zwp X d MX11_which 38 _ [.int v] (zen τ) Q
      rw [b_X11_which_38]
      exact hQ v τ (Cpost.of (fr44 f1) f2.2.2.1 (f1.1 1 (by decide) 3 (by decide))) f3
    · have hr : ¬ refI σ a.toInt 1 = 0 := fun q => c (ieq.mpr (by rw [R.2, q]; rfl))
      rw [if_neg c]
      exact hQ _ σ (Cpost.rf h) (by rw [if_pos hr]; exact R.2)
theorem m_which (hd : 14 ≤ d) (h : RelP b σ nr nt N V I) (hQ : ∀ (x : Int32) (τ : zS), Mpost σ τ → x.toInt = v_which σ nr nt N V I a.toInt f.toInt → Q (some (.int x)) (zen τ)) : zwp X d MX12_which 0 [.ref 66, .int a, .int f, .null, .null, .null] [] (zen σ) Q := by
  have hR := h.1.2.2
  have hI := h.2.2.2.1.2.2.1
  have e0 := l0
  have e1 := l1
  have z10 : ¬ (1 : Int32) = 0 := by decide
  unfold v_which at hQ
  rw [b_X12_which_0 (hd := by omega), t_isShelfM]
  by_cases ha : a.toInt < 0 ∨ 6 ≤ a.toInt
  · rw [if_pos ha, if_pos rfl]
    refine hQ _ σ (Mpost.rf h) ?_
    by_cases x : f.toInt < 0 ∨ 1 < f.toInt
    · rw [if_pos x]; rfl
    · rw [if_neg x, refI_bad ha, if_pos (by omega)]; rfl
  · rw [if_neg ha, if_neg z10]
    have R := refM (σ := σ) (a := a) (sort := 1) (by omega) (by omega)
    rw [e1] at R
    by_cases x3 : f.toInt < (0 : Int32).toInt ∨ (1 : Int32).toInt < f.toInt
    · rw [t_in0 x3, if_neg (fun y => y rfl)]
      exact hQ _ σ (Mpost.rf h) (by rw [if_pos (by omega)]; rfl)
    · rw [t_in1 x3, if_pos z10, ztrue_and R.1]
      rw [if_neg (show ¬ (f.toInt < 0 ∨ 1 < f.toInt) by omega)] at hQ
      have rl := refI_le σ a.toInt 1
      by_cases c : 0 ≤ f_X12_rowFault σ a 1
      · have := ile.mp c
        have hr : refI σ a.toInt 1 = 0 := by omega
        have SS := h.2.2.2.2.2.2.2.1.shorts hr
        rw [if_pos c]
        rw [if_neg (fun y => y hr)] at hQ
        refine lp_whichM (by omega) hR hI a f (by omega) nt σ 0 (-2) 0 SS.2.2 (ThN.of h) (by decide) (by rw [e0]; omega) (by decide) (by decide) (fun v τ f1 f2 f3 => ?_)
        exact hQ v τ ⟨fr86 f1, f2.2.2.1⟩ f3
      · have := nile c
        rw [if_neg c, ztrue_and R.1]
        exact hQ _ σ (Mpost.rf h) (by rw [if_pos (by omega)]; exact R.2)
theorem v_which_fr (hF : zFr SC1 FC1 σ τ) (x y : Int) : v_which τ nr nt N V I x y = v_which σ nr nt N V I x y := by unfold v_which; rw [refI_fr hF, (seenE_fr hF _).1, (seenE_fr hF _).2]
theorem o_which (hd : 20 ≤ d) {k : Nat} (h : Rel k σ) (a f : Int32) : zOp k σ X d MX11_which MX12_which [.ref 0, .int a, .int f, .null] [.ref 66, .int a, .int f, .null, .null, .null] := by
  obtain ⟨nr, nt, N, V, I, h⟩ := h
  exact zOp.think h (fun Q hQ => c_which (by omega) h hQ) (fun τ h2 hF Q hQ => m_which (by omega) h2 (fun x ρ hM hx => hQ x ρ hM (by rw [hx, v_which_fr hF])))
end WHICH
/-! good -/
abbrev cGood (N : Nat → Nat → Int) (V : zV) (nr t : Nat) (I : Nat → Int) (e : Nat → Int) (z : Int) : Nat → Int := fun q => mkI (updN N 4 t q) V nr I e z t
theorem lp_goodC {X : zX} {d : Nat} {Q : Option Value → zH → Prop} (hd : 10 ≤ d) {nr nt s t : Nat} {e : Nat → Int} {z : Int} {N : Nat → Nat → Int} {V : zV} {I : Nat → Int} (hR : HallR nr nt N) (hs : s < 6) (hI : IceR I) (ht : t < nt) (ta half pl was : Int32) (hta : ta.toInt = t) (hpl : pl.toInt = 8 * (4 : Nat) + t) (hwas : was.toInt = N 4 t) : ∀ (n : Nat) (σ : zS) (m b q : Int32) (x : Int), Seen σ s e z → ThB σ nr nt (updN N 4 t x) V I → HallR nr nt (updN N 4 t x) → 0 ≤ (gi σ 1 3).toInt → (gi σ 1 3).toInt + n ≤ 900000 → 0 ≤ q.toInt → q.toInt + n = 10 → 0 ≤ m.toInt → m.toInt ≤ q.toInt →
    (∀ (v : Int32) (τ : zS), zFr [2, 6, 14, 15, 16, 44] [(1, 3), (13, 5), (41, 5)] σ τ → ((∀ j, gi τ 2 j = if j = 8 * 4 + t then was else gi σ 2 j) ∧ τ.2 2 = σ.2 2) → ThB τ nr nt N V I → (gi σ 1 3).toInt ≤ (gi τ 1 3).toInt ∧ (gi τ 1 3).toInt ≤ (gi σ 1 3).toInt + n + 1 → v.toInt = half2 half.toInt (cntI (cGood N V nr t I e z) n q.toInt.toNat m.toInt b.toInt) → Q (some (.int v)) (zen τ)) →
    zwp X d MX10_goodsThatMake 40 [.ref 41, .ref (29 + 2 * s), .int ta, .int half, .int pl, .int was, .int m, .int b, .int q] [] (zen σ) Q := by
  intro n
  have hzS : zisS (29 + 2 * s) = true := zS_all s hs
  have e0 := l0
  have e1 := l1
  have e9 : (zK1 (ix 4)).toInt = 9 := rfl
  have h8 := hR.2.1
  have hm : zmean nr nt 4 t := by unfold zmean; omega
  induction n with
  | zero =>
    intro σ m b q x hS hT hRx h0 h9 hq0 hqn hm0 hmq hQ
    rw [b_X10_goodsThatMake_40 (hd := by omega) (hl1 := hzS), if_pos (il.mpr (by omega))]
    have H := ch_B (v := was) (p := pl) hRx hT hm hpl (by omega)
    rw [updN_two, hwas, updN_back'] at H
    have F1 : zFr [2, 6, 14, 15, 16, 44] [(1, 3), (13, 5), (41, 5)] σ (g_X5_change σ pl was) := by rw [H.2.2.2]; exact (zFr.rf.ws (by decide)).sf (by decide)
    have C1 : (∀ j, gi (g_X5_change σ pl was) 2 j = if j = 8 * 4 + t then was else gi σ 2 j) ∧ (g_X5_change σ pl was).2 2 = σ.2 2 := by
      refine ⟨fun j => ?_, by rw [H.2.2.2]; rfl⟩
      rw [H.2.2.2, gi_si_ne (by decide)]
      by_cases e : j = 8 * 4 + t
      · rw [e, gi_si, if_pos rfl]
      · rw [gi_si_j e, if_neg e]
    refine ⟨H.1, ?_⟩
    unfold half2 at hQ
    by_cases ch : half = 0
    · rw [if_neg (fun y => y ch)]
      exact hQ m _ F1 C1 H.2.1 (by rw [H.2.2.1]; omega) (by rw [if_pos (by rw [ch]; rfl)]; rfl)
    · rw [if_pos ch]
      exact hQ b _ F1 C1 H.2.1 (by rw [H.2.2.1]; omega) (by rw [if_neg (fun y => ch (ieq.mpr (by rw [y]; rfl)))]; rfl)
  | succ n ih =>
    intro σ m b q x hS hT hRx h0 h9 hq0 hqn hm0 hmq hQ
    have eq1 : (q + 1).toInt = q.toInt + 1 := by rw [t_add (by omega), e1]
    have em1 : (m + 1).toInt = m.toInt + 1 := by rw [t_add (by omega), e1]
    have eqn : (((q.toInt.toNat : Nat)) : Int) = q.toInt := nat_cast hq0
    rw [b_X10_goodsThatMake_40 (hd := by omega) (hl1 := hzS), if_neg (fun y => by have := il.mp y; omega)]
    have H := ch_B (v := q) (p := pl) hRx hT hm hpl (by omega)
    rw [updN_two] at H
    have hRq : HallR nr nt (updN N 4 t q.toInt) := hR.upd (by show (0 : Int) ≤ _; omega) (by show q.toInt ≤ 9; omega)
    have hF1 : zFr [2, 6, 14, 15, 16, 44] [(1, 3), (13, 5), (41, 5)] σ (g_X5_change σ pl q) := by rw [H.2.2.2]; exact (zFr.rf.ws (by decide)).sf (by decide)
    refine ⟨H.1, w_X10_makes (by omega) hRq hs (hS.zfr hs hF1 (by decide)) H.2.1 hI (by omega) (fun v τ hF hT2 hv01 hv => ?_)⟩
    show zwp X d MX10_goodsThatMake 67 _ [.int v] (zen τ) Q
    have hF2 : zFr [2, 6, 14, 15, 16, 44] [(1, 3), (13, 5), (41, 5)] σ τ := hF1.tr (hF.sub (by decide) (by decide))
    have hS2 : Seen τ s e z := hS.zfr hs hF2 (by decide)
    have v13 : gi τ 1 3 = gi (g_X5_change σ pl q) 1 3 := hF.1 1 (by decide) 3 (by decide)
    have w13 : (gi τ 1 3).toInt = (gi σ 1 3).toInt + 1 := by rw [v13]; exact H.2.2.1
    have c2 : ∀ j, gi τ 2 j = if j = 8 * 4 + t then q else gi σ 2 j := fun j => by
      rw [hF.1 2 (by decide) j (by simp), H.2.2.2, gi_si_ne (by decide)]
      by_cases e : j = 8 * 4 + t
      · rw [e, gi_si, if_pos rfl]
      · rw [gi_si_j e, if_neg e]
    have l2c : τ.2 2 = σ.2 2 := by rw [hF.2 2 (by decide), H.2.2.2]; rfl
    have cc : ∀ {ρ : zS}, (∀ j, gi ρ 2 j = if j = 8 * 4 + t then was else gi τ 2 j) → ∀ j, gi ρ 2 j = if j = 8 * 4 + t then was else gi σ 2 j := fun f j => by
      rw [f, c2]
      by_cases e : j = 8 * 4 + t
      · rw [if_pos e, if_pos e]
      · rw [if_neg e, if_neg e, if_neg e]
    have hv' : v = 1 ↔ cGood N V nr t I e z q.toInt.toNat = -2 := by
      show v = 1 ↔ mkI (updN N 4 t ((q.toInt.toNat : Nat) : Int)) V nr I e z t = -2
      rw [eqn, ← hta]; exact hv
    rw [b_X10_goodsThatMake_67 (hl1 := hzS)]
    unfold cntI at hQ
    rw [eqn] at hQ
    rcases hv01 with rfl | rfl
    · rw [if_pos rfl]
      rw [if_neg (fun y => absurd (hv'.mpr y) (by decide))] at hQ
      refine ih τ m b (q + 1) q.toInt hS2 hT2 hRq (by omega) (by omega) (by omega) (by omega) hm0 (by omega) (fun u ρ f1 f2 f3 f4 f5 => hQ u ρ (hF2.tr f1) ⟨cc f2.1, f2.2.trans l2c⟩ f3 (by omega) ?_)
      rw [f5, eq1, show (q.toInt + 1).toNat = q.toInt.toNat + 1 by omega]
    · rw [if_neg (by decide)]
      rw [if_pos (hv'.mp rfl)] at hQ
      by_cases c : m = 0
      · have c' : m.toInt = 0 := by rw [c]; rfl
        rw [if_neg (fun y => y c)]
        rw [if_pos c'] at hQ
        refine ih τ (m + 1) q (q + 1) q.toInt hS2 hT2 hRq (by omega) (by omega) (by omega) (by omega) (by omega) (by omega) (fun u ρ f1 f2 f3 f4 f5 => hQ u ρ (hF2.tr f1) ⟨cc f2.1, f2.2.trans l2c⟩ f3 (by omega) ?_)
        rw [f5, eq1, em1, show (q.toInt + 1).toNat = q.toInt.toNat + 1 by omega]
      · have c' : ¬ m.toInt = 0 := fun y => c (ieq.mpr (by rw [y]; rfl))
        rw [if_pos c]
        rw [if_neg c'] at hQ
        refine ih τ (m + 1) b (q + 1) q.toInt hS2 hT2 hRq (by omega) (by omega) (by omega) (by omega) (by omega) (by omega) (fun u ρ f1 f2 f3 f4 f5 => hQ u ρ (hF2.tr f1) ⟨cc f2.1, f2.2.trans l2c⟩ f3 (by omega) ?_)
        rw [f5, eq1, em1, show (q.toInt + 1).toNat = q.toInt.toNat + 1 by omega]
theorem lp_goodM {X : zX} {d : Nat} {Q : Option Value → zH → Prop} (hd : 12 ≤ d) {nr nt t : Nat} {e : Nat → Int} {z : Int} {N : Nat → Nat → Int} {V : zV} {I : Nat → Int} (hR : HallR nr nt N) (hI : IceR I) (ht : t < nt) (s ta half was : Int32) (hs : 0 ≤ s.toInt ∧ s.toInt < 6) (hta : ta.toInt = t) (hwas : was.toInt = N 4 t) : ∀ (n : Nat) (σ : zS) (m b q : Int32) (x : Int), Seen σ s.toInt.toNat e z → ThN σ nr nt (updN N 4 t x) V I → 0 ≤ q.toInt → q.toInt + n = 10 → 0 ≤ m.toInt → m.toInt ≤ q.toInt →
    (∀ (v : Int32) (τ : zS), zFr [71, 83, 84, 86, 87] [(66, 37)] σ τ → ((∀ j, gi τ 71 j = if j = t then was else gi σ 71 j) ∧ τ.2 71 = σ.2 71) → ThN τ nr nt N V I → v.toInt = half2 half.toInt (cntI (cGood N V nr t I e z) n q.toInt.toNat m.toInt b.toInt) → Q (some (.int v)) (zen τ)) →
    zwp X d MX12_good 60 [.ref 66, .int s, .int ta, .int half, .int was, .int m, .int b, .int q] [] (zen σ) Q := by
  intro n
  have e0 := l0
  have e1 := l1
  have e9 := l9
  have h8 := hR.2.1
  have hix : ix ta = t := by rw [ix_t]; omega
  have hz : zin ta 8 = true := zin_of (by omega) (by omega)
  have lay : ∀ (σ : zS) (x : Int) (y : Int32), ThN σ nr nt (updN N 4 t x) V I → ThN (si σ 71 t y) nr nt (updN N 4 t y.toInt) V I ∧ (∀ j, gi (si σ 71 t y) 71 j = if j = t then y else gi σ 71 j) := fun σ x y hT => by
    have hM := HallM_lay4 (v := y) (i := t) hT.1
    rw [updN_two] at hM
    refine ⟨hT.hall hM (zFr.rf.ws (k := 71) (S := [71]) (F := []) (by decide)) (by decide), fun j => ?_⟩
    by_cases e : j = t
    · rw [e, gi_si, if_pos rfl]
    · rw [gi_si_j e, if_neg e]
  induction n with
  | zero =>
    intro σ m b q x hS hT hq0 hqn hm0 hmq hQ
    rw [b_X12_good_60 (hd := by omega), if_pos (il.mpr (by omega)), hix]
    have H := lay σ x was hT
    rw [hwas, updN_back'] at H
    refine ⟨hz, ?_⟩
    unfold half2 at hQ
    by_cases ch : half = 0
    · rw [if_neg (fun y => y ch)]
      exact hQ m _ (zFr.rf.ws (by decide)) ⟨H.2, rfl⟩ H.1 (by rw [if_pos (by rw [ch]; rfl)]; rfl)
    · rw [if_pos ch]
      exact hQ b _ (zFr.rf.ws (by decide)) ⟨H.2, rfl⟩ H.1 (by rw [if_neg (fun y => ch (ieq.mpr (by rw [y]; rfl)))]; rfl)
  | succ n ih =>
    intro σ m b q x hS hT hq0 hqn hm0 hmq hQ
    have eq1 : (q + 1).toInt = q.toInt + 1 := by rw [t_add (by omega), e1]
    have em1 : (m + 1).toInt = m.toInt + 1 := by rw [t_add (by omega), e1]
    have eqn : (((q.toInt.toNat : Nat)) : Int) = q.toInt := nat_cast hq0
    rw [b_X12_good_60 (hd := by omega), if_neg (fun y => by have := il.mp y; omega), hix]
    have H := lay σ x q hT
    have hRq : HallR nr nt (updN N 4 t q.toInt) := hR.upd (by show (0 : Int) ≤ _; omega) (by show q.toInt ≤ 9; omega)
    have hF1 : zFr [71, 83, 84, 86, 87] [(66, 37)] σ (si σ 71 t q) := zFr.rf.ws (by decide)
    refine ⟨hz, w_X12_isAlone (by omega) hRq hs (hS.zfr (by omega) hF1 (by decide)) H.1 hI (by omega) (fun v τ hF hT2 hv01 hv => ?_)⟩
    show zwp X d MX12_good 81 _ [.int v] (zen τ) Q
    have hF2 : zFr [71, 83, 84, 86, 87] [(66, 37)] σ τ := hF1.tr (hF.sub (by decide) (by decide))
    have hS2 : Seen τ _ e z := hS.zfr (by omega) hF2 (by decide)
    have c2 : ∀ j, gi τ 71 j = if j = t then q else gi σ 71 j := fun j => by
      rw [hF.1 71 (by decide) j (by simp)]; exact H.2 j
    have l2c : τ.2 71 = σ.2 71 := by rw [hF.2 71 (by decide)]; rfl
    have cc : ∀ {ρ : zS}, (∀ j, gi ρ 71 j = if j = t then was else gi τ 71 j) → ∀ j, gi ρ 71 j = if j = t then was else gi σ 71 j := fun f j => by
      rw [f, c2]
      by_cases e : j = t
      · rw [if_pos e, if_pos e]
      · rw [if_neg e, if_neg e, if_neg e]
    have hv' : v = 1 ↔ cGood N V nr t I e z q.toInt.toNat = -2 := by
      show v = 1 ↔ mkI (updN N 4 t ((q.toInt.toNat : Nat) : Int)) V nr I e z t = -2
      rw [eqn, ← hta]; exact hv
    rw [b_X12_good_81]
    unfold cntI at hQ
    rw [eqn] at hQ
    rcases hv01 with rfl | rfl
    · rw [if_neg (fun y => y rfl)]
      rw [if_neg (fun y => absurd (hv'.mpr y) (by decide))] at hQ
      refine ih τ m b (q + 1) q.toInt hS2 hT2 (by omega) (by omega) hm0 (by omega) (fun u ρ f1 f2 f3 f5 => hQ u ρ (hF2.tr f1) ⟨cc f2.1, f2.2.trans l2c⟩ f3 ?_)
      rw [f5, eq1, show (q.toInt + 1).toNat = q.toInt.toNat + 1 by omega]
    · rw [if_pos (by decide)]
      rw [if_pos (hv'.mp rfl)] at hQ
      by_cases c : m = 0
      · have c' : m.toInt = 0 := by rw [c]; rfl
        rw [if_neg (fun y => y c)]
        rw [if_pos c'] at hQ
        refine ih τ (m + 1) q (q + 1) q.toInt hS2 hT2 (by omega) (by omega) (by omega) (by omega) (fun u ρ f1 f2 f3 f5 => hQ u ρ (hF2.tr f1) ⟨cc f2.1, f2.2.trans l2c⟩ f3 ?_)
        rw [f5, eq1, em1, show (q.toInt + 1).toNat = q.toInt.toNat + 1 by omega]
      · have c' : ¬ m.toInt = 0 := fun y => c (ieq.mpr (by rw [y]; rfl))
        rw [if_pos c]
        rw [if_neg c'] at hQ
        refine ih τ (m + 1) b (q + 1) q.toInt hS2 hT2 (by omega) (by omega) (by omega) (by omega) (fun u ρ f1 f2 f3 f5 => hQ u ρ (hF2.tr f1) ⟨cc f2.1, f2.2.trans l2c⟩ f3 ?_)
        rw [f5, eq1, em1, show (q.toInt + 1).toNat = q.toInt.toNat + 1 by omega]
section GOOD
variable {X : zX} {d : Nat} {b : Int} {σ τ : zS} {nr nt : Nat} {N : Nat → Nat → Int} {V : zV} {I : Nat → Int} {Q : Option Value → zH → Prop} {a f t : Int32}
def v_good (σ : zS) (nr nt : Nat) (N : Nat → Nat → Int) (V : zV) (I : Nat → Int) (x t f : Int) : Int := if (t < 0 ∨ nt ≤ t) ∨ f < 0 ∨ 1 < f then -1 else if ¬ refI σ x 1 = 0 then refI σ x 1 else half2 f (cntI (cGood N V nr t.toNat I (seenE σ x) (seenZ σ x)) 10 0 0 (-2))
theorem c_good (hd : 14 ≤ d) (h : RelP b σ nr nt N V I) (hb8 : b ≤ 800000) (hQ : ∀ (x : Int32) (τ : zS), Cpost σ nr nt N V τ → x.toInt = v_good σ nr nt N V I a.toInt t.toInt f.toInt → Q (some (.int x)) (zen τ)) : zwp X d MX11_good 0 [.ref 0, .int a, .int t, .int f, .null] [] (zen σ) Q := by
  have hR := h.1.2.2
  have h8 := hR.2.1
  have hI := h.2.2.2.1.2.2.1
  have e0 := l0
  have e1 := l1
  have e4 := l4
  have c1 := h.1.1.2.1
  have R := refC h.2.2.2.2.2.2.2.1 (a := a) (sort := 1) (by omega)
  rw [e1] at R
  unfold v_good at hQ
  rw [b_X11_good_0 (hd := by omega)]
  by_cases x1 : t < 0
  · have := il.mp x1
    rw [if_pos x1]
    exact hQ _ σ (Cpost.rf h) (by rw [if_pos (by omega)]; rfl)
  · have y1 := nil_ x1
    rw [if_neg x1]
    by_cases x2 : gi σ 1 2 ≤ t
    · have := ile.mp x2
      rw [if_pos x2]
      exact hQ _ σ (Cpost.rf h) (by rw [if_pos (by omega)]; rfl)
    · have y2 := nile x2
      rw [if_neg x2, t_half]
      by_cases x3 : f.toInt < 0 ∨ 1 < f.toInt
      · rw [if_pos x3, if_neg (fun y => y rfl)]
        exact hQ _ σ (Cpost.rf h) (by rw [if_pos (by omega)]; rfl)
      · rw [if_neg x3, if_pos (by decide), ztrue_and R.1]
        have nb : ¬ ((t.toInt < 0 ∨ (nt : Int) ≤ t.toInt) ∨ f.toInt < 0 ∨ 1 < f.toInt) := by omega
        rw [if_neg nb] at hQ
        by_cases c : f_X11_refusal σ a 1 = 0
        · have hr : refI σ a.toInt 1 = 0 := by rw [← R.2, c]; rfl
          have SS := h.2.2.2.2.2.2.2.1.shorts hr
          have hz6 : zin a 6 = true := zin_of SS.1 SS.2.1
          have hm : zmean nr nt 4 t.toInt.toNat := by unfold zmean; omega
          have T := ThB.of h
          have pl := place_ok (σ := σ) (nr := nr) (nt := nt) (N := N) (w := 4) (i := t) T.1 hR (by rw [e4]; unfold zmok; exact ⟨by omega, by omega, hm⟩)
          rw [e4] at pl
          have hz : zin (f_X5_placeOf σ t 4) 80 = true := zin_of (by omega) (by omega)
          have ip : ix (f_X5_placeOf σ t 4) = 8 * 4 + t.toInt.toNat := by rw [ix_t, pl]; omega
          have v2 : (gi σ 2 (8 * 4 + t.toInt.toNat)).toInt = N 4 t.toInt.toNat := T.1.2.2 4 _ hm
          have hv1 := h.2.2.1.2.1
          have hv2 := h.2.2.1.2.2.1
          rw [if_pos c, ztrue_and hz6, ix_t a, b_X10_goodsThatMake_0 (hd := by omega) (h2 := zS_all _ (by omega)), if_pos (ile.mpr (by omega))]
          refine ⟨hz, ?_⟩
          rw [ip]
          rw [if_neg (fun y => y hr)] at hQ
          refine lp_goodC (by omega) hR (by omega) hI (t := t.toInt.toNat) (by omega) t f _ _ (by omega) (by rw [pl]; omega) v2 10 σ 0 (-2) 0 (N 4 t.toInt.toNat) SS.2.2 (by rw [updN_back']; exact T) (by rw [updN_back']; exact hR) (by omega) (by omega) (by decide) (by decide) (by decide) (by decide) (fun v ρ f1 f2 f3 f4 f5 => ?_)
          show zwp X d MX11_good 57 _ [.int v] (zen ρ) Q
          rw [b_X11_good_57]
          have fz : zFr [6, 14, 15, 16, 44] [(1, 3), (13, 5), (41, 5)] σ ρ := f1.drop (fun j => by rw [f2.1]; by_cases e : j = 8 * 4 + t.toInt.toNat; (rw [if_pos e, e]); (rw [if_neg e])) f2.2
          exact hQ v ρ ⟨fz.sub (by decide) (by decide), f3.2.2.1, by omega, by omega⟩ f5
        · have hr : ¬ refI σ a.toInt 1 = 0 := fun q => c (ieq.mpr (by rw [R.2, q]; rfl))
          rw [if_neg c]
          exact hQ _ σ (Cpost.rf h) (by rw [if_pos hr]; exact R.2)
theorem m_good (hd : 16 ≤ d) (h : RelP b σ nr nt N V I) (hQ : ∀ (x : Int32) (τ : zS), Mpost σ τ → x.toInt = v_good σ nr nt N V I a.toInt t.toInt f.toInt → Q (some (.int x)) (zen τ)) : zwp X d MX12_good 0 [.ref 66, .int a, .int t, .int f, .null, .null, .null, .null] [] (zen σ) Q := by
  have hR := h.1.2.2
  have h8 := hR.2.1
  have hI := h.2.2.2.1.2.2.1
  have e0 := l0
  have e1 := l1
  have z10 : ¬ (1 : Int32) = 0 := by decide
  have m1 := h.1.2.1.2.1
  have s1 : (gi σ 66 6 - 1).toInt = nt - 1 := by rw [t_sub (by omega), m1, e1]
  unfold v_good at hQ
  rw [b_X12_good_0 (hd := by omega), t_isShelfM]
  by_cases ha : a.toInt < 0 ∨ 6 ≤ a.toInt
  · rw [if_pos ha, if_pos rfl]
    refine hQ _ σ (Mpost.rf h) ?_
    by_cases x : (t.toInt < 0 ∨ (nt : Int) ≤ t.toInt) ∨ f.toInt < 0 ∨ 1 < f.toInt
    · rw [if_pos x]; rfl
    · rw [if_neg x, refI_bad ha, if_pos (by omega)]; rfl
  · rw [if_neg ha, if_neg z10]
    have R := refM (σ := σ) (a := a) (sort := 1) (by omega) (by omega)
    rw [e1] at R
    unfold f_X12_isTurn
    by_cases x1 : t.toInt < (0 : Int32).toInt ∨ (gi σ 66 6 - 1).toInt < t.toInt
    · rw [t_in0 x1, if_pos rfl]
      exact hQ _ σ (Mpost.rf h) (by rw [if_pos (by omega)]; rfl)
    · rw [t_in1 x1, if_neg z10]
      by_cases x3 : f.toInt < (0 : Int32).toInt ∨ (1 : Int32).toInt < f.toInt
      · rw [t_in0 x3, if_neg (fun y => y rfl)]
        exact hQ _ σ (Mpost.rf h) (by rw [if_pos (by omega)]; rfl)
      · rw [t_in1 x3, if_pos z10, ztrue_and R.1]
        have nb : ¬ ((t.toInt < 0 ∨ (nt : Int) ≤ t.toInt) ∨ f.toInt < 0 ∨ 1 < f.toInt) := by omega
        rw [if_neg nb] at hQ
        have rl := refI_le σ a.toInt 1
        by_cases c : 0 ≤ f_X12_rowFault σ a 1
        · have := ile.mp c
          have hr : refI σ a.toInt 1 = 0 := by omega
          have SS := h.2.2.2.2.2.2.2.1.shorts hr
          have it := ix_t t
          have hz : zin t 8 = true := zin_of (by omega) (by omega)
          have T := ThN.of h
          have v2 : (gi σ 71 (ix t)).toInt = N 4 t.toInt.toNat := by rw [it]; exact (T.1.2.2.2.1 _ (by omega)).1
          rw [if_pos c]
          rw [if_neg (fun y => y hr)] at hQ
          refine ⟨hz, lp_goodM (by omega) hR hI (t := t.toInt.toNat) (by omega) a t f _ (by omega) (by omega) v2 10 σ 0 (-2) 0 (N 4 t.toInt.toNat) SS.2.2 (by rw [updN_back']; exact T) (by decide) (by decide) (by decide) (by decide) (fun v ρ f1 f2 f3 f5 => ?_)⟩
          have fz : zFr [83, 84, 86, 87] [(66, 37)] σ ρ := f1.drop (fun j => by rw [f2.1]; by_cases e : j = t.toInt.toNat; (rw [if_pos e, e, it]); (rw [if_neg e])) f2.2
          exact hQ v ρ ⟨fr86 fz, f3.2.2.1⟩ f5
        · have := nile c
          rw [if_neg c, ztrue_and R.1]
          exact hQ _ σ (Mpost.rf h) (by rw [if_pos (by omega)]; exact R.2)
theorem v_good_fr (hF : zFr SC1 FC1 σ τ) (x y w : Int) : v_good τ nr nt N V I x y w = v_good σ nr nt N V I x y w := by unfold v_good; rw [refI_fr hF, (seenE_fr hF _).1, (seenE_fr hF _).2]
theorem o_good (hd : 20 ≤ d) {k : Nat} (hk : k ≤ 512) (h : Rel k σ) (a t f : Int32) : zOp k σ X d MX11_good MX12_good [.ref 0, .int a, .int t, .int f, .null] [.ref 66, .int a, .int t, .int f, .null, .null, .null, .null] := by
  obtain ⟨nr, nt, N, V, I, h⟩ := h
  exact zOp.think h (fun Q hQ => c_good (by omega) h (by omega) hQ) (fun τ h2 hF Q hQ => m_good (by omega) h2 (fun x ρ hM hx => hQ x ρ hM (by rw [hx, v_good_fr hF])))
end GOOD
