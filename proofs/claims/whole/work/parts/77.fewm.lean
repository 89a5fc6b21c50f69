/-! fewest: the reference, both -/
def fnd (c : List Int → Int) (w : Int) : List (List Int) → Option (List Int)
  | [] => none
  | p :: r => if w ≤ c p then some p else fnd c w r
theorem fnd_app {c : List Int → Int} {w : Int} : ∀ (x y : List (List Int)), fnd c w (x ++ y) = match fnd c w x with
    | some p => some p
    | none => fnd c w y := by
  intro x
  induction x with
  | nil => intro y; rfl
  | cons p x ih =>
    intro y
    show (if w ≤ c p then some p else fnd c w (x ++ y)) = match (if w ≤ c p then some p else fnd c w x) with
      | some p => some p
      | none => fnd c w y
    by_cases h : w ≤ c p
    · rw [if_pos h, if_pos h]
    · rw [if_neg h, if_neg h]; exact ih y
theorem fndF_app {c : List Int → Int} {w : Int} : ∀ (x : List (List Int)) (m : Nat) (y : List (Nat × List Int)), fndF c w (x.map (fun p => (m, p)) ++ y) = match fnd c w x with
    | some p => some (m, p)
    | none => fndF c w y := by
  intro x
  induction x with
  | nil => intro m y; rfl
  | cons p x ih =>
    intro m y
    show (if w ≤ c p then some (m, p) else fndF c w (x.map (fun p => (m, p)) ++ y)) = match (if w ≤ c p then some p else fnd c w x) with
      | some p => some (m, p)
      | none => fndF c w y
    by_cases h : w ≤ c p
    · rw [if_pos h, if_pos h]
    · rw [if_neg h, if_neg h]; exact ih m y
abbrev SF2 : List Nat := [83, 84, 86, 87, 88]
abbrev FF2 : List (Nat × Nat) := [(66, 37), (66, 39)]
section FEW
variable {X : zX} {d : Nat} {Q : Option Value → zH → Prop} {nr nt : Nat} {N : Nat → Nat → Int} {V : zV} {I : Nat → Int}
theorem PreM.fr {σ τ : zS} {pre : List Int} (h : PreM σ pre) (hF : zFr [83, 84, 86, 87] [(66, 37)] σ τ) : PreM τ pre := by
  refine ⟨?_, fun j hj => ?_⟩
  · rw [hF.1 66 (by decide) 39 (by simp)]; exact h.1
  · rw [hF.1 88 (by decide) j (by simp)]; exact h.2 j hj
/-- what goesFewest owes for k further turns -/
def FewS (X : zX) (d nr nt : Nat) (N : Nat → Nat → Int) (V : zV) (I : Nat → Int) (wt : Int32) (k : Nat) : Prop := ∀ (Q : Option Value → zH → Prop) (σ : zS) (pre : List Int) (ki : Int32), ki.toInt = k → pre.length + k ≤ 5 → (∀ x, x ∈ pre → 0 ≤ x ∧ x < nt) → ThN σ nr nt N V I → PreM σ pre →
    (fnd (cOrd N V nr I) wt.toInt (pkL nt k pre) = none → ∀ τ : zS, zFr SF2 FF2 σ τ → PreM τ pre → Q (some (.int 0)) (zen τ)) → (∀ p, fnd (cOrd N V nr I) wt.toInt (pkL nt k pre) = some p → ∀ τ : zS, zFr SF2 FF2 σ τ → PreM τ p → p.length = pre.length + k → Q (some (.int 1)) (zen τ)) →
    zwp X d MX12_goesFewest 0 [.ref 66, .int ki, .int wt, .null] [] (zen σ) Q
theorem few_loop (hd : 3 ≤ d) (hR : HallR nr nt N) (wt : Int32) {k : Nat} (ih : FewS X (d - 1) nr nt N V I wt k) (pre : List Int) (ki : Int32) (hki : ki.toInt = (k + 1 : Nat)) (hk : pre.length + (k + 1) ≤ 5) (hpre : ∀ x, x ∈ pre → 0 ≤ x ∧ x < nt) : ∀ (n tn : Nat) (σ : zS) (t : Int32), t.toInt = tn → tn + n = nt → ThN σ nr nt N V I → PreM σ pre →
    (fnd (cOrd N V nr I) wt.toInt (pkT (pkL nt k) pre n tn) = none → ∀ τ : zS, zFr SF2 FF2 σ τ → PreM τ pre → Q (some (.int 0)) (zen τ)) → (∀ p, fnd (cOrd N V nr I) wt.toInt (pkT (pkL nt k) pre n tn) = some p → ∀ τ : zS, zFr SF2 FF2 σ τ → PreM τ p → p.length = pre.length + (k + 1) → Q (some (.int 1)) (zen τ)) →
    zwp X d MX12_goesFewest 27 [.ref 66, .int ki, .int wt, .int t] [] (zen σ) Q := by
  intro n
  have e1 := l1
  have h8 := hR.2.1
  induction n with
  | zero =>
    intro tn σ t ht hn hT hP hQ1 hQ2
    have h6 := hT.1.2.1
    rw [b_X12_goesFewest_27 (hd := by omega), if_pos (ile.mpr (by omega))]
    exact hQ1 rfl σ zFr.rf hP
  | succ n ihn =>
    intro tn σ t ht hn hT hP hQ1 hQ2
    have h6 := hT.1.2.1
    have et : (t + 1).toInt = (tn + 1 : Nat) := by rw [t_add (by omega), e1]; omega
    have eT : pkT (pkL nt k) pre (n + 1) tn = pkL nt k (pre ++ [(tn : Int)]) ++ pkT (pkL nt k) pre n (tn + 1) := rfl
    rw [eT, fnd_app] at hQ1 hQ2
    have h39 := hP.1
    have zz : zin (gi σ 66 39) 21 = true := zin_of (by omega) (by omega)
    have i39 : ix (gi σ 66 39) = pre.length := by rw [ix_t]; omega
    have hFa : zFr SF2 FF2 σ (si (si σ 88 pre.length t) 66 39 (gi σ 66 39 + 1)) := (zFr.rf.ws (by decide)).sf (by decide)
    have hFa' : zFr SM2 FM2 σ (si (si σ 88 pre.length t) 66 39 (gi σ 66 39 + 1)) := (zFr.rf.ws (by decide)).sf (by decide)
    rw [b_X12_goesFewest_27 (hd := by omega), if_neg (fun y => by have := ile.mp y; omega), ztrue_and zz, i39]
    refine ih _ _ (pre ++ [(tn : Int)]) (ki - 1) (by rw [t_sub (by omega), e1]; omega) (by rw [List.length_append, List.length_singleton]; omega) (fun x hx => ?_) (hT.zfo hFa') (hP.app ht (by omega)) (fun e τ f1 f2 => ?_) (fun p e τ f1 f2 f3 => ?_)
    · rw [List.mem_append, List.mem_singleton] at hx
      rcases hx with q | q
      · exact hpre x q
      · rw [q]; omega
    · show zwp X d MX12_goesFewest 63 _ [.int 0] (zen τ) Q
      rw [e] at hQ1 hQ2
      have hFb : zFr SF2 FF2 σ τ := hFa.tr f1
      have hFc : zFr SF2 FF2 τ (si τ 66 39 (gi τ 66 39 - 1)) := zFr.rf.sf (by decide)
      have hFd : zFr SM2 FM2 σ (si τ 66 39 (gi τ 66 39 - 1)) := (hFb.tr hFc).sub (by decide) (by decide)
      rw [b_X12_goesFewest_63, if_pos rfl]
      exact ihn (tn + 1) _ (t + 1) et (by omega) (hT.zfo hFd) (f2.back (by omega)) (fun e2 ρ g1 g2 => hQ1 e2 ρ ((hFb.tr hFc).tr g1) g2) (fun p e2 ρ g1 g2 g3 => hQ2 p e2 ρ ((hFb.tr hFc).tr g1) g2 g3)
    · show zwp X d MX12_goesFewest 63 _ [.int 1] (zen τ) Q
      rw [e] at hQ2
      rw [b_X12_goesFewest_63, if_neg (by decide)]
      refine hQ2 p rfl τ (hFa.tr f1) f2 ?_
      rw [f3, List.length_append, List.length_singleton]; omega
theorem w_goesFewest (hR : HallR nr nt N) (hI : IceR I) (wt : Int32) (hw : 0 ≤ wt.toInt ∧ wt.toInt ≤ 999) : ∀ (k d : Nat), 14 + k ≤ d → FewS X d nr nt N V I wt k := by
  intro k
  have e0 := l0
  induction k with
  | zero =>
    intro d hd Q σ pre ki hki hk hpre hT hP hQ1 hQ2
    have hPr : ProgM σ nt pre := ⟨hP.1, by omega, fun x hx => Or.inr (hpre x hx), LAt.of hP.2⟩
    have hTM : ThM σ nr nt N V (-1) I pre := ⟨hT.1, hT.2.1, hT.2.2.1, hT.2.2.2, hPr⟩
    rw [b_X12_goesFewest_0 (hd := by omega), if_neg (fun y => y (ieq.mpr (by omega)))]
    have eP : pkL nt 0 pre = [pre] := rfl
    rw [eP] at hQ1 hQ2
    refine w_X12_goAll (by omega) hR hTM hI (fun τ hF hT2 hic _ => ?_)
    show zwp X d MX12_goesFewest 8 _ [] (zen τ) Q
    have hJ : IceR (play N (gG V N (-1) nr) pre I) := play_R hR pre I hPr.2.2.1 hI
    have hFa : zFr SF2 FF2 σ τ := hF.sub (by decide) (by decide)
    rw [b_X12_goesFewest_8 (hd := by omega)]
    refine w_X12_fallsOn (by omega) hR hT2.1 (by rw [e0]; omega) hic hJ (fun u hu => ?_)
    rw [e0, Int.zero_mul] at hu
    have fc := falls_car (long := N 6 0) (l := 0) (J := play N (gG V N (-1) nr) pre I) hw.1 hw.2
    rw [← hu] at fc
    show zwp X d MX12_goesFewest 14 _ [.int u] (zen τ) Q
    rw [b_X12_goesFewest_14]
    unfold fnd at hQ1 hQ2
    by_cases cu : u = -2
    · have := fc.mp (by rw [cu]; rfl)
      rw [if_neg (fun y => y cu)]
      rw [if_pos (show wt.toInt ≤ cOrd N V nr I pre from this)] at hQ2
      exact hQ2 pre rfl τ hFa (hP.fr hF) rfl
    · have : ¬ wt.toInt ≤ cOrd N V nr I pre := fun y => cu (ieq.mpr (by rw [fc.mpr y]; rfl))
      rw [if_pos cu]
      rw [if_neg this] at hQ1
      exact hQ1 rfl τ hFa (hP.fr hF)
  | succ k ih =>
    intro d hd Q σ pre ki hki hk hpre hT hP hQ1 hQ2
    rw [b_X12_goesFewest_0 (hd := by omega), if_pos (fun y => by have := congrArg Int32.toInt y; omega)]
    exact few_loop (by omega) hR wt (ih (d - 1) (by omega)) pre ki hki hk hpre nt 0 σ 0 e0 (by omega) hT hP hQ1 hQ2
theorem lp_fewM (hd : 24 ≤ d) (hR : HallR nr nt N) (hI : IceR I) (wt kk : Int32) (hw : 0 ≤ wt.toInt ∧ wt.toInt ≤ 999) : ∀ (j : Nat) (σ : zS) (n : Int32) (nn : Nat), n.toInt = nn → nn + j = 6 → ThN σ nr nt N V I →
    (fndF (cOrd N V nr I) wt.toInt (flL nt j nn) = none → ∀ τ : zS, zFr SF2 FF2 σ τ → Q (some (.int (-2))) (zen τ)) → (∀ q, fndF (cOrd N V nr I) wt.toInt (flL nt j nn) = some q → ∀ (x : Int32) (τ : zS), zFr SF2 FF2 σ τ → x.toInt = (if kk.toInt < 0 then (q.1 : Int) else if (q.1 : Int) ≤ kk.toInt then -2 else gd q.2 kk.toInt.toNat) → Q (some (.int x)) (zen τ)) →
    zwp X d MX12_fewest 31 [.ref 66, .int wt, .int kk, .int n] [] (zen σ) Q := by
  intro j
  have e0 := l0
  have e1 := l1
  have e5 := l5
  induction j with
  | zero =>
    intro σ n nn hn hj hT hQ1 hQ2
    rw [b_X12_fewest_31 (hd := by omega), if_pos (il.mpr (by omega))]
    exact hQ1 rfl σ zFr.rf
  | succ j ih =>
    intro σ n nn hn hj hT hQ1 hQ2
    have en : (n + 1).toInt = (nn + 1 : Nat) := by rw [t_add (by omega), e1]; omega
    have eF : flL nt (j + 1) nn = (pkL nt nn []).map (fun p => (nn, p)) ++ flL nt j (nn + 1) := rfl
    rw [eF, fndF_app] at hQ1 hQ2
    have hFa : zFr SF2 FF2 σ (si σ 66 39 0) := zFr.rf.sf (by decide)
    have hFa' : zFr SM2 FM2 σ (si σ 66 39 0) := zFr.rf.sf (by decide)
    rw [b_X12_fewest_31 (hd := by omega), if_neg (fun y => by have := il.mp y; omega)]
    refine w_goesFewest hR hI wt hw nn (d - 1) (by omega) _ _ [] n hn (by simp; omega) (fun x hx => absurd hx List.not_mem_nil) (hT.zfo hFa') ⟨by rw [gi_si]; rfl, fun x hx => absurd hx (Nat.not_lt_zero _)⟩ (fun e τ f1 f2 => ?_) (fun p e τ f1 f2 f3 => ?_)
    · show zwp X d MX12_fewest 47 _ [.int 0] (zen τ) Q
      rw [e] at hQ1 hQ2
      have hFb := hFa.tr f1
      rw [b_X12_fewest_47, if_pos rfl]
      exact ih τ (n + 1) (nn + 1) en (by omega) (hT.zfo (hFb.sub (by decide) (by decide))) (fun e2 ρ g1 => hQ1 e2 ρ (hFb.tr g1)) (fun q e2 x ρ g1 g2 => hQ2 q e2 x ρ (hFb.tr g1) g2)
    · show zwp X d MX12_fewest 47 _ [.int 1] (zen τ) Q
      rw [e] at hQ2
      have hFb := hFa.tr f1
      have hfin := hQ2 (nn, p) rfl
      rw [List.length_nil, Nat.zero_add] at f3
      rw [b_X12_fewest_47, if_neg (by decide)]
      by_cases c1 : 0 ≤ kk
      · have y1 := ile.mp c1
        rw [if_neg (show ¬ kk.toInt < 0 by omega)] at hfin
        rw [if_pos c1]
        by_cases c2 : n ≤ kk
        · have y2 := ile.mp c2
          rw [if_pos c2]
          exact hfin _ τ hFb (by rw [if_pos (by show (nn : Int) ≤ _; omega)]; rfl)
        · have y2 := nile c2
          have za : zin kk 21 = true := zin_of (by omega) (by omega)
          rw [if_neg c2, ztrue_and za, ix_t]
          refine hfin _ τ hFb ?_
          rw [if_neg (by show ¬ (nn : Int) ≤ _; omega)]
          exact f2.2 _ (by omega)
      · have y1 := nile c1
        rw [if_pos (show kk.toInt < 0 by omega)] at hfin
        rw [if_neg c1]
        exact hfin n τ hFb hn
variable {b : Int} {σ τ : zS} {w a : Int32}
def v_fewest (nr nt : Nat) (N : Nat → Nat → Int) (V : zV) (I : Nat → Int) (w k : Int) : Int := if w < 0 ∨ 999 < w then -1 else if k < -1 then -1 else if 5 < nt then -5 else match fndF (cOrd N V nr I) w (flL nt 6 0) with
  | none => -2
  | some q => if k < 0 then q.1 else if (q.1 : Int) ≤ k then -2 else gd q.2 k.toNat
theorem c_fewest (hd : 14 ≤ d) (h : RelP b σ nr nt N V I) (hQ : ∀ (x : Int32) (τ : zS), Cpost σ nr nt N V τ → x.toInt = v_fewest nr nt N V I w.toInt a.toInt → Q (some (.int x)) (zen τ)) : zwp X d MX11_fewest 0 [.ref 0, .int w, .int a, .null] [] (zen σ) Q := by
  have hR := h.1.2.2
  have hI := h.2.2.2.1.2.2.1
  have e0 := l0
  have e5 := l5
  have em1 := lm1
  have em2 : (-2 : Int32).toInt = -2 := rfl
  have e999 : (999 : Int32).toInt = 999 := rfl
  have hn := h.1.1.2.1
  unfold v_fewest at hQ
  rw [b_X11_fewest_0 (hd := by omega)]
  by_cases x1 : w < 0
  · have := il.mp x1
    rw [if_pos x1]; exact hQ _ σ (Cpost.rf h) (by rw [if_pos (by omega)]; rfl)
  · have y1 := nil_ x1
    rw [if_neg x1]
    by_cases x2 : 999 < w
    · have := il.mp x2
      rw [if_pos x2]; exact hQ _ σ (Cpost.rf h) (by rw [if_pos (by omega)]; rfl)
    · have y2 := nil_ x2
      rw [if_neg x2]
      rw [if_neg (show ¬ (w.toInt < 0 ∨ 999 < w.toInt) by omega)] at hQ
      by_cases x3 : -1 ≤ a
      · have y3 := ile.mp x3
        rw [if_neg (show ¬ a.toInt < -1 by omega)] at hQ
        rw [if_pos x3]
        by_cases x4 : gi σ 1 2 ≤ 5
        · have y4 := ile.mp x4
          rw [if_neg (show ¬ 5 < nt by omega)] at hQ
          rw [if_pos x4]
          refine w_X7_fewestFor (by omega) hR hI (by omega) (ThB.of h) (fun e τ f1 f2 => ?_) (fun q e v τ f1 f2 f5 f3 f4 => ?_)
          · show zwp X d MX11_fewest 40 _ [.int (-2)] (zen τ) Q
            rw [e] at hQ
            rw [b_X11_fewest_40, if_pos rfl]
            exact hQ _ τ (Cpost.of (f1.sub (by decide) (by decide)) f2.2.2.1 (f1.1 1 (by decide) 3 (by decide))) rfl
          · show zwp X d MX11_fewest 40 _ [.int v] (zen τ) Q
            rw [e] at hQ
            have hC : Cpost σ nr nt N V τ := Cpost.of (f1.sub (by decide) (by decide)) f2.2.2.1 (f1.1 1 (by decide) 3 (by decide))
            rw [b_X11_fewest_40, if_neg (fun y => by have := congrArg Int32.toInt y; omega)]
            by_cases c2 : a < v
            · have z2 := il.mp c2
              rw [if_pos c2]
              by_cases c1 : 0 ≤ a
              · have z1 := ile.mp c1
                have za : zin a 6 = true := zin_of (by omega) (by omega)
                rw [if_pos c1, ztrue_and za, ix_t]
                refine hQ _ τ hC ?_
                show _ = (if a.toInt < 0 then _ else _)
                rw [if_neg (by omega), if_neg (by omega)]
                exact f4 _ (by omega)
              · have z1 := nile c1
                rw [if_neg c1]
                refine hQ _ τ hC ?_
                show _ = (if a.toInt < 0 then _ else _)
                rw [if_pos (by omega)]; exact f3
            · have z2 := nil_ c2
              rw [if_neg c2]
              refine hQ _ τ hC ?_
              show _ = (if a.toInt < 0 then _ else _)
              rw [if_neg (by omega), if_pos (by omega)]; rfl
        · have y4 := nile x4
          rw [if_pos (show 5 < nt by omega)] at hQ
          rw [if_neg x4]; exact hQ _ σ (Cpost.rf h) rfl
      · have y3 := nile x3
        rw [if_pos (show a.toInt < -1 by omega)] at hQ
        rw [if_neg x3]; exact hQ _ σ (Cpost.rf h) rfl
theorem m_fewest (hd : 26 ≤ d) (h : RelP b σ nr nt N V I) (hQ : ∀ (x : Int32) (τ : zS), Mpost σ τ → x.toInt = v_fewest nr nt N V I w.toInt a.toInt → Q (some (.int x)) (zen τ)) : zwp X d MX12_fewest 0 [.ref 66, .int w, .int a, .null] [] (zen σ) Q := by
  have hR := h.1.2.2
  have hI := h.2.2.2.1.2.2.1
  have h36 := h.2.2.1.2.2.2
  have e0 := l0
  have e5 := l5
  have em1 := lm1
  have em2 : (-2 : Int32).toInt = -2 := rfl
  have e999 : (999 : Int32).toInt = 999 := rfl
  have z10 : ¬ (1 : Int32) = 0 := by decide
  have hn := h.1.2.1.2.1
  unfold v_fewest at hQ
  rw [b_X12_fewest_0 (hd := by omega)]
  by_cases x1 : w.toInt < (0 : Int32).toInt ∨ (999 : Int32).toInt < w.toInt
  · rw [t_in0 x1, if_pos rfl]; exact hQ _ σ (Mpost.rf h) (by rw [if_pos (by omega)]; rfl)
  · rw [t_in1 x1, if_neg z10]
    rw [if_neg (show ¬ (w.toInt < 0 ∨ 999 < w.toInt) by omega)] at hQ
    by_cases x3 : -1 ≤ a
    · have y3 := ile.mp x3
      rw [if_neg (show ¬ a.toInt < -1 by omega)] at hQ
      rw [if_pos x3]
      by_cases x4 : gi σ 66 6 ≤ 5
      · have y4 := ile.mp x4
        rw [if_neg (show ¬ 5 < nt by omega)] at hQ
        rw [if_pos x4]
        have hMp : ∀ τ : zS, zFr SF2 FF2 σ τ → Mpost σ τ := fun τ f1 => ⟨f1.sub (by decide) (by decide), by rw [f1.1 66 (by decide) 36 (by decide)]; exact h36⟩
        refine lp_fewM (by omega) hR hI w a (by omega) 6 σ 0 0 e0 (by omega) (ThN.of h) (fun e τ f1 => ?_) (fun q e x τ f1 f2 => ?_)
        · rw [e] at hQ
          exact hQ _ τ (hMp τ f1) rfl
        · rw [e] at hQ
          exact hQ x τ (hMp τ f1) f2
      · have y4 := nile x4
        rw [if_pos (show 5 < nt by omega)] at hQ
        rw [if_neg x4]; exact hQ _ σ (Mpost.rf h) rfl
    · have y3 := nile x3
      rw [if_pos (show a.toInt < -1 by omega)] at hQ
      rw [if_neg x3]; exact hQ _ σ (Mpost.rf h) rfl
theorem o_fewest (hd : 40 ≤ d) {k : Nat} (h : Rel k σ) (w a : Int32) : zOp k σ X d MX11_fewest MX12_fewest [.ref 0, .int w, .int a, .null] [.ref 66, .int w, .int a, .null] := by
  obtain ⟨nr, nt, N, V, I, h⟩ := h
  exact zOp.think h (fun Q hQ => c_fewest (by omega) h hQ) (fun τ h2 hF Q hQ => m_fewest (by omega) h2 hQ)
end FEW
