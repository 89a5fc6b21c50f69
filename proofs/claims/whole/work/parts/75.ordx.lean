/-! order, orders: both -/
section ORDX
variable {X : zX} {d : Nat} {b : Int} {σ τ : zS} {nr nt : Nat} {N : Nat → Nat → Int} {V : zV} {I : Nat → Int} {Q : Option Value → zH → Prop} {a f : Int32}
abbrev ordB (nr nt : Nat) (N : Nat → Nat → Int) (V : zV) (I : Nat → Int) : Int × List Int := bestF (cOrd N V nr I) (pmL nt nt []) (-1) []
theorem ordB_w (hn6 : nt ≤ 6) (w : List Int) : bestF (cOrd N V nr I) (pmL nt nt []) (-1) w = ordB nr nt N V I := bestF_w (fun p => (carries_nn _ _ _).1) _ _ _ (chkO_ne (chkO_all nt (by omega)).1)
def v_order (nr nt : Nat) (N : Nat → Nat → Int) (V : zV) (I : Nat → Int) (k : Int) : Int := if k < -1 then -1 else if 6 < nt then -5 else if (nt : Int) ≤ k then -2 else if k < 0 then (ordB nr nt N V I).1 else gd (ordB nr nt N V I).2 k.toNat
theorem c_order (hd : 14 ≤ d) (h : RelP b σ nr nt N V I) (hQ : ∀ (x : Int32) (τ : zS), Cpost σ nr nt N V τ → x.toInt = v_order nr nt N V I a.toInt → Q (some (.int x)) (zen τ)) : zwp X d MX11_order 0 [.ref 0, .int a, .null] [] (zen σ) Q := by
  have hR := h.1.2.2
  have h8 := hR.2.1
  have hI := h.2.2.2.1.2.2.1
  have e0 := l0
  have e6 := l6
  have em1 := lm1
  have hn := h.1.1.2.1
  unfold v_order at hQ
  rw [b_X11_order_0 (hd := by omega)]
  by_cases x1 : -1 ≤ a
  · have y1 := ile.mp x1
    rw [if_neg (by omega)] at hQ
    rw [if_pos x1]
    by_cases x2 : gi σ 1 2 ≤ 6
    · have y2 := ile.mp x2
      have hn6 : nt ≤ 6 := by omega
      rw [if_neg (by omega)] at hQ
      rw [if_pos x2]
      by_cases x3 : a < gi σ 1 2
      · have y3 := il.mp x3
        rw [if_neg (by omega)] at hQ
        rw [if_pos x3, b_X7_bestOrder_0 (hd := by omega)]
        refine w_X7_beginOrders (by omega) (ThB.of h) (fun τ f1 f2 f3 f4 f5 => ?_)
        show zwp X (d - 1) MX7_bestOrder 14 _ [.int 0] (zen τ) _
        rw [b_X7_bestOrder_14]
        have hw : ∀ j, j < nt → (gi τ 48 j).toInt = gd ((List.range nt).map fun j => (gi τ 48 j).toInt) j := fun j hj => by
          have hl : j < ((List.range nt).map fun j => (gi τ 48 j).toInt).length := by rw [List.length_map, List.length_range]; exact hj
          rw [← gd_get hl, List.getElem_map, List.getElem_range]
        have ck := chkO_all nt (by omega)
        refine lp_best (by omega) hR hI hn6 (gi σ 1 2) hn (pmL nt nt []) τ [0, 1, 2, 3, 4, 5] _ (-1) 0 0 _ f2 f3 (Or.inr ⟨ck.1, 0, e0, by omega, f4⟩) (by decide) (by have := ck.2; omega) hw (fun v ρ g1 g2 g3 g4 => ?_)
        show zwp X d MX11_order 43 _ [.int v] (zen ρ) Q
        rw [em1, ordB_w hn6] at g3 g4
        have hC : Cpost σ nr nt N V ρ := Cpost.of ((f1.tr g1).sub (by decide) (by decide)) g2.2.2.1 ((f1.tr g1).1 1 (by decide) 3 (by decide))
        rw [b_X11_order_43]
        by_cases x4 : 0 ≤ a
        · have y4 := ile.mp x4
          rw [if_neg (by omega)] at hQ
          have za : zin a 6 = true := zin_of (by omega) (by omega)
          rw [if_pos x4, ztrue_and za, ix_t]
          exact hQ _ ρ hC (g4 _ (by omega))
        · have y4 := nile x4
          rw [if_pos (by omega)] at hQ
          rw [if_neg x4]
          exact hQ _ ρ hC g3
      · have y3 := nil_ x3
        rw [if_pos (by omega)] at hQ
        rw [if_neg x3]
        exact hQ _ σ (Cpost.rf h) rfl
    · have y2 := nile x2
      rw [if_pos (by omega)] at hQ
      rw [if_neg x2]
      exact hQ _ σ (Cpost.rf h) rfl
  · have y1 := nile x1
    rw [if_pos (by omega)] at hQ
    rw [if_neg x1]
    exact hQ _ σ (Cpost.rf h) rfl
theorem m_order (hd : 26 ≤ d) (h : RelP b σ nr nt N V I) (hQ : ∀ (x : Int32) (τ : zS), Mpost σ τ → x.toInt = v_order nr nt N V I a.toInt → Q (some (.int x)) (zen τ)) : zwp X d MX12_order 0 [.ref 66, .int a] [] (zen σ) Q := by
  have hR := h.1.2.2
  have h8 := hR.2.1
  have hI := h.2.2.2.1.2.2.1
  have e0 := l0
  have e6 := l6
  have em1 := lm1
  have hn := h.1.2.1.2.1
  unfold v_order at hQ
  rw [b_X12_order_0 (hd := by omega)]
  by_cases x1 : -1 ≤ a
  · have y1 := ile.mp x1
    rw [if_neg (by omega)] at hQ
    rw [if_pos x1]
    by_cases x2 : gi σ 66 6 ≤ 6
    · have y2 := ile.mp x2
      have hn6 : nt ≤ 6 := by omega
      rw [if_neg (by omega)] at hQ
      rw [if_pos x2]
      refine w_findOrders (e := fun _ => 0) (z := 0) (by omega) hR hI hn6 (ThN.of h) (Or.inl (by decide)) (fun τ w f1 f2 f3 => ?_)
      show zwp X d MX12_order 24 _ [] (zen τ) Q
      rw [ordB_w hn6] at f3
      have hM : Mpost σ τ := ⟨f1, f2.2.2.1⟩
      have hn2 := f2.1.2.1
      rw [b_X12_order_24]
      by_cases x4 : 0 ≤ a
      · have y4 := ile.mp x4
        rw [if_pos x4]
        by_cases x3 : gi τ 66 6 ≤ a
        · have y3 := ile.mp x3
          rw [if_pos (by omega)] at hQ
          rw [if_pos x3]
          exact hQ _ τ hM rfl
        · have y3 := nile x3
          rw [if_neg (by omega), if_neg (by omega)] at hQ
          have za : zin a 8 = true := zin_of (by omega) (by omega)
          rw [if_neg x3, ztrue_and za, ix_t]
          exact hQ _ τ hM (f3.2.1 _ (by omega))
      · have y4 := nile x4
        rw [if_neg (by omega), if_pos (by omega)] at hQ
        rw [if_neg x4]
        exact hQ _ τ hM f3.1
    · have y2 := nile x2
      rw [if_pos (by omega)] at hQ
      rw [if_neg x2]
      exact hQ _ σ (Mpost.rf h) rfl
  · have y1 := nile x1
    rw [if_pos (by omega)] at hQ
    rw [if_neg x1]
    exact hQ _ σ (Mpost.rf h) rfl
theorem o_order (hd : 40 ≤ d) {k : Nat} (h : Rel k σ) (a : Int32) : zOp k σ X d MX11_order MX12_order [.ref 0, .int a, .null] [.ref 66, .int a] := by
  obtain ⟨nr, nt, N, V, I, h⟩ := h
  exact zOp.think h (fun Q hQ => c_order (by omega) h hQ) (fun τ h2 hF Q hQ => m_order (by omega) h2 hQ)
def v_orders (σ : zS) (nr nt : Nat) (N : Nat → Nat → Int) (V : zV) (I : Nat → Int) (x f : Int) : Int := if f < 0 ∨ 1 < f then -1 else if ¬ refI σ x 1 = 0 then refI σ x 1 else if 6 < nt then -5 else half2 f (likeF (uOrd N V nr I (seenE σ x) (seenZ σ x)) (pmL nt nt []) 0 (-2))
theorem c_orders (hd : 14 ≤ d) (h : RelP b σ nr nt N V I) (hQ : ∀ (x : Int32) (τ : zS), Cpost σ nr nt N V τ → x.toInt = v_orders σ nr nt N V I a.toInt f.toInt → Q (some (.int x)) (zen τ)) : zwp X d MX11_orders 0 [.ref 0, .int a, .int f, .null] [] (zen σ) Q := by
  have hR := h.1.2.2
  have h8 := hR.2.1
  have hI := h.2.2.2.1.2.2.1
  have e0 := l0
  have e1 := l1
  have e6 := l6
  have hn := h.1.1.2.1
  have R := refC h.2.2.2.2.2.2.2.1 (a := a) (sort := 1) (by omega)
  rw [e1] at R
  unfold v_orders at hQ
  rw [b_X11_orders_0 (hd := by omega), t_half]
  by_cases x3 : f.toInt < 0 ∨ 1 < f.toInt
  · rw [if_pos x3, if_neg (fun y => y rfl)]
    exact hQ _ σ (Cpost.rf h) (by rw [if_pos x3]; rfl)
  · rw [if_neg x3, if_pos (by decide), ztrue_and R.1]
    rw [if_neg x3] at hQ
    by_cases c : f_X11_refusal σ a 1 = 0
    · have hr : refI σ a.toInt 1 = 0 := by rw [← R.2, c]; rfl
      have SS := h.2.2.2.2.2.2.2.1.shorts hr
      have hz : zin a 6 = true := zin_of SS.1 SS.2.1
      rw [if_pos c]
      rw [if_neg (fun y => y hr)] at hQ
      by_cases x2 : gi σ 1 2 ≤ 6
      · have y2 := ile.mp x2
        have hn6 : nt ≤ 6 := by omega
        rw [if_neg (by omega)] at hQ
        have ck := chkO_all nt (by omega)
        rw [if_pos x2, ztrue_and hz, ix_t, b_X7_ordersThatMake_0 (hd := by omega) (h2 := zS_all _ (by omega))]
        refine w_X7_beginOrders (by omega) (ThB.of h) (fun τ f1 f2 f3 f4 f5 => ?_)
        show zwp X (d - 1) MX7_ordersThatMake 19 _ [.int 0] (zen τ) _
        rw [b_X7_ordersThatMake_19 (hl1 := zS_all _ (by omega))]
        refine lp_ordsC (by omega) hR hI hn6 (by omega) f (gi σ 1 2) hn (pmL nt nt []) τ [0, 1, 2, 3, 4, 5] 0 (-2) 0 0 (SS.2.2.zfr (by omega) f1 (by decide)) f2 f3 (Or.inr ⟨ck.1, 0, e0, by omega, f4⟩) (by decide) (by have := ck.2; omega) (by decide) (by decide) (fun v ρ g1 g2 g3 => ?_)
        show zwp X d MX11_orders 53 _ [.int v] (zen ρ) Q
        rw [b_X11_orders_53]
        exact hQ v ρ (Cpost.of ((f1.tr g1).sub (by decide) (by decide)) g2.2.2.1 ((f1.tr g1).1 1 (by decide) 3 (by decide))) g3
      · have y2 := nile x2
        rw [if_pos (by omega)] at hQ
        rw [if_neg x2]
        exact hQ _ σ (Cpost.rf h) rfl
    · have hr : ¬ refI σ a.toInt 1 = 0 := fun q => c (ieq.mpr (by rw [R.2, q]; rfl))
      rw [if_neg c]
      exact hQ _ σ (Cpost.rf h) (by rw [if_pos hr]; exact R.2)
theorem m_orders (hd : 26 ≤ d) (h : RelP b σ nr nt N V I) (hQ : ∀ (x : Int32) (τ : zS), Mpost σ τ → x.toInt = v_orders σ nr nt N V I a.toInt f.toInt → Q (some (.int x)) (zen τ)) : zwp X d MX12_orders 0 [.ref 66, .int a, .int f] [] (zen σ) Q := by
  have hR := h.1.2.2
  have h8 := hR.2.1
  have hI := h.2.2.2.1.2.2.1
  have e0 := l0
  have e1 := l1
  have e6 := l6
  have hn := h.1.2.1.2.1
  have z10 : ¬ (1 : Int32) = 0 := by decide
  unfold v_orders at hQ
  rw [b_X12_orders_0 (hd := by omega), t_isShelfM]
  by_cases ha : a.toInt < 0 ∨ 6 ≤ a.toInt
  · rw [if_pos ha, if_pos rfl]
    refine hQ _ σ (Mpost.rf h) ?_
    by_cases x : f.toInt < 0 ∨ 1 < f.toInt
    · rw [if_pos x]; rfl
    · rw [if_neg x, refI_bad ha, if_pos (by omega)]; rfl
  · rw [if_neg ha, if_neg z10]
    have R := refM (σ := σ) (a := a) (sort := 1) (by omega) (by omega)
    rw [e1] at R
    by_cases x3 : f.toInt < (0 : Int32).toInt ∨ (1 : Int32).toInt < f.toInt
    · rw [t_in0 x3, if_neg (fun y => y rfl)]
      exact hQ _ σ (Mpost.rf h) (by rw [if_pos (by omega)]; rfl)
    · rw [t_in1 x3, if_pos z10, ztrue_and R.1]
      rw [if_neg (show ¬ (f.toInt < 0 ∨ 1 < f.toInt) by omega)] at hQ
      have rl := refI_le σ a.toInt 1
      by_cases c : 0 ≤ f_X12_rowFault σ a 1
      · have := ile.mp c
        have hr : refI σ a.toInt 1 = 0 := by omega
        have SS := h.2.2.2.2.2.2.2.1.shorts hr
        rw [if_pos c]
        rw [if_neg (fun y => y hr)] at hQ
        by_cases x2 : gi σ 66 6 ≤ 6
        · have y2 := ile.mp x2
          have hn6 : nt ≤ 6 := by omega
          rw [if_neg (by omega)] at hQ
          rw [if_pos x2]
          have eu : uM a N V nr I (seenE σ a.toInt) (seenZ σ a.toInt) = uOrd N V nr I (seenE σ a.toInt) (seenZ σ a.toInt) := by
            funext p
            show (if a.toInt < 0 then 0 else _) = _
            rw [if_neg (by omega)]
          refine w_findOrders (e := seenE σ a.toInt) (z := seenZ σ a.toInt) (by omega) hR hI hn6 (ThN.of h) (Or.inr ⟨by omega, by omega, SS.2.2⟩) (fun τ w f1 f2 f3 => ?_)
          show zwp X d MX12_orders 51 _ [] (zen τ) Q
          rw [eu] at f3
          have hM : Mpost σ τ := ⟨f1, f2.2.2.1⟩
          rw [b_X12_orders_51]
          unfold half2 at hQ
          by_cases ch : f = 0
          · rw [if_neg (fun y => y ch)]
            exact hQ _ τ hM (by rw [if_pos (by rw [ch]; rfl)]; exact f3.2.2.1)
          · rw [if_pos ch]
            exact hQ _ τ hM (by rw [if_neg (fun y => ch (ieq.mpr (by rw [y]; rfl)))]; exact f3.2.2.2)
        · have y2 := nile x2
          rw [if_pos (by omega)] at hQ
          rw [if_neg x2]
          exact hQ _ σ (Mpost.rf h) rfl
      · have := nile c
        rw [if_neg c, ztrue_and R.1]
        exact hQ _ σ (Mpost.rf h) (by rw [if_pos (by omega)]; exact R.2)
theorem v_orders_fr (hF : zFr SC1 FC1 σ τ) (x y : Int) : v_orders τ nr nt N V I x y = v_orders σ nr nt N V I x y := by unfold v_orders; rw [refI_fr hF, (seenE_fr hF _).1, (seenE_fr hF _).2]
theorem o_orders (hd : 40 ≤ d) {k : Nat} (h : Rel k σ) (a f : Int32) : zOp k σ X d MX11_orders MX12_orders [.ref 0, .int a, .int f, .null] [.ref 66, .int a, .int f] := by
  obtain ⟨nr, nt, N, V, I, h⟩ := h
  exact zOp.think h (fun Q hQ => c_orders (by omega) h hQ) (fun τ h2 hF Q hQ => m_orders (by omega) h2 (fun x ρ hM hx => hQ x ρ hM (by rw [hx, v_orders_fr hF])))
end ORDX
