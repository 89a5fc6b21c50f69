/-! drawn, 6 -/
section DRAWN
variable {X : zX} {d : Nat} {b : Int} {σ τ : zS} {nr nt : Nat} {N : Nat → Nat → Int} {V : zV} {I : Nat → Int} {Q : Option Value → zH → Prop} {a w f : Int32}
def drBad (w f : Int) : Prop := ((w.tdiv 100 < 1 ∨ 30 < w.tdiv 100) ∨ w.tmod 100 < 1 ∨ 20 < w.tmod 100) ∨ f < 0 ∨ 1 < f
theorem t_d100 (w : Int32) : (w / 100).toInt = w.toInt.tdiv 100 ∧ (w - w / 100 * 100).toInt = w.toInt.tmod 100 := by
  have e100 : (100 : Int32).toInt = 100 := rfl
  constructor
  · rw [Int32.toInt_div_of_ne_right _ _ (by decide), e100]
  · rw [rem_toInt, e100]
theorem c_drawn (hd : 14 ≤ d) (h : RelP b σ nr nt N V I) (hQ1 : drBad w.toInt f.toInt → Q (some (.int (-1))) (zen σ)) (hQ2 : ¬ drBad w.toInt f.toInt → ∀ (x : Int32) (τ : zS), Cpost σ nr nt N V τ → x.toInt = half2 f.toInt (evI N (gG V N (-1) nr) nt (if nt = 0 then 0 else (w.toInt.tmod 100).toNat) I (w.toInt.tdiv 100).toNat a 0 0) → Q (some (.int x)) (zen τ)) : zwp X d MX11_drawn 0 [.ref 0, .int a, .int w, .int f, .null, .null] [] (zen σ) Q := by
  have hR := h.1.2.2
  have hI := h.2.2.2.1.2.2.1
  have hI0 := h.2.2.2.1.2.2.2
  have e0 := l0
  have e1 := l1
  have e20 : (20 : Int32).toInt = 20 := rfl
  have e30 : (30 : Int32).toInt = 30 := rfl
  have T := t_d100 w
  unfold drBad at hQ1 hQ2
  rw [b_X11_drawn_0 (hd := by omega)]
  by_cases x1 : w / 100 < 1
  · have := il.mp x1
    rw [if_pos x1]; exact hQ1 (by omega)
  · have y1 := nil_ x1
    rw [if_neg x1]
    by_cases x2 : 30 < w / 100
    · have := il.mp x2
      rw [if_pos x2]; exact hQ1 (by omega)
    · have y2 := nil_ x2
      rw [if_neg x2]
      by_cases x3 : w - w / 100 * 100 < 1
      · have := il.mp x3
        rw [if_pos x3]; exact hQ1 (by omega)
      · have y3 := nil_ x3
        rw [if_neg x3]
        by_cases x4 : 20 < w - w / 100 * 100
        · have := il.mp x4
          rw [if_pos x4]; exact hQ1 (by omega)
        · have y4 := nil_ x4
          rw [if_neg x4, t_half]
          by_cases x5 : f.toInt < 0 ∨ 1 < f.toInt
          · rw [if_pos x5, if_neg (fun y => y rfl)]; exact hQ1 (by omega)
          · rw [if_neg x5, if_pos (by decide)]
            have hQ := hQ2 (by omega)
            have G := h.1.1.getS (w := 9) (k := 9) rfl (by omega)
            have TB := ThB.of h
            rw [b_X10_drawnEvenings_0 (hd := by omega), ztrue_and G.1]
            have hn := h.1.1.2.1
            have fin : ∀ (v : Int32) (τ : zS), zFr [6, 14, 15, 16, 44] [(13, 5), (41, 5)] σ τ → ThB τ nr nt N V I → v.toInt = half2 f.toInt (evI N (gG V N (-1) nr) nt (if nt = 0 then 0 else (w.toInt.tmod 100).toNat) I (w.toInt.tdiv 100).toNat a 0 0) → zwp X d MX11_drawn 60 [.ref 0, .int a, .int w, .int f, .int (w / 100), .int (w - w / 100 * 100)] [.int v] (zen τ) Q := fun v τ f1 f2 f3 => by
              rw [b_X11_drawn_60]
              exact hQ v τ (Cpost.of (fr44 f1) f2.2.2.1 (f1.1 1 (by decide) 3 (by decide))) f3
            by_cases hn0 : nt = 0
            · rw [b_X10_drawnEvenings_24 (hd := by omega), if_neg (fun y => by have := ile.mp y; omega), if_pos (ile.mpr (by omega))]
              have ez := evI_0 (N := N) (G := gG V N (-1) nr) (nt := nt) (hI0 hn0) hR.long (w.toInt.tdiv 100).toNat a 0 0
              rw [if_pos hn0, ez] at fin
              unfold half2 at fin
              by_cases ch : f = 0
              · rw [if_neg (fun y => y ch)]
                exact fin 0 σ zFr.rf TB (by rw [if_pos (by rw [ch]; rfl)]; rfl)
              · rw [if_pos ch]
                exact fin 0 σ zFr.rf TB (by rw [if_neg (fun y => ch (ieq.mpr (by rw [y]; rfl)))]; rfl)
            · rw [if_neg hn0] at fin
              refine lp_evC (by omega) hR (by omega) hI a (w / 100) (w - w / 100 * 100) f _ G.2 (by omega) (by omega) (w.toInt.tdiv 100).toNat σ a 0 0 0 _ _ TB (by decide) (by omega) (by decide) (by decide) (by decide) (by decide) (fun v τ f1 f2 f3 => fin v τ f1 f2 ?_)
              rw [f3, T.2, e0]
theorem m_drawn (hd : 14 ≤ d) (h : RelP b σ nr nt N V I) (hQ1 : drBad w.toInt f.toInt → Q (some (.int (-1))) (zen σ)) (hQ2 : ¬ drBad w.toInt f.toInt → ∀ (x : Int32) (τ : zS), Mpost σ τ → x.toInt = half2 f.toInt (evI N (gG V N (-1) nr) nt (if nt = 0 then 0 else (w.toInt.tmod 100).toNat) I (w.toInt.tdiv 100).toNat a 0 0) → Q (some (.int x)) (zen τ)) : zwp X d MX12_drawn 0 [.ref 66, .int a, .int w, .int f, .null, .null, .null, .null, .null, .null] [] (zen σ) Q := by
  have hR := h.1.2.2
  have hI := h.2.2.2.1.2.2.1
  have hI0 := h.2.2.2.1.2.2.2
  have e0 := l0
  have e1 := l1
  have e20 : (20 : Int32).toInt = 20 := rfl
  have e30 : (30 : Int32).toInt = 30 := rfl
  have z10 : ¬ (1 : Int32) = 0 := by decide
  have T := t_d100 w
  unfold drBad at hQ1 hQ2
  rw [b_X12_drawn_0 (hd := by omega)]
  by_cases x0 : w < 0
  · have := il.mp x0
    have : w.toInt.tdiv 100 ≤ 0 := by
      have h1 : w.toInt.tdiv 100 = -((-w.toInt).tdiv 100) := by rw [Int.neg_tdiv, Int.neg_neg]
      rw [h1, Int.tdiv_eq_ediv_of_nonneg (by omega)]; omega
    rw [if_pos x0]; exact hQ1 (by omega)
  · have y0 := nil_ x0
    rw [if_neg x0]
    by_cases x1 : (w / 100).toInt < (1 : Int32).toInt ∨ (30 : Int32).toInt < (w / 100).toInt
    · rw [t_in0 x1, if_pos rfl]; exact hQ1 (by omega)
    · rw [t_in1 x1, if_neg z10]
      by_cases x2 : (w - w / 100 * 100).toInt < (1 : Int32).toInt ∨ (20 : Int32).toInt < (w - w / 100 * 100).toInt
      · rw [t_in0 x2, if_pos rfl]; exact hQ1 (by omega)
      · rw [t_in1 x2, if_neg z10]
        by_cases x3 : f.toInt < (0 : Int32).toInt ∨ (1 : Int32).toInt < f.toInt
        · rw [t_in0 x3, if_neg (fun y => y rfl)]; exact hQ1 (by omega)
        · rw [t_in1 x3, if_pos z10]
          have hQ := hQ2 (by omega)
          refine lp_evM (by omega) hR hI hI0 a w f (w.toInt.tmod 100).toNat (by omega) (by omega) (by omega) (w.toInt.tdiv 100).toNat σ a 0 0 0 _ _ (ThN.of h) (by decide) (by omega) (by decide) (by decide) (by decide) (by decide) (fun v τ f1 f2 f3 => ?_)
          exact hQ v τ ⟨fr86 f1, f2.2.2.1⟩ f3
theorem o_drawn (hd : 20 ≤ d) {k : Nat} (h : Rel k σ) (a w f : Int32) : zOp k σ X d MX11_drawn MX12_drawn [.ref 0, .int a, .int w, .int f, .null, .null] [.ref 66, .int a, .int w, .int f, .null, .null, .null, .null, .null, .null] := by
  obtain ⟨nr, nt, N, V, I, h⟩ := h
  by_cases hb : drBad w.toInt f.toInt
  · exact zOp.think (val := -1) h (fun Q hQ => c_drawn (by omega) h (fun _ => hQ _ σ (Cpost.rf h) rfl) (fun q => absurd hb q)) (fun τ h2 hF Q hQ => m_drawn (by omega) h2 (fun _ => hQ _ τ (Mpost.rf h2) rfl) (fun q => absurd hb q))
  · exact zOp.think h (fun Q hQ => c_drawn (by omega) h (fun q => absurd q hb) (fun _ => hQ)) (fun τ h2 hF Q hQ => m_drawn (by omega) h2 (fun q => absurd q hb) (fun _ => hQ))
end DRAWN
