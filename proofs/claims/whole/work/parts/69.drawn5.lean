/-! drawn, 5 -/
theorem lp_evM {X : zX} {d : Nat} {Q : Option Value → zH → Prop} (hd : 10 ≤ d) {nr nt : Nat} {N : Nat → Nat → Int} {V : zV} {I : Nat → Int} (hR : HallR nr nt N) (hI : IceR I) (hI0 : nt = 0 → ∀ p, p < 16 → I p = 0) (seed nm half : Int32) (mt : Nat) (hmt : (nm - nm / 100 * 100).toInt = mt) (hm20 : mt ≤ 20) (hev : (nm / 100).toInt ≤ 30) : ∀ (n : Nat) (σ : zS) (z s c ei : Int32) (w1 w2 : Value), ThN σ nr nt N V I → 0 ≤ ei.toInt → ei.toInt + n = (nm / 100).toInt → 0 ≤ s.toInt → s.toInt ≤ 1000 * ei.toInt → 0 ≤ c.toInt → c.toInt ≤ ei.toInt →
    (∀ (v : Int32) (τ : zS), zFr [83, 84, 86, 87] [(66, 37)] σ τ → ThN τ nr nt N V I → v.toInt = half2 half.toInt (evI N (gG V N (-1) nr) nt (if nt = 0 then 0 else mt) I n z s.toInt c.toInt) → Q (some (.int v)) (zen τ)) →
    zwp X d MX12_drawn 53 [.ref 66, .int seed, .int nm, .int half, .int z, .int s, .int c, .int ei, w1, w2] [] (zen σ) Q := by
  intro n
  have e0 := l0
  have e1 := l1
  have e100 : (100 : Int32).toInt = 100 := rfl
  induction n with
  | zero =>
    intro σ z s c ei w1 w2 hT he0 hen hs0 hs1 hc0 hc1 hQ
    rw [b_X12_drawn_53 (hd := by omega), if_pos (ile.mpr (by omega))]
    unfold half2 at hQ
    by_cases ch : half = 0
    · rw [if_neg (fun y => y ch)]
      exact hQ s σ zFr.rf hT (by rw [if_pos (by rw [ch]; rfl)]; rfl)
    · rw [if_pos ch]
      exact hQ c σ zFr.rf hT (by rw [if_neg (fun y => ch (ieq.mpr (by rw [y]; rfl)))]; rfl)
  | succ n ih =>
    intro σ z s c ei w1 w2 hT he0 hen hs0 hs1 hc0 hc1 hQ
    have ee1 : (ei + 1).toInt = ei.toInt + 1 := by rw [t_add (by omega), e1]
    rw [b_X12_drawn_53 (hd := by omega), if_neg (fun y => by have := ile.mp y; omega)]
    refine w_X12_beginIce hT.2.2.2 (fun f hf => ?_)
    show zwp X d MX12_drawn 66 _ [] _ Q
    have hF0 : zFr [83, 84, 86, 87] [(66, 37)] σ (si (sA σ 86 f) 66 37 0) := (zFr.rf.wA (by decide)).sf (by decide)
    have hT0 := hT.zfr hF0
    have h86 : IceAt ((si (sA σ 86 f) 66 37 0).1 86) I := by rw [c_si_ne (by decide), sA_1]; exact hf
    rw [b_X12_drawn_66]
    unfold evI at hQ
    refine lp_drawM (by omega) hR seed nm half s c ei mt hmt hm20 (if nt = 0 then 0 else mt) _ z 0 I w2 hT0 h86 hI (by omega) (fun q => by rw [if_pos q]) (fun q => by rw [if_neg (by omega)]; omega) (fun v k' τ w' hF hT2 hv hic => ?_)
    have cb := carries_nn (N 6 0) 0 (drawI N (gG V N (-1) nr) nt (if nt = 0 then 0 else mt) z I).2
    have es : (s + v).toInt = s.toInt + v.toInt := t_add (by omega)
    have hF1 := hF0.tr hF
    have hJ : IceR (drawI N (gG V N (-1) nr) nt (if nt = 0 then 0 else mt) z I).2 := by
      by_cases q : nt = 0
      · rw [if_pos q]; exact hI
      · exact drawI_R hR (by omega) _ _ _ hI
    rw [b_X12_drawn_154 (hd := by omega)]
    refine w_X12_heaviestAt (by omega) hR hT2.1 (by rw [e0]; omega) hic hJ (fun u hu => ?_)
    rw [e0, Int.zero_mul, ← hv] at hu
    show zwp X d MX12_drawn 162 _ [.int u] (zen τ) Q
    rw [b_X12_drawn_162]
    rw [← hv] at hQ
    by_cases cc : u < 100
    · have := il.mp cc
      rw [if_pos cc]
      rw [if_pos (show v.toInt < 100 by omega)] at hQ
      refine ih τ _ _ _ (ei + 1) _ _ hT2 (by omega) (by omega) (by omega) (by omega) (by omega) (by omega) (fun u ρ f1 f2 f3 => hQ u ρ (hF1.tr f1) f2 ?_)
      rw [f3, es, Int.add_zero]
    · have := nil_ cc
      have ec : (c + 1).toInt = c.toInt + 1 := by rw [t_add (by omega), e1]
      rw [if_neg cc]
      rw [if_neg (show ¬ v.toInt < 100 by omega)] at hQ
      refine ih τ _ _ _ (ei + 1) _ _ hT2 (by omega) (by omega) (by omega) (by omega) (by omega) (by omega) (fun u ρ f1 f2 f3 => hQ u ρ (hF1.tr f1) f2 ?_)
      rw [f3, es, ec]
