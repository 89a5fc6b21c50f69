/-! drawn, 3 -/
theorem lp_evC {X : zX} {d : Nat} {Q : Option Value → zH → Prop} (hd : 8 ≤ d) {nr nt : Nat} {N : Nat → Nat → Int} {V : zV} {I : Nat → Int} (hR : HallR nr nt N) (h0 : 0 < nt) (hI : IceR I) (seed ev mt half hs : Int32) (hhs : hs.toInt = N 9 0) (hmt : 0 ≤ mt.toInt ∧ mt.toInt ≤ 20) (hev : ev.toInt ≤ 30) : ∀ (n : Nat) (σ : zS) (z s c ei : Int32) (w1 w2 : Value), ThB σ nr nt N V I → 0 ≤ ei.toInt → ei.toInt + n = ev.toInt → 0 ≤ s.toInt → s.toInt ≤ 1000 * ei.toInt → 0 ≤ c.toInt → c.toInt ≤ ei.toInt →
    (∀ (v : Int32) (τ : zS), zFr [6, 14, 15, 16, 44] [(13, 5), (41, 5)] σ τ → ThB τ nr nt N V I → v.toInt = half2 half.toInt (evI N (gG V N (-1) nr) nt mt.toInt.toNat I n z s.toInt c.toInt) → Q (some (.int v)) (zen τ)) →
    zwp X d MX10_drawnEvenings 24 [.ref 41, .int seed, .int ev, .int mt, .int half, .int z, .int s, .int c, .int hs, .int ei, w1, w2] [] (zen σ) Q := by
  intro n
  have e0 := l0
  have e1 := l1
  have e100 : (100 : Int32).toInt = 100 := rfl
  induction n with
  | zero =>
    intro σ z s c ei w1 w2 hT he0 hen hs0 hs1 hc0 hc1 hQ
    rw [b_X10_drawnEvenings_24 (hd := by omega), if_pos (ile.mpr (by omega))]
    unfold half2 at hQ
    by_cases ch : half = 0
    · rw [if_neg (fun y => y ch)]
      exact hQ s σ zFr.rf hT (by rw [if_pos (by rw [ch]; rfl)]; rfl)
    · rw [if_pos ch]
      exact hQ c σ zFr.rf hT (by rw [if_neg (fun y => ch (ieq.mpr (by rw [y]; rfl)))]; rfl)
  | succ n ih =>
    intro σ z s c ei w1 w2 hT he0 hen hs0 hs1 hc0 hc1 hQ
    have hnt := hT.1.2.1
    have ee1 : (ei + 1).toInt = ei.toInt + 1 := by rw [t_add (by omega), e1]
    rw [b_X10_drawnEvenings_24 (hd := by omega), if_neg (fun y => by have := ile.mp y; omega), if_neg (fun y => by have := ile.mp y; omega)]
    have hT1 : ThB (g_X10_begin σ) nr nt N V I := hT.zfr (begin_fr σ) (hT.2.2.1.fr rfl rfl rfl rfl)
    refine lp_drawC (by omega) hR h0 seed ev mt half s c hs ei hhs hmt.2 mt.toInt.toNat _ z 0 I w2 hT1 (begin_ice hT.2.2.2) hI (by omega) (by omega) (fun v k' τ w' hF hT2 hv => ?_)
    have cb := carries_nn (N 6 0) 0 (drawI N (gG V N (-1) nr) nt mt.toInt.toNat z I).2
    have es : (s + v).toInt = s.toInt + v.toInt := t_add (by omega)
    have hF1 := (begin_fr σ).tr hF
    rw [b_X10_drawnEvenings_148]
    unfold evI at hQ
    rw [← hv] at hQ
    by_cases cc : v < 100
    · have := il.mp cc
      have ec : (c + 0).toInt = c.toInt := by rw [t_add (by omega), e0, Int.add_zero]
      rw [if_pos cc]
      rw [if_pos (show v.toInt < 100 by omega)] at hQ
      refine ih τ _ _ _ (ei + 1) _ _ hT2 (by omega) (by omega) (by omega) (by omega) (by omega) (by omega) (fun u ρ f1 f2 f3 => hQ u ρ (hF1.tr f1) f2 ?_)
      rw [f3, es, ec, Int.add_zero]
    · have := nil_ cc
      have ec : (c + 1).toInt = c.toInt + 1 := by rw [t_add (by omega), e1]
      rw [if_neg cc]
      rw [if_neg (show ¬ v.toInt < 100 by omega)] at hQ
      refine ih τ _ _ _ (ei + 1) _ _ hT2 (by omega) (by omega) (by omega) (by omega) (by omega) (by omega) (fun u ρ f1 f2 f3 => hQ u ρ (hF1.tr f1) f2 ?_)
      rw [f3, es, ec]
