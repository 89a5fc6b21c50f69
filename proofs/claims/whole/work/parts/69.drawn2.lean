/-! drawn, 2 -/
/-- the turns of one evening: the class -/
theorem lp_drawC {X : zX} {d : Nat} {Q : Option Value → zH → Prop} (hd : 6 ≤ d) {nr nt : Nat} {N : Nat → Nat → Int} {V : zV} {I : Nat → Int} (hR : HallR nr nt N) (h0 : 0 < nt) (seed ev mt half s c hs ei : Int32) (hhs : hs.toInt = N 9 0) (hmt : mt.toInt ≤ 20) : ∀ (n : Nat) (σ : zS) (z k : Int32) (J : Nat → Int) (w : Value), ThB σ nr nt N V I → IceAt (σ.1 44) J → IceR J → 0 ≤ k.toInt → k.toInt + n = mt.toInt →
    (∀ (v k' : Int32) (τ : zS) (w' : Value), zFr [6, 14, 15, 16, 44] [(13, 5), (41, 5)] σ τ → ThB τ nr nt N V I → v.toInt = carries (N 6 0) 0 (drawI N (gG V N (-1) nr) nt n z J).2 → zwp X d MX10_drawnEvenings 148 [.ref 41, .int seed, .int ev, .int mt, .int half, .int (drawI N (gG V N (-1) nr) nt n z J).1, .int s, .int c, .int hs, .int ei, .int k', w'] [.int v] (zen τ) Q) →
    zwp X d MX10_drawnEvenings 47 [.ref 41, .int seed, .int ev, .int mt, .int half, .int z, .int s, .int c, .int hs, .int ei, .int k, w] [] (zen σ) Q := by
  intro n
  have e0 := l0
  have e1 := l1
  have e5 := l5
  have h8 := hR.2.1
  induction n with
  | zero =>
    intro σ z k J w hT hI hI2 hk0 hkn hQ
    rw [b_X10_drawnEvenings_47 (hd := by omega), if_pos (ile.mpr (by omega))]
    refine w_X2_carries (by omega) zB_43 hT.1 hR hI hI2 (by rw [e0]; omega) (fun v hv => ?_)
    rw [e0, Int.zero_mul] at hv
    show zwp X d MX10_drawnEvenings 148 _ [.int v] (zen σ) Q
    exact hQ v k σ w zFr.rf hT hv
  | succ n ih =>
    intro σ z k J w hT hI hI2 hk0 hkn hQ
    have ek1 : (k + 1).toInt = k.toInt + 1 := by rw [t_add (by omega), e1]
    have hnt := hT.1.2.1
    rw [b_X10_drawnEvenings_47 (hd := by omega), if_neg (fun y => by have := ile.mp y; omega), ztrue_and (show decide (¬ gi σ 1 2 = 0) = true by rw [decide_eq_true_eq]; intro q; rw [q, e0] at hnt; omega)]
    have hnn := zU_nn (z * 1103515245 + 12345)
    unfold drawI at hQ
    have ht0 : ztn nt (znx z) = ((Int32.toUInt32 (z * 1103515245 + 12345) >>> (Int32.toUInt32 8 &&& Int32.toUInt32 31)).toInt32).toInt % nt := rfl
    have hs0 : zhs (znx z) = (Int32.toUInt32 (z * 1103515245 + 12345) >>> (Int32.toUInt32 16 &&& Int32.toUInt32 31)).toInt32 - (Int32.toUInt32 (z * 1103515245 + 12345) >>> (Int32.toUInt32 16 &&& Int32.toUInt32 31)).toInt32 / 12 * 12 := rfl
    rw [← hs0]
    generalize (Int32.toUInt32 (z * 1103515245 + 12345) >>> (Int32.toUInt32 8 &&& Int32.toUInt32 31)).toInt32 = tn at hnn ht0 ⊢
    have b := ztn_b h0 (znx z)
    have em : (tn - tn / gi σ 1 2 * gi σ 1 2).toInt = ztn nt (znx z) := by rw [t_mod hnn (by omega), hnt, ht0]
    generalize tn - tn / gi σ 1 2 * gi σ 1 2 = t at em ⊢
    have hzz : z * 1103515245 + 12345 = znx z := rfl
    rw [hzz]
    clear ht0 hs0 hnn
    generalize ztn nt (znx z) = T at em b hQ ⊢
    generalize zhs (znx z) = H at hQ ⊢
    by_cases ch : hs ≤ H
    · have := ile.mp ch
      rw [if_pos ch]
      rw [if_pos (show N 9 0 ≤ (H).toInt by omega)] at hQ
      refine w_X0_step (by omega) (V := V) (lo := -1) hR zB_43 hT.1 hT.2.1 hT.2.2.1 hI hI2 (Or.inr (by omega)) (fun v τ hF hC hic _ => ?_)
      show zwp X d MX10_drawnEvenings 129 _ [.int v] (zen τ) Q
      have hF1 : zFr [6, 14, 15, 16, 44] [(13, 5), (41, 5)] σ τ := hF.sub (fun _ q => q) (by simp)
      rw [b_X10_drawnEvenings_129]
      rw [em] at hic
      exact ih τ (znx z) (k + 1) _ _ (hT.zfr hF1 hC) hic (stepI_R hR (Or.inr b) hI2) (by omega) (by omega) (fun v' k' ρ w' f1 f2 f3 => hQ v' k' ρ w' (hF1.tr f1) f2 f3)
    · have := nile ch
      have G := hT.1.getT hR (w := 5) (k := 5) rfl (by omega) (i := t) (by omega)
      have hl := hR.lasts (t := T.toNat) (by omega)
      rw [em] at G
      rw [if_neg ch, ztrue_and G.1]
      rw [if_neg (show ¬ N 9 0 ≤ (H).toInt by omega)] at hQ
      refine w_X2_thaw (by omega) zB_43 hT.1 hR hI hI2 (by rw [G.2]; omega) (fun f hf => ?_)
      show zwp X d MX10_drawnEvenings 113 _ [] _ Q
      rw [G.2] at hf
      have hF1 : zFr [6, 14, 15, 16, 44] [(13, 5), (41, 5)] σ (sA σ 44 f) := zFr.rf.wA (by decide)
      rw [b_X10_drawnEvenings_113]
      refine ih _ (znx z) (k + 1) _ _ (hT.zfr hF1 (hT.2.2.1.fr rfl rfl rfl rfl)) (by rw [sA_1]; exact hf) (thawI_R (mulb (by omega) hl.2 hR.warm.1 hR.warm.2).1 hI2) (by omega) (by omega) (fun v' k' ρ w' f1 f2 f3 => hQ v' k' ρ w' (hF1.tr f1) f2 f3)
