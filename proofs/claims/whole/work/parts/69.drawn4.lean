/-! drawn, 4 -/
/-- the turns of one evening: the reference -/
theorem lp_drawM {X : zX} {d : Nat} {Q : Option Value → zH → Prop} (hd : 8 ≤ d) {nr nt : Nat} {N : Nat → Nat → Int} {V : zV} {I : Nat → Int} (hR : HallR nr nt N) (seed nm half s c ei : Int32) (mt : Nat) (hmt : (nm - nm / 100 * 100).toInt = mt) (hm20 : mt ≤ 20) : ∀ (n : Nat) (σ : zS) (z k : Int32) (J : Nat → Int) (w : Value), ThN σ nr nt N V I → IceAt (σ.1 86) J → IceR J → 0 ≤ k.toInt → (nt = 0 → n = 0) → (0 < nt → k.toInt + n = mt) →
    (∀ (v k' : Int32) (τ : zS) (w' : Value), zFr [83, 84, 86, 87] [(66, 37)] σ τ → ThN τ nr nt N V I → v.toInt = carries (N 6 0) 0 (drawI N (gG V N (-1) nr) nt n z J).2 → IceAt (τ.1 86) (drawI N (gG V N (-1) nr) nt n z J).2 → zwp X d MX12_drawn 154 [.ref 66, .int seed, .int nm, .int half, .int (drawI N (gG V N (-1) nr) nt n z J).1, .int s, .int c, .int ei, .int k', w'] [.int v, .int s] (zen τ) Q) →
    zwp X d MX12_drawn 69 [.ref 66, .int seed, .int nm, .int half, .int z, .int s, .int c, .int ei, .int k, w] [] (zen σ) Q := by
  intro n
  have e0 := l0
  have e1 := l1
  have h8 := hR.2.1
  induction n with
  | zero =>
    intro σ z k J w hT hI hI2 hk0 hn0 hkn hQ
    have hnt := hT.1.2.1
    have fin : zwp X (d - 1) MX12_heaviestAt 0 [.ref 66, .int 0, .null, .null] [] (zen σ) (fun v h' => zwp X d MX12_drawn 154 [.ref 66, .int seed, .int nm, .int half, .int z, .int s, .int c, .int ei, .int k, w] (zpsh v [.int s]) h' Q) := by
      refine w_X12_heaviestAt (by omega) hR hT.1 (by rw [e0]; omega) hI hI2 (fun v hv => ?_)
      rw [e0, Int.zero_mul] at hv
      show zwp X d MX12_drawn 154 _ [.int v, .int s] (zen σ) Q
      exact hQ v k σ w zFr.rf hT hv hI
    rw [b_X12_drawn_69 (hd := by omega)]
    by_cases c1 : nm - nm / 100 * 100 ≤ k
    · rw [if_pos c1]; exact fin
    · have := nile c1
      rw [if_neg c1, if_pos (ile.mpr (by omega))]; exact fin
  | succ n ih =>
    intro σ z k J w hT hI hI2 hk0 hn0 hkn hQ
    have h0 : 0 < nt := by omega
    have hkn' := hkn h0
    have ek1 : (k + 1).toInt = k.toInt + 1 := by rw [t_add (by omega), e1]
    have hnt := hT.1.2.1
    have hhs : (gi σ 66 12).toInt = N 9 0 := hT.1.2.2.2.2.2.2.2
    rw [b_X12_drawn_69 (hd := by omega), if_neg (fun y => by have := ile.mp y; omega), if_neg (fun y => by have := ile.mp y; omega), ztrue_and (show decide (¬ gi σ 66 6 = 0) = true by rw [decide_eq_true_eq]; intro q; rw [q, e0] at hnt; omega)]
    have hnn := zU_nn (z * 1103515245 + 12345)
    unfold drawI at hQ
    have ht0 : ztn nt (znx z) = ((Int32.toUInt32 (z * 1103515245 + 12345) >>> (Int32.toUInt32 8 &&& Int32.toUInt32 31)).toInt32).toInt % nt := rfl
    generalize (Int32.toUInt32 (z * 1103515245 + 12345) >>> (Int32.toUInt32 8 &&& Int32.toUInt32 31)).toInt32 = tn at hnn ht0 ⊢
    have b := ztn_b h0 (znx z)
    have em : (tn - tn / gi σ 66 6 * gi σ 66 6).toInt = ztn nt (znx z) := by rw [t_mod hnn (by omega), hnt, ht0]
    generalize tn - tn / gi σ 66 6 * gi σ 66 6 = t at em ⊢
    have hzz : z * 1103515245 + 12345 = znx z := rfl
    rw [hzz]
    clear ht0 hnn
    generalize hT0' : ztn nt (znx z) = T at em b hQ ⊢
    clear hT0'
    rw [ztrue_and (show zin t 8 = true from zin_of (by omega) (by omega))]
    have it : ix t = T.toNat := by rw [ix_t, em]
    have HT := (hT.1.2.2.2.1 T.toNat (by omega)).2
    have hl := hR.lasts (t := T.toNat) (by omega)
    refine w_X12_thaw (by omega) hR hT.1 hI hI2 (by rw [it, HT]; omega) (fun f hf => ?_)
    rw [it, HT] at hf
    show zwp X d MX12_drawn 120 _ [] _ Q
    have hF0 : zFr [83, 84, 86, 87] [(66, 37)] σ (si (sA σ 86 f) 66 37 (gi σ 66 37 + gi σ 72 (ix t))) := (zFr.rf.wA (by decide)).sf (by decide)
    have hT0 := hT.zfr hF0
    have hJ0 : IceR (thawI (N 6 0) (N 5 T.toNat * N 7 0) J) := thawI_R (mulb (by omega) hl.2 hR.warm.1 hR.warm.2).1 hI2
    have hI0 : IceAt ((si (sA σ 86 f) 66 37 (gi σ 66 37 + gi σ 72 (ix t))).1 86) (thawI (N 6 0) (N 5 T.toNat * N 7 0) J) := by rw [c_si_ne (by decide), sA_1]; exact hf
    have hhs2 : (gi (si (sA σ 86 f) 66 37 (gi σ 66 37 + gi σ 72 (ix t))) 66 12).toInt = N 9 0 := hT0.1.2.2.2.2.2.2.2
    rw [b_X12_drawn_120 (hd := by omega)]
    have hs0 : zhs (znx z) = (Int32.toUInt32 (znx z) >>> (Int32.toUInt32 16 &&& Int32.toUInt32 31)).toInt32 - (Int32.toUInt32 (znx z) >>> (Int32.toUInt32 16 &&& Int32.toUInt32 31)).toInt32 / 12 * 12 := rfl
    rw [← hs0]
    clear hs0
    generalize zhs (znx z) = H at hQ ⊢
    by_cases ch : H < gi (si (sA σ 86 f) 66 37 (gi σ 66 37 + gi σ 72 (ix t))) 66 12
    · have := il.mp ch
      rw [if_pos ch]
      rw [if_neg (show ¬ N 9 0 ≤ (H).toInt by omega)] at hQ
      exact ih _ (znx z) (k + 1) _ _ hT0 hI0 hJ0 (by omega) (fun q => by omega) (fun _ => by omega) (fun v' k' ρ w' f1 f2 f3 f4 => hQ v' k' ρ w' (hF0.tr f1) f2 f3 f4)
    · have := nil_ ch
      rw [if_neg ch]
      rw [if_pos (show N 9 0 ≤ (H).toInt by omega)] at hQ
      refine w_X12_clap (by omega) (lo := -1) (t := T.toNat) hR hT0.1 hT0.2.1 hT0.2.2.1 hI0 hJ0 (by omega) (by omega) (fun τ hF hic => ?_)
      show zwp X d MX12_drawn 141 _ [] (zen τ) Q
      have hF1 : zFr [83, 84, 86, 87] [(66, 37)] σ τ := hF0.tr (hF.sub (fun _ q => q) (by simp))
      have hst : stepI N (gG V N (-1) nr) T J = clapI (N 6 0) (fun p i => gainR V N (-1) T.toNat p i nr 0) (thawI (N 6 0) (N 5 T.toNat * N 7 0) J) := by
        unfold stepI
        rw [if_neg (by omega)]
      rw [← hst] at hic
      rw [b_X12_drawn_141]
      exact ih τ (znx z) (k + 1) _ _ (hT.zfr hF1) hic (stepI_R hR (Or.inr b) hI2) (by omega) (fun q => by omega) (fun _ => by omega) (fun v' k' ρ w' f1 f2 f3 f4 => hQ v' k' ρ w' (hF1.tr f1) f2 f3 f4)
