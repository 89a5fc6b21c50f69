/-! drawn -/
theorem zU_nn (z : Int32) : 0 ≤ ((Int32.toUInt32 z >>> (Int32.toUInt32 8 &&& Int32.toUInt32 31)).toInt32).toInt := by
  have e : (Int32.toUInt32 8 &&& Int32.toUInt32 31) = 8 := rfl
  rw [e]
  have h : (Int32.toUInt32 z >>> (8 : UInt32)).toNat < 2 ^ 24 := by
    rw [UInt32.toNat_shiftRight]
    have : (Int32.toUInt32 z).toNat < 2 ^ 32 := UInt32.toNat_lt _
    rw [show (8 : UInt32).toNat % 32 = 8 from rfl, Nat.shiftRight_eq_div_pow]
    omega
  show 0 ≤ (Int32.toUInt32 z >>> (8 : UInt32)).toBitVec.toInt
  have h2 : (Int32.toUInt32 z >>> (8 : UInt32)).toBitVec.toNat < 2 ^ 24 := h
  rw [BitVec.toInt_eq_toNat_of_lt (by omega)]
  omega
def znx (z : Int32) : Int32 := z * 1103515245 + 12345
def ztn (nt : Nat) (z : Int32) : Int := ((Int32.toUInt32 z >>> (Int32.toUInt32 8 &&& Int32.toUInt32 31)).toInt32).toInt % nt
def zhs (z : Int32) : Int32 := (Int32.toUInt32 z >>> (Int32.toUInt32 16 &&& Int32.toUInt32 31)).toInt32 - (Int32.toUInt32 z >>> (Int32.toUInt32 16 &&& Int32.toUInt32 31)).toInt32 / 12 * 12
def drawI (N : Nat → Nat → Int) (G : Nat → Nat → Int → Int) (nt : Nat) : Nat → Int32 → (Nat → Int) → Int32 × (Nat → Int)
  | 0, z, J => (z, J)
  | n + 1, z, J => drawI N G nt n (znx z) (if N 9 0 ≤ (zhs (znx z)).toInt then stepI N G (ztn nt (znx z)) J else thawI (N 6 0) (N 5 (ztn nt (znx z)).toNat * N 7 0) J)
def evI (N : Nat → Nat → Int) (G : Nat → Nat → Int → Int) (nt m : Nat) (I : Nat → Int) : Nat → Int32 → Int → Int → Int × Int
  | 0, _, s, c => (s, c)
  | n + 1, z, s, c => evI N G nt m I n (drawI N G nt m z I).1 (s + carries (N 6 0) 0 (drawI N G nt m z I).2) (c + if carries (N 6 0) 0 (drawI N G nt m z I).2 < 100 then 0 else 1)
theorem ztn_b {nt : Nat} (h : 0 < nt) (z : Int32) : 0 ≤ ztn nt z ∧ ztn nt z < nt := by
  unfold ztn
  exact ⟨Int.emod_nonneg _ (by omega), Int.emod_lt_of_pos _ (by omega)⟩
theorem drawI_R {nr nt : Nat} {N : Nat → Nat → Int} {G : Nat → Nat → Int → Int} (hR : HallR nr nt N) (h0 : 0 < nt) : ∀ (n : Nat) (z : Int32) (J : Nat → Int), IceR J → IceR (drawI N G nt n z J).2 := by
  intro n
  induction n with
  | zero => intro z J h; exact h
  | succ n ih =>
    intro z J h
    unfold drawI
    have b := ztn_b h0 (znx z)
    refine ih _ _ ?_
    split
    · exact stepI_R hR (Or.inr b) h
    · exact thawI_R (mulb (by have := hR.lasts (t := (ztn nt (znx z)).toNat) (by omega); omega) (hR.lasts (t := (ztn nt (znx z)).toNat) (by omega)).2 hR.warm.1 hR.warm.2).1 h
theorem evI_0 {N : Nat → Nat → Int} {G : Nat → Nat → Int → Int} {nt : Nat} {I : Nat → Int} (hI : ∀ p, p < 16 → I p = 0) (hl : 2 ≤ N 6 0 ∧ N 6 0 ≤ 16) : ∀ (n : Nat) (z : Int32) (s c : Int), evI N G nt 0 I n z s c = (s, c) := by
  have hc : carries (N 6 0) 0 I = 0 := by
    have h1 := carries_nn (N 6 0) 0 I
    have h2 : ¬ 1 ≤ carries (N 6 0) 0 I := fun q => by
      have h3 : 1 ≤ carI I 0 (N 6 0).toNat := by unfold carries at q; omega
      have := ((carI_le _).mp h3).2 0 (by omega)
      have := hI 0 (by omega)
      omega
    omega
  intro n
  induction n with
  | zero => intro z s c; rfl
  | succ n ih =>
    intro z s c
    unfold evI drawI
    dsimp only
    rw [hc, if_pos (by omega), ih, Int.add_zero, Int.add_zero]
/-- the turns of one evening: the class -/
theorem lp_drawC {X : zX} {d : Nat} {Q : Option Value → zH → Prop} (hd : 6 ≤ d) {nr nt : Nat} {N : Nat → Nat → Int} {V : zV} {I : Nat → Int} (hR : HallR nr nt N) (h0 : 0 < nt) (seed ev mt half s c hs ei : Int32) (hhs : hs.toInt = N 9 0) (hmt : mt.toInt ≤ 20) : ∀ (n : Nat) (σ : zS) (z k : Int32) (J : Nat → Int) (w : Value), ThB σ nr nt N V I → IceAt (σ.1 44) J → IceR J → 0 ≤ k.toInt → k.toInt + n = mt.toInt →
    (∀ (v k' : Int32) (τ : zS) (w' : Value), zFr [6, 14, 15, 16, 44] [(13, 5), (41, 5)] σ τ → ThB τ nr nt N V I → v.toInt = carries (N 6 0) 0 (drawI N (gG V N (-1) nr) nt n z J).2 → zwp X d MX10_drawnEvenings 148 [.ref 41, .int seed, .int ev, .int mt, .int half, .int (drawI N (gG V N (-1) nr) nt n z J).1, .int s, .int c, .int hs, .int ei, .int k', w'] [.int v] (zen τ) Q) →
    zwp X d MX10_drawnEvenings 47 [.ref 41, .int seed, .int ev, .int mt, .int half, .int z, .int s, .int c, .int hs, .int ei, .int k, w] [] (zen σ) Q := by
  intro n
  have e0 := l0
  have e1 := l1
  have e5 := l5
  have h8 := hR.2.1
  induction n with
  | zero =>
    intro σ z k J w hT hI hI2 hk0 hkn hQ
    rw [b_X10_drawnEvenings_47 (hd := by omega), if_pos (ile.mpr (by omega))]
    refine w_X2_carries (by omega) zB_43 hT.1 hR hI hI2 (by rw [e0]; omega) (fun v hv => ?_)
    rw [e0, Int.zero_mul] at hv
    exact hQ v k σ w zFr.rf hT hv
  | succ n ih =>
    intro σ z k J w hT hI hI2 hk0 hkn hQ
    have ek1 : (k + 1).toInt = k.toInt + 1 := by rw [t_add (by omega), e1]
    have hnt := hT.1.2.1
    rw [b_X10_drawnEvenings_47 (hd := by omega), if_neg (fun y => by have := ile.mp y; omega), ztrue_and (show decide (¬ gi σ 1 2 = 0) = true by rw [decide_eq_true_eq]; intro q; rw [q, e0] at hnt; omega)]
    have hnn := zU_nn (z * 1103515245 + 12345)
    unfold drawI at hQ
    have ht0 : ztn nt (znx z) = ((Int32.toUInt32 (z * 1103515245 + 12345) >>> (Int32.toUInt32 8 &&& Int32.toUInt32 31)).toInt32).toInt % nt := rfl
    have hs0 : zhs (znx z) = (Int32.toUInt32 (z * 1103515245 + 12345) >>> (Int32.toUInt32 16 &&& Int32.toUInt32 31)).toInt32 - (Int32.toUInt32 (z * 1103515245 + 12345) >>> (Int32.toUInt32 16 &&& Int32.toUInt32 31)).toInt32 / 12 * 12 := rfl
    rw [← hs0]
    generalize (Int32.toUInt32 (z * 1103515245 + 12345) >>> (Int32.toUInt32 8 &&& Int32.toUInt32 31)).toInt32 = tn at hnn ht0 ⊢
    have b := ztn_b h0 (znx z)
    have em : (tn - tn / gi σ 1 2 * gi σ 1 2).toInt = ztn nt (znx z) := by rw [t_mod hnn (by omega), hnt, ht0]
    generalize tn - tn / gi σ 1 2 * gi σ 1 2 = t at em ⊢
    have hzz : z * 1103515245 + 12345 = znx z := rfl
    rw [hzz]
    by_cases ch : hs ≤ zhs (znx z)
    · have := ile.mp ch
      rw [if_pos ch]
      rw [if_pos (show N 9 0 ≤ (zhs (znx z)).toInt by omega)] at hQ
      refine w_X0_step (by omega) (V := V) (lo := -1) hR zB_43 hT.1 hT.2.1 hT.2.2.1 hI hI2 (Or.inr (by omega)) (fun v τ hF hC hic _ => ?_)
      show zwp X d MX10_drawnEvenings 129 _ [.int v] (zen τ) Q
      have hF1 : zFr [6, 14, 15, 16, 44] [(13, 5), (41, 5)] σ τ := hF.sub (fun _ q => q) (by simp)
      rw [b_X10_drawnEvenings_129]
      rw [em] at hic
      exact ih τ (znx z) (k + 1) _ _ (hT.zfr hF1 hC) hic (stepI_R hR (Or.inr b) hI2) (by omega) (by omega) (fun v' k' ρ w' f1 f2 f3 => hQ v' k' ρ w' (hF1.tr f1) f2 f3)
    · have := nile ch
      have G := hT.1.getT hR (w := 5) (k := 5) rfl (by omega) (i := t) (by omega)
      have hl := hR.lasts (t := (ztn nt (znx z)).toNat) (by omega)
      rw [em] at G
      rw [if_neg ch, ztrue_and G.1]
      rw [if_neg (show ¬ N 9 0 ≤ (zhs (znx z)).toInt by omega)] at hQ
      refine w_X2_thaw (by omega) zB_43 hT.1 hR hI hI2 (by rw [G.2]; omega) (fun f hf => ?_)
      show zwp X d MX10_drawnEvenings 113 _ [] _ Q
      rw [G.2] at hf
      have hF1 : zFr [6, 14, 15, 16, 44] [(13, 5), (41, 5)] σ (sA σ 44 f) := zFr.rf.wA (by decide)
      rw [b_X10_drawnEvenings_113]
      refine ih _ (znx z) (k + 1) _ _ (hT.zfr hF1 (hT.2.2.1.fr rfl rfl rfl rfl)) (by rw [sA_1]; exact hf) (thawI_R (mulb (by omega) hl.2 hR.warm.1 hR.warm.2).1 hI2) (by omega) (by omega) (fun v' k' ρ w' f1 f2 f3 => hQ v' k' ρ w' (hF1.tr f1) f2 f3)
theorem lp_evC {X : zX} {d : Nat} {Q : Option Value → zH → Prop} (hd : 8 ≤ d) {nr nt : Nat} {N : Nat → Nat → Int} {V : zV} {I : Nat → Int} (hR : HallR nr nt N) (h0 : 0 < nt) (hI : IceR I) (seed ev mt half hs : Int32) (hhs : hs.toInt = N 9 0) (hmt : 0 ≤ mt.toInt ∧ mt.toInt ≤ 20) (hev : ev.toInt ≤ 30) : ∀ (n : Nat) (σ : zS) (z s c ei : Int32) (w1 w2 : Value), ThB σ nr nt N V I → 0 ≤ ei.toInt → ei.toInt + n = ev.toInt → 0 ≤ s.toInt → s.toInt ≤ 1000 * ei.toInt → 0 ≤ c.toInt → c.toInt ≤ ei.toInt →
    (∀ (v : Int32) (τ : zS), zFr [6, 14, 15, 16, 44] [(13, 5), (41, 5)] σ τ → ThB τ nr nt N V I → v.toInt = half2 half.toInt (evI N (gG V N (-1) nr) nt mt.toInt.toNat I n z s.toInt c.toInt) → Q (some (.int v)) (zen τ)) →
    zwp X d MX10_drawnEvenings 24 [.ref 41, .int seed, .int ev, .int mt, .int half, .int z, .int s, .int c, .int hs, .int ei, w1, w2] [] (zen σ) Q := by
  intro n
  have e0 := l0
  have e1 := l1
  have e100 : (100 : Int32).toInt = 100 := rfl
  induction n with
  | zero =>
    intro σ z s c ei w1 w2 hT he0 hen hs0 hs1 hc0 hc1 hQ
    rw [b_X10_drawnEvenings_24 (hd := by omega), if_pos (ile.mpr (by omega))]
    unfold half2 at hQ
    by_cases ch : half = 0
    · rw [if_neg (fun y => y ch)]
      exact hQ s σ zFr.rf hT (by rw [if_pos (by rw [ch]; rfl)]; rfl)
    · rw [if_pos ch]
      exact hQ c σ zFr.rf hT (by rw [if_neg (fun y => ch (ieq.mpr (by rw [y]; rfl)))]; rfl)
  | succ n ih =>
    intro σ z s c ei w1 w2 hT he0 hen hs0 hs1 hc0 hc1 hQ
    have hnt := hT.1.2.1
    have ee1 : (ei + 1).toInt = ei.toInt + 1 := by rw [t_add (by omega), e1]
    rw [b_X10_drawnEvenings_24 (hd := by omega), if_neg (fun y => by have := ile.mp y; omega), if_neg (fun y => by have := ile.mp y; omega)]
    have hT1 : ThB (g_X10_begin σ) nr nt N V I := hT.zfr (begin_fr σ) (hT.2.2.1.fr rfl rfl rfl rfl)
    refine lp_drawC (by omega) hR h0 seed ev mt half s c hs ei hhs hmt.2 mt.toInt.toNat _ z 0 I w2 hT1 (begin_ice hT.2.2.2) hI (by omega) (by omega) (fun v k' τ w' hF hT2 hv => ?_)
    have cb := carries_nn (N 6 0) 0 (drawI N (gG V N (-1) nr) nt mt.toInt.toNat z I).2
    have es : (s + v).toInt = s.toInt + v.toInt := t_add (by omega)
    have hF1 := (begin_fr σ).tr hF
    rw [b_X10_drawnEvenings_148]
    unfold evI at hQ
    rw [← hv] at hQ
    by_cases cc : v < 100
    · have := il.mp cc
      have ec : (c + 0).toInt = c.toInt := by rw [t_add (by omega), e0, Int.add_zero]
      rw [if_pos cc]
      rw [if_pos (show v.toInt < 100 by omega)] at hQ
      refine ih τ _ _ _ (ei + 1) _ _ hT2 (by omega) (by omega) (by omega) (by omega) (by omega) (by omega) (fun u ρ f1 f2 f3 => hQ u ρ (hF1.tr f1) f2 ?_)
      rw [f3, es, ec, Int.add_zero]
    · have := nil_ cc
      have ec : (c + 1).toInt = c.toInt + 1 := by rw [t_add (by omega), e1]
      rw [if_neg cc]
      rw [if_neg (show ¬ v.toInt < 100 by omega)] at hQ
      refine ih τ _ _ _ (ei + 1) _ _ hT2 (by omega) (by omega) (by omega) (by omega) (by omega) (by omega) (fun u ρ f1 f2 f3 => hQ u ρ (hF1.tr f1) f2 ?_)
      rw [f3, es, ec]
/-- the turns of one evening: the reference -/
theorem lp_drawM {X : zX} {d : Nat} {Q : Option Value → zH → Prop} (hd : 8 ≤ d) {nr nt : Nat} {N : Nat → Nat → Int} {V : zV} {I : Nat → Int} (hR : HallR nr nt N) (seed nm half s c ei : Int32) (mt : Nat) (hmt : (nm - nm / 100 * 100).toInt = mt) (hm20 : mt ≤ 20) : ∀ (n : Nat) (σ : zS) (z k : Int32) (J : Nat → Int) (w : Value), ThN σ nr nt N V I → IceAt (σ.1 86) J → IceR J → 0 ≤ k.toInt → (nt = 0 → n = 0) → (0 < nt → k.toInt + n = mt) →
    (∀ (v k' : Int32) (τ : zS) (w' : Value), zFr [83, 84, 86, 87] [(66, 37)] σ τ → ThN τ nr nt N V I → v.toInt = carries (N 6 0) 0 (drawI N (gG V N (-1) nr) nt n z J).2 → IceAt (τ.1 86) (drawI N (gG V N (-1) nr) nt n z J).2 → zwp X d MX12_drawn 154 [.ref 66, .int seed, .int nm, .int half, .int (drawI N (gG V N (-1) nr) nt n z J).1, .int s, .int c, .int ei, .int k', w'] [.int v, .int s] (zen τ) Q) →
    zwp X d MX12_drawn 69 [.ref 66, .int seed, .int nm, .int half, .int z, .int s, .int c, .int ei, .int k, w] [] (zen σ) Q := by
  intro n
  have e0 := l0
  have e1 := l1
  have h8 := hR.2.1
  induction n with
  | zero =>
    intro σ z k J w hT hI hI2 hk0 hn0 hkn hQ
    have hnt := hT.1.2.1
    have fin : zwp X (d - 1) MX12_heaviestAt 0 [.ref 66, .int 0, .null, .null] [] (zen σ) (fun v h' => zwp X d MX12_drawn 154 [.ref 66, .int seed, .int nm, .int half, .int z, .int s, .int c, .int ei, .int k, w] (zpsh v [.int s]) h' Q) := by
      refine w_X12_heaviestAt (by omega) hR hT.1 (by rw [e0]; omega) hI hI2 (fun v hv => ?_)
      rw [e0, Int.zero_mul] at hv
      exact hQ v k σ w zFr.rf hT hv hI
    rw [b_X12_drawn_69 (hd := by omega)]
    by_cases c1 : nm - nm / 100 * 100 ≤ k
    · rw [if_pos c1]; exact fin
    · have := nile c1
      rw [if_neg c1, if_pos (ile.mpr (by omega))]; exact fin
  | succ n ih =>
    intro σ z k J w hT hI hI2 hk0 hn0 hkn hQ
    have h0 : 0 < nt := by omega
    have hkn' := hkn h0
    have ek1 : (k + 1).toInt = k.toInt + 1 := by rw [t_add (by omega), e1]
    have hnt := hT.1.2.1
    have hhs : (gi σ 66 12).toInt = N 9 0 := hT.1.2.2.2.2.2.2.2
    rw [b_X12_drawn_69 (hd := by omega), if_neg (fun y => by have := ile.mp y; omega), if_neg (fun y => by have := ile.mp y; omega), ztrue_and (show decide (¬ gi σ 66 6 = 0) = true by rw [decide_eq_true_eq]; intro q; rw [q, e0] at hnt; omega)]
    have hnn := zU_nn (z * 1103515245 + 12345)
    unfold drawI at hQ
    have ht0 : ztn nt (znx z) = ((Int32.toUInt32 (z * 1103515245 + 12345) >>> (Int32.toUInt32 8 &&& Int32.toUInt32 31)).toInt32).toInt % nt := rfl
    generalize (Int32.toUInt32 (z * 1103515245 + 12345) >>> (Int32.toUInt32 8 &&& Int32.toUInt32 31)).toInt32 = tn at hnn ht0 ⊢
    have b := ztn_b h0 (znx z)
    have em : (tn - tn / gi σ 66 6 * gi σ 66 6).toInt = ztn nt (znx z) := by rw [t_mod hnn (by omega), hnt, ht0]
    generalize tn - tn / gi σ 66 6 * gi σ 66 6 = t at em ⊢
    have hzz : z * 1103515245 + 12345 = znx z := rfl
    rw [hzz, ztrue_and (show zin t 8 = true from zin_of (by omega) (by omega))]
    have it : ix t = (ztn nt (znx z)).toNat := by rw [ix_t, em]
    have HT := (hT.1.2.2.2.1 (ztn nt (znx z)).toNat (by omega)).2
    have hl := hR.lasts (t := (ztn nt (znx z)).toNat) (by omega)
    refine w_X12_thaw (by omega) hR hT.1 hI hI2 (by rw [it, HT]; omega) (fun f hf => ?_)
    rw [it, HT] at hf
    show zwp X d MX12_drawn 120 _ [] _ Q
    have hF0 : zFr [83, 84, 86, 87] [(66, 37)] σ (si (sA σ 86 f) 66 37 (gi σ 66 37 + gi σ 72 (ix t))) := (zFr.rf.wA (by decide)).sf (by decide)
    have hT0 := hT.zfr hF0
    have hJ0 : IceR (thawI (N 6 0) (N 5 (ztn nt (znx z)).toNat * N 7 0) J) := thawI_R (mulb (by omega) hl.2 hR.warm.1 hR.warm.2).1 hI2
    have hI0 : IceAt ((si (sA σ 86 f) 66 37 (gi σ 66 37 + gi σ 72 (ix t))).1 86) (thawI (N 6 0) (N 5 (ztn nt (znx z)).toNat * N 7 0) J) := by rw [c_si_ne (by decide), sA_1]; exact hf
    have hhs2 : (gi (si (sA σ 86 f) 66 37 (gi σ 66 37 + gi σ 72 (ix t))) 66 12).toInt = N 9 0 := hT0.1.2.2.2.2.2.2.2
    rw [b_X12_drawn_120 (hd := by omega)]
    have hs0 : zhs (znx z) = (Int32.toUInt32 (znx z) >>> (Int32.toUInt32 16 &&& Int32.toUInt32 31)).toInt32 - (Int32.toUInt32 (znx z) >>> (Int32.toUInt32 16 &&& Int32.toUInt32 31)).toInt32 / 12 * 12 := rfl
    rw [← hs0]
    by_cases ch : zhs (znx z) < gi (si (sA σ 86 f) 66 37 (gi σ 66 37 + gi σ 72 (ix t))) 66 12
    · have := il.mp ch
      rw [if_pos ch]
      rw [if_neg (show ¬ N 9 0 ≤ (zhs (znx z)).toInt by omega)] at hQ
      exact ih _ (znx z) (k + 1) _ _ hT0 hI0 hJ0 (by omega) (fun q => by omega) (fun _ => by omega) (fun v' k' ρ w' f1 f2 f3 f4 => hQ v' k' ρ w' (hF0.tr f1) f2 f3 f4)
    · have := nil_ ch
      rw [if_neg ch]
      rw [if_pos (show N 9 0 ≤ (zhs (znx z)).toInt by omega)] at hQ
      refine w_X12_clap (by omega) (lo := -1) (t := (ztn nt (znx z)).toNat) hR hT0.1 hT0.2.1 hT0.2.2.1 hI0 hJ0 (by omega) (by omega) (fun τ hF hic => ?_)
      show zwp X d MX12_drawn 141 _ [] (zen τ) Q
      have hF1 : zFr [83, 84, 86, 87] [(66, 37)] σ τ := hF0.tr (hF.sub (fun _ q => q) (by simp))
      have hst : stepI N (gG V N (-1) nr) (ztn nt (znx z)) J = clapI (N 6 0) (fun p i => gainR V N (-1) (ztn nt (znx z)).toNat p i nr 0) (thawI (N 6 0) (N 5 (ztn nt (znx z)).toNat * N 7 0) J) := by
        unfold stepI
        rw [if_neg (by omega)]
      rw [← hst] at hic
      rw [b_X12_drawn_141]
      exact ih τ (znx z) (k + 1) _ _ (hT.zfr hF1) hic (stepI_R hR (Or.inr b) hI2) (by omega) (fun q => by omega) (fun _ => by omega) (fun v' k' ρ w' f1 f2 f3 f4 => hQ v' k' ρ w' (hF1.tr f1) f2 f3 f4)
theorem lp_evM {X : zX} {d : Nat} {Q : Option Value → zH → Prop} (hd : 10 ≤ d) {nr nt : Nat} {N : Nat → Nat → Int} {V : zV} {I : Nat → Int} (hR : HallR nr nt N) (hI : IceR I) (hI0 : nt = 0 → ∀ p, p < 16 → I p = 0) (seed nm half : Int32) (mt : Nat) (hmt : (nm - nm / 100 * 100).toInt = mt) (hm20 : mt ≤ 20) (hev : (nm / 100).toInt ≤ 30) : ∀ (n : Nat) (σ : zS) (z s c ei : Int32) (w1 w2 : Value), ThN σ nr nt N V I → 0 ≤ ei.toInt → ei.toInt + n = (nm / 100).toInt → 0 ≤ s.toInt → s.toInt ≤ 1000 * ei.toInt → 0 ≤ c.toInt → c.toInt ≤ ei.toInt →
    (∀ (v : Int32) (τ : zS), zFr [83, 84, 86, 87] [(66, 37)] σ τ → ThN τ nr nt N V I → v.toInt = half2 half.toInt (evI N (gG V N (-1) nr) nt (if nt = 0 then 0 else mt) I n z s.toInt c.toInt) → Q (some (.int v)) (zen τ)) →
    zwp X d MX12_drawn 53 [.ref 66, .int seed, .int nm, .int half, .int z, .int s, .int c, .int ei, w1, w2] [] (zen σ) Q := by
  intro n
  have e0 := l0
  have e1 := l1
  have e100 : (100 : Int32).toInt = 100 := rfl
  induction n with
  | zero =>
    intro σ z s c ei w1 w2 hT he0 hen hs0 hs1 hc0 hc1 hQ
    rw [b_X12_drawn_53 (hd := by omega), if_pos (ile.mpr (by omega))]
    unfold half2 at hQ
    by_cases ch : half = 0
    · rw [if_neg (fun y => y ch)]
      exact hQ s σ zFr.rf hT (by rw [if_pos (by rw [ch]; rfl)]; rfl)
    · rw [if_pos ch]
      exact hQ c σ zFr.rf hT (by rw [if_neg (fun y => ch (ieq.mpr (by rw [y]; rfl)))]; rfl)
  | succ n ih =>
    intro σ z s c ei w1 w2 hT he0 hen hs0 hs1 hc0 hc1 hQ
    have ee1 : (ei + 1).toInt = ei.toInt + 1 := by rw [t_add (by omega), e1]
    rw [b_X12_drawn_53 (hd := by omega), if_neg (fun y => by have := ile.mp y; omega)]
    refine w_X12_beginIce hT.2.2.2 (fun f hf => ?_)
    show zwp X d MX12_drawn 66 _ [] _ Q
    have hF0 : zFr [83, 84, 86, 87] [(66, 37)] σ (si (sA σ 86 f) 66 37 0) := (zFr.rf.wA (by decide)).sf (by decide)
    have hT0 := hT.zfr hF0
    have h86 : IceAt ((si (sA σ 86 f) 66 37 0).1 86) I := by rw [c_si_ne (by decide), sA_1]; exact hf
    rw [b_X12_drawn_66]
    unfold evI at hQ
    refine lp_drawM (by omega) hR seed nm half s c ei mt hmt hm20 (if nt = 0 then 0 else mt) _ z 0 I w2 hT0 h86 hI (by omega) (fun q => by rw [if_pos q]) (fun q => by rw [if_neg (by omega)]; omega) (fun v k' τ w' hF hT2 hv hic => ?_)
    have cb := carries_nn (N 6 0) 0 (drawI N (gG V N (-1) nr) nt (if nt = 0 then 0 else mt) z I).2
    have es : (s + v).toInt = s.toInt + v.toInt := t_add (by omega)
    have hF1 := hF0.tr hF
    have hJ : IceR (drawI N (gG V N (-1) nr) nt (if nt = 0 then 0 else mt) z I).2 := by
      by_cases q : nt = 0
      · rw [if_pos q]; exact hI
      · exact drawI_R hR (by omega) _ _ _ hI
    rw [b_X12_drawn_154]
    refine w_X12_heaviestAt (by omega) hR hT2.1 (by rw [e0]; omega) hic hJ (fun u hu => ?_)
    rw [e0, Int.zero_mul, ← hv] at hu
    show zwp X d MX12_drawn 162 _ [.int u] (zen τ) Q
    rw [b_X12_drawn_162]
    rw [← hv] at hQ
    by_cases cc : u < 100
    · have := il.mp cc
      rw [if_pos cc]
      rw [if_pos (show v.toInt < 100 by omega)] at hQ
      refine ih τ _ _ _ (ei + 1) _ _ hT2 (by omega) (by omega) (by omega) (by omega) (by omega) (by omega) (fun u ρ f1 f2 f3 => hQ u ρ (hF1.tr f1) f2 ?_)
      rw [f3, es, Int.add_zero]
    · have := nil_ cc
      have ec : (c + 1).toInt = c.toInt + 1 := by rw [t_add (by omega), e1]
      rw [if_neg cc]
      rw [if_neg (show ¬ v.toInt < 100 by omega)] at hQ
      refine ih τ _ _ _ (ei + 1) _ _ hT2 (by omega) (by omega) (by omega) (by omega) (by omega) (by omega) (fun u ρ f1 f2 f3 => hQ u ρ (hF1.tr f1) f2 ?_)
      rw [f3, es, ec]
section DRAWN
variable {X : zX} {d : Nat} {b : Int} {σ τ : zS} {nr nt : Nat} {N : Nat → Nat → Int} {V : zV} {I : Nat → Int} {Q : Option Value → zH → Prop} {a w f : Int32}
def drBad (w f : Int) : Prop := ((w.tdiv 100 < 1 ∨ 30 < w.tdiv 100) ∨ w.tmod 100 < 1 ∨ 20 < w.tmod 100) ∨ f < 0 ∨ 1 < f
theorem t_d100 (w : Int32) : (w / 100).toInt = w.toInt.tdiv 100 ∧ (w - w / 100 * 100).toInt = w.toInt.tmod 100 := by
  have e100 : (100 : Int32).toInt = 100 := rfl
  constructor
  · rw [Int32.toInt_div_of_ne_right _ _ (by decide), e100]
  · rw [rem_toInt, e100]
theorem c_drawn (hd : 14 ≤ d) (h : RelP b σ nr nt N V I) (hQ1 : drBad w.toInt f.toInt → Q (some (.int (-1))) (zen σ)) (hQ2 : ¬ drBad w.toInt f.toInt → ∀ (x : Int32) (τ : zS), Cpost σ nr nt N V τ → x.toInt = half2 f.toInt (evI N (gG V N (-1) nr) nt (if nt = 0 then 0 else (w.toInt.tmod 100).toNat) I (w.toInt.tdiv 100).toNat a 0 0) → Q (some (.int x)) (zen τ)) : zwp X d MX11_drawn 0 [.ref 0, .int a, .int w, .int f, .null, .null] [] (zen σ) Q := by
  have hR := h.1.2.2
  have hI := h.2.2.2.1.2.2.1
  have hI0 := h.2.2.2.1.2.2.2
  have e0 := l0
  have e1 := l1
  have e20 : (20 : Int32).toInt = 20 := rfl
  have e30 : (30 : Int32).toInt = 30 := rfl
  have T := t_d100 w
  unfold drBad at hQ1 hQ2
  rw [b_X11_drawn_0 (hd := by omega)]
  by_cases x1 : w / 100 < 1
  · have := il.mp x1
    rw [if_pos x1]; exact hQ1 (by omega)
  · have y1 := nil_ x1
    rw [if_neg x1]
    by_cases x2 : 30 < w / 100
    · have := il.mp x2
      rw [if_pos x2]; exact hQ1 (by omega)
    · have y2 := nil_ x2
      rw [if_neg x2]
      by_cases x3 : w - w / 100 * 100 < 1
      · have := il.mp x3
        rw [if_pos x3]; exact hQ1 (by omega)
      · have y3 := nil_ x3
        rw [if_neg x3]
        by_cases x4 : 20 < w - w / 100 * 100
        · have := il.mp x4
          rw [if_pos x4]; exact hQ1 (by omega)
        · have y4 := nil_ x4
          rw [if_neg x4, t_half]
          by_cases x5 : f.toInt < 0 ∨ 1 < f.toInt
          · rw [if_pos x5, if_neg (fun y => y rfl)]; exact hQ1 (by omega)
          · rw [if_neg x5, if_pos (by decide)]
            have hQ := hQ2 (by omega)
            have G := h.1.1.getS (w := 9) (k := 9) rfl (by omega)
            have TB := ThB.of h
            rw [b_X10_drawnEvenings_0 (hd := by omega), ztrue_and G.1]
            have hn := h.1.1.2.1
            have fin : ∀ (v : Int32) (τ : zS), zFr [6, 14, 15, 16, 44] [(13, 5), (41, 5)] σ τ → ThB τ nr nt N V I → v.toInt = half2 f.toInt (evI N (gG V N (-1) nr) nt (if nt = 0 then 0 else (w.toInt.tmod 100).toNat) I (w.toInt.tdiv 100).toNat a 0 0) → zwp X d MX11_drawn 60 [.ref 0, .int a, .int w, .int f, .int (w / 100), .int (w - w / 100 * 100)] [.int v] (zen τ) Q := fun v τ f1 f2 f3 => by
              rw [b_X11_drawn_60]
              exact hQ v τ (Cpost.of (fr44 f1) f2.2.2.1 (f1.1 1 (by decide) 3 (by decide))) f3
            by_cases hn0 : nt = 0
            · rw [b_X10_drawnEvenings_24 (hd := by omega), if_neg (fun y => by have := ile.mp y; omega), if_pos (ile.mpr (by omega))]
              have ez := evI_0 (N := N) (G := gG V N (-1) nr) (nt := nt) (hI0 hn0) hR.long (w.toInt.tdiv 100).toNat a 0 0
              rw [if_pos hn0, ez] at fin
              unfold half2 at fin
              by_cases ch : f = 0
              · rw [if_neg (fun y => y ch)]
                exact fin 0 σ zFr.rf TB (by rw [if_pos (by rw [ch]; rfl)]; rfl)
              · rw [if_pos ch]
                exact fin 0 σ zFr.rf TB (by rw [if_neg (fun y => ch (ieq.mpr (by rw [y]; rfl)))]; rfl)
            · rw [if_neg hn0] at fin
              refine lp_evC (by omega) hR (by omega) hI a (w / 100) (w - w / 100 * 100) f _ G.2 (by omega) (by omega) (w.toInt.tdiv 100).toNat σ a 0 0 0 _ _ TB (by decide) (by omega) (by decide) (by decide) (by decide) (by decide) (fun v τ f1 f2 f3 => fin v τ f1 f2 ?_)
              rw [f3, T.2]; rfl
theorem m_drawn (hd : 14 ≤ d) (h : RelP b σ nr nt N V I) (hQ1 : drBad w.toInt f.toInt → Q (some (.int (-1))) (zen σ)) (hQ2 : ¬ drBad w.toInt f.toInt → ∀ (x : Int32) (τ : zS), Mpost σ τ → x.toInt = half2 f.toInt (evI N (gG V N (-1) nr) nt (if nt = 0 then 0 else (w.toInt.tmod 100).toNat) I (w.toInt.tdiv 100).toNat a 0 0) → Q (some (.int x)) (zen τ)) : zwp X d MX12_drawn 0 [.ref 66, .int a, .int w, .int f, .null, .null, .null, .null, .null, .null] [] (zen σ) Q := by
  have hR := h.1.2.2
  have hI := h.2.2.2.1.2.2.1
  have hI0 := h.2.2.2.1.2.2.2
  have e0 := l0
  have e1 := l1
  have e20 : (20 : Int32).toInt = 20 := rfl
  have e30 : (30 : Int32).toInt = 30 := rfl
  have z10 : ¬ (1 : Int32) = 0 := by decide
  have T := t_d100 w
  unfold drBad at hQ1 hQ2
  rw [b_X12_drawn_0 (hd := by omega)]
  by_cases x0 : w < 0
  · have := il.mp x0
    have : w.toInt.tdiv 100 ≤ 0 := by omega
    rw [if_pos x0]; exact hQ1 (by omega)
  · have y0 := nil_ x0
    rw [if_neg x0]
    by_cases x1 : (w / 100).toInt < (1 : Int32).toInt ∨ (30 : Int32).toInt < (w / 100).toInt
    · rw [t_in0 x1, if_pos rfl]; exact hQ1 (by omega)
    · rw [t_in1 x1, if_neg z10]
      by_cases x2 : (w - w / 100 * 100).toInt < (1 : Int32).toInt ∨ (20 : Int32).toInt < (w - w / 100 * 100).toInt
      · rw [t_in0 x2, if_pos rfl]; exact hQ1 (by omega)
      · rw [t_in1 x2, if_neg z10]
        by_cases x3 : f.toInt < (0 : Int32).toInt ∨ (1 : Int32).toInt < f.toInt
        · rw [t_in0 x3, if_neg (fun y => y rfl)]; exact hQ1 (by omega)
        · rw [t_in1 x3, if_pos z10]
          have hQ := hQ2 (by omega)
          refine lp_evM (by omega) hR hI hI0 a w f (w.toInt.tmod 100).toNat (by omega) (by omega) (by omega) (w.toInt.tdiv 100).toNat σ a 0 0 0 _ _ (ThN.of h) (by decide) (by omega) (by decide) (by decide) (by decide) (by decide) (fun v τ f1 f2 f3 => ?_)
          exact hQ v τ ⟨fr86 f1, f2.2.2.1⟩ f3
theorem o_drawn (hd : 20 ≤ d) {k : Nat} (h : Rel k σ) (a w f : Int32) : zOp k σ X d MX11_drawn MX12_drawn [.ref 0, .int a, .int w, .int f, .null, .null] [.ref 66, .int a, .int w, .int f, .null, .null, .null, .null, .null, .null] := by
  obtain ⟨nr, nt, N, V, I, h⟩ := h
  by_cases hb : drBad w.toInt f.toInt
  · exact zOp.think (val := -1) h (fun Q hQ => c_drawn (by omega) h (fun _ => hQ _ σ (Cpost.rf h) rfl) (fun q => absurd hb q)) (fun τ h2 hF Q hQ => m_drawn (by omega) h2 (fun _ => hQ _ τ (Mpost.rf h2) rfl) (fun q => absurd hb q))
  · exact zOp.think h (fun Q hQ => c_drawn (by omega) h (fun q => absurd q hb) (fun _ => hQ)) (fun τ h2 hF Q hQ => m_drawn (by omega) h2 (fun q => absurd q hb) (fun _ => hQ))
end DRAWN
