/-! the class' bridges -/
theorem mulb {a b A B : Int} (h1 : 0 ≤ a) (h2 : a ≤ A) (h3 : 0 ≤ b) (h4 : b ≤ B) : 0 ≤ a * b ∧ a * b ≤ A * B :=
  ⟨Int.mul_nonneg h1 h3, Int.le_trans (Int.mul_le_mul_of_nonneg_right h2 h3) (Int.mul_le_mul_of_nonneg_left h4 (Int.le_trans h1 h2))⟩
theorem zB_r {r : Nat} (h : zisB r = true) : r = 18 ∨ r = 21 ∨ r = 43 ∨ (49 ≤ r ∧ r ≤ 61) := by
  have h1 := (zB_1 h).2.2.1
  have : ∀ q, q < 99 → zisB q = true → (q = 18 ∨ q = 21 ∨ q = 43 ∨ (49 ≤ q ∧ q ≤ 61)) := by decide +kernel
  exact this r h1 h
theorem f_planks (σ : zS) : f_X5_planks σ = gi σ 2 48 := rfl
theorem f_thawOf (σ : zS) (m : Int32) : f_X5_thawOf σ m = m * gi σ 2 56 := rfl
theorem lp_X2_thaw {X : zX} {d : Nat} {Q : Option Value → zH → Prop} (r : Nat) (h : zisB r = true) (m loss planks : Int32) (hp : planks.toInt ≤ 16) : ∀ (n : Nat) (σ : zS) (f : Nat → Int32) (p : Int32), 0 ≤ p.toInt → p.toInt + n = planks.toInt → Q none (zen (sA σ (r + 1) (fun q => if p.toInt ≤ (q : Int) ∧ (q : Int) < planks.toInt then zmx 0 (f q - loss) else f q))) → zwp X d MX2_thaw 15 [.ref r, .int m, .ref 1, .int loss, .int planks, .int p] [] (zen (sA σ (r + 1) f)) Q := by
  intro n
  induction n with
  | zero =>
    intro σ f p h0 hn hQ
    rw [b_X2_thaw_15 (hl0 := h), if_pos (ile.mpr (by omega))]
    have e : (fun q : Nat => if p.toInt ≤ (q : Int) ∧ (q : Int) < planks.toInt then zmx 0 (f q - loss) else f q) = f := by
      funext q
      rw [if_neg (by omega)]
    rw [e] at hQ
    exact hQ
  | succ n ih =>
    intro σ f p h0 hn hQ
    have hz : zin p 16 = true := zin_of h0 (by omega)
    rw [b_X2_thaw_15 (hl0 := h), if_neg (fun q => by have := ile.mp q; omega), ztrue_and hz, ztrue_and hz, si_sA, gi_sA]
    have es : (p + 1).toInt = p.toInt + 1 := t_succ (by omega)
    refine ih σ _ (p + 1) (by omega) (by omega) ?_
    have e : (fun q : Nat => if (p + 1).toInt ≤ (q : Int) ∧ (q : Int) < planks.toInt then zmx 0 (upd f (ix p) (zmx 0 (f (ix p) - loss)) q - loss) else upd f (ix p) (zmx 0 (f (ix p) - loss)) q) = (fun q : Nat => if p.toInt ≤ (q : Int) ∧ (q : Int) < planks.toInt then zmx 0 (f q - loss) else f q) := by
      funext q
      have hix := ix_t p
      by_cases hq : q = ix p
      · rw [if_neg (by omega), if_pos (by omega), hq, upd_at]
      · rw [upd_ne _ _ hq]
        by_cases h2 : p.toInt ≤ (q : Int) ∧ (q : Int) < planks.toInt
        · rw [if_pos h2, if_pos (by omega)]
        · rw [if_neg h2, if_neg (by omega)]
    rw [e]
    exact hQ
theorem w_X2_thaw {X : zX} {d : Nat} {Q : Option Value → zH → Prop} (hd : 1 ≤ d) {σ : zS} {nr nt : Nat} {N : Nat → Nat → Int} {I : Nat → Int} {r : Nat} {m : Int32} (h : zisB r = true) (hH : HallC σ nr nt N) (hR : HallR nr nt N) (hI : IceAt (σ.1 (r + 1)) I) (hI2 : IceR I) (hm : 0 ≤ m.toInt ∧ m.toInt ≤ 100000)
    (hQ : ∀ f, IceAt f (thawI (N 6 0) (m.toInt * N 7 0) I) → Q none (zen (sA σ (r + 1) f))) : zwp X d MX2_thaw 0 [.ref r, .int m, .ref 1, .null, .null, .null] [] (zen σ) Q := by
  rw [b_X2_thaw_0 hd (h1 := h), f_planks, f_thawOf]
  have hl := hH.long
  have hw := hH.warm
  have bl := hR.long
  have bw := hR.warm
  have bm := mulb hm.1 hm.2 bw.1 bw.2
  have e1 : (m * gi σ 2 56).toInt = m.toInt * N 7 0 := by rw [t_mul (by rw [hw]; omega), hw]
  have e0 : (0 : Int32).toInt = 0 := rfl
  have := lp_X2_thaw (X := X) (d := d) (Q := Q) r h m (m * gi σ 2 56) (gi σ 2 48) (by omega) (N 6 0).toNat σ (σ.1 (r + 1)) 0 (by omega) (by omega)
  rw [sA_self] at this
  refine this (hQ _ ?_)
  intro p hp
  show Int32.toInt (if _ then _ else _) = _
  unfold thawI
  have b1 := hI p hp
  have b2 := hI2 p hp
  by_cases hc : (p : Int) < N 6 0
  · rw [if_pos (by omega), if_pos hc, t_zmx, t_sub (by rw [e1, b1]; omega), e1, b1, e0]
  · rw [if_neg (by omega), if_neg hc, b1]
theorem carI_ge {I : Nat → Int} {l : Int} (hl : 0 ≤ l ∧ l ≤ 100) (hI : IceR I) : ∀ n, n ≤ 16 → -1600 ≤ carI I l n ∧ carI I l n ≤ 999 := by
  intro n
  induction n with
  | zero => intro _; unfold carI; omega
  | succ n ih =>
    intro hn
    have h1 := ih (by omega)
    have h2 := hI n (by omega)
    have h3 := mulb hl.1 hl.2 (b := (n : Int)) (B := 16) (by omega) (by omega)
    unfold carI
    omega
theorem lp_X2_carries {X : zX} {d : Nat} {Q : Option Value → zH → Prop} {σ : zS} {I : Nat → Int} (r : Nat) (h : zisB r = true) (a planks l : Int32) (hI : IceAt (σ.1 (r + 1)) I) (hI2 : IceR I) (hp : planks.toInt ≤ 16) (hl : 0 ≤ l.toInt ∧ l.toInt ≤ 100) : ∀ (n : Nat) (p acc : Int32), 0 ≤ p.toInt → p.toInt + n = planks.toInt → acc.toInt = carI I l.toInt p.toInt.toNat → (∀ v : Int32, v.toInt = carries planks.toInt l.toInt I → Q (some (.int v)) (zen σ)) → zwp X d MX2_carries 20 [.ref r, .int a, .ref 1, .int planks, .int l, .int acc, .int p] [] (zen σ) Q := by
  intro n
  induction n with
  | zero =>
    intro p acc h0 hn ha hQ
    rw [b_X2_carries_20 (hl0 := h), if_pos (ile.mpr (by omega))]
    refine hQ _ ?_
    rw [t_zmx, ha]
    unfold carries
    have e0 : (0 : Int32).toInt = 0 := rfl
    rw [e0, show planks.toInt.toNat = p.toInt.toNat by omega]
  | succ n ih =>
    intro p acc h0 hn ha hQ
    have hz : zin p 16 = true := zin_of h0 (by omega)
    rw [b_X2_carries_20 (hl0 := h), if_neg (fun q => by have := ile.mp q; omega), ztrue_and hz]
    have es : (p + 1).toInt = p.toInt + 1 := t_succ (by omega)
    refine ih (p + 1) _ (by omega) (by omega) ?_ hQ
    have b1 : (gi σ (r + 1) (ix p)).toInt = I p.toInt.toNat := hI p.toInt.toNat (by omega)
    have b2 := hI2 p.toInt.toNat (by omega)
    have b3 := mulb hl.1 hl.2 (b := p.toInt) (B := 16) h0 (by omega)
    have e1 : (l * p).toInt = l.toInt * p.toInt := t_mul (by omega)
    have e2 : (p.toInt.toNat : Int) = p.toInt := by omega
    rw [es, show (p.toInt + 1).toNat = p.toInt.toNat + 1 by omega, t_zmn, ha, t_sub (by rw [b1, e1]; omega), b1, e1]
    show _ = min (carI I l.toInt p.toInt.toNat) (I p.toInt.toNat - l.toInt * (p.toInt.toNat : Int))
    rw [e2]
theorem w_X2_carries {X : zX} {d : Nat} {Q : Option Value → zH → Prop} (hd : 1 ≤ d) {σ : zS} {nr nt : Nat} {N : Nat → Nat → Int} {I : Nat → Int} {r : Nat} {a : Int32} (h : zisB r = true) (hH : HallC σ nr nt N) (hR : HallR nr nt N) (hI : IceAt (σ.1 (r + 1)) I) (hI2 : IceR I) (ha : 0 ≤ a.toInt ∧ a.toInt ≤ 9)
    (hQ : ∀ v : Int32, v.toInt = carries (N 6 0) (a.toInt * N 7 0) I → Q (some (.int v)) (zen σ)) : zwp X d MX2_carries 0 [.ref r, .int a, .ref 1, .null, .null, .null, .null] [] (zen σ) Q := by
  rw [b_X2_carries_0 hd (h1 := h), f_planks, f_thawOf]
  have hl := hH.long
  have hw := hH.warm
  have bl := hR.long
  have bw := hR.warm
  have bm := mulb ha.1 ha.2 bw.1 bw.2
  have e1 : (a * gi σ 2 56).toInt = a.toInt * N 7 0 := by rw [t_mul (by rw [hw]; omega), hw]
  have e0 : (0 : Int32).toInt = 0 := rfl
  refine lp_X2_carries r h a (gi σ 2 48) (a * gi σ 2 56) hI hI2 (by omega) (by omega) (N 6 0).toNat 0 999 (by omega) (by omega) rfl (fun v hv => hQ v ?_)
  rw [hv, hl, e1]
theorem lp_X2_fallsOn {X : zX} {d : Nat} {Q : Option Value → zH → Prop} {σ : zS} {I : Nat → Int} (r : Nat) (h : zisB r = true) (w a planks l : Int32) (hI : IceAt (σ.1 (r + 1)) I) (hI2 : IceR I) (hp : planks.toInt ≤ 16) (hl : 0 ≤ l.toInt ∧ l.toInt ≤ 100) : ∀ (n : Nat) (p : Int32), 0 ≤ p.toInt → p.toInt + n = planks.toInt → (∀ v : Int32, v.toInt = fallI I l.toInt w.toInt n p.toInt.toNat → Q (some (.int v)) (zen σ)) → zwp X d MX2_fallsOn 16 [.ref r, .int w, .int a, .ref 1, .int planks, .int l, .int p] [] (zen σ) Q := by
  intro n
  induction n with
  | zero =>
    intro p h0 hn hQ
    rw [b_X2_fallsOn_16 (hl0 := h), if_pos (ile.mpr (by omega))]
    exact hQ _ rfl
  | succ n ih =>
    intro p h0 hn hQ
    have hz : zin p 16 = true := zin_of h0 (by omega)
    rw [b_X2_fallsOn_16 (hl0 := h), if_neg (fun q => by have := ile.mp q; omega), ztrue_and hz]
    have es : (p + 1).toInt = p.toInt + 1 := t_succ (by omega)
    have e0 : (0 : Int32).toInt = 0 := rfl
    have b1 : (gi σ (r + 1) (ix p)).toInt = I p.toInt.toNat := hI p.toInt.toNat (by omega)
    have b2 := hI2 p.toInt.toNat (by omega)
    have b3 := mulb hl.1 hl.2 (b := p.toInt) (B := 16) h0 (by omega)
    have e1 : (l * p).toInt = l.toInt * p.toInt := t_mul (by omega)
    have e2 : (p.toInt.toNat : Int) = p.toInt := by omega
    have e3 : (zmx 0 (gi σ (r + 1) (ix p) - l * p)).toInt = max 0 (I p.toInt.toNat - l.toInt * (p.toInt.toNat : Int)) := by
      rw [t_zmx, t_sub (by rw [b1, e1]; omega), b1, e1, e0, e2]
    unfold fallI at hQ
    by_cases hc : max 0 (I p.toInt.toNat - l.toInt * (p.toInt.toNat : Int)) < w.toInt
    · rw [if_neg (fun q => by have := ile.mp q; rw [e3] at this; omega)]
      refine hQ p ?_
      rw [if_pos hc]; omega
    · rw [if_pos (ile.mpr (by rw [e3]; omega))]
      refine ih (p + 1) (by omega) (by omega) (fun v hv => hQ v ?_)
      rw [if_neg hc, hv, es, show (p.toInt + 1).toNat = p.toInt.toNat + 1 by omega]
theorem w_X2_fallsOn {X : zX} {d : Nat} {Q : Option Value → zH → Prop} (hd : 1 ≤ d) {σ : zS} {nr nt : Nat} {N : Nat → Nat → Int} {I : Nat → Int} {r : Nat} {w a : Int32} (h : zisB r = true) (hH : HallC σ nr nt N) (hR : HallR nr nt N) (hI : IceAt (σ.1 (r + 1)) I) (hI2 : IceR I) (ha : 0 ≤ a.toInt ∧ a.toInt ≤ 9)
    (hQ : ∀ v : Int32, v.toInt = falls (N 6 0) (a.toInt * N 7 0) w.toInt I → Q (some (.int v)) (zen σ)) : zwp X d MX2_fallsOn 0 [.ref r, .int w, .int a, .ref 1, .null, .null, .null] [] (zen σ) Q := by
  rw [b_X2_fallsOn_0 hd (h1 := h), f_planks, f_thawOf]
  have hl := hH.long
  have hw := hH.warm
  have bl := hR.long
  have bw := hR.warm
  have bm := mulb ha.1 ha.2 bw.1 bw.2
  have e1 : (a * gi σ 2 56).toInt = a.toInt * N 7 0 := by rw [t_mul (by rw [hw]; omega), hw]
  have e0 : (0 : Int32).toInt = 0 := rfl
  refine lp_X2_fallsOn r h w a (gi σ 2 48) (a * gi σ 2 56) hI hI2 (by omega) (by omega) (N 6 0).toNat 0 (by omega) (by omega) (fun v hv => hQ v ?_)
  rw [hv, e1]
  rfl
theorem lp_X2_thinnest {X : zX} {d : Nat} {Q : Option Value → zH → Prop} {σ : zS} {I : Nat → Int} (r : Nat) (h : zisB r = true) (planks : Int32) (hI : IceAt (σ.1 (r + 1)) I) (hp : planks.toInt ≤ 16) : ∀ (n : Nat) (p b : Int32), 0 ≤ p.toInt → p.toInt + n = planks.toInt → 0 ≤ b.toInt → b.toInt < 16 → (∀ v : Int32, v.toInt = thinI I n p.toInt.toNat b.toInt.toNat → Q (some (.int v)) (zen σ)) → zwp X d MX2_thinnest 10 [.ref r, .ref 1, .int planks, .int b, .int p] [] (zen σ) Q := by
  intro n
  induction n with
  | zero =>
    intro p b h0 hn hb0 hb1 hQ
    rw [b_X2_thinnest_10 (hl0 := h), if_pos (ile.mpr (by omega))]
    refine hQ _ ?_
    unfold thinI; omega
  | succ n ih =>
    intro p b h0 hn hb0 hb1 hQ
    have hz : zin p 16 = true := zin_of h0 (by omega)
    have hz2 : zin b 16 = true := zin_of hb0 (by omega)
    rw [b_X2_thinnest_10 (hl0 := h), if_neg (fun q => by have := ile.mp q; omega), ztrue_and hz, ztrue_and hz2]
    have es : (p + 1).toInt = p.toInt + 1 := t_succ (by omega)
    have b1 : (gi σ (r + 1) (ix p)).toInt = I p.toInt.toNat := hI p.toInt.toNat (by omega)
    have b2 : (gi σ (r + 1) (ix b)).toInt = I b.toInt.toNat := hI b.toInt.toNat (by omega)
    unfold thinI at hQ
    by_cases hc : I p.toInt.toNat < I b.toInt.toNat
    · rw [if_neg (fun q => by have := ile.mp q; omega)]
      refine ih (p + 1) p (by omega) (by omega) h0 (by omega) (fun v hv => hQ v ?_)
      rw [if_pos hc, hv, es, show (p.toInt + 1).toNat = p.toInt.toNat + 1 by omega]
    · rw [if_pos (ile.mpr (by omega))]
      refine ih (p + 1) b (by omega) (by omega) hb0 hb1 (fun v hv => hQ v ?_)
      rw [if_neg hc, hv, es, show (p.toInt + 1).toNat = p.toInt.toNat + 1 by omega]
theorem w_X2_thinnest {X : zX} {d : Nat} {Q : Option Value → zH → Prop} (hd : 1 ≤ d) {σ : zS} {nr nt : Nat} {N : Nat → Nat → Int} {I : Nat → Int} {r : Nat} (h : zisB r = true) (hH : HallC σ nr nt N) (hR : HallR nr nt N) (hI : IceAt (σ.1 (r + 1)) I)
    (hQ : ∀ v : Int32, v.toInt = thinnest (N 6 0) I → Q (some (.int v)) (zen σ)) : zwp X d MX2_thinnest 0 [.ref r, .ref 1, .null, .null, .null] [] (zen σ) Q := by
  rw [b_X2_thinnest_0 hd (h1 := h), f_planks]
  have hl := hH.long
  have bl := hR.long
  have e0 : (0 : Int32).toInt = 0 := rfl
  have e1 : (1 : Int32).toInt = 1 := rfl
  refine lp_X2_thinnest r h (gi σ 2 48) hI (by omega) ((N 6 0).toNat - 1) 1 0 (by omega) (by omega) (by omega) (by omega) (fun v hv => hQ v ?_)
  rw [hv]
  rfl
theorem thinI_lt {I : Nat → Int} : ∀ (n p b : Nat), b < 16 → p + n ≤ 16 → thinI I n p b < 16 := by
  intro n
  induction n with
  | zero => intro p b hb _; exact hb
  | succ n ih =>
    intro p b hb hp
    unfold thinI
    split
    · exact ih _ _ (by omega) (by omega)
    · exact ih _ _ hb (by omega)
