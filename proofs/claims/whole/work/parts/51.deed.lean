/-! evenings in deed -/
theorem thin_carries {J : Nat → Int} (hJ : IceR J) : ∀ (n p b : Nat), b < 16 → p + n ≤ 16 → J b = carI J 0 p → J (thinI J n p b) = carI J 0 (p + n) := by
  intro n
  induction n with
  | zero => intro p b _ _ h; exact h
  | succ n ih =>
    intro p b hb hp h
    unfold thinI
    have e : carI J 0 (p + 1) = min (carI J 0 p) (J p - 0 * p) := rfl
    rw [Int.zero_mul] at e
    by_cases c : J p < J b
    · rw [if_pos c, ih (p + 1) p (by omega) (by omega) (by rw [e]; omega), show p + 1 + n = p + (n + 1) by omega]
    · rw [if_neg c, ih (p + 1) b hb (by omega) (by rw [e]; omega), show p + 1 + n = p + (n + 1) by omega]
theorem carries_thin {J : Nat → Int} {long : Int} (hJ : IceR J) (hl : 2 ≤ long ∧ long ≤ 16) : carries long 0 J = J (thinnest long J) := by
  have h0 := hJ 0 (by omega)
  have h1 : J 0 = carI J 0 1 := by
    have e : carI J 0 1 = min 999 (J 0 - 0 * (0 : Nat)) := rfl
    rw [Int.zero_mul] at e
    omega
  have := thin_carries hJ (long.toNat - 1) 1 0 (by omega) (by omega) h1
  have hlt := thinnest_lt hl J
  have hb := hJ _ hlt
  unfold thinnest at *
  unfold carries
  rw [this, show 1 + (long.toNat - 1) = long.toNat by omega] at *
  omega
theorem lp_X12_become {X : zX} {d : Nat} {Q : Option Value → zH → Prop} (hd : 1 ≤ d) {nr nt : Nat} {N : Nat → Nat → Int} {J : Nat → Int} (hR : HallR nr nt N) : ∀ (n : Nat) (σ : zS) (f : Nat → Int32) (p : Int32), HallM σ nr nt N → IceAt (σ.1 86) J → 0 ≤ p.toInt → p.toInt + n = 16 → (∀ q : Nat, (q : Int) < p.toInt → (f q).toInt = J q) → (∀ (v : Int32) (g : Nat → Int32), IceAt g J → v.toInt = J (thinnest (N 6 0) J) → Q (some (.int v)) (zen (si (sA σ 85 g) 90 4 (gi σ 90 4 + gi σ 66 37)))) → zwp X d MX12_become 2 [.ref 66, .int p] [] (zen (sA σ 85 f)) Q := by
  have e16 := l16
  have hl := hR.long
  intro n
  induction n with
  | zero =>
    intro σ f p hH hI h0 hn hf hQ
    have i4 : ix 4 = 4 := rfl
    have hlt := thinnest_lt (long := N 6 0) (by omega) J
    rw [b_X12_become_2 (hd := hd), if_pos (ile.mpr (by omega)), i4]
    refine w_X12_thinnest (nr := nr) (nt := nt) (N := N) (J := J) hR (hH.fr (fun q h1 h2 => by rw [c_si_ne (by omega), c_sA_ne (by omega)]) (fun j _ => rfl)) hI (fun v hv => ?_)
    show zwp X d MX12_become 47 _ [.int v, .ref 86] _ Q
    have z : zin v 16 = true := zin_of (by omega) (by omega)
    rw [b_X12_become_47, ztrue_and z]
    have iv : ix v = thinnest (N 6 0) J := by rw [ix_t, hv]; rfl
    refine hQ _ f (fun q hq => hf q (by omega)) ?_
    rw [iv]
    exact hI _ hlt
  | succ n ih =>
    intro σ f p hH hI h0 hn hf hQ
    have hz : zin p 16 = true := zin_of h0 (by omega)
    have hix := ix_t p
    have es : (p + 1).toInt = p.toInt + 1 := t_succ (by omega)
    rw [b_X12_become_2 (hd := hd), if_neg (fun q => by have := ile.mp q; omega), ztrue_and hz, ztrue_and hz, si_sA]
    refine ih σ _ (p + 1) hH hI (by omega) (by omega) (fun q hq => ?_) hQ
    by_cases e : q = ix p
    · rw [e, upd_at]; exact hI (ix p) (by omega)
    · rw [upd_ne _ _ e]; exact hf q (by omega)
theorem w_X12_become {X : zX} {d : Nat} {Q : Option Value → zH → Prop} (hd : 1 ≤ d) {σ : zS} {nr nt : Nat} {N : Nat → Nat → Int} {J : Nat → Int} (hR : HallR nr nt N) (hH : HallM σ nr nt N) (hI : IceAt (σ.1 86) J) (hQ : ∀ (v : Int32) (g : Nat → Int32), IceAt g J → v.toInt = J (thinnest (N 6 0) J) → Q (some (.int v)) (zen (si (sA σ 85 g) 90 4 (gi σ 90 4 + gi σ 66 37)))) : zwp X d MX12_become 0 [.ref 66, .null] [] (zen σ) Q := by
  have e0 := l0
  rw [b_X12_become_0]
  have := lp_X12_become (X := X) (d := d) (Q := Q) hd hR 16 σ (σ.1 85) 0 hH hI (by omega) (by omega) (fun q hq => by omega) hQ
  rw [sA_self] at this
  exact this
theorem RelP.deed {b : Int} {σ τ ρ : zS} {nr nt : Nat} {N : Nat → Nat → Int} {V : zV} {I J : Nat → Int} (h : RelP b σ nr nt N V I) (hF1 : zFr [6, 14, 15, 16, 19, 20] [(13, 5)] σ τ) (hC : CacheC τ nr nt N V (-1)) (hF2 : zFr [83, 84, 85, 86, 87, 90] [(66, 37)] τ ρ) (hI1 : IceAt (τ.1 19) J) (hI2 : IceAt (ρ.1 85) J) (hJ : IceR J) (hJ0 : nt = 0 → ∀ p, p < 16 → J p = 0) (hl : ∀ j, j < 5 → gi τ 20 j = gi ρ 90 j) : RelP b ρ nr nt N V J := by
  obtain ⟨h1, h2, h3, h4, h5, h6, h7, h8, h9⟩ := h
  have hFF : zFr [6, 14, 15, 16, 19, 20, 83, 84, 85, 86, 87, 90] [(13, 5), (66, 37)] σ ρ := (hF1.sub (by decide) (by decide)).tr (hF2.sub (by decide) (by decide))
  have e13 : gi ρ 1 3 = gi σ 1 3 := hFF.1 1 (by decide) 3 (by decide)
  refine ⟨h1.zfr hFF (by decide), h2.zfr hFF (by decide), ⟨hC.fr (hF2.c (by decide) (by decide)) (hF2.c (by decide) (by decide)) (hF2.c (by decide) (by decide)) (hF2.1 1 (by decide) 3 (by decide)), by rw [e13]; exact h3.2.1, by rw [e13]; exact h3.2.2.1, by rw [hFF.1 66 (by decide) 36 (by decide)]; exact h3.2.2.2⟩, ⟨?_, hI2, hJ, hJ0⟩, ⟨?_, ?_, fun j hj => ⟨?_, ?_⟩⟩, h6.zfr hFF (by decide), h7.zfr hFF (by decide), h8.zfr hFF (by decide), h9.zfr hFF (by decide)⟩
  · rw [hF2.c (by decide) (by decide)]; exact hI1
  · rw [hFF.c (k := 22) (by decide) (by decide), hFF.c (k := 91) (by decide) (by decide)]; exact h5.1
  · rw [hFF.1 17 (by decide) 4 (by decide), hFF.1 66 (by decide) 46 (by decide)]; exact h5.2.1
  · rw [hF2.1 20 (by decide) j (by simp)]; exact hl j hj
  · rw [hFF.1 23 (by decide) j (by simp), hFF.1 92 (by decide) j (by simp)]; exact (h5.2.2 j hj).2
theorem led2 {σ : zS} {m : Int32} {q : Nat} (hq : q < 4) (c : Nat) (j : Nat) : gi (si (si σ c 4 m) c q (gi (si σ c 4 m) c q + 1)) c j = if j = q then gi σ c q + 1 else if j = 4 then m else gi σ c j := by
  have a1 : gi (si σ c 4 m) c q = gi σ c q := gi_si_j (by omega)
  rw [a1]
  by_cases e : j = q
  · rw [e, gi_si, if_pos rfl]
  · rw [gi_si_j e, if_neg e]
    by_cases e4 : j = 4
    · rw [e4, gi_si, if_pos rfl]
    · rw [gi_si_j e4, if_neg e4]
theorem mled {τ3 : zS} {g : Nat → Int32} {q : Nat} (hq : q < 4) (j : Nat) : gi (si (sA (si τ3 90 q (gi τ3 90 q + 1)) 85 g) 90 4 (gi (si τ3 90 q (gi τ3 90 q + 1)) 90 4 + gi (si τ3 90 q (gi τ3 90 q + 1)) 66 37)) 90 j = if j = 4 then gi τ3 90 4 + gi τ3 66 37 else if j = q then gi τ3 90 q + 1 else gi τ3 90 j := by
  have a1 : gi (si τ3 90 q (gi τ3 90 q + 1)) 90 4 = gi τ3 90 4 := gi_si_j (by omega)
  have a2 : gi (si τ3 90 q (gi τ3 90 q + 1)) 66 37 = gi τ3 66 37 := gi_si_ne (by decide)
  rw [a1, a2]
  by_cases e4 : j = 4
  · rw [e4, gi_si, if_pos rfl]
  · rw [gi_si_j e4, gi_sA_ne (by decide), if_neg e4]
    by_cases ez : j = q
    · rw [ez, gi_si, if_pos rfl]
    · rw [gi_si_j ez, if_neg ez]
section DEED
variable {X : zX} {d : Nat} {σ : zS} {k : Nat}
theorem o_play (hd : 20 ≤ d) (h : Rel k σ) (a : Int32) : zOp k σ X d MX11_play MX12_play [.ref 0, .int a] [.ref 66, .int a] := by
  have hn : Rel (k + 1) σ := by obtain ⟨nr, nt, N, V, I, h⟩ := h; exact h.next
  obtain ⟨nr, nt, N, V, I, h⟩ := h
  have hR := h.1.2.2
  have h8 := hR.2.1
  have hl := hR.long
  have hI2 := h.2.2.2.1.2.2.1
  have e0 := l0
  have e1 := l1
  have g2 := h.1.1.2.1
  have g6 := h.1.2.1.2.1
  have z10 : ¬ (1 : Int32) = 0 := by decide
  have et : (gi σ 66 6 - 1).toInt = nt - 1 := by rw [t_sub (by omega), g6, e1]
  by_cases ca : 0 ≤ a.toInt ∧ a.toInt < nt
  · unfold zOp
    rw [b_X11_play_0 (hd := by omega), if_neg (fun q => by have := il.mp q; omega), if_pos (il.mpr (by omega))]
    refine w_X0_step (by omega) (V := V) (lo := -1) (I := I) hR zB_18 h.1.1 h.2.1.1 h.2.2.1.1 h.2.2.2.1.1 hI2 (Or.inr ca) (fun v τ hF hC hic hv => ?_)
    have ok : a.toInt = 20 ∨ (0 ≤ a.toInt ∧ a.toInt < nt) := Or.inr ca
    have hJ := stepI_R (G := gG V N (-1) nr) hR ok hI2
    have n20 : ¬ a.toInt = 20 := by omega
    have ev : v = Int32.ofInt (N 5 a.toInt.toNat) := by
      refine of_t ?_
      rw [hv]; unfold minI; rw [if_neg n20]
    show zwp X d MX11_play 42 _ [.int v, .int (gi σ 20 (ix 4)), .int 4, .ref 20] (zen τ) _
    have i4 : ix 4 = 4 := rfl
    have i0 : ix 0 = 0 := rfl
    have hF' : zFr [6, 14, 15, 16, 19] [(13, 5)] σ τ := hF
    have c20 : ∀ j, gi τ 20 j = gi σ 20 j := fun j => hF'.1 20 (by decide) j (by simp)
    rw [b_X11_play_42 (hd := by omega), ztrue_and (by decide), i4, i0]
    generalize hτ1 : si (si τ 20 4 (gi σ 20 4 + v)) 20 0 (gi (si τ 20 4 (gi σ 20 4 + v)) 20 0 + 1) = τ1
    have hF1 : zFr [6, 14, 15, 16, 19, 20] [(13, 5)] σ τ1 := by rw [← hτ1]; exact ((hF'.sub (by decide) (by decide)).ws (by decide)).ws (by decide)
    have hH1 : HallC τ1 nr nt N := h.1.1.fr (hF1.c (by decide) (by decide)) (hF1.c (by decide) (by decide))
    have hic1 : IceAt (τ1.1 19) (stepI N (gG V N (-1) nr) a.toInt I) := by rw [← hτ1]; exact hic
    have hC1 : CacheC τ1 nr nt N V (-1) := by rw [← hτ1]; exact hC.fr rfl rfl rfl rfl
    have l20 : ∀ j, gi τ1 20 j = if j = 0 then gi σ 20 0 + 1 else if j = 4 then gi σ 20 4 + v else gi σ 20 j := fun j => by rw [← hτ1, led2 (by omega), c20, c20]
    refine w_X2_carries (by omega) zB_18 hH1 hR hic1 hJ (by omega) (fun x hx => ?_)
    rw [e0, Int.zero_mul] at hx
    replace hx : x.toInt = carries (N 6 0) 0 (stepI N (gG V N (-1) nr) a.toInt I) := hx
    show zwp X d MX11_play 72 _ [.int x] (zen τ1) _
    rw [b_X11_play_72]
    refine ⟨x, τ1, rfl, rfl, ?_⟩
    have hM1 : HallM τ1 nr nt N := h.1.2.1.zfr hF1 (by decide) (by decide)
    have hL1 : LawM τ1 V := h.2.1.2.zfr hF1 (by decide) (by decide)
    have m36 : (gi τ1 66 36).toInt = -1 := by rw [hF1.1 66 (by decide) 36 (by decide)]; exact h.2.2.1.2.2.2
    have et1 : (gi τ1 66 6 - 1).toInt = nt - 1 := by rw [hF1.1 66 (by decide) 6 (by decide)]; exact et
    have hT : f_X12_isTurn τ1 a = 1 := by unfold f_X12_isTurn; exact t_in1 (by omega)
    rw [b_X12_play_0 (hd := by omega), hT, if_pos z10]
    refine w_X12_beginIce (I := I) (by rw [hF1.c (by decide) (by decide)]; exact h.2.2.2.1.2.1) (fun f hf => ?_)
    show zwp X d MX12_play 14 _ [] _ _
    rw [b_X12_play_14 (hd := by omega)]
    generalize hτ2 : si (sA τ1 86 f) 66 37 0 = τ2
    have hF2 : zFr [83, 84, 85, 86, 87, 90] [(66, 37)] τ1 τ2 := by rw [← hτ2]; exact (zFr.rf.wA (by decide)).sf (by decide)
    refine w_X12_goTurn (by omega) (V := V) (lo := -1) (I := I) (t := a.toInt.toNat) hR (hM1.zfr hF2 (by decide) (by decide)) (hL1.zfr hF2 (by decide) (by decide)) (by rw [hF2.1 66 (by decide) 36 (by decide)]; exact m36) (by rw [← hτ2]; exact hf) hI2 (by omega) (by omega) (fun τ3 hF3 hic3 hm3 => ?_)
    have est : clapI (N 6 0) (fun p i => gainR V N (-1) a.toInt.toNat p i nr 0) (thawI (N 6 0) (N 5 a.toInt.toNat * N 7 0) I) = stepI N (gG V N (-1) nr) a.toInt I := by unfold stepI; rw [if_neg n20]
    rw [est] at hic3
    show zwp X d MX12_play 19 _ [] (zen τ3) _
    rw [b_X12_play_19 (hd := by omega), i0]
    have hF23 : zFr [83, 84, 85, 86, 87, 90] [(66, 37)] τ1 (si τ3 90 0 (gi τ3 90 0 + 1)) := (hF2.tr (hF3.sub (by decide) (by decide))).ws (by decide)
    refine w_X12_become (by omega) hR (hM1.zfr hF23 (by decide) (by decide)) hic3 (fun y g hg hy => ?_)
    show zwp X d MX12_play 33 _ [.int y] _ _
    rw [b_X12_play_33]
    have hFr : zFr [83, 84, 85, 86, 87, 90] [(66, 37)] τ1 (si (sA (si τ3 90 0 (gi τ3 90 0 + 1)) 85 g) 90 4 (gi (si τ3 90 0 (gi τ3 90 0 + 1)) 90 4 + gi (si τ3 90 0 (gi τ3 90 0 + 1)) 66 37)) := (hF23.wA (by decide)).ws (by decide)
    refine ⟨by rw [ieq.mpr (hy.trans ((carries_thin hJ (by omega)).symm.trans hx.symm))], _, rfl, nr, nt, N, V, _, (h.deed hF1 hC1 hFr hic1 ?_ hJ (fun q => by omega) (fun j hj => ?_)).up (by rw [Int.natCast_add]; omega)⟩
    · rw [c_si_ne (by decide), sA_1]; exact hg
    · have c90 : ∀ j, gi τ3 90 j = gi σ 90 j := fun j => (hF3.1 90 (by decide) j (by simp)).trans (by rw [← hτ2]; exact hF1.1 90 (by decide) j (by simp))
      have m37 : gi τ3 66 37 = Int32.ofInt (N 5 a.toInt.toNat) := by rw [hm3, ← hτ2, gi_si, Int32.zero_add]
      have hl5 := h.2.2.2.2.1.2.2
      rw [l20 j]
      have r90 : gi (si (sA (si τ3 90 0 (gi τ3 90 0 + 1)) 85 g) 90 4 (gi (si τ3 90 0 (gi τ3 90 0 + 1)) 90 4 + gi (si τ3 90 0 (gi τ3 90 0 + 1)) 66 37)) 90 j = if j = 4 then gi σ 90 4 + v else if j = 0 then gi σ 90 0 + 1 else gi σ 90 j := by
        rw [mled (by omega), c90, c90, c90, m37, ev]
      rw [r90]
      by_cases e4 : j = 4
      · rw [if_neg (by omega), if_pos e4, if_pos e4, (hl5 4 (by omega)).1]
      · rw [if_neg e4, if_neg e4]
        by_cases ez : j = 0
        · rw [if_pos ez, if_pos ez, (hl5 0 (by omega)).1]
        · rw [if_neg ez, if_neg ez, (hl5 j hj).1]
  · refine zOp.same hn (x := -1) (fm := -1) (fun Q => ?_) (fun Q => ?_) rfl
    · rw [b_X11_play_0 (hd := by omega)]
      by_cases c1 : a < 0
      · rw [if_pos c1]
      · have := nil_ c1
        rw [if_neg c1, if_neg (fun q => by have := il.mp q; omega)]
    · have hT : f_X12_isTurn σ a = 0 := by unfold f_X12_isTurn; exact t_in0 (by omega)
      rw [b_X12_play_0 (hd := by omega), hT, if_neg (fun q => q rfl)]
theorem o_interval (hd : 20 ≤ d) (h : Rel k σ) : zOp k σ X d MX11_interval MX12_interval [.ref 0] [.ref 66] := by
  obtain ⟨nr, nt, N, V, I, h⟩ := h
  have hR := h.1.2.2
  have hl := hR.long
  have hr := hR.rest
  have hw := hR.warm
  have hI2 := h.2.2.2.1.2.2.1
  have e0 := l0
  have e20 : (20 : Int32).toInt = 20 := rfl
  unfold zOp
  rw [b_X11_interval_0 (hd := by omega)]
  refine w_X0_step (by omega) (V := V) (lo := -1) (I := I) hR zB_18 h.1.1 h.2.1.1 h.2.2.1.1 h.2.2.2.1.1 hI2 (Or.inl e20) (fun v τ hF hC hic hv => ?_)
  have est : stepI N (gG V N (-1) nr) (Int32.toInt 20) I = thawI (N 6 0) (N 8 0 * N 7 0) I := by unfold stepI; rw [if_pos e20]
  have hic' : IceAt (τ.1 19) (thawI (N 6 0) (N 8 0 * N 7 0) I) := by rw [← est]; exact hic
  have hJ : IceR (thawI (N 6 0) (N 8 0 * N 7 0) I) := thawI_R (mulb (by omega) hr.2 hw.1 hw.2).1 hI2
  have ev : v = Int32.ofInt (N 8 0) := by
    refine of_t ?_
    rw [hv]; unfold minI; rw [if_pos e20]
  show zwp X d MX11_interval 26 _ [.int v, .int (gi σ 20 (ix 4)), .int 4, .ref 20] (zen τ) _
  have i4 : ix 4 = 4 := rfl
  have i1 : ix 1 = 1 := rfl
  have hF' : zFr [6, 14, 15, 16, 19] [(13, 5)] σ τ := hF
  have c20 : ∀ j, gi τ 20 j = gi σ 20 j := fun j => hF'.1 20 (by decide) j (by simp)
  rw [b_X11_interval_26 (hd := by omega), ztrue_and (by decide), i4, i1]
  generalize hτ1 : si (si τ 20 4 (gi σ 20 4 + v)) 20 1 (gi (si τ 20 4 (gi σ 20 4 + v)) 20 1 + 1) = τ1
  have hF1 : zFr [6, 14, 15, 16, 19, 20] [(13, 5)] σ τ1 := by rw [← hτ1]; exact ((hF'.sub (by decide) (by decide)).ws (by decide)).ws (by decide)
  have hH1 : HallC τ1 nr nt N := h.1.1.fr (hF1.c (by decide) (by decide)) (hF1.c (by decide) (by decide))
  have hic1 : IceAt (τ1.1 19) (thawI (N 6 0) (N 8 0 * N 7 0) I) := by rw [← hτ1]; exact hic'
  have hC1 : CacheC τ1 nr nt N V (-1) := by rw [← hτ1]; exact hC.fr rfl rfl rfl rfl
  have l20 : ∀ j, gi τ1 20 j = if j = 1 then gi σ 20 1 + 1 else if j = 4 then gi σ 20 4 + v else gi σ 20 j := fun j => by rw [← hτ1, led2 (by omega), c20, c20]
  refine w_X2_carries (by omega) zB_18 hH1 hR hic1 hJ (by omega) (fun x hx => ?_)
  rw [e0, Int.zero_mul] at hx
  show zwp X d MX11_interval 56 _ [.int x] (zen τ1) _
  rw [b_X11_interval_56]
  refine ⟨x, τ1, rfl, rfl, ?_⟩
  have hM1 : HallM τ1 nr nt N := h.1.2.1.zfr hF1 (by decide) (by decide)
  rw [b_X12_interval_0 (hd := by omega)]
  refine w_X12_beginIce (I := I) (by rw [hF1.c (by decide) (by decide)]; exact h.2.2.2.1.2.1) (fun f hf => ?_)
  show zwp X d MX12_interval 4 _ [] _ _
  rw [b_X12_interval_4 (hd := by omega)]
  generalize hτ2 : si (sA τ1 86 f) 66 37 0 = τ2
  have hF2 : zFr [83, 84, 85, 86, 87, 90] [(66, 37)] τ1 τ2 := by rw [← hτ2]; exact (zFr.rf.wA (by decide)).sf (by decide)
  have hM2 : HallM τ2 nr nt N := hM1.zfr hF2 (by decide) (by decide)
  have m11 := hM2.2.2.2.2.2.2.1
  refine w_X12_thaw (by omega) (I := I) hR hM2 (by rw [← hτ2]; exact hf) hI2 (by omega) (fun g hg => ?_)
  rw [m11] at hg
  show zwp X d MX12_interval 12 _ [] _ _
  rw [b_X12_interval_12 (hd := by omega), i1]
  generalize hτ3 : si (sA τ2 86 g) 66 37 (gi τ2 66 37 + gi τ2 66 11) = τ3
  have hF3 : zFr [83, 84, 85, 86, 87, 90] [(66, 37)] τ1 τ3 := by rw [← hτ3]; exact (hF2.wA (by decide)).sf (by decide)
  have hF23 : zFr [83, 84, 85, 86, 87, 90] [(66, 37)] τ1 (si τ3 90 1 (gi τ3 90 1 + 1)) := hF3.ws (by decide)
  have hic3 : IceAt ((si τ3 90 1 (gi τ3 90 1 + 1)).1 86) (thawI (N 6 0) (N 8 0 * N 7 0) I) := by rw [← hτ3]; exact hg
  refine w_X12_become (by omega) hR (hM1.zfr hF23 (by decide) (by decide)) hic3 (fun y g2 hg2 hy => ?_)
  show zwp X d MX12_interval 26 _ [.int y] _ _
  rw [b_X12_interval_26]
  have hFr : zFr [83, 84, 85, 86, 87, 90] [(66, 37)] τ1 (si (sA (si τ3 90 1 (gi τ3 90 1 + 1)) 85 g2) 90 4 (gi (si τ3 90 1 (gi τ3 90 1 + 1)) 90 4 + gi (si τ3 90 1 (gi τ3 90 1 + 1)) 66 37)) := (hF23.wA (by decide)).ws (by decide)
  refine ⟨by rw [ieq.mpr (hy.trans ((carries_thin hJ (by omega)).symm.trans hx.symm))], _, rfl, nr, nt, N, V, _, (h.deed hF1 hC1 hFr hic1 ?_ hJ (fun q p hp => ?_) (fun j hj => ?_)).up (by rw [Int.natCast_add]; omega)⟩
  · rw [c_si_ne (by decide), sA_1]; exact hg2
  · have := h.2.2.2.1.2.2.2 q p hp
    have hm := mulb (by omega : (0 : Int) ≤ N 8 0) hr.2 hw.1 hw.2
    unfold thawI
    rw [this]
    split
    · omega
    · rfl
  · have c90 : ∀ j, gi τ3 90 j = gi σ 90 j := fun j => by rw [← hτ3, gi_si_ne (by decide), gi_sA_ne (by decide), ← hτ2, gi_si_ne (by decide), gi_sA_ne (by decide)]; exact hF1.1 90 (by decide) j (by simp)
    have m37 : gi τ3 66 37 = Int32.ofInt (N 8 0) := by
      rw [← hτ3, gi_si, of_t m11]
      have : gi τ2 66 37 = 0 := by rw [← hτ2, gi_si]
      rw [this, Int32.zero_add]
    have hl5 := h.2.2.2.2.1.2.2
    rw [l20 j]
    have r90 : gi (si (sA (si τ3 90 1 (gi τ3 90 1 + 1)) 85 g2) 90 4 (gi (si τ3 90 1 (gi τ3 90 1 + 1)) 90 4 + gi (si τ3 90 1 (gi τ3 90 1 + 1)) 66 37)) 90 j = if j = 4 then gi σ 90 4 + v else if j = 1 then gi σ 90 1 + 1 else gi σ 90 j := by
      rw [mled (by omega), c90, c90, c90, m37, ev]
    rw [r90]
    by_cases e4 : j = 4
    · rw [if_neg (by omega), if_pos e4, if_pos e4, (hl5 4 (by omega)).1]
    · rw [if_neg e4, if_neg e4]
      by_cases ez : j = 1
      · rw [if_pos ez, if_pos ez, (hl5 1 (by omega)).1]
      · rw [if_neg ez, if_neg ez, (hl5 j hj).1]
end DEED
