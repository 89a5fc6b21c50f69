/-! clapping, a byte of a programme: the class -/
theorem lp_fill16 {X : zX} {d : Nat} {Q : Option Value → zH → Prop} {v : Int32} : ∀ (n : Nat) (σ : zS) (f : Nat → Int32) (i : Int32), 0 ≤ i.toInt → i.toInt + n = 128 → Q none (zen (sA σ 16 (fun q => if i.toInt ≤ (q : Int) ∧ (q : Int) < 128 then v else f q))) → zwp X d MJ7_fill_53178 5 [.ref 16, .int v, .int i, .int 128] [] (zen (sA σ 16 f)) Q := by
  intro n
  induction n with
  | zero =>
    intro σ f i h0 hn hQ
    rw [b_J7_fill_53178_16_5, if_pos (ile.mpr (by show (128 : Int) ≤ _; omega))]
    have e : (fun q : Nat => if i.toInt ≤ (q : Int) ∧ (q : Int) < 128 then v else f q) = f := by funext q; rw [if_neg (by omega)]
    rw [e] at hQ
    exact hQ
  | succ n ih =>
    intro σ f i h0 hn hQ
    have hz : zin i 128 = true := zin_of h0 (by omega)
    have es : (i + 1).toInt = i.toInt + 1 := t_succ (by omega)
    rw [b_J7_fill_53178_16_5, if_neg (fun q => by have := ile.mp q; have e : (128 : Int32).toInt = 128 := rfl; omega), ztrue_and hz, si_sA]
    refine ih σ _ (i + 1) (by omega) (by omega) ?_
    have e : (fun q : Nat => if (i + 1).toInt ≤ (q : Int) ∧ (q : Int) < 128 then v else upd f (ix i) v q) = (fun q : Nat => if i.toInt ≤ (q : Int) ∧ (q : Int) < 128 then v else f q) := by
      funext q
      have hix := ix_t i
      by_cases hq : q = ix i
      · rw [if_neg (by omega), if_pos (by omega), hq, upd_at]
      · rw [upd_ne _ _ hq]
        by_cases h2 : i.toInt ≤ (q : Int) ∧ (q : Int) < 128
        · rw [if_pos h2, if_pos (by omega)]
        · rw [if_neg h2, if_neg (by omega)]
    rw [e]
    exact hQ
theorem w_X0_forget {X : zX} {d : Nat} {Q : Option Value → zH → Prop} (hd : 1 ≤ d) {σ : zS} (hQ : ∀ f : Nat → Int32, (∀ j, j < 128 → f j = -1) → Q none (zen (si (sA σ 16 f) 13 5 (gi σ 1 3)))) : zwp X d MX0_forget 0 [.ref 13] [] (zen σ) Q := by
  rw [b_X0_forget_0 hd, b_J7_fill_53178_16_0]
  have := lp_fill16 (X := X) (d := d - 1) (Q := fun v h' => zwp X d MX0_forget 8 [.ref 13] (zpsh v []) h' Q) (v := -1) 128 σ (σ.1 16) 0 (by decide) (by decide)
  rw [sA_self] at this
  refine this ?_
  show zwp X d MX0_forget 8 [.ref 13] [] (zen (sA σ 16 _)) Q
  rw [b_X0_forget_8]
  refine hQ _ (fun j hj => ?_)
  have e0 : (0 : Int32).toInt = 0 := rfl
  rw [if_pos (by omega)]
def CacheC (σ : zS) (nr nt : Nat) (N : Nat → Nat → Int) (V : zV) (lo : Int) : Prop := -1 ≤ (gi σ 13 5).toInt ∧ (gi σ 13 5).toInt ≤ (gi σ 1 3).toInt ∧ (gi σ 13 6).toInt = lo ∧ (gi σ 13 5 = gi σ 1 3 → ∀ t, t < nt → ∀ p, p < 16 → ¬ gi σ 16 (16 * t + p) = -1 → (gi σ 15 (16 * t + p)).toInt = gainR V N lo t p (gi σ 16 (16 * t + p)).toInt nr 0)
theorem CacheC.fr {σ τ : zS} {nr nt : Nat} {N : Nat → Nat → Int} {V : zV} {lo : Int} (h : CacheC σ nr nt N V lo) (c13 : τ.1 13 = σ.1 13) (c15 : τ.1 15 = σ.1 15) (c16 : τ.1 16 = σ.1 16) (c1 : gi τ 1 3 = gi σ 1 3) : CacheC τ nr nt N V lo := by
  unfold CacheC at *
  rw [c1]
  unfold gi at *
  rw [c13, c15, c16]; exact h
theorem CacheC.new {σ : zS} {nr nt : Nat} {N : Nat → Nat → Int} {V : zV} {lo : Int} {f : Nat → Int32} (hnt : nt ≤ 8) (hv : -1 ≤ (gi σ 1 3).toInt) (hlo : (gi σ 13 6).toInt = lo) (hf : ∀ j, j < 128 → f j = -1) : CacheC (si (sA σ 16 f) 13 5 (gi σ 1 3)) nr nt N V lo := by
  have e1 : gi (si (sA σ 16 f) 13 5 (gi σ 1 3)) 13 5 = gi σ 1 3 := gi_si
  have e2 : gi (si (sA σ 16 f) 13 5 (gi σ 1 3)) 1 3 = gi σ 1 3 := rfl
  have e3 : gi (si (sA σ 16 f) 13 5 (gi σ 1 3)) 13 6 = gi σ 13 6 := rfl
  refine ⟨by rw [e1]; exact hv, by rw [e1, e2]; exact Int.le_refl _, by rw [e3]; exact hlo, fun _ t ht p hp hne => absurd ?_ hne⟩
  show f (16 * t + p) = -1
  exact hf _ (by omega)
def clapI (long : Int) (G : Nat → Int → Int) (I : Nat → Int) : Nat → Int := fun p => if (p : Int) < long then max 0 (min 999 (I p + G p (I p))) else I p
theorem clapI_R {long : Int} {G : Nat → Int → Int} {I : Nat → Int} (h : IceR I) : IceR (clapI long G I) := by
  intro p hp
  have := h p hp
  unfold clapI
  split <;> omega
theorem lp_X0_clap {X : zX} {d : Nat} {Q : Option Value → zH → Prop} (hd : 3 ≤ d) {nr nt : Nat} {N : Nat → Nat → Int} {V : zV} {lo : Int} {I : Nat → Int} (hR : HallR nr nt N) (r : Nat) (h : zisB r = true) (t : Nat) (turn planks : Int32) (ht : t < nt) (htu : turn.toInt = t) (hpl : planks.toInt = N 6 0) (hI2 : IceR I) : ∀ (n : Nat) (σ : zS) (p : Int32) (w5 w6 w7 : Value), HallC σ nr nt N → LawC σ V → CacheC σ nr nt N V lo → gi σ 13 5 = gi σ 1 3 → 0 ≤ p.toInt → p.toInt + n = planks.toInt → (∀ q : Nat, p.toInt ≤ q → q < 16 → (gi σ (r + 1) q).toInt = I q) → (∀ τ : zS, zFr [6, 14, 15, 16, r + 1] [] σ τ → CacheC τ nr nt N V lo → gi τ 13 5 = gi τ 1 3 → (∀ q : Nat, q < 16 → (gi τ (r + 1) q).toInt = if p.toInt ≤ q ∧ (q : Int) < N 6 0 then max 0 (min 999 (I q + gainR V N lo t q (I q) nr 0)) else (gi σ (r + 1) q).toInt) → Q none (zen τ)) → zwp X d MX0_clap 29 [.ref 13, .int turn, .ref r, .int planks, .int p, w5, w6, w7] [] (zen σ) Q := by
  have hrr := zB_r h
  have hlong := hR.long
  have hnt := hR.2.1
  have hnr := hR.1
  have n6 : r + 1 ∉ [6, 14, 15, 16] := by simp; omega
  intro n
  induction n with
  | zero =>
    intro σ p w5 w6 w7 hH hL hC hver h0 hn hI hQ
    rw [b_X0_clap_29 (hd := by omega) (hl2 := h), if_pos (ile.mpr (by omega))]
    exact hQ σ zFr.rf hC hver (fun q hq => by rw [if_neg (by omega)])
  | succ n ih =>
    intro σ p w5 w6 w7 hH hL hC hver h0 hn hI hQ
    have es : (p + 1).toInt = p.toInt + 1 := t_succ (by omega)
    have hz : zin p 16 = true := zin_of h0 (by omega)
    have hix := ix_t p
    have hp16 : ix p < 16 := by omega
    have bI : (gi σ (r + 1) (ix p)).toInt = I (ix p) := hI _ (by omega) hp16
    have b2 := hI2 _ hp16
    have bg := gainR_b V N lo t (ix p) (I (ix p)) nr 0
    have go : ∀ (τ : zS) (x : Int32) (w5 w6 w7 : Value), zFr [6, 14, 15, 16] [] σ τ → CacheC τ nr nt N V lo → gi τ 13 5 = gi τ 1 3 → x.toInt = I (ix p) + gainR V N lo t (ix p) (I (ix p)) nr 0 → zwp X d MX0_clap 29 [.ref 13, .int turn, .ref r, .int planks, .int (p + 1), w5, w6, w7] [] (zen (si τ (r + 1) (ix p) (zmx 0 (zmn 999 x)))) Q := by
      intro τ x w5 w6 w7 hF hC2 hver2 hx
      have c1 : τ.1 1 = σ.1 1 := hF.c (by decide) (by simp)
      have c2 : τ.1 2 = σ.1 2 := hF.c (by decide) (by simp)
      have c3 : τ.1 3 = σ.1 3 := hF.c (by decide) (by simp)
      have c4 : τ.1 4 = σ.1 4 := hF.c (by decide) (by simp)
      have c5 : τ.1 5 = σ.1 5 := hF.c (by decide) (by simp)
      have cr : τ.1 (r + 1) = σ.1 (r + 1) := hF.c n6 (by simp)
      have k : ∀ q, q < 17 → q ≠ r + 1 := by intro q hq; omega
      have s1 : ∀ q, q < 17 → (si τ (r + 1) (ix p) (zmx 0 (zmn 999 x))).1 q = τ.1 q := fun q hq => c_si_ne (k q hq)
      have g1 : ∀ q j, q < 17 → gi (si τ (r + 1) (ix p) (zmx 0 (zmn 999 x))) q j = gi τ q j := fun q j hq => gi_si_ne (k q hq)
      have hF2 : zFr [6, 14, 15, 16, r + 1] [] σ (si τ (r + 1) (ix p) (zmx 0 (zmn 999 x))) := (hF.sub (by simp <;> omega) (by simp)).ws (by simp)
      refine ih _ (p + 1) w5 w6 w7 (hH.fr ((s1 1 (by omega)).trans c1) ((s1 2 (by omega)).trans c2)) (hL.fr ((s1 3 (by omega)).trans c3) ((s1 4 (by omega)).trans c4) ((s1 5 (by omega)).trans c5)) (hC2.fr (s1 13 (by omega)) (s1 15 (by omega)) (s1 16 (by omega)) (g1 1 3 (by omega))) ?_ (by omega) (by omega) ?_ ?_
      · rw [g1 13 5 (by omega), g1 1 3 (by omega)]; exact hver2
      · intro q hq1 hq2
        rw [gi_si_j (by omega)]
        show (τ.1 (r + 1) q).toInt = _
        rw [cr]
        exact hI q (by omega) hq2
      · intro ρ hF3 hC3 hver3 hic
        refine hQ ρ (hF2.tr hF3) hC3 hver3 (fun q hq => ?_)
        rw [hic q hq]
        by_cases hqp : q = ix p
        · rw [if_neg (by omega), if_pos (by omega), hqp, gi_si, t_zmx, t_zmn, hx]
          rfl
        · rw [gi_si_j hqp]
          have ec : (gi τ (r + 1) q).toInt = (gi σ (r + 1) q).toInt := by show (τ.1 (r + 1) q).toInt = _; rw [cr]; rfl
          by_cases hc : p.toInt ≤ q ∧ (q : Int) < N 6 0
          · rw [if_pos (by omega), if_pos hc]
          · rw [if_neg (by omega), if_neg hc, ec]
    have e16 : (16 : Int32).toInt = 16 := rfl
    have eat : (turn * 16 + p).toInt = 16 * t + p.toInt := by
      have : (turn * 16).toInt = 16 * t := by rw [t_mul (by rw [e16]; omega), e16]; omega
      rw [t_add (by rw [this]; omega), this]
    have hza : zin (turn * 16 + p) 128 = true := zin_of (by omega) (by omega)
    have eix : ix (turn * 16 + p) = 16 * t + ix p := by rw [ix_t, eat]; omega
    have miss : ∀ looked : Int32, (looked.toInt = I (ix p) ∨ (gi σ 3 4 = 0 ∧ looked = 0)) → zwp X (d - 1) MX0_given 0 [.ref 13, .int turn, .int p, .int (gi σ (r + 1) (ix p)), .int 0, .int (gi σ 1 1), .null, .null, .null] [] (zen σ) (fun v h' => zwp X d MX0_clap 106 [.ref 13, .int turn, .ref r, .int planks, .int p, .int (turn * 16 + p), .int (gi σ (r + 1) (ix p)), .int looked] (zpsh v [.int (turn * 16 + p), .ref 15]) h' Q) := by
      intro looked hlk
      have e0 : (0 : Int32).toInt = 0 := rfl
      refine w_X0_given (by omega) hR hH hL hC.2.2.1 (t := t) (p := ix p) (n := nr) (i := I (ix p)) ht htu hp16 (by omega) bI b2 (by omega) (by rw [hH.1]; omega) (by rw [hH.1]; omega) (fun v τ hF hv => ?_)
      rw [e0] at hv
      show zwp X d MX0_clap 106 _ [.int v, .int (turn * 16 + p), .ref 15] (zen τ) Q
      rw [b_X0_clap_106 (hl2 := h), ztrue_and hza, ztrue_and hza, ztrue_and hza, ztrue_and hz, gi_si]
      have hF2 : zFr [6, 14, 15, 16] [] σ (si (si τ 15 (ix (turn * 16 + p)) v) 16 (ix (turn * 16 + p)) looked) := ((hF.sub (by simp <;> omega) (by simp)).ws (by decide)).ws (by decide)
      have c13 : τ.1 13 = σ.1 13 := hF.c (by decide) (by simp)
      have c1 : τ.1 1 = σ.1 1 := hF.c (by decide) (by simp)
      have c15 : τ.1 15 = σ.1 15 := hF.c (by decide) (by simp)
      have c16 : τ.1 16 = σ.1 16 := hF.c (by decide) (by simp)
      have d13 : ∀ j, gi (si (si τ 15 (ix (turn * 16 + p)) v) 16 (ix (turn * 16 + p)) looked) 13 j = gi σ 13 j := fun j => by rw [gi_si_ne (by decide), gi_si_ne (by decide)]; show τ.1 13 j = _; rw [c13]; rfl
      have d1 : ∀ j, gi (si (si τ 15 (ix (turn * 16 + p)) v) 16 (ix (turn * 16 + p)) looked) 1 j = gi σ 1 j := fun j => by rw [gi_si_ne (by decide), gi_si_ne (by decide)]; show τ.1 1 j = _; rw [c1]; rfl
      refine go _ _ _ _ _ hF2 ?_ ?_ ?_
      · unfold CacheC
        rw [d13, d13, d1]
        refine ⟨hC.1, hC.2.1, hC.2.2.1, fun _ t' ht' p' hp' hne => ?_⟩
        by_cases hq : 16 * t' + p' = 16 * t + ix p
        · have : t' = t := by omega
          subst this
          have : p' = ix p := by omega
          subst this
          rw [gi_si_ne (by decide), eix, gi_si, gi_si, hv]
          rcases hlk with hlk | ⟨hl0, hlk⟩
          · rw [hlk]; rfl
          · exact hL.gain hl0 N lo t' (ix p) _ _ nr 0
        · have r16 : gi (si (si τ 15 (ix (turn * 16 + p)) v) 16 (ix (turn * 16 + p)) looked) 16 (16 * t' + p') = gi σ 16 (16 * t' + p') := by
            rw [gi_si_j (by rw [eix]; exact hq), gi_si_ne (by decide)]
            show τ.1 16 _ = _
            rw [c16]; rfl
          have r15 : gi (si (si τ 15 (ix (turn * 16 + p)) v) 16 (ix (turn * 16 + p)) looked) 15 (16 * t' + p') = gi σ 15 (16 * t' + p') := by
            rw [gi_si_ne (by decide), gi_si_j (by rw [eix]; exact hq)]
            show τ.1 15 _ = _
            rw [c15]; rfl
          rw [r16] at hne ⊢
          rw [r15]
          exact hC.2.2.2 hver t' ht' p' hp' hne
      · rw [d13, d1]; exact hver
      · have : (0 : Int).toNat = 0 := rfl
        rw [this] at hv
        rw [t_add (by rw [bI, hv]; omega), bI, hv]
    have hit : ∀ looked : Int32, (looked.toInt = I (ix p) ∨ (gi σ 3 4 = 0 ∧ looked = 0)) → gi σ 16 (ix (turn * 16 + p)) = looked → (gi σ (r + 1) (ix p) + gi σ 15 (ix (turn * 16 + p))).toInt = I (ix p) + gainR V N lo t (ix p) (I (ix p)) nr 0 := by
      intro looked hlk he
      have hm : (-1 : Int32).toInt = -1 := rfl
      have e0 : (0 : Int32).toInt = 0 := rfl
      have hne : ¬ gi σ 16 (16 * t + ix p) = -1 := by
        rw [← eix, he]
        intro q
        rw [q, hm] at hlk
        rcases hlk with hlk | ⟨_, hlk⟩
        · omega
        · exact absurd (congrArg Int32.toInt hlk) (by rw [hm, e0]; omega)
      have hs := hC.2.2.2 hver t ht (ix p) hp16 hne
      rw [← eix, he] at hs
      have hs2 : (gi σ 15 (ix (turn * 16 + p))).toInt = gainR V N lo t (ix p) (I (ix p)) nr 0 := by
        rw [hs]
        rcases hlk with hlk | ⟨hl0, hlk⟩
        · rw [hlk]
        · exact hL.gain hl0 N lo t (ix p) _ _ nr 0
      rw [t_add (by rw [bI, hs2]; omega), bI, hs2]
    rw [b_X0_clap_29 (hd := by omega) (hl2 := h), if_neg (fun q => by have := ile.mp q; omega), ztrue_and hz]
    by_cases hlk : gi σ 3 4 = 0
    · rw [if_pos hlk, ztrue_and hza]
      by_cases hc : gi σ 16 (ix (turn * 16 + p)) = 0
      · rw [if_pos hc, ztrue_and hza, ztrue_and hz]
        exact go σ _ _ _ _ zFr.rf hC hver (hit 0 (Or.inr ⟨hlk, rfl⟩) hc)
      · rw [if_neg hc]
        exact miss 0 (Or.inr ⟨hlk, rfl⟩)
    · rw [if_neg hlk, ztrue_and hza]
      by_cases hc : gi σ 16 (ix (turn * 16 + p)) = gi σ (r + 1) (ix p)
      · rw [if_pos hc, ztrue_and hza, ztrue_and hz]
        exact go σ _ _ _ _ zFr.rf hC hver (hit _ (Or.inl bI) hc)
      · rw [if_neg hc]
        exact miss _ (Or.inl bI)
theorem w_X0_clap {X : zX} {d : Nat} {Q : Option Value → zH → Prop} (hd : 3 ≤ d) {σ : zS} {nr nt : Nat} {N : Nat → Nat → Int} {V : zV} {lo : Int} {I : Nat → Int} {r t : Nat} {turn : Int32} (hR : HallR nr nt N) (h : zisB r = true) (hH : HallC σ nr nt N) (hL : LawC σ V) (hC : CacheC σ nr nt N V lo) (hI : IceAt (σ.1 (r + 1)) I) (hI2 : IceR I) (ht : t < nt) (htu : turn.toInt = t)
    (hQ : ∀ τ : zS, zFr [6, 14, 15, 16, r + 1] [(13, 5)] σ τ → CacheC τ nr nt N V lo → IceAt (τ.1 (r + 1)) (clapI (N 6 0) (fun p i => gainR V N lo t p i nr 0) I) → Q none (zen τ)) : zwp X d MX0_clap 0 [.ref 13, .int turn, .ref r, .null, .null, .null, .null, .null] [] (zen σ) Q := by
  have hrr := zB_r h
  have hl := hH.long
  have hlong := hR.long
  have e0 : (0 : Int32).toInt = 0 := rfl
  have fin : ∀ τ : zS, HallC τ nr nt N → LawC τ V → CacheC τ nr nt N V lo → gi τ 13 5 = gi τ 1 3 → IceAt (τ.1 (r + 1)) I → zFr [6, 14, 15, 16, r + 1] [(13, 5)] σ τ → zwp X d MX0_clap 29 [.ref 13, .int turn, .ref r, .int (f_X5_planks τ), .int 0, .null, .null, .null] [] (zen τ) Q := by
    intro τ hH2 hL2 hC2 hv hI3 hF
    refine lp_X0_clap hd hR r h t turn _ ht htu (by rw [f_planks]; exact hH2.long) hI2 (N 6 0).toNat τ 0 _ _ _ hH2 hL2 hC2 hv (by omega) (by rw [f_planks, hH2.long]; omega) (fun q _ hq => hI3 q hq) (fun ρ hF2 hC3 hv3 hic => ?_)
    refine hQ ρ (hF.tr (hF2.sub (fun _ q => q) (by simp))) hC3 (fun p hp => ?_)
    have := hic p hp
    rw [e0] at this
    show (gi ρ (r + 1) p).toInt = _
    rw [this]
    unfold clapI
    by_cases hc : (p : Int) < N 6 0
    · rw [if_pos (by omega), if_pos hc]
    · rw [if_neg (by omega), if_neg hc]; exact hI3 p hp
  rw [b_X0_clap_0 (hd := by omega) (h3 := h)]
  by_cases hc : gi σ 13 5 = gi σ 1 3
  · rw [if_pos hc]
    exact fin σ hH hL hC hc hI zFr.rf
  · rw [if_neg hc]
    refine w_X0_forget (by omega) (fun f hf => ?_)
    show zwp X d MX0_clap 18 _ [] (zen (si (sA σ 16 f) 13 5 (gi σ 1 3))) Q
    rw [b_X0_clap_18 (hd := by omega) (hl2 := h)]
    have hF : zFr [6, 14, 15, 16, r + 1] [(13, 5)] σ (si (sA σ 16 f) 13 5 (gi σ 1 3)) := (zFr.rf.wA (by simp)).sf (by simp)
    refine fin _ (hH.fr rfl rfl) (hL.fr rfl rfl rfl) (CacheC.new hR.2.1 (by have := hC.1; have := hC.2.1; omega) hC.2.2.1 hf) gi_si ?_ hF
    have c1 : (si (sA σ 16 f) 13 5 (gi σ 1 3)).1 (r + 1) = σ.1 (r + 1) := by rw [c_si_ne (by omega), c_sA_ne (by omega)]
    rw [c1]; exact hI
/-- a byte of a programme: what it does to ice, its minutes -/
def stepI (N : Nat → Nat → Int) (G : Nat → Nat → Int → Int) (b : Int) (I : Nat → Int) : Nat → Int := if b = 20 then thawI (N 6 0) (N 8 0 * N 7 0) I else clapI (N 6 0) (G b.toNat) (thawI (N 6 0) (N 5 b.toNat * N 7 0) I)
def minI (N : Nat → Nat → Int) (b : Int) : Int := if b = 20 then N 8 0 else N 5 b.toNat
theorem stepI_R {nr nt : Nat} {N : Nat → Nat → Int} {G : Nat → Nat → Int → Int} {b : Int} {I : Nat → Int} (hR : HallR nr nt N) (hb : b = 20 ∨ (0 ≤ b ∧ b < nt)) (h : IceR I) : IceR (stepI N G b I) := by
  unfold stepI
  have hw := hR.warm
  split
  · exact thawI_R (mulb (by have := hR.rest; omega) hR.rest.2 hw.1 hw.2).1 h
  · next hn =>
    have hl := hR.lasts (t := b.toNat) (by omega)
    exact clapI_R (thawI_R (mulb (by omega) hl.2 hw.1 hw.2).1 h)
theorem minI_b {nr nt : Nat} {N : Nat → Nat → Int} {b : Int} (hR : HallR nr nt N) (hb : b = 20 ∨ (0 ≤ b ∧ b < nt)) : 1 ≤ minI N b ∧ minI N b ≤ 60 := by
  unfold minI
  split
  · exact hR.rest
  · exact hR.lasts (by omega)
theorem w_X0_step {X : zX} {d : Nat} {Q : Option Value → zH → Prop} (hd : 4 ≤ d) {σ : zS} {nr nt : Nat} {N : Nat → Nat → Int} {V : zV} {lo : Int} {I : Nat → Int} {r : Nat} {b : Int32} (hR : HallR nr nt N) (h : zisB r = true) (hH : HallC σ nr nt N) (hL : LawC σ V) (hC : CacheC σ nr nt N V lo) (hI : IceAt (σ.1 (r + 1)) I) (hI2 : IceR I) (hb : b.toInt = 20 ∨ (0 ≤ b.toInt ∧ b.toInt < nt))
    (hQ : ∀ (v : Int32) (τ : zS), zFr [6, 14, 15, 16, r + 1] [(13, 5)] σ τ → CacheC τ nr nt N V lo → IceAt (τ.1 (r + 1)) (stepI N (fun t p i => gainR V N lo t p i nr 0) b.toInt I) → v.toInt = minI N b.toInt → Q (some (.int v)) (zen τ)) : zwp X d MX0_step 0 [.ref 13, .int b, .ref r, .null] [] (zen σ) Q := by
  have hrr := zB_r h
  have hnt := hR.2.1
  have e20 : (20 : Int32).toInt = 20 := rfl
  have e0 : (0 : Int32).toInt = 0 := rfl
  rw [b_X0_step_0 (hd := by omega) (h3 := h)]
  by_cases hc : b = 20
  · have hb20 : b.toInt = 20 := by rw [hc]; rfl
    have G := hH.getS (w := 8) (k := 8) rfl (by omega)
    have hr := hR.rest
    rw [if_neg (fun q => q hc), ztrue_and G.1]
    refine w_X2_thaw (by omega) h hH hR hI hI2 (by omega) (fun f hf => ?_)
    show zwp X d MX0_step 26 _ [] _ Q
    rw [b_X0_step_26 (hl2 := h)]
    refine hQ _ _ (zFr.rf.wA (by simp)) (hC.fr (c_sA_ne (by omega)) (c_sA_ne (by omega)) (c_sA_ne (by omega)) (gi_sA_ne (by omega))) ?_ ?_
    · rw [sA_1]
      unfold stepI
      rw [if_pos hb20]
      rw [G.2] at hf
      exact hf
    · unfold minI
      rw [if_pos hb20]; exact G.2
  · have hb20 : ¬ b.toInt = 20 := fun q => hc (ieq.mpr (by rw [q, e20]))
    have hbt : 0 ≤ b.toInt ∧ b.toInt < nt := by omega
    have G := hH.getT hR (w := 5) (k := 5) rfl (by omega) hbt
    have hl := hR.lasts (t := b.toInt.toNat) (by omega)
    rw [if_pos hc, ztrue_and G.1]
    refine w_X2_thaw (by omega) h hH hR hI hI2 (by omega) (fun f hf => ?_)
    show zwp X d MX0_step 47 _ [] _ Q
    rw [b_X0_step_47 (hd := by omega) (hl2 := h)]
    have hw := hR.warm
    have hF1 : zFr [6, 14, 15, 16, r + 1] [(13, 5)] σ (sA σ (r + 1) f) := zFr.rf.wA (by simp)
    rw [G.2] at hf
    refine w_X0_clap (by omega) (V := V) (lo := lo) (t := b.toInt.toNat) hR h (hH.fr (c_sA_ne (by omega)) (c_sA_ne (by omega))) (hL.fr (c_sA_ne (by omega)) (c_sA_ne (by omega)) (c_sA_ne (by omega))) (hC.fr (c_sA_ne (by omega)) (c_sA_ne (by omega)) (c_sA_ne (by omega)) (gi_sA_ne (by omega))) (by rw [sA_1]; exact hf) (thawI_R (mulb (by omega) hl.2 hw.1 hw.2).1 hI2) (by omega) (by omega) (fun τ hF2 hC2 hic => ?_)
    show zwp X d MX0_step 53 _ [] _ Q
    rw [b_X0_step_53 (hl2 := h)]
    refine hQ _ τ (hF1.tr hF2) hC2 ?_ ?_
    · unfold stepI
      rw [if_neg hb20]; exact hic
    · unfold minI
      rw [if_neg hb20]; exact G.2
theorem w_X0_leaveOut {X : zX} {d : Nat} {Q : Option Value → zH → Prop} (hd : 2 ≤ d) {σ : zS} {nr nt : Nat} {N : Nat → Nat → Int} {V : zV} {a : Int32} (hR : HallR nr nt N) (hv : -1 ≤ (gi σ 1 3).toInt)
    (hQ : ∀ τ : zS, zFr [16] [(13, 5), (13, 6)] σ τ → CacheC τ nr nt N V a.toInt → Q none (zen τ)) : zwp X d MX0_leaveOut 0 [.ref 13, .int a] [] (zen σ) Q := by
  rw [b_X0_leaveOut_0 (hd := by omega)]
  refine w_X0_forget (by omega) (fun f hf => ?_)
  show zwp X d MX0_leaveOut 9 _ [] _ Q
  rw [b_X0_leaveOut_9]
  refine hQ _ (((zFr.rf.sf (by decide)).wA (by decide)).sf (by decide)) (CacheC.new hR.2.1 hv ?_ hf)
  rw [gi_si]
