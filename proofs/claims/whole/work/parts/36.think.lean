/-! programmes: the class -/
theorem tq_l2i {x : Int64} (h : -2147483648 ≤ x.toInt ∧ x.toInt < 2147483648) : (Int64.toInt32 x).toInt = x.toInt := by
  rw [Int64.toInt_toInt32]
  exact Int.bmod_eq_of_le (by omega) (by omega)
theorem gl_si {σ : zS} {k j k' j' : Nat} {v : Int32} : gl (si σ k j v) k' j' = gl σ k' j' := rfl
def progE (nt : Nat) (e : Nat → Int) : Nat → Nat → List Int
  | 0, _ => []
  | n + 1, k => if e k = 20 ∨ (0 ≤ e k ∧ e k < nt) then e k :: progE nt e n (k + 1) else []
theorem progE_ok {nt : Nat} {e : Nat → Int} : ∀ (n k : Nat), (∀ b, b ∈ progE nt e n k → okB nt b) ∧ (progE nt e n k).length ≤ n := by
  intro n
  induction n with
  | zero => intro k; exact ⟨fun b hb => absurd hb List.not_mem_nil, Nat.le_refl _⟩
  | succ n ih =>
    intro k
    unfold progE
    split
    · next h =>
      refine ⟨fun b hb => ?_, Nat.succ_le_succ (ih (k + 1)).2⟩
      rcases List.mem_cons.mp hb with e2 | e2
      · subst e2; exact h
      · exact (ih (k + 1)).1 b e2
    · exact ⟨fun b hb => absurd hb List.not_mem_nil, Nat.zero_le _⟩
def LAt (f : Nat → Int32) (L : List Int) (k : Nat) : Prop := ∀ j (h : j < L.length), (f (k + j)).toInt = L[j]
theorem LAt.tl {f g : Nat → Int32} {b : Int} {L : List Int} {k : Nat} (h : LAt f (b :: L) k) (hg : ∀ j, k < j → g j = f j) : LAt g L (k + 1) := by
  intro j hj
  have := h (j + 1) (by rw [List.length_cons]; omega)
  rw [List.getElem_cons_succ] at this
  rw [← this, hg _ (by omega), show k + 1 + j = k + (j + 1) by omega]
theorem LAt.cons {f : Nat → Int32} {b : Int} {L : List Int} {k : Nat} (h0 : (f k).toInt = b) (h : LAt f L (k + 1)) : LAt f (b :: L) k := by
  intro j hj
  cases j with
  | zero => exact h0
  | succ j =>
    rw [List.getElem_cons_succ, ← h j (by rw [List.length_cons] at hj; omega), show k + 1 + j = k + (j + 1) by omega]
theorem lp_X10_read {X : zX} {d : Nat} {Q : Option Value → zH → Prop} (hd : 1 ≤ d) {nt : Nat} {e : Nat → Int} (r : Nat) (h : zisS r = true) (most : Int32) (hm : most.toInt ≤ 20) : ∀ (n : Nat) (σ : zS) (w : Value), (gi σ 1 2).toInt = nt → (∀ j, j < 60 → (gl σ (r + 1) j).toInt = e j ∧ -128 ≤ e j ∧ e j ≤ 127) → 0 ≤ (gi σ 41 4).toInt → (gi σ 41 4).toInt + n = most.toInt → (∀ τ : zS, zFr [42] [(41, 4)] σ τ → (gi τ 41 4).toInt = (gi σ 41 4).toInt + (progE nt e n (gi σ 41 4).toInt.toNat).length → (∀ j : Nat, j < (gi σ 41 4).toInt.toNat → gi τ 42 j = gi σ 42 j) → LAt (τ.1 42) (progE nt e n (gi σ 41 4).toInt.toNat) (gi σ 41 4).toInt.toNat → Q none (zen τ)) → zwp X d MX10_read 15 [.ref 41, .ref r, .int most, w] [] (zen σ) Q := by
  intro n
  induction n with
  | zero =>
    intro σ w hnt hE h0 hn hQ
    rw [b_X10_read_15 (hd := hd) (hl1 := h), if_pos (ile.mpr (by omega))]
    exact hQ σ zFr.rf (by unfold progE; simp) (fun _ _ => rfl) (fun j hj => by unfold progE at hj; cases hj)
  | succ n ih =>
    intro σ w hnt hE h0 hn hQ
    have hz6 : zin (gi σ 41 4) 60 = true := zin_of h0 (by omega)
    have hz2 : zin (gi σ 41 4) 20 = true := zin_of h0 (by omega)
    have hix := ix_t (gi σ 41 4)
    have es : (gi σ 41 4 + 1).toInt = (gi σ 41 4).toInt + 1 := t_succ (by omega)
    have hEk := hE (ix (gi σ 41 4)) (by omega)
    have eb : (Int64.toInt32 (gl σ (r + 1) (ix (gi σ 41 4)))).toInt = e (gi σ 41 4).toInt.toNat := by
      rw [tq_l2i (by rw [hEk.1]; omega), hEk.1, hix]
    generalize hx : Int64.toInt32 (gl σ (r + 1) (ix (gi σ 41 4))) = x at eb
    rw [b_X10_read_15 (hd := hd) (hl1 := h), if_neg (fun q => by have := ile.mp q; omega), ztrue_and hz6, hx]
    have e20 : (20 : Int32).toInt = 20 := rfl
    have e0 : (0 : Int32).toInt = 0 := rfl
    unfold progE at hQ
    have go : (e (gi σ 41 4).toInt.toNat = 20 ∨ (0 ≤ e (gi σ 41 4).toInt.toNat ∧ e (gi σ 41 4).toInt.toNat < nt)) → zwp X d MX10_read 15 [.ref 41, .ref r, .int most, .int x] [] (zen (si (si σ 42 (ix (gi σ 41 4)) x) 41 4 (gi σ 41 4 + 1))) Q := by
      intro hc
      have k4 : gi (si (si σ 42 (ix (gi σ 41 4)) x) 41 4 (gi σ 41 4 + 1)) 41 4 = gi σ 41 4 + 1 := gi_si
      have hF : zFr [42] [(41, 4)] σ (si (si σ 42 (ix (gi σ 41 4)) x) 41 4 (gi σ 41 4 + 1)) := (zFr.rf.ws (by decide)).sf (by decide)
      refine ih _ _ hnt (fun j hj => hE j hj) (by rw [k4]; omega) (by rw [k4]; omega) (fun τ hF2 hk hlo hL => ?_)
      rw [k4, es, show ((gi σ 41 4).toInt + 1).toNat = (gi σ 41 4).toInt.toNat + 1 by omega] at hk hlo hL
      rw [if_pos hc] at hQ
      refine hQ τ (hF.tr hF2) (by rw [hk, List.length_cons]; omega) (fun j hj => ?_) (LAt.cons ?_ hL)
      · rw [hlo j (by omega), gi_si_ne (by decide), gi_si_j (by omega)]
      · have := hlo (gi σ 41 4).toInt.toNat (by omega)
        rw [gi_si_ne (by decide)] at this
        show (gi τ 42 (gi σ 41 4).toInt.toNat).toInt = _
        rw [this, ← hix, gi_si, hix, eb]
    by_cases hc : x = 20
    · have hc2 : e (gi σ 41 4).toInt.toNat = 20 := by rw [← eb, hc, e20]
      rw [if_pos hc, ztrue_and hz2]
      exact go (Or.inl hc2)
    · have hc2 : ¬ e (gi σ 41 4).toInt.toNat = 20 := fun q => hc (ieq.mpr (by rw [eb, q, e20]))
      rw [if_neg hc]
      by_cases ht : 0 ≤ e (gi σ 41 4).toInt.toNat ∧ e (gi σ 41 4).toInt.toNat < nt
      · have hf : ¬ f_X10_isTurn σ x = 0 := by
          unfold f_X10_isTurn
          rw [if_neg (fun q => by have := il.mp q; omega), if_neg (fun q => by have := ile.mp q; omega)]
          decide
        rw [if_pos hf, ztrue_and hz2]
        exact go (Or.inr ht)
      · have hf : f_X10_isTurn σ x = 0 := by
          unfold f_X10_isTurn
          by_cases q1 : x < 0
          · rw [if_pos q1]
          · have := nil_ q1
            rw [if_neg q1, if_pos (ile.mpr (by omega))]
        rw [if_neg (fun q => q hf)]
        rw [if_neg (by omega)] at hQ
        exact hQ σ zFr.rf (by simp) (fun _ _ => rfl) (fun j hj => by cases hj)
def ProgC (σ : zS) (nt : Nat) (L : List Int) : Prop := (gi σ 41 4).toInt = L.length ∧ L.length ≤ 20 ∧ (∀ b, b ∈ L → okB nt b) ∧ LAt (σ.1 42) L 0
theorem w_X10_read {X : zX} {d : Nat} {Q : Option Value → zH → Prop} (hd : 1 ≤ d) {σ : zS} {nt : Nat} {e : Nat → Int} {r : Nat} (h : zisS r = true) (hnt : (gi σ 1 2).toInt = nt) (hE : ∀ j, j < 60 → (gl σ (r + 1) j).toInt = e j ∧ -128 ≤ e j ∧ e j ≤ 127) (hs : 0 ≤ (gi σ r 4).toInt ∧ (gi σ r 4).toInt ≤ 60)
    (hQ : ∀ τ : zS, zFr [42] [(41, 4)] σ τ → ProgC τ nt (progE nt e (min (gi σ r 4).toInt.toNat 20) 0) → Q none (zen τ)) : zwp X d MX10_read 0 [.ref 41, .ref r, .null, .null] [] (zen σ) Q := by
  have e20 : (20 : Int32).toInt = 20 := rfl
  have e0 : (0 : Int32).toInt = 0 := rfl
  have em := t_zmn (gi σ r 4) 20
  rw [b_X10_read_0 (h2 := h)]
  have k4 : gi (si σ 41 4 0) 41 4 = 0 := gi_si
  have hF : zFr [42] [(41, 4)] σ (si σ 41 4 0) := zFr.rf.sf (by decide)
  refine lp_X10_read hd (nt := nt) (e := e) r h (zmn (gi σ r 4) 20) (by omega) (min (gi σ r 4).toInt.toNat 20) _ _ hnt (fun j hj => hE j hj) (by rw [k4]; omega) (by rw [k4, em]; omega) (fun τ hF2 hk hlo hL => ?_)
  rw [k4, e0] at hk hL
  have ok := progE_ok (nt := nt) (e := e) (min (gi σ r 4).toInt.toNat 20) 0
  have z0 : (0 : Int).toNat = 0 := rfl
  rw [z0] at hk hL
  refine hQ τ (hF.tr hF2) ⟨by rw [hk]; omega, by omega, ok.1, hL⟩
/-- all that a thought rests on: the class -/
def ThC (σ : zS) (nr nt : Nat) (N : Nat → Nat → Int) (V : zV) (lo : Int) (I : Nat → Int) (L : List Int) : Prop := HallC σ nr nt N ∧ LawC σ V ∧ CacheC σ nr nt N V lo ∧ IceAt (σ.1 19) I ∧ ProgC σ nt L
theorem ThC.zfr {σ τ : zS} {nr nt : Nat} {N : Nat → Nat → Int} {V : zV} {lo : Int} {I : Nat → Int} {L : List Int} (h : ThC σ nr nt N V lo I L) (hF : zFr [6, 14, 15, 16, 44] [(13, 5), (41, 5)] σ τ) (hC : CacheC τ nr nt N V lo) : ThC τ nr nt N V lo I L := by
  refine ⟨h.1.fr (hF.c (by decide) (by simp)) (hF.c (by decide) (by simp)), h.2.1.fr (hF.c (by decide) (by simp)) (hF.c (by decide) (by simp)) (hF.c (by decide) (by simp)), hC, ?_, ?_⟩
  · rw [hF.c (by decide) (by simp)]; exact h.2.2.2.1
  · have hp := h.2.2.2.2
    refine ⟨?_, hp.2.1, hp.2.2.1, ?_⟩
    · rw [hF.1 41 (by decide) 4 (by simp)]; exact hp.1
    · rw [hF.c (by decide) (by simp)]; exact hp.2.2.2
theorem begin_ice {σ : zS} {I : Nat → Int} (hI : IceAt (σ.1 19) I) : IceAt ((g_X10_begin σ).1 44) I := by
  intro p hp
  have e0 : ix 0 = 0 := rfl
  have e16 : ix 16 = 16 := rfl
  have : (g_X10_begin σ).1 44 p = σ.1 19 p := by
    unfold g_X10_begin g_X2_become
    rw [c_si_ne (by decide), sA_1]
    unfold va_cpy
    rw [e0, e16, if_pos (by omega)]
    rw [show 0 + (p - 0) = p by omega]
  rw [this]; exact hI p hp
theorem begin_fr (σ : zS) : zFr [6, 14, 15, 16, 44] [(13, 5), (41, 5)] σ (g_X10_begin σ) := by
  unfold g_X10_begin g_X2_become
  exact (zFr.rf.wA (by decide)).sf (by decide)
theorem begin_th {σ : zS} {nr nt : Nat} {N : Nat → Nat → Int} {V : zV} {lo : Int} {I : Nat → Int} {L : List Int} (h : ThC σ nr nt N V lo I L) : ThC (g_X10_begin σ) nr nt N V lo I L := h.zfr (begin_fr σ) (h.2.2.1.fr rfl rfl rfl rfl)
abbrev gG (V : zV) (N : Nat → Nat → Int) (lo : Int) (nr : Nat) : Nat → Nat → Int → Int := fun t p i => gainR V N lo t p i nr 0
theorem lp_X10_carriedWithout {X : zX} {d : Nat} {Q : Option Value → zH → Prop} (hd : 6 ≤ d) {nr nt : Nat} {N : Nat → Nat → Int} {V : zV} {lo : Int} {I0 : Nat → Int} {L : List Int} (hR : HallR nr nt N) (left : Int32) : ∀ (R : List Int) (σ : zS) (k : Int32) (I : Nat → Int), ThC σ nr nt N V lo I0 L → IceAt (σ.1 44) I → IceR I → (∀ b, b ∈ R → okB nt b) → 0 ≤ k.toInt → k.toInt + R.length = (gi σ 41 4).toInt → LAt (σ.1 42) R k.toInt.toNat → (∀ (v : Int32) (τ : zS), zFr [6, 14, 15, 16, 44] [(13, 5), (41, 5)] σ τ → CacheC τ nr nt N V lo → IceAt (τ.1 44) (play N (gG V N lo nr) (skipL left.toInt k.toInt.toNat R) I) → gi τ 41 5 = gi σ 41 5 + Int32.ofInt (mins N (skipL left.toInt k.toInt.toNat R)) → v.toInt = carries (N 6 0) 0 (play N (gG V N lo nr) (skipL left.toInt k.toInt.toNat R) I) → Q (some (.int v)) (zen τ)) → zwp X d MX10_carriedWithout 6 [.ref 41, .int left, .int k] [] (zen σ) Q := by
  intro R
  induction R with
  | nil =>
    intro σ k I hT hI hI2 hb h0 hk hP hQ
    rw [List.length_nil] at hk
    have e0 : (0 : Int32).toInt = 0 := rfl
    rw [b_X10_carriedWithout_6 (hd := by omega), if_pos (ile.mpr (by omega))]
    refine w_X2_carries (by omega) zB_43 hT.1 hR hI hI2 (by omega) (fun v hv => ?_)
    show zwp X d MX10_carriedWithout 63 _ [.int v] (zen σ) Q
    rw [b_X10_carriedWithout_63]
    rw [e0, Int.zero_mul] at hv
    refine hQ v σ zFr.rf hT.2.2.1 hI ?_ hv
    have : Int32.ofInt (mins N (skipL left.toInt k.toInt.toNat [])) = 0 := rfl
    rw [this, Int32.add_zero]
  | cons b R ih =>
    intro σ k I hT hI hI2 hb h0 hk hP hQ
    rw [List.length_cons] at hk
    have hp20 := hT.2.2.2.2.2.1
    have hp1 := hT.2.2.2.2.1
    have es : (k + 1).toInt = k.toInt + 1 := t_succ (by omega)
    have er : (k + 1).toInt.toNat = k.toInt.toNat + 1 := by omega
    have hb2 : ∀ c, c ∈ R → okB nt c := fun c hc => hb c (List.mem_cons_of_mem _ hc)
    rw [b_X10_carriedWithout_6 (hd := by omega), if_neg (fun q => by have := ile.mp q; omega)]
    unfold skipL at hQ
    by_cases hc : k = left
    · rw [if_pos hc]
      rw [if_pos (show (k.toInt.toNat : Int) = left.toInt by rw [← hc]; omega)] at hQ
      refine ih σ (k + 1) I hT hI hI2 hb2 (by omega) (by omega) (by rw [er]; exact hP.tl (fun _ _ => rfl)) ?_
      rw [er]; exact hQ
    · have hc' : ¬ (k.toInt.toNat : Int) = left.toInt := fun q => hc (ieq.mpr (by omega))
      rw [if_neg hc'] at hQ
      have hz : zin k 20 = true := zin_of h0 (by omega)
      have hbk : (gi σ 42 (ix k)).toInt = b := hP 0 (by rw [List.length_cons]; omega)
      rw [if_neg hc, ztrue_and hz]
      refine w_X0_step (by omega) (V := V) (lo := lo) hR zB_43 hT.1 hT.2.1 hT.2.2.1 hI hI2 (by rw [hbk]; exact hb b List.mem_cons_self) (fun v τ hF hC hic hm => ?_)
      rw [hbk] at hic hm
      show zwp X d MX10_carriedWithout 41 _ [.int v, .int (gi σ 41 5), .ref 41] (zen τ) Q
      rw [b_X10_carriedWithout_41]
      have hF1 : zFr [6, 14, 15, 16, 44] [(13, 5), (41, 5)] σ (si τ 41 5 (gi σ 41 5 + v)) := (hF.sub (fun _ q => q) (by simp)).sf (by decide)
      have hC1 : CacheC (si τ 41 5 (gi σ 41 5 + v)) nr nt N V lo := hC.fr rfl rfl rfl rfl
      refine ih _ (k + 1) _ (hT.zfr hF1 hC1) hic (stepI_R hR (hb b List.mem_cons_self) hI2) hb2 (by omega) ?_ ?_ (fun w ρ hF2 hC2 hic2 hm2 hv => hQ w ρ (hF1.tr hF2) hC2 ?_ ?_ ?_)
      · rw [hF1.1 41 (by decide) 4 (by simp)]; omega
      · rw [er, hF1.c (by decide) (by simp)]; exact hP.tl (fun _ _ => rfl)
      · rw [er] at hic2; exact hic2
      · rw [hm2, gi_si, er, of_t hm, Int32.add_assoc, ← Int32.ofInt_add]
        rfl
      · rw [er] at hv; exact hv
theorem w_X10_carriedWithout {X : zX} {d : Nat} {Q : Option Value → zH → Prop} (hd : 6 ≤ d) {σ : zS} {nr nt : Nat} {N : Nat → Nat → Int} {V : zV} {lo : Int} {I : Nat → Int} {L : List Int} {left : Int32} (hR : HallR nr nt N) (hT : ThC σ nr nt N V lo I L) (hI2 : IceR I)
    (hQ : ∀ (v : Int32) (τ : zS), zFr [6, 14, 15, 16, 44] [(13, 5), (41, 5)] σ τ → ThC τ nr nt N V lo I L → IceAt (τ.1 44) (play N (gG V N lo nr) (skipL left.toInt 0 L) I) → gi τ 41 5 = Int32.ofInt (mins N (skipL left.toInt 0 L)) → v.toInt = carries (N 6 0) 0 (play N (gG V N lo nr) (skipL left.toInt 0 L) I) → Q (some (.int v)) (zen τ)) : zwp X d MX10_carriedWithout 0 [.ref 41, .int left, .null] [] (zen σ) Q := by
  have e0 : (0 : Int32).toInt = 0 := rfl
  rw [b_X10_carriedWithout_0 (hd := by omega)]
  have hT1 := begin_th hT
  have hp := hT1.2.2.2.2
  refine lp_X10_carriedWithout hd hR left L _ 0 I hT1 (begin_ice hT.2.2.2.1) hI2 hp.2.2.1 (by omega) (by rw [hp.1]; omega) hp.2.2.2 (fun v τ hF hC hic hm hv => hQ v τ ((begin_fr σ).tr hF) (hT1.zfr hF hC) hic ?_ hv)
  rw [hm]
  have : gi (g_X10_begin σ) 41 5 = 0 := by unfold g_X10_begin; exact gi_si
  rw [this, Int32.zero_add]
  rfl
