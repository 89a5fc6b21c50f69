/-! programmes: the reference -/
def ProgM (σ : zS) (nt : Nat) (L : List Int) : Prop := (gi σ 66 39).toInt = L.length ∧ L.length ≤ 20 ∧ (∀ b, b ∈ L → okB nt b) ∧ LAt (σ.1 88) L 0
def ThM (σ : zS) (nr nt : Nat) (N : Nat → Nat → Int) (V : zV) (lo : Int) (I : Nat → Int) (L : List Int) : Prop := HallM σ nr nt N ∧ LawM σ V ∧ (gi σ 66 36).toInt = lo ∧ IceAt (σ.1 85) I ∧ ProgM σ nt L
theorem ThM.zfr {σ τ : zS} {nr nt : Nat} {N : Nat → Nat → Int} {V : zV} {lo : Int} {I : Nat → Int} {L : List Int} (h : ThM σ nr nt N V lo I L) (hF : zFr [83, 84, 86, 87] [(66, 37)] σ τ) : ThM τ nr nt N V lo I L := by
  refine ⟨h.1.zfr hF (by simp) (by simp), h.2.1.zfr hF (by simp) (by simp), ?_, ?_, ?_⟩
  · rw [hF.1 66 (by decide) 36 (by simp)]; exact h.2.2.1
  · rw [hF.c (by decide) (by simp)]; exact h.2.2.2.1
  · have hp := h.2.2.2.2
    refine ⟨?_, hp.2.1, hp.2.2.1, ?_⟩
    · rw [hF.1 66 (by decide) 39 (by simp)]; exact hp.1
    · rw [hF.c (by decide) (by simp)]; exact hp.2.2.2
theorem skipL_neg (L : List Int) : skipL (-1) 0 L = L := skipL_no L 0 (by omega)
theorem LAt.zero {f : Nat → Int32} {L : List Int} (h : LAt f L 0) : ∀ j (hj : j < L.length), (f j).toInt = L[j] := by
  intro j hj
  have := h j hj
  rw [Nat.zero_add] at this
  exact this
theorem w_X12_goAll {X : zX} {d : Nat} {Q : Option Value → zH → Prop} (hd : 9 ≤ d) {σ : zS} {nr nt : Nat} {N : Nat → Nat → Int} {V : zV} {lo : Int} {I : Nat → Int} {L : List Int} (hR : HallR nr nt N) (hT : ThM σ nr nt N V lo I L) (hI2 : IceR I)
    (hQ : ∀ τ : zS, zFr [83, 84, 86, 87] [(66, 37)] σ τ → ThM τ nr nt N V lo I L → IceAt (τ.1 86) (play N (gG V N lo nr) L I) → gi τ 66 37 = Int32.ofInt (mins N L) → Q none (zen τ)) : zwp X d MX12_goAll 0 [.ref 66] [] (zen σ) Q := by
  have hp := hT.2.2.2.2
  have em : (-1 : Int32).toInt = -1 := rfl
  rw [b_X12_goAll_0 (hd := by omega)]
  refine w_X12_goProgramme (by omega) (V := V) (lo := lo) (L := L) hR hp.1 hp.2.1 hT.1 hT.2.1 hT.2.2.1 hT.2.2.2.1 hI2 hp.2.2.1 hp.2.2.2.zero (fun τ hF hic hm => ?_)
  rw [em, skipL_neg] at hic hm
  show zwp X d MX12_goAll 9 _ [] (zen τ) Q
  rw [b_X12_goAll_9]
  exact hQ τ hF (hT.zfr hF) hic hm
theorem mul3 (p a w : Int) : p * a * w = a * w * p := by rw [Int.mul_comm p a, Int.mul_assoc, Int.mul_comm p w, ← Int.mul_assoc]
theorem lp_X12_heaviestAt {X : zX} {d : Nat} {Q : Option Value → zH → Prop} (hd : 1 ≤ d) {σ : zS} {nr nt : Nat} {N : Nat → Nat → Int} {J : Nat → Int} (hR : HallR nr nt N) (hH : HallM σ nr nt N) (a : Int32) (ha : 0 ≤ a.toInt ∧ a.toInt ≤ 9) (hI : IceAt (σ.1 86) J) (hI2 : IceR J) : ∀ (n : Nat) (p acc : Int32), 0 ≤ p.toInt → p.toInt + n = N 6 0 → acc.toInt = max 0 (carI J (a.toInt * N 7 0) p.toInt.toNat) → (∀ v : Int32, v.toInt = carries (N 6 0) (a.toInt * N 7 0) J → Q (some (.int v)) (zen σ)) → zwp X d MX12_heaviestAt 6 [.ref 66, .int a, .int acc, .int p] [] (zen σ) Q := by
  have hl := hR.long
  have h9 := hH.2.2.2.2.1
  intro n
  induction n with
  | zero =>
    intro p acc h0 hn hacc hQ
    rw [b_X12_heaviestAt_6 (hd := hd), if_pos (ile.mpr (by omega))]
    refine hQ _ ?_
    rw [hacc]
    unfold carries
    rw [show (N 6 0).toNat = p.toInt.toNat by omega]
  | succ n ih =>
    intro p acc h0 hn hacc hQ
    have hix := ix_t p
    have es : (p + 1).toInt = p.toInt + 1 := t_succ (by omega)
    have bm := mulb h0 (A := 16) (by omega) ha.1 ha.2
    have em : (p * a).toInt = p.toInt * a.toInt := t_mul (by omega)
    have T := t_thawed hH hR (q := ix p) (p := p) (m := p * a) (I := J) (by omega) (by omega) (by rw [em]; omega) (hI _ (by omega)) (hI2 _ (by omega))
    rw [em, mul3] at T
    rw [b_X12_heaviestAt_6 (hd := hd), if_neg (fun q => by have := ile.mp q; omega), ztrue_and T.1]
    have e2 : (p.toInt.toNat : Int) = p.toInt := by omega
    have ec : carI J (a.toInt * N 7 0) (p.toInt.toNat + 1) = min (carI J (a.toInt * N 7 0) p.toInt.toNat) (J (ix p) - a.toInt * N 7 0 * p.toInt) := by
      show min _ (J p.toInt.toNat - _ * (p.toInt.toNat : Int)) = _
      rw [e2, hix]
    by_cases hc : acc ≤ f_X12_thawed σ p (p * a)
    · have := ile.mp hc
      rw [if_pos hc]
      refine ih (p + 1) acc (by omega) (by omega) ?_ hQ
      rw [es, show (p.toInt + 1).toNat = p.toInt.toNat + 1 by omega, ec]; omega
    · have := nile hc
      rw [if_neg hc, ztrue_and T.1]
      refine ih (p + 1) _ (by omega) (by omega) ?_ hQ
      rw [es, show (p.toInt + 1).toNat = p.toInt.toNat + 1 by omega, ec]; omega
theorem w_X12_heaviestAt {X : zX} {d : Nat} {Q : Option Value → zH → Prop} (hd : 1 ≤ d) {σ : zS} {nr nt : Nat} {N : Nat → Nat → Int} {J : Nat → Int} {a : Int32} (hR : HallR nr nt N) (hH : HallM σ nr nt N) (ha : 0 ≤ a.toInt ∧ a.toInt ≤ 9) (hI : IceAt (σ.1 86) J) (hI2 : IceR J)
    (hQ : ∀ v : Int32, v.toInt = carries (N 6 0) (a.toInt * N 7 0) J → Q (some (.int v)) (zen σ)) : zwp X d MX12_heaviestAt 0 [.ref 66, .int a, .null, .null] [] (zen σ) Q := by
  have e0 : (0 : Int32).toInt = 0 := rfl
  have hl := hR.long
  rw [b_X12_heaviestAt_0]
  exact lp_X12_heaviestAt hd hR hH a ha hI hI2 (N 6 0).toNat 0 999 (by omega) (by omega) rfl hQ
theorem lp_X12_fallsOn {X : zX} {d : Nat} {Q : Option Value → zH → Prop} (hd : 1 ≤ d) {σ : zS} {nr nt : Nat} {N : Nat → Nat → Int} {J : Nat → Int} (hR : HallR nr nt N) (hH : HallM σ nr nt N) (w a : Int32) (ha : 0 ≤ a.toInt ∧ a.toInt ≤ 9) (hI : IceAt (σ.1 86) J) (hI2 : IceR J) : ∀ (n : Nat) (p : Int32), 0 ≤ p.toInt → p.toInt + n = N 6 0 → (∀ v : Int32, v.toInt = fallI J (a.toInt * N 7 0) w.toInt n p.toInt.toNat → Q (some (.int v)) (zen σ)) → zwp X d MX12_fallsOn 2 [.ref 66, .int w, .int a, .int p] [] (zen σ) Q := by
  have hl := hR.long
  have h9 := hH.2.2.2.2.1
  intro n
  induction n with
  | zero =>
    intro p h0 hn hQ
    rw [b_X12_fallsOn_2 (hd := hd), if_pos (ile.mpr (by omega))]
    exact hQ _ rfl
  | succ n ih =>
    intro p h0 hn hQ
    have hix := ix_t p
    have es : (p + 1).toInt = p.toInt + 1 := t_succ (by omega)
    have bm := mulb h0 (A := 16) (by omega) ha.1 ha.2
    have em : (p * a).toInt = p.toInt * a.toInt := t_mul (by omega)
    have T := t_thawed hH hR (q := ix p) (p := p) (m := p * a) (I := J) (by omega) (by omega) (by rw [em]; omega) (hI _ (by omega)) (hI2 _ (by omega))
    rw [em, mul3] at T
    rw [b_X12_fallsOn_2 (hd := hd), if_neg (fun q => by have := ile.mp q; omega), ztrue_and T.1]
    have e2 : (p.toInt.toNat : Int) = p.toInt := by omega
    unfold fallI at hQ
    rw [e2, show p.toInt.toNat = ix p from hix.symm] at hQ
    by_cases hc : w ≤ f_X12_thawed σ p (p * a)
    · have := ile.mp hc
      rw [if_pos hc]
      refine ih (p + 1) (by omega) (by omega) (fun v hv => hQ v ?_)
      rw [if_neg (by omega), hv, es, show (p.toInt + 1).toNat = ix p + 1 by omega]
    · have := nile hc
      rw [if_neg hc]
      refine hQ p ?_
      rw [if_pos (by omega)]
theorem w_X12_fallsOn {X : zX} {d : Nat} {Q : Option Value → zH → Prop} (hd : 1 ≤ d) {σ : zS} {nr nt : Nat} {N : Nat → Nat → Int} {J : Nat → Int} {w a : Int32} (hR : HallR nr nt N) (hH : HallM σ nr nt N) (ha : 0 ≤ a.toInt ∧ a.toInt ≤ 9) (hI : IceAt (σ.1 86) J) (hI2 : IceR J)
    (hQ : ∀ v : Int32, v.toInt = falls (N 6 0) (a.toInt * N 7 0) w.toInt J → Q (some (.int v)) (zen σ)) : zwp X d MX12_fallsOn 0 [.ref 66, .int w, .int a, .null] [] (zen σ) Q := by
  have e0 : (0 : Int32).toInt = 0 := rfl
  have hl := hR.long
  rw [b_X12_fallsOn_0]
  exact lp_X12_fallsOn hd hR hH w a ha hI hI2 (N 6 0).toNat 0 (by omega) (by omega) hQ
theorem lp_X12_thinnest {X : zX} {d : Nat} {Q : Option Value → zH → Prop} {σ : zS} {nr nt : Nat} {N : Nat → Nat → Int} {J : Nat → Int} (hR : HallR nr nt N) (hH : HallM σ nr nt N) (hI : IceAt (σ.1 86) J) : ∀ (n : Nat) (p b : Int32), 0 ≤ p.toInt → p.toInt + n = N 6 0 → 0 ≤ b.toInt → b.toInt < 16 → (∀ v : Int32, v.toInt = thinI J n p.toInt.toNat b.toInt.toNat → Q (some (.int v)) (zen σ)) → zwp X d MX12_thinnest 4 [.ref 66, .int b, .int p] [] (zen σ) Q := by
  have hl := hR.long
  have h9 := hH.2.2.2.2.1
  intro n
  induction n with
  | zero =>
    intro p b h0 hn hb0 hb1 hQ
    rw [b_X12_thinnest_4, if_pos (ile.mpr (by omega))]
    refine hQ _ ?_
    unfold thinI; omega
  | succ n ih =>
    intro p b h0 hn hb0 hb1 hQ
    have hz : zin p 16 = true := zin_of h0 (by omega)
    have hz2 : zin b 16 = true := zin_of hb0 (by omega)
    rw [b_X12_thinnest_4, if_neg (fun q => by have := ile.mp q; omega), ztrue_and hz, ztrue_and hz2]
    have es : (p + 1).toInt = p.toInt + 1 := t_succ (by omega)
    have b1 : (gi σ 86 (ix p)).toInt = J p.toInt.toNat := hI p.toInt.toNat (by omega)
    have b2 : (gi σ 86 (ix b)).toInt = J b.toInt.toNat := hI b.toInt.toNat (by omega)
    unfold thinI at hQ
    by_cases hc : J p.toInt.toNat < J b.toInt.toNat
    · rw [if_neg (fun q => by have := ile.mp q; omega)]
      refine ih (p + 1) p (by omega) (by omega) h0 (by omega) (fun v hv => hQ v ?_)
      rw [if_pos hc, hv, es, show (p.toInt + 1).toNat = p.toInt.toNat + 1 by omega]
    · rw [if_pos (ile.mpr (by omega))]
      refine ih (p + 1) b (by omega) (by omega) hb0 hb1 (fun v hv => hQ v ?_)
      rw [if_neg hc, hv, es, show (p.toInt + 1).toNat = p.toInt.toNat + 1 by omega]
theorem w_X12_thinnest {X : zX} {d : Nat} {Q : Option Value → zH → Prop} {σ : zS} {nr nt : Nat} {N : Nat → Nat → Int} {J : Nat → Int} (hR : HallR nr nt N) (hH : HallM σ nr nt N) (hI : IceAt (σ.1 86) J)
    (hQ : ∀ v : Int32, v.toInt = thinnest (N 6 0) J → Q (some (.int v)) (zen σ)) : zwp X d MX12_thinnest 0 [.ref 66, .null, .null] [] (zen σ) Q := by
  have e0 : (0 : Int32).toInt = 0 := rfl
  have e1 : (1 : Int32).toInt = 1 := rfl
  have hl := hR.long
  rw [b_X12_thinnest_0]
  exact lp_X12_thinnest hR hH hI ((N 6 0).toNat - 1) 1 0 (by omega) (by omega) (by omega) (by omega) hQ
theorem thinnest_lt {long : Int} (h : 2 ≤ long ∧ long ≤ 16) (J : Nat → Int) : thinnest long J < 16 := by
  unfold thinnest
  exact thinI_lt _ _ _ (by omega) (by omega)
/-- a row's element on a shelf: the reference -/
theorem atp {σ : zS} {s k : Int32} (hs : 0 ≤ s.toInt ∧ s.toInt < 6) (hk : 0 ≤ k.toInt ∧ k.toInt < 60) : p_X12_at σ s k ∧ f_X12_at σ s k = Int64.toInt32 (gl σ 97 (60 * s.toInt.toNat + k.toInt.toNat)) := by
  have e60 : (60 : Int32).toInt = 60 := rfl
  have e1 : (60 * s).toInt = 60 * s.toInt := by rw [t_mul (by rw [e60]; omega), e60]
  have e2 : (60 * s + k).toInt = 60 * s.toInt + k.toInt := by rw [t_add (by rw [e1]; omega), e1]
  constructor
  · unfold p_X12_at; exact zin_of (by omega) (by omega)
  · unfold f_X12_at
    rw [ix_t, e2, show (60 * s.toInt + k.toInt).toNat = 60 * s.toInt.toNat + k.toInt.toNat by omega]
theorem lp_X12_layProgramme {X : zX} {d : Nat} {Q : Option Value → zH → Prop} (hd : 2 ≤ d) {nt : Nat} {e : Nat → Int} {size : Int} (s : Int32) (hs : 0 ≤ s.toInt ∧ s.toInt < 6) : ∀ (n : Nat) (σ : zS) (k : Int32) (w : Value), (gi σ 66 6).toInt = nt → nt ≤ 8 → (gi σ 96 (ix s)).toInt = size → size ≤ 60 → (∀ j, j < 60 → (gl σ 97 (60 * s.toInt.toNat + j)).toInt = e j ∧ -128 ≤ e j ∧ e j ≤ 127) → 0 ≤ k.toInt → gi σ 66 39 = k → k.toInt + n = min size 20 → (∀ τ : zS, zFr [88] [(66, 39)] σ τ → (gi τ 66 39).toInt = k.toInt + (progE nt e n k.toInt.toNat).length → (∀ j : Nat, j < k.toInt.toNat → gi τ 88 j = gi σ 88 j) → LAt (τ.1 88) (progE nt e n k.toInt.toNat) k.toInt.toNat → Q none (zen τ)) → zwp X d MX12_layProgramme 7 [.ref 66, .int s, .int k, w] [] (zen σ) Q := by
  have hz6 : zin s 6 = true := zin_of hs.1 (by omega)
  have e20 : (20 : Int32).toInt = 20 := rfl
  intro n
  induction n with
  | zero =>
    intro σ k w hnt hn8 hsz hs60 hE h0 hk hn hQ
    have fin : Q none (zen σ) := hQ σ zFr.rf (by rw [hk]; unfold progE; simp) (fun _ _ => rfl) (fun j hj => by unfold progE at hj; cases hj)
    rw [b_X12_layProgramme_7 (hd := hd), ztrue_and hz6]
    by_cases hc : gi σ 96 (ix s) ≤ k
    · rw [if_pos hc]; exact fin
    · have := nile hc
      rw [if_neg hc, if_pos (ile.mpr (by omega))]; exact fin
  | succ n ih =>
    intro σ k w hnt hn8 hsz hs60 hE h0 hk hn hQ
    have hz2 : zin k 21 = true := zin_of h0 (by omega)
    have hix := ix_t k
    have es : (k + 1).toInt = k.toInt + 1 := t_succ (by omega)
    have A := atp (σ := σ) hs (k := k) (by omega)
    have hEk := hE k.toInt.toNat (by omega)
    have eb : (f_X12_at σ s k).toInt = e k.toInt.toNat := by
      rw [A.2, tq_l2i (by rw [hEk.1]; omega), hEk.1]
    rw [b_X12_layProgramme_7 (hd := hd), ztrue_and hz6, if_neg (fun q => by have := ile.mp q; omega), if_neg (fun q => by have := ile.mp q; omega), ztrue_and A.1]
    generalize hx : f_X12_at σ s k = x at eb
    have e0 : (0 : Int32).toInt = 0 := rfl
    unfold progE at hQ
    have go : (e k.toInt.toNat = 20 ∨ (0 ≤ e k.toInt.toNat ∧ e k.toInt.toNat < nt)) → zwp X d MX12_layProgramme 7 [.ref 66, .int s, .int (k + 1), .int x] [] (zen (si (si σ 88 (ix k) x) 66 39 (gi σ 66 39 + 1))) Q := by
      intro hc
      have k4 : gi (si (si σ 88 (ix k) x) 66 39 (gi σ 66 39 + 1)) 66 39 = k + 1 := by rw [gi_si, hk]
      have hF : zFr [88] [(66, 39)] σ (si (si σ 88 (ix k) x) 66 39 (gi σ 66 39 + 1)) := (zFr.rf.ws (by decide)).sf (by decide)
      refine ih _ (k + 1) _ hnt hn8 hsz hs60 (fun j hj => hE j hj) (by omega) k4 (by omega) (fun τ hF2 hk2 hlo hL => ?_)
      rw [es, show (k.toInt + 1).toNat = k.toInt.toNat + 1 by omega] at hk2 hlo hL
      rw [if_pos hc] at hQ
      refine hQ τ (hF.tr hF2) (by rw [hk2, List.length_cons]; omega) (fun j hj => ?_) (LAt.cons ?_ hL)
      · rw [hlo j (by omega), gi_si_ne (by decide), gi_si_j (by omega)]
      · have := hlo k.toInt.toNat (by omega)
        rw [gi_si_ne (by decide)] at this
        show (gi τ 88 k.toInt.toNat).toInt = _
        rw [this, ← hix, gi_si, hix, eb]
    by_cases hc : x = 20
    · have hc2 : e k.toInt.toNat = 20 := by rw [← eb, hc, e20]
      rw [if_pos hc, ztrue_and hz2]
      exact go (Or.inl hc2)
    · have hc2 : ¬ e k.toInt.toNat = 20 := fun q => hc (ieq.mpr (by rw [eb, q, e20]))
      have e1 : (1 : Int32).toInt = 1 := rfl
      have et : (gi σ 66 6 - 1).toInt = nt - 1 := by rw [t_sub (by rw [hnt, e1]; omega), hnt, e1]
      rw [if_neg hc]
      by_cases ht : 0 ≤ e k.toInt.toNat ∧ e k.toInt.toNat < nt
      · have hf : ¬ f_X12_isTurn σ x = 0 := by
          unfold f_X12_isTurn f_X12_in
          rw [if_neg (fun q => by have := il.mp q; omega), if_neg (fun q => by have := il.mp q; omega)]
          decide
        rw [if_pos hf, ztrue_and hz2]
        exact go (Or.inr ht)
      · have hf : f_X12_isTurn σ x = 0 := by
          unfold f_X12_isTurn f_X12_in
          by_cases q1 : x < 0
          · rw [if_pos q1]
          · have := nil_ q1
            rw [if_neg q1, if_pos (il.mpr (by omega))]
        rw [if_neg (fun q => q hf)]
        rw [if_neg (by omega)] at hQ
        exact hQ σ zFr.rf (by rw [hk]; simp) (fun _ _ => rfl) (fun j hj => by cases hj)
theorem w_X12_layProgramme {X : zX} {d : Nat} {Q : Option Value → zH → Prop} (hd : 2 ≤ d) {σ : zS} {nt : Nat} {e : Nat → Int} {s : Int32} (hs : 0 ≤ s.toInt ∧ s.toInt < 6) (hnt : (gi σ 66 6).toInt = nt) (hn8 : nt ≤ 8) (hz : 0 ≤ (gi σ 96 (ix s)).toInt ∧ (gi σ 96 (ix s)).toInt ≤ 60) (hE : ∀ j, j < 60 → (gl σ 97 (60 * s.toInt.toNat + j)).toInt = e j ∧ -128 ≤ e j ∧ e j ≤ 127)
    (hQ : ∀ τ : zS, zFr [88] [(66, 39)] σ τ → ProgM τ nt (progE nt e (min (gi σ 96 (ix s)).toInt.toNat 20) 0) → Q none (zen τ)) : zwp X d MX12_layProgramme 0 [.ref 66, .int s, .null, .null] [] (zen σ) Q := by
  have e0 : (0 : Int32).toInt = 0 := rfl
  rw [b_X12_layProgramme_0]
  have hF : zFr [88] [(66, 39)] σ (si σ 66 39 0) := zFr.rf.sf (by decide)
  refine lp_X12_layProgramme hd (nt := nt) (e := e) (size := (gi σ 96 (ix s)).toInt) s hs (min (gi σ 96 (ix s)).toInt.toNat 20) _ 0 _ hnt hn8 rfl hz.2 (fun j hj => hE j hj) (by omega) gi_si (by omega) (fun τ hF2 hk hlo hL => ?_)
  rw [e0] at hk hL
  have ok := progE_ok (nt := nt) (e := e) (min (gi σ 96 (ix s)).toInt.toNat 20) 0
  have z0 : (0 : Int).toNat = 0 := rfl
  rw [z0] at hk hL
  exact hQ τ (hF.tr hF2) ⟨by rw [hk]; omega, by omega, ok.1, hL⟩
