/-! spare, harm, encore -/
theorem t_half {σ : zS} {x : Int32} : f_X11_isHalf σ x = if x.toInt < 0 ∨ 1 < x.toInt then 0 else 1 := by
  unfold f_X11_isHalf
  have e0 : (0 : Int32).toInt = 0 := rfl
  have e1 : (1 : Int32).toInt = 1 := rfl
  by_cases h1 : x = 0
  · rw [if_pos h1, if_neg (by rw [h1, e0]; omega)]
  · have h1' : ¬ x.toInt = 0 := fun q => h1 (ieq.mpr (by rw [q, e0]))
    rw [if_neg h1]
    by_cases h2 : x = 1
    · rw [if_neg (fun q => q h2), if_neg (by rw [h2, e1]; omega)]
    · have h2' : ¬ x.toInt = 1 := fun q => h2 (ieq.mpr (by rw [q, e1]))
      rw [if_pos h2, if_pos (by omega)]
def spareI (c : Nat → Int) : Nat → Nat → Int → Int → Int × Int
  | 0, _, pl, bs => (pl, bs)
  | n + 1, k, pl, bs => if bs < c k then spareI c n (k + 1) k (c k) else spareI c n (k + 1) pl bs
theorem carries_nn (long l : Int) (J : Nat → Int) : 0 ≤ carries long l J ∧ carries long l J ≤ 999 := by
  have : ∀ n, carI J l n ≤ 999 := by
    intro n
    induction n with
    | zero => exact Int.le_refl _
    | succ n ih => unfold carI; omega
  have := this long.toNat
  unfold carries
  omega
abbrev cWithout (N : Nat → Nat → Int) (V : zV) (nr : Nat) (L : List Int) (I : Nat → Int) : Nat → Int := fun k => carries (N 6 0) 0 (play N (gG V N (-1) nr) (skipL (k : Int) 0 L) I)
theorem lp_X10_bestSpared {X : zX} {d : Nat} {Q : Option Value → zH → Prop} (hd : 7 ≤ d) {nr nt : Nat} {N : Nat → Nat → Int} {V : zV} {I : Nat → Int} {L : List Int} (hR : HallR nr nt N) (hI2 : IceR I) (what : Int32) : ∀ (n : Nat) (σ : zS) (k pl bs : Int32) (w5 : Value), ThC σ nr nt N V (-1) I L → 0 ≤ k.toInt → k.toInt + n = L.length → (∀ (v : Int32) (τ : zS), zFr [6, 14, 15, 16, 44] [(13, 5), (41, 5)] σ τ → ThC τ nr nt N V (-1) I L → (v.toInt = if what = 0 then (spareI (cWithout N V nr L I) n k.toInt.toNat pl.toInt bs.toInt).1 else (spareI (cWithout N V nr L I) n k.toInt.toNat pl.toInt bs.toInt).2) → Q (some (.int v)) (zen τ)) → zwp X d MX10_bestSpared 9 [.ref 41, .int what, .int bs, .int pl, .int k, w5] [] (zen σ) Q := by
  intro n
  induction n with
  | zero =>
    intro σ k pl bs w5 hT h0 hk hQ
    have hp := hT.2.2.2.2
    unfold spareI at hQ
    rw [b_X10_bestSpared_9 (hd := by omega), if_pos (ile.mpr (by rw [hp.1]; omega))]
    by_cases hc : what = 0
    · rw [if_neg (fun q => q hc)]
      exact hQ _ σ zFr.rf hT (by rw [if_pos hc])
    · rw [if_pos hc]
      exact hQ _ σ zFr.rf hT (by rw [if_neg hc])
  | succ n ih =>
    intro σ k pl bs w5 hT h0 hk hQ
    have hp := hT.2.2.2.2
    have h20 := hp.2.1
    have es : (k + 1).toInt = k.toInt + 1 := t_succ (by omega)
    have er : (k + 1).toInt.toNat = k.toInt.toNat + 1 := by omega
    have e2 : (k.toInt.toNat : Int) = k.toInt := by omega
    unfold spareI at hQ
    rw [e2] at hQ
    rw [b_X10_bestSpared_9 (hd := by omega), if_neg (fun q => by have := ile.mp q; have := hp.1; omega)]
    refine w_X10_carriedWithout (by omega) hR hT hI2 (fun v τ hF hT2 _ _ hv => ?_)
    show zwp X d MX10_bestSpared 24 _ [.int v] (zen τ) Q
    rw [b_X10_bestSpared_24]
    by_cases hc : v ≤ bs
    · have := ile.mp hc
      have hcn : ¬ bs.toInt < cWithout N V nr L I k.toInt.toNat := by
        show ¬ bs.toInt < carries (N 6 0) 0 (play N (gG V N (-1) nr) (skipL (k.toInt.toNat : Int) 0 L) I)
        rw [e2]; omega
      rw [if_pos hc]
      rw [if_neg hcn] at hQ
      refine ih τ (k + 1) pl bs _ hT2 (by omega) (by omega) (fun x ρ hF2 hT3 hx => hQ x ρ (hF.tr hF2) hT3 ?_)
      rw [hx, er]
    · have := nile hc
      have ec : cWithout N V nr L I k.toInt.toNat = v.toInt := by
        show carries (N 6 0) 0 (play N (gG V N (-1) nr) (skipL (k.toInt.toNat : Int) 0 L) I) = _
        rw [e2, hv]
      rw [if_neg hc]
      rw [ec, if_pos this] at hQ
      refine ih τ (k + 1) k v _ hT2 (by omega) (by omega) (fun x ρ hF2 hT3 hx => hQ x ρ (hF.tr hF2) hT3 ?_)
      rw [hx, er]
theorem lp_X12_spare {X : zX} {d : Nat} {Q : Option Value → zH → Prop} (hd : 12 ≤ d) {nr nt : Nat} {N : Nat → Nat → Int} {V : zV} {I : Nat → Int} {L : List Int} (hR : HallR nr nt N) (hI2 : IceR I) (s what t : Int32) : ∀ (n : Nat) (σ : zS) (k pl bs : Int32), ThM σ nr nt N V (-1) I L → 0 ≤ k.toInt → k.toInt + n = L.length → (pl.toInt = -2 ∧ bs.toInt = -2 ∨ 0 ≤ pl.toInt ∧ 0 ≤ bs.toInt) → (∀ (v : Int32) (τ : zS), zFr [83, 84, 86, 87] [(66, 37)] σ τ → ThM τ nr nt N V (-1) I L → (v.toInt = if what = 0 then (spareI (cWithout N V nr L I) n k.toInt.toNat pl.toInt bs.toInt).1 else (spareI (cWithout N V nr L I) n k.toInt.toNat pl.toInt bs.toInt).2) → Q (some (.int v)) (zen τ)) → zwp X d MX12_spare 41 [.ref 66, .int s, .int what, .int t, .int pl, .int bs, .int k] [] (zen σ) Q := by
  have e0 : (0 : Int32).toInt = 0 := rfl
  intro n
  induction n with
  | zero =>
    intro σ k pl bs hT h0 hk hpb hQ
    have hp := hT.2.2.2.2
    unfold spareI at hQ
    rw [b_X12_spare_41 (hd := by omega), if_pos (ile.mpr (by rw [hp.1]; omega))]
    by_cases hc : what = 0
    · rw [if_neg (fun q => q hc)]
      exact hQ _ σ zFr.rf hT (by rw [if_pos hc])
    · rw [if_pos hc]
      exact hQ _ σ zFr.rf hT (by rw [if_neg hc])
  | succ n ih =>
    intro σ k pl bs hT h0 hk hpb hQ
    have hp := hT.2.2.2.2
    have h20 := hp.2.1
    have es : (k + 1).toInt = k.toInt + 1 := t_succ (by omega)
    have er : (k + 1).toInt.toNat = k.toInt.toNat + 1 := by omega
    have e2 : (k.toInt.toNat : Int) = k.toInt := by omega
    unfold spareI at hQ
    rw [e2] at hQ
    have cn := carries_nn (N 6 0) 0 (play N (gG V N (-1) nr) (skipL k.toInt 0 L) I)
    rw [b_X12_spare_41 (hd := by omega), if_neg (fun q => by have := ile.mp q; have := hp.1; omega)]
    refine w_X12_goProgramme (by omega) (V := V) (lo := -1) (L := L) hR hp.1 hp.2.1 hT.1 hT.2.1 hT.2.2.1 hT.2.2.2.1 hI2 hp.2.2.1 hp.2.2.2.zero (fun τ hF hic _ => ?_)
    have hT2 := hT.zfr hF
    have hJ : IceR (play N (gG V N (-1) nr) (skipL k.toInt 0 L) I) := play_R hR _ _ (skipL_ok _ _ hp.2.2.1) hI2
    have take : bs.toInt < carries (N 6 0) 0 (play N (gG V N (-1) nr) (skipL k.toInt 0 L) I) → zwp X (d - 1) MX12_heaviestAt 0 [.ref 66, .int 0, .null, .null] [] (zen τ) (fun v h' => zwp X d MX12_spare 87 [.ref 66, .int s, .int what, .int t, .int k, .int bs, .int k] (zpsh v []) h' Q) := by
      intro hlt
      refine w_X12_heaviestAt (by omega) hR hT2.1 (by omega) hic hJ (fun x hx => ?_)
      rw [e0, Int.zero_mul] at hx
      replace hx : x.toInt = carries (N 6 0) 0 (play N (gG V N (-1) nr) (skipL k.toInt 0 L) I) := hx
      show zwp X d MX12_spare 87 _ [.int x] (zen τ) Q
      rw [b_X12_spare_87]
      have ec : cWithout N V nr L I k.toInt.toNat = x.toInt := by
        show carries (N 6 0) 0 (play N (gG V N (-1) nr) (skipL (k.toInt.toNat : Int) 0 L) I) = _
        rw [e2, hx]
      rw [ec, if_pos (show bs.toInt < x.toInt by omega)] at hQ
      refine ih τ (k + 1) k x hT2 (by omega) (by omega) (Or.inr ⟨h0, by omega⟩) (fun y ρ hF2 hT3 hy => hQ y ρ (hF.tr hF2) hT3 ?_)
      rw [hy, er]
    show zwp X d MX12_spare 60 _ [] (zen τ) Q
    rw [b_X12_spare_60 (hd := by omega)]
    by_cases hc : pl < 0
    · have := il.mp hc
      rw [if_pos hc]
      exact take (by omega)
    · have := nil_ hc
      rw [if_neg hc]
      refine w_X12_heaviestAt (by omega) hR hT2.1 (by omega) hic hJ (fun x hx => ?_)
      rw [e0, Int.zero_mul] at hx
      replace hx : x.toInt = carries (N 6 0) 0 (play N (gG V N (-1) nr) (skipL k.toInt 0 L) I) := hx
      show zwp X d MX12_spare 70 _ [.int x] (zen τ) Q
      rw [b_X12_spare_70 (hd := by omega)]
      by_cases hc2 : bs < x
      · have := il.mp hc2
        rw [if_pos hc2]
        exact take (by omega)
      · have := nil_ hc2
        have hcn : ¬ bs.toInt < cWithout N V nr L I k.toInt.toNat := by
          show ¬ bs.toInt < carries (N 6 0) 0 (play N (gG V N (-1) nr) (skipL (k.toInt.toNat : Int) 0 L) I)
          rw [e2]; omega
        rw [if_neg hc2]
        rw [if_neg hcn] at hQ
        refine ih τ (k + 1) pl bs hT2 (by omega) (by omega) hpb (fun y ρ hF2 hT3 hy => hQ y ρ (hF.tr hF2) hT3 ?_)
        rw [hy, er]
def harmI (c : Nat → Int) (w : Int) : Nat → Int32 → Int32 → Int32
  | 0, _, bits => bits
  | n + 1, r, bits => if c r.toInt.toNat ≤ w then harmI c w n (r + 1) bits else harmI c w n (r + 1) (bits ||| (1 <<< (r &&& 31)))
abbrev cHarm (N : Nat → Nat → Int) (V : zV) (nr : Nat) (L : List Int) (I : Nat → Int) : Nat → Int := fun k => carries (N 6 0) 0 (play N (gG V N (k : Int) nr) L I)
theorem ThC.lo {σ τ : zS} {nr nt : Nat} {N : Nat → Nat → Int} {V : zV} {lo lo' : Int} {I : Nat → Int} {L : List Int} (h : ThC σ nr nt N V lo I L) (hF : zFr [16] [(13, 5), (13, 6)] σ τ) (hC : CacheC τ nr nt N V lo') : ThC τ nr nt N V lo' I L := by
  refine ⟨h.1.fr (hF.c (by decide) (by decide)) (hF.c (by decide) (by decide)), h.2.1.fr (hF.c (by decide) (by decide)) (hF.c (by decide) (by decide)) (hF.c (by decide) (by decide)), hC, ?_, ?_⟩
  · rw [hF.c (by decide) (by decide)]; exact h.2.2.2.1
  · have hp := h.2.2.2.2
    refine ⟨?_, hp.2.1, hp.2.2.1, ?_⟩
    · rw [hF.1 41 (by decide) 4 (by decide)]; exact hp.1
    · rw [hF.c (by decide) (by decide)]; exact hp.2.2.2
theorem lp_X10_harm {X : zX} {d : Nat} {Q : Option Value → zH → Prop} (hd : 7 ≤ d) {nr nt : Nat} {N : Nat → Nat → Int} {V : zV} {I : Nat → Int} {L : List Int} (hR : HallR nr nt N) (hI2 : IceR I) (w : Int32) : ∀ (n : Nat) (σ : zS) (lo : Int) (r bits : Int32), ThC σ nr nt N V lo I L → 0 ≤ r.toInt → r.toInt + n = nr → 0 ≤ (gi σ 1 3).toInt → (∀ (τ : zS), zFr SC1 [(13, 5), (13, 6), (41, 5)] σ τ → ThC τ nr nt N V (-1) I L → Q (some (.int (harmI (cHarm N V nr L I) w.toInt n r bits))) (zen τ)) → zwp X d MX10_harmfulRows 10 [.ref 41, .int w, .int bits, .int r] [] (zen σ) Q := by
  have em1 : (-1 : Int32).toInt = -1 := rfl
  have h6 := hR.1
  intro n
  induction n with
  | zero =>
    intro σ lo r bits hT h0 hr hv hQ
    unfold harmI at hQ
    rw [b_X10_harmfulRows_10 (hd := by omega), if_pos (ile.mpr (by rw [hT.1.1]; omega))]
    refine w_X0_leaveOut (by omega) (V := V) hR (by omega) (fun τ hF hC => ?_)
    show zwp X d MX10_harmfulRows 58 _ [] (zen τ) Q
    rw [b_X10_harmfulRows_58]
    rw [em1] at hC
    exact hQ τ (hF.sub (by decide) (by decide)) (hT.lo hF hC)
  | succ n ih =>
    intro σ lo r bits hT h0 hr hv hQ
    have es : (r + 1).toInt = r.toInt + 1 := t_succ (by omega)
    have e2 : (r.toInt.toNat : Int) = r.toInt := by omega
    unfold harmI at hQ
    rw [b_X10_harmfulRows_10 (hd := by omega), if_neg (fun q => by have := ile.mp q; rw [hT.1.1] at this; omega)]
    refine w_X0_leaveOut (by omega) (V := V) hR (by omega) (fun τ hF hC => ?_)
    show zwp X d MX10_harmfulRows 29 _ [] (zen τ) Q
    have hT2 := hT.lo hF hC
    rw [b_X10_harmfulRows_29 (hd := by omega)]
    refine w_X10_carriedWithout (by omega) hR hT2 hI2 (fun v ρ hF2 hT3 _ _ hx => ?_)
    rw [em1, skipL_neg] at hx
    have hx' : v.toInt = cHarm N V nr L I r.toInt.toNat := by rw [hx]; show _ = carries _ _ (play N (gG V N (r.toInt.toNat : Int) nr) L I); rw [e2]
    show zwp X d MX10_harmfulRows 34 _ [.int v] (zen ρ) Q
    have hF3 : zFr SC1 [(13, 5), (13, 6), (41, 5)] σ ρ := (hF.sub (by decide) (by decide)).tr (hF2.sub (by decide) (by decide))
    have hv3 : 0 ≤ (gi ρ 1 3).toInt := by rw [hF3.1 1 (by decide) 3 (by decide)]; exact hv
    rw [b_X10_harmfulRows_34]
    by_cases hc : v ≤ w
    · have := ile.mp hc
      rw [if_pos hc]
      refine ih ρ _ (r + 1) bits hT3 (by omega) (by omega) hv3 (fun θ hF4 hT4 => ?_)
      rw [if_pos (by omega)] at hQ
      exact hQ θ (hF3.tr hF4) hT4
    · have := nile hc
      rw [if_neg hc]
      refine ih ρ _ (r + 1) _ hT3 (by omega) (by omega) hv3 (fun θ hF4 hT4 => ?_)
      rw [if_neg (by omega)] at hQ
      exact hQ θ (hF3.tr hF4) hT4
theorem ThM.lo {σ : zS} {nr nt : Nat} {N : Nat → Nat → Int} {V : zV} {lo : Int} {I : Nat → Int} {L : List Int} (h : ThM σ nr nt N V lo I L) (x : Int32) : ThM (si σ 66 36 x) nr nt N V x.toInt I L := by
  have hF : zFr [] [(66, 36)] σ (si σ 66 36 x) := zFr.rf.sf (by decide)
  refine ⟨h.1.zfr hF (by decide) (by decide), h.2.1.zfr hF (by decide) (by decide), by rw [gi_si], ?_, ?_⟩
  · rw [hF.c (by decide) (by decide)]; exact h.2.2.2.1
  · have hp := h.2.2.2.2
    refine ⟨?_, hp.2.1, hp.2.2.1, ?_⟩
    · rw [hF.1 66 (by decide) 39 (by decide)]; exact hp.1
    · rw [hF.c (by decide) (by decide)]; exact hp.2.2.2
theorem lp_X12_harm {X : zX} {d : Nat} {Q : Option Value → zH → Prop} (hd : 12 ≤ d) {nr nt : Nat} {N : Nat → Nat → Int} {V : zV} {I : Nat → Int} {L : List Int} (hR : HallR nr nt N) (hI2 : IceR I) (s t w : Int32) : ∀ (n : Nat) (σ : zS) (lo : Int) (r bits : Int32), ThM σ nr nt N V lo I L → 0 ≤ r.toInt → r.toInt + n = nr → (∀ (τ : zS), zFr [83, 84, 86, 87] [(66, 36), (66, 37)] σ τ → (gi τ 66 36).toInt = -1 → Q (some (.int (harmI (cHarm N V nr L I) w.toInt n r bits))) (zen τ)) → zwp X d MX12_harm 37 [.ref 66, .int s, .int t, .int w, .int bits, .int r] [] (zen σ) Q := by
  have em1 : (-1 : Int32).toInt = -1 := rfl
  have e0 : (0 : Int32).toInt = 0 := rfl
  have h6 := hR.1
  intro n
  induction n with
  | zero =>
    intro σ lo r bits hT h0 hr hQ
    unfold harmI at hQ
    rw [b_X12_harm_37 (hd := by omega), if_pos (ile.mpr (by rw [hT.1.1]; omega))]
    exact hQ _ (zFr.rf.sf (by decide)) (by rw [gi_si]; rfl)
  | succ n ih =>
    intro σ lo r bits hT h0 hr hQ
    have es : (r + 1).toInt = r.toInt + 1 := t_succ (by omega)
    have e2 : (r.toInt.toNat : Int) = r.toInt := by omega
    unfold harmI at hQ
    rw [b_X12_harm_37 (hd := by omega), if_neg (fun q => by have := ile.mp q; rw [hT.1.1] at this; omega)]
    have hT1 := hT.lo r
    have hp := hT1.2.2.2.2
    refine w_X12_goAll (by omega) hR hT1 hI2 (fun τ hF hT2 hic _ => ?_)
    show zwp X d MX12_harm 56 _ [] (zen τ) Q
    rw [b_X12_harm_56 (hd := by omega)]
    refine w_X12_heaviestAt (by omega) hR hT2.1 (by omega) hic (play_R hR _ _ hp.2.2.1 hI2) (fun v hx => ?_)
    rw [e0, Int.zero_mul] at hx
    have hx' : v.toInt = cHarm N V nr L I r.toInt.toNat := by rw [hx]; show _ = carries _ _ (play N (gG V N (r.toInt.toNat : Int) nr) L I); rw [e2]
    show zwp X d MX12_harm 61 _ [.int v] (zen τ) Q
    have hF3 : zFr [83, 84, 86, 87] [(66, 36), (66, 37)] σ τ := (zFr.rf.sf (k := 66) (j := 36) (v := r) (by decide)).tr (hF.sub (by decide) (by decide))
    rw [b_X12_harm_61]
    by_cases hc : v ≤ w
    · have := ile.mp hc
      rw [if_pos hc]
      refine ih τ _ (r + 1) bits hT2 (by omega) (by omega) (fun θ hF4 hT4 => ?_)
      rw [if_pos (by omega)] at hQ
      exact hQ θ (hF3.tr hF4) hT4
    · have := nile hc
      rw [if_neg hc]
      refine ih τ _ (r + 1) _ hT2 (by omega) (by omega) (fun θ hF4 hT4 => ?_)
      rw [if_neg (by omega)] at hQ
      exact hQ θ (hF3.tr hF4) hT4
/-- the last turn of a programme -/
def lastT (L : List Int) : Nat → Option Int
  | 0 => none
  | n + 1 => if L.getD n 20 = 20 then lastT L n else some (L.getD n 20)
def encV (N : Nat → Nat → Int) (G : Nat → Nat → Int → Int) (L : List Int) (J : Nat → Int) : Int := match lastT L L.length with
  | none => 0
  | some b => carries (N 6 0) 0 (stepI N G b J) - carries (N 6 0) 0 J
theorem LAt.getD {f : Nat → Int32} {L : List Int} (h : LAt f L 0) {j : Nat} (hj : j < L.length) : (f j).toInt = L.getD j 20 := by
  rw [h.zero j hj, List.getD_eq_getElem?_getD, List.getElem?_eq_getElem hj]
  rfl
theorem okB_getD {nt : Nat} {L : List Int} (h : ∀ b, b ∈ L → okB nt b) {j : Nat} (hj : j < L.length) : okB nt (L.getD j 20) := by
  rw [List.getD_eq_getElem?_getD, List.getElem?_eq_getElem hj]
  exact h _ (List.getElem_mem hj)
theorem lp_X10_encore {X : zX} {d : Nat} {Q : Option Value → zH → Prop} (hd : 6 ≤ d) {σ : zS} {nr nt : Nat} {N : Nat → Nat → Int} {V : zV} {I : Nat → Int} {L : List Int} {J : Nat → Int} (hR : HallR nr nt N) (hT : ThC σ nr nt N V (-1) I L) (hic : IceAt (σ.1 44) J) (hJ : IceR J) (w : Int32) (hw : w.toInt = carries (N 6 0) 0 J) : ∀ (n : Nat) (k : Int32), k.toInt = n - 1 → n ≤ L.length → (∀ (v : Int32) (τ : zS), zFr [6, 14, 15, 16, 44] [(13, 5), (41, 5)] σ τ → ThC τ nr nt N V (-1) I L → (v.toInt = match lastT L n with | none => 0 | some b => carries (N 6 0) 0 (stepI N (gG V N (-1) nr) b J) - carries (N 6 0) 0 J) → Q (some (.int v)) (zen τ)) → zwp X d MX10_moreByEncore 13 [.ref 41, .int w, .int k] [] (zen σ) Q := by
  have e0 : (0 : Int32).toInt = 0 := rfl
  have em1 : (-1 : Int32).toInt = -1 := rfl
  have hp := hT.2.2.2.2
  have h20 := hp.2.1
  have h8 := hR.2.1
  intro n
  induction n with
  | zero =>
    intro k hk hn hQ
    rw [b_X10_moreByEncore_13 (hd := by omega), if_pos (il.mpr (by omega))]
    exact hQ 0 σ zFr.rf hT rfl
  | succ n ih =>
    intro k hk hn hQ
    have hz : zin k 20 = true := zin_of (by omega) (by omega)
    have hix : ix k = n := by rw [ix_t]; omega
    have hb : (gi σ 42 (ix k)).toInt = L.getD n 20 := by rw [hix]; exact hp.2.2.2.getD (by omega)
    have ok := okB_getD hp.2.2.1 (j := n) (by omega)
    rw [b_X10_moreByEncore_13 (hd := by omega), if_neg (fun q => by have := il.mp q; omega), ztrue_and hz]
    unfold lastT at hQ
    by_cases hc : L.getD n 20 = 20
    · have hf : f_X10_isTurn σ (gi σ 42 (ix k)) = 0 := by
        unfold f_X10_isTurn
        rw [if_neg (fun q => by have := il.mp q; omega), if_pos (ile.mpr (by rw [hb, hT.1.2.1]; omega))]
      rw [if_pos hf]
      rw [if_pos hc] at hQ
      exact ih _ (by rw [t_add (by omega)]; omega) (by omega) hQ
    · have ok2 : 0 ≤ L.getD n 20 ∧ L.getD n 20 < nt := by unfold okB at ok; omega
      have hf : ¬ f_X10_isTurn σ (gi σ 42 (ix k)) = 0 := by
        unfold f_X10_isTurn
        rw [if_neg (fun q => by have := il.mp q; omega), if_neg (fun q => by have := ile.mp q; rw [hb, hT.1.2.1] at this; omega)]
        decide
      rw [if_neg hf, ztrue_and hz]
      rw [if_neg hc] at hQ
      refine w_X0_step (by omega) (V := V) (lo := -1) hR zB_43 hT.1 hT.2.1 hT.2.2.1 hic hJ (by rw [hb]; exact Or.inr ok2) (fun x τ hF hC hic2 _ => ?_)
      rw [hb] at hic2
      show zwp X d MX10_moreByEncore 47 _ [.int x] (zen τ) Q
      rw [b_X10_moreByEncore_47 (hd := by omega)]
      have hF1 : zFr [6, 14, 15, 16, 44] [(13, 5), (41, 5)] σ τ := hF.sub (fun _ q => q) (by simp)
      have hT2 := hT.zfr hF1 hC
      have hJ2 : IceR (stepI N (gG V N (-1) nr) (L.getD n 20) J) := stepI_R hR ok hJ
      refine w_X2_carries (by omega) zB_43 hT2.1 hR hic2 hJ2 (by omega) (fun y hy => ?_)
      rw [e0, Int.zero_mul] at hy
      replace hy : y.toInt = carries (N 6 0) 0 (stepI N (gG V N (-1) nr) (L.getD n 20) J) := hy
      show zwp X d MX10_moreByEncore 60 _ [.int y] (zen τ) Q
      rw [b_X10_moreByEncore_60]
      have c1 := carries_nn (N 6 0) 0 J
      have c2 := carries_nn (N 6 0) 0 (stepI N (gG V N (-1) nr) (L.getD n 20) J)
      exact hQ _ τ hF1 hT2 (by rw [t_sub (by omega), hy, hw])
theorem lp_X12_encore {X : zX} {d : Nat} {Q : Option Value → zH → Prop} (hd : 12 ≤ d) {σ : zS} {nr nt : Nat} {N : Nat → Nat → Int} {V : zV} {I : Nat → Int} {L : List Int} (hR : HallR nr nt N) (hI2 : IceR I) (hT : ThM σ nr nt N V (-1) I L) (s : Int32) : ∀ (n : Nat) (k : Int32), k.toInt = n - 1 → n ≤ L.length → (∀ (v : Int32) (τ : zS), zFr [83, 84, 86, 87] [(66, 37)] σ τ → ThM τ nr nt N V (-1) I L → (v.toInt = match lastT L n with | none => 0 | some b => carries (N 6 0) 0 (stepI N (gG V N (-1) nr) b (play N (gG V N (-1) nr) L I)) - carries (N 6 0) 0 (play N (gG V N (-1) nr) L I)) → Q (some (.int v)) (zen τ)) → zwp X d MX12_encore 26 [.ref 66, .int s, .int k, .null] [] (zen σ) Q := by
  have e0 : (0 : Int32).toInt = 0 := rfl
  have e20 : (20 : Int32).toInt = 20 := rfl
  have em1 : (-1 : Int32).toInt = -1 := rfl
  have hp := hT.2.2.2.2
  have h20 := hp.2.1
  have h8 := hR.2.1
  intro n
  induction n with
  | zero =>
    intro k hk hn hQ
    rw [b_X12_encore_26 (hd := by omega), if_pos (il.mpr (by omega)), if_neg (fun q => by have := ile.mp q; omega)]
    exact hQ 0 σ zFr.rf hT rfl
  | succ n ih =>
    intro k hk hn hQ
    have hz : zin k 21 = true := zin_of (by omega) (by omega)
    have hix : ix k = n := by rw [ix_t]; omega
    have hb : (gi σ 88 (ix k)).toInt = L.getD n 20 := by rw [hix]; exact hp.2.2.2.getD (by omega)
    have ok := okB_getD hp.2.2.1 (j := n) (by omega)
    rw [b_X12_encore_26 (hd := by omega), if_neg (fun q => by have := il.mp q; omega), ztrue_and hz]
    unfold lastT at hQ
    by_cases hc : L.getD n 20 = 20
    · have hf : gi σ 88 (ix k) = 20 := ieq.mpr (by rw [hb, hc, e20])
      rw [if_neg (fun q => q hf)]
      rw [if_pos hc] at hQ
      exact ih _ (by rw [t_add (by omega)]; omega) (by omega) hQ
    · have ok2 : 0 ≤ L.getD n 20 ∧ L.getD n 20 < nt := by unfold okB at ok; omega
      have hf : ¬ gi σ 88 (ix k) = 20 := fun q => hc (by rw [← hb, q, e20])
      rw [if_pos hf, if_pos (ile.mpr (by omega))]
      rw [if_neg hc] at hQ
      refine w_X12_goAll (by omega) hR hT hI2 (fun τ hF hT2 hic _ => ?_)
      show zwp X d MX12_encore 57 _ [] (zen τ) Q
      rw [b_X12_encore_57 (hd := by omega)]
      have hJ : IceR (play N (gG V N (-1) nr) L I) := play_R hR _ _ hp.2.2.1 hI2
      refine w_X12_heaviestAt (by omega) hR hT2.1 (by omega) hic hJ (fun w hw => ?_)
      rw [e0, Int.zero_mul] at hw
      show zwp X d MX12_encore 62 _ [.int w] (zen τ) Q
      rw [b_X12_encore_62 (hd := by omega), ztrue_and hz]
      have hb2 : (gi τ 88 (ix k)).toInt = L.getD n 20 := by rw [← hb]; unfold gi; rw [hF.c (by decide) (by simp)]
      refine w_X12_goTurn (by omega) (V := V) (lo := -1) (t := (L.getD n 20).toNat) hR hT2.1 hT2.2.1 hT2.2.2.1 hic hJ (by omega) (by omega) (fun ρ hF2 hic2 _ => ?_)
      have est : clapI (N 6 0) (fun p i => gainR V N (-1) (L.getD n 20).toNat p i nr 0) (thawI (N 6 0) (N 5 (L.getD n 20).toNat * N 7 0) (play N (gG V N (-1) nr) L I)) = stepI N (gG V N (-1) nr) (L.getD n 20) (play N (gG V N (-1) nr) L I) := by unfold stepI; rw [if_neg hc]
      rw [est] at hic2
      show zwp X d MX12_encore 73 _ [] (zen ρ) Q
      rw [b_X12_encore_73 (hd := by omega)]
      have hT3 := hT2.zfr hF2
      have hJ2 : IceR (stepI N (gG V N (-1) nr) (L.getD n 20) (play N (gG V N (-1) nr) L I)) := stepI_R hR ok hJ
      refine w_X12_heaviestAt (by omega) hR hT3.1 (by omega) hic2 hJ2 (fun y hy => ?_)
      rw [e0, Int.zero_mul] at hy
      show zwp X d MX12_encore 78 _ [.int y] (zen ρ) Q
      rw [b_X12_encore_78]
      have c1 := carries_nn (N 6 0) 0 (play N (gG V N (-1) nr) L I)
      have c2 := carries_nn (N 6 0) 0 (stepI N (gG V N (-1) nr) (L.getD n 20) (play N (gG V N (-1) nr) L I))
      exact hQ _ ρ (hF.tr hF2) hT3 (by rw [t_sub (by omega), hy, hw])
section OPSC
variable {X : zX} {d : Nat} {Q : Option Value → zH → Prop} {b : Int} {σ τ : zS} {nr nt : Nat} {N : Nat → Nat → Int} {V : zV} {I : Nat → Int} {a : Int32}
def v_spare (σ : zS) (nr nt : Nat) (N : Nat → Nat → Int) (V : zV) (I : Nat → Int) (x w : Int) : Int := if w < 0 ∨ 1 < w then -1 else if ¬ refI σ x 0 = 0 then refI σ x 0 else if w = 0 then (spareI (cWithout N V nr (progS σ nt x) I) (progS σ nt x).length 0 (-2) (-2)).1 else (spareI (cWithout N V nr (progS σ nt x) I) (progS σ nt x).length 0 (-2) (-2)).2
theorem what0 {w : Int32} : (w = 0) ↔ w.toInt = 0 := ⟨fun q => by rw [q]; rfl, fun q => ieq.mpr (by rw [q]; rfl)⟩
theorem c_spare (hd : 10 ≤ d) (h : RelP b σ nr nt N V I) (w : Int32) (hQ : ∀ (x : Int32) (τ : zS), Cpost σ nr nt N V τ → x.toInt = v_spare σ nr nt N V I a.toInt w.toInt → Q (some (.int x)) (zen τ)) : zwp X d MX11_spare 0 [.ref 0, .int a, .int w, .null] [] (zen σ) Q := by
  have hR := h.1.2.2
  have hI := h.2.2.2.1.2.2.1
  have e0 : (0 : Int32).toInt = 0 := rfl
  have em2 : (-2 : Int32).toInt = -2 := rfl
  unfold v_spare at hQ
  rw [b_X11_spare_0 (hd := by omega), t_half]
  by_cases hw : w.toInt < 0 ∨ 1 < w.toInt
  · rw [if_pos hw, if_neg (by decide)]
    exact hQ _ σ (Cpost.rf h) (by rw [if_pos hw]; rfl)
  · rw [if_neg hw, if_pos (by decide)]
    rw [if_neg hw] at hQ
    by_cases hr : refI σ a.toInt 0 = 0
    · refine c_readO (by omega) h hr (fun τ hF hT => ?_)
      show zwp X d MX11_spare 14 _ [.int 0] (zen τ) Q
      rw [b_X11_spare_14 (hd := by omega), if_pos rfl, b_X10_bestSpared_0]
      refine lp_X10_bestSpared (by omega) hR hI w (progS σ nt a.toInt).length τ 0 (-2) (-2) _ hT (by omega) (by omega) (fun x ρ hF2 hT2 hx => ?_)
      show zwp X d MX11_spare 31 _ [.int x] (zen ρ) Q
      rw [b_X11_spare_31]
      rw [if_neg (fun q => q hr)] at hQ
      rw [e0, em2] at hx
      refine hQ x ρ (Cpost.of ((fr42 hF).tr (fr44 hF2)) hT2.2.2.1 ((hF2.1 1 (by decide) 3 (by decide)).trans (hF.1 1 (by decide) 3 (by decide)))) ?_
      rw [hx]
      by_cases h0 : w = 0
      · rw [if_pos h0, if_pos (what0.mp h0)]; rfl
      · rw [if_neg h0, if_neg (fun q => h0 (what0.mpr q))]; rfl
    · refine c_readB (by omega) h hr (fun v τ hv hv2 hC => ?_)
      show zwp X d MX11_spare 14 _ [.int v] (zen τ) Q
      rw [b_X11_spare_14 (hd := by omega), if_neg hv]
      exact hQ v τ hC (by rw [if_pos hr]; exact hv2)
theorem m_spare (hd : 14 ≤ d) (h : RelP b σ nr nt N V I) (w : Int32) (hQ : ∀ (x : Int32) (τ : zS), Mpost σ τ → x.toInt = v_spare σ nr nt N V I a.toInt w.toInt → Q (some (.int x)) (zen τ)) : zwp X d MX12_spare 0 [.ref 66, .int a, .int w, .null, .null, .null, .null] [] (zen σ) Q := by
  have hR := h.1.2.2
  have hI := h.2.2.2.1.2.2.1
  have e0 : (0 : Int32).toInt = 0 := rfl
  have e1 : (1 : Int32).toInt = 1 := rfl
  have em2 : (-2 : Int32).toInt = -2 := rfl
  unfold v_spare at hQ
  rw [b_X12_spare_0 (hd := by omega), t_isShelfM, t_inM, e0, e1]
  by_cases ha : a.toInt < 0 ∨ 6 ≤ a.toInt
  · rw [if_pos ha, if_pos rfl]
    refine hQ _ σ (Mpost.rf h) ?_
    rw [refI_bad ha]
    split
    · rfl
    · rw [if_pos (by omega)]; rfl
  · rw [if_neg ha, if_neg (by decide)]
    by_cases hw : w.toInt < 0 ∨ 1 < w.toInt
    · rw [if_pos hw, if_neg (by decide)]
      exact hQ _ σ (Mpost.rf h) (by rw [if_pos hw]; rfl)
    · rw [if_neg hw, if_pos (by decide)]
      rw [if_neg hw] at hQ
      by_cases hr : refI σ a.toInt 0 = 0
      · refine m_layO (by omega) h (by omega) hr (fun τ hF hT => ?_)
        show zwp X d MX12_spare 23 _ [.int 0] (zen τ) Q
        rw [b_X12_spare_23, if_pos (by decide)]
        refine lp_X12_spare (by omega) hR hI a w 0 (progS σ nt a.toInt).length τ 0 (-2) (-2) hT (by omega) (by omega) (Or.inl ⟨rfl, rfl⟩) (fun x ρ hF2 hT2 hx => ?_)
        rw [if_neg (fun q => q hr)] at hQ
        rw [e0, em2] at hx
        refine hQ x ρ ⟨(fr88 hF).tr (fr86 hF2), hT2.2.2.1⟩ ?_
        rw [hx]
        by_cases h0 : w = 0
        · rw [if_pos h0, if_pos (what0.mp h0)]; rfl
        · rw [if_neg h0, if_neg (fun q => h0 (what0.mpr q))]; rfl
      · refine m_layB (by omega) h (by omega) hr (fun v τ hv hv2 hM => ?_)
        show zwp X d MX12_spare 23 _ [.int v] (zen τ) Q
        rw [b_X12_spare_23, if_neg (fun q => by have := ile.mp q; omega)]
        exact hQ v τ hM (by rw [if_pos hr]; exact hv2)
theorem v_spare_fr (hF : zFr SC1 FC1 σ τ) (x w : Int) : v_spare τ nr nt N V I x w = v_spare σ nr nt N V I x w := by unfold v_spare; rw [refI_fr hF, progS_fr hF]
theorem o_spare (hd : 20 ≤ d) {k : Nat} (h : Rel k σ) (a w : Int32) : zOp k σ X d MX11_spare MX12_spare [.ref 0, .int a, .int w, .null] [.ref 66, .int a, .int w, .null, .null, .null, .null] := by
  obtain ⟨nr, nt, N, V, I, h⟩ := h
  exact zOp.think h (fun Q hQ => c_spare (by omega) h w hQ) (fun τ h2 hF Q hQ => m_spare (by omega) h2 w (fun x ρ hM hx => hQ x ρ hM (by rw [hx, v_spare_fr hF])))
def v_harm (σ : zS) (nr nt : Nat) (N : Nat → Nat → Int) (V : zV) (I : Nat → Int) (x : Int) : Int := if ¬ refI σ x 0 = 0 then refI σ x 0 else (harmI (cHarm N V nr (progS σ nt x) I) (carries (N 6 0) 0 (jS σ nr nt N V I x)) nr 0 0).toInt
theorem c_harm (hd : 10 ≤ d) (h : RelP b σ nr nt N V I) (hQ : ∀ (x : Int32) (τ : zS), Cpost σ nr nt N V τ → x.toInt = v_harm σ nr nt N V I a.toInt → Q (some (.int x)) (zen τ)) : zwp X d MX11_harm 0 [.ref 0, .int a, .null] [] (zen σ) Q := by
  have hR := h.1.2.2
  have hI := h.2.2.2.1.2.2.1
  have e0 : (0 : Int32).toInt = 0 := rfl
  unfold v_harm at hQ
  rw [b_X11_harm_0 (hd := by omega)]
  by_cases hr : refI σ a.toInt 0 = 0
  · refine c_readO (by omega) h hr (fun τ hF hT => ?_)
    show zwp X d MX11_harm 5 _ [.int 0] (zen τ) Q
    rw [b_X11_harm_5 (hd := by omega), if_pos rfl, b_X10_harmfulRows_0 (hd := by omega)]
    refine c_all (by omega) hR hI hT (fun w ρ hF2 hT2 _ _ hw => ?_)
    show zwp X (d - 1) MX10_harmfulRows 5 _ [.int w] (zen ρ) _
    rw [b_X10_harmfulRows_5]
    have hv : gi ρ 1 3 = gi σ 1 3 := (hF2.1 1 (by decide) 3 (by decide)).trans (hF.1 1 (by decide) 3 (by decide))
    refine lp_X10_harm (by omega) hR hI w nr ρ (-1) 0 0 hT2 (by omega) (by omega) (by rw [hv]; exact h.2.2.1.2.1) (fun θ hF3 hT3 => ?_)
    show zwp X d MX11_harm 21 _ [.int _] (zen θ) Q
    rw [b_X11_harm_21]
    rw [if_neg (fun q => q hr)] at hQ
    refine hQ _ θ (Cpost.of (((fr42 hF).tr (fr44 hF2)).tr (hF3.sub (by decide) (by decide))) hT3.2.2.1 ((hF3.1 1 (by decide) 3 (by decide)).trans hv)) ?_
    rw [hw]
  · refine c_readB (by omega) h hr (fun v τ hv hv2 hC => ?_)
    show zwp X d MX11_harm 5 _ [.int v] (zen τ) Q
    rw [b_X11_harm_5 (hd := by omega), if_neg hv]
    exact hQ v τ hC (by rw [if_pos hr]; exact hv2)
theorem m_harm (hd : 14 ≤ d) (h : RelP b σ nr nt N V I) (hQ : ∀ (x : Int32) (τ : zS), Mpost σ τ → x.toInt = v_harm σ nr nt N V I a.toInt → Q (some (.int x)) (zen τ)) : zwp X d MX12_harm 0 [.ref 66, .int a, .null, .null, .null, .null] [] (zen σ) Q := by
  have hR := h.1.2.2
  have hI := h.2.2.2.1.2.2.1
  have e0 : (0 : Int32).toInt = 0 := rfl
  unfold v_harm at hQ
  rw [b_X12_harm_0 (hd := by omega), t_isShelfM]
  by_cases ha : a.toInt < 0 ∨ 6 ≤ a.toInt
  · rw [if_pos ha, if_neg (by decide)]
    refine hQ _ σ (Mpost.rf h) ?_
    rw [refI_bad ha, if_pos (by omega)]; rfl
  · rw [if_neg ha, if_pos (by decide)]
    by_cases hr : refI σ a.toInt 0 = 0
    · refine m_layO (by omega) h (by omega) hr (fun τ hF hT => ?_)
      show zwp X d MX12_harm 14 _ [.int 0] (zen τ) Q
      rw [b_X12_harm_14 (hd := by omega), if_pos (by decide)]
      refine w_X12_goAll (by omega) hR hT hI (fun ρ hF2 hT2 hic _ => ?_)
      show zwp X d MX12_harm 25 _ [] (zen ρ) Q
      rw [b_X12_harm_25 (hd := by omega)]
      refine w_X12_heaviestAt (by omega) hR hT2.1 (by omega) hic (play_R hR _ _ hT.2.2.2.2.2.2.1 hI) (fun w hw => ?_)
      rw [e0, Int.zero_mul] at hw
      show zwp X d MX12_harm 30 _ [.int w] (zen ρ) Q
      rw [b_X12_harm_30]
      refine lp_X12_harm (by omega) hR hI a 0 w nr ρ (-1) 0 0 hT2 (by omega) (by omega) (fun θ hF3 h36 => ?_)
      rw [if_neg (fun q => q hr)] at hQ
      refine hQ _ θ ⟨((fr88 hF).tr (fr86 hF2)).tr (hF3.sub (by decide) (by decide)), h36⟩ ?_
      rw [hw]
    · refine m_layB (by omega) h (by omega) hr (fun v τ hv hv2 hM => ?_)
      show zwp X d MX12_harm 14 _ [.int v] (zen τ) Q
      rw [b_X12_harm_14 (hd := by omega), if_neg (fun q => by have := ile.mp q; omega)]
      exact hQ v τ hM (by rw [if_pos hr]; exact hv2)
theorem v_harm_fr (hF : zFr SC1 FC1 σ τ) (x : Int) : v_harm τ nr nt N V I x = v_harm σ nr nt N V I x := by unfold v_harm jS; rw [refI_fr hF, progS_fr hF]
theorem o_harm (hd : 20 ≤ d) {k : Nat} (h : Rel k σ) (a : Int32) : zOp k σ X d MX11_harm MX12_harm [.ref 0, .int a, .null] [.ref 66, .int a, .null, .null, .null, .null] := by
  obtain ⟨nr, nt, N, V, I, h⟩ := h
  exact zOp.think h (fun Q hQ => c_harm (by omega) h hQ) (fun τ h2 hF Q hQ => m_harm (by omega) h2 (fun x ρ hM hx => hQ x ρ hM (by rw [hx, v_harm_fr hF])))
def v_encore (σ : zS) (nr nt : Nat) (N : Nat → Nat → Int) (V : zV) (I : Nat → Int) (x : Int) : Int := if ¬ refI σ x 0 = 0 then -2000000000 else encV N (gG V N (-1) nr) (progS σ nt x) (jS σ nr nt N V I x)
theorem c_encore (hd : 10 ≤ d) (h : RelP b σ nr nt N V I) (hQ : ∀ (x : Int32) (τ : zS), Cpost σ nr nt N V τ → x.toInt = v_encore σ nr nt N V I a.toInt → Q (some (.int x)) (zen τ)) : zwp X d MX11_encore 0 [.ref 0, .int a] [] (zen σ) Q := by
  have hR := h.1.2.2
  have hI := h.2.2.2.1.2.2.1
  have e1 : (1 : Int32).toInt = 1 := rfl
  unfold v_encore at hQ
  rw [b_X11_encore_0 (hd := by omega)]
  by_cases hr : refI σ a.toInt 0 = 0
  · refine c_readO (by omega) h hr (fun τ hF hT => ?_)
    show zwp X d MX11_encore 5 _ [.int 0] (zen τ) Q
    rw [b_X11_encore_5 (hd := by omega), if_pos rfl, b_X10_moreByEncore_0 (hd := by omega)]
    refine c_all (by omega) hR hI hT (fun w ρ hF2 hT2 hic _ hw => ?_)
    show zwp X (d - 1) MX10_moreByEncore 5 _ [.int w] (zen ρ) _
    rw [b_X10_moreByEncore_5]
    have hp := hT2.2.2.2.2
    have h20 := hp.2.1
    refine lp_X10_encore (by omega) hR hT2 hic (play_R hR _ _ hp.2.2.1 hI) w hw (progS σ nt a.toInt).length _ (by rw [t_sub (by rw [hp.1, e1]; omega), hp.1, e1]) (Nat.le_refl _) (fun x θ hF3 hT3 hx => ?_)
    show zwp X d MX11_encore 20 _ [.int x] (zen θ) Q
    rw [b_X11_encore_20]
    rw [if_neg (fun q => q hr)] at hQ
    refine hQ x θ (Cpost.of (((fr42 hF).tr (fr44 hF2)).tr (fr44 hF3)) hT3.2.2.1 ((hF3.1 1 (by decide) 3 (by decide)).trans ((hF2.1 1 (by decide) 3 (by decide)).trans (hF.1 1 (by decide) 3 (by decide))))) ?_
    rw [hx]; rfl
  · refine c_readB (by omega) h hr (fun v τ hv hv2 hC => ?_)
    show zwp X d MX11_encore 5 _ [.int v] (zen τ) Q
    rw [b_X11_encore_5 (hd := by omega), if_neg hv]
    exact hQ _ τ hC (by rw [if_pos hr]; rfl)
theorem m_encore (hd : 14 ≤ d) (h : RelP b σ nr nt N V I) (hQ : ∀ (x : Int32) (τ : zS), Mpost σ τ → x.toInt = v_encore σ nr nt N V I a.toInt → Q (some (.int x)) (zen τ)) : zwp X d MX12_encore 0 [.ref 66, .int a, .null, .null] [] (zen σ) Q := by
  have hR := h.1.2.2
  have hI := h.2.2.2.1.2.2.1
  have e0 : (0 : Int32).toInt = 0 := rfl
  have e1 : (1 : Int32).toInt = 1 := rfl
  unfold v_encore at hQ
  rw [b_X12_encore_0 (hd := by omega), t_isShelfM]
  by_cases ha : a.toInt < 0 ∨ 6 ≤ a.toInt
  · rw [if_pos ha, if_pos rfl]
    refine hQ _ σ (Mpost.rf h) ?_
    rw [refI_bad ha, if_pos (by omega)]; rfl
  · rw [if_neg ha, if_neg (by decide)]
    by_cases hr : refI σ a.toInt 0 = 0
    · refine m_layO (by omega) h (by omega) hr (fun τ hF hT => ?_)
      show zwp X d MX12_encore 12 _ [.int 0] (zen τ) Q
      rw [b_X12_encore_12, if_pos (by decide)]
      have hp := hT.2.2.2.2
      have h20 := hp.2.1
      refine lp_X12_encore (by omega) hR hI hT a (progS σ nt a.toInt).length _ (by rw [t_sub (by rw [hp.1, e1]; omega), hp.1, e1]) (Nat.le_refl _) (fun x ρ hF2 hT2 hx => ?_)
      rw [if_neg (fun q => q hr)] at hQ
      refine hQ x ρ ⟨(fr88 hF).tr (fr86 hF2), hT2.2.2.1⟩ ?_
      rw [hx]; rfl
    · refine m_layB (by omega) h (by omega) hr (fun v τ hv hv2 hM => ?_)
      show zwp X d MX12_encore 12 _ [.int v] (zen τ) Q
      rw [b_X12_encore_12, if_neg (fun q => by have := ile.mp q; omega)]
      exact hQ _ τ hM (by rw [if_pos hr]; rfl)
theorem v_encore_fr (hF : zFr SC1 FC1 σ τ) (x : Int) : v_encore τ nr nt N V I x = v_encore σ nr nt N V I x := by unfold v_encore jS; rw [refI_fr hF, progS_fr hF]
theorem o_encore (hd : 20 ≤ d) {k : Nat} (h : Rel k σ) (a : Int32) : zOp k σ X d MX11_encore MX12_encore [.ref 0, .int a] [.ref 66, .int a, .null, .null] := by
  obtain ⟨nr, nt, N, V, I, h⟩ := h
  exact zOp.think h (fun Q hQ => c_encore (by omega) h hQ) (fun τ h2 hF Q hQ => m_encore (by omega) h2 (fun x ρ hM hx => hQ x ρ hM (by rw [hx, v_encore_fr hF])))
end OPSC
