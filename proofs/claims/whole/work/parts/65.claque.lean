/-! claque -/
theorem carI_le {J : Nat → Int} {l w : Int} : ∀ n : Nat, w ≤ carI J l n ↔ w ≤ 999 ∧ ∀ q : Nat, q < n → w ≤ J q - l * q := by
  intro n
  induction n with
  | zero => exact ⟨fun h => ⟨h, fun q hq => absurd hq (Nat.not_lt_zero _)⟩, fun h => h.1⟩
  | succ n ih =>
    unfold carI
    constructor
    · intro h
      have h1 := ih.mp (by omega)
      refine ⟨h1.1, fun q hq => ?_⟩
      by_cases e : q = n
      · subst e; omega
      · exact h1.2 q (by omega)
    · intro h
      have h1 := ih.mpr ⟨h.1, fun q hq => h.2 q (by omega)⟩
      have h2 := h.2 n (by omega)
      omega
theorem falls_car {long l w : Int} {J : Nat → Int} (h0 : 0 ≤ w) (h9 : w ≤ 999) : falls long l w J = -2 ↔ w ≤ carries long l J := by
  unfold falls carries
  rw [falls_iff]
  constructor
  · intro h
    by_cases e : w = 0
    · omega
    · have : w ≤ carI J l long.toNat := (carI_le _).mpr ⟨h9, fun q hq => by have := h q (by omega) (by omega); omega⟩
      omega
  · intro h q _ hq
    by_cases e : w = 0
    · omega
    · have := ((carI_le long.toNat).mp (show w ≤ carI J l long.toNat by omega)).2 q (by omega)
      omega
theorem ThM.hall {σ τ : zS} {nr nt : Nat} {N N' : Nat → Nat → Int} {V : zV} {lo : Int} {I : Nat → Int} {L : List Int} {S : List Nat} {F : List (Nat × Nat)} (h : ThM σ nr nt N V lo I L) (hM : HallM τ nr nt N') (hF : zFr S F σ τ) (hz : zdis S F [78, 79, 80, 81, 82, 85, 88] [(66, 32), (66, 36), (66, 39)] = true) : ThM τ nr nt N' V lo I L := by
  refine ⟨hM, h.2.1.fr (fun k h1 h2 => (zdis_c hz hF (k := k) (by simp; omega)).1) (zdis_f hz hF (k := 66) (j := 32) (by decide)), by rw [zdis_f hz hF (k := 66) (j := 36) (by decide)]; exact h.2.2.1, ?_, ?_⟩
  · rw [(zdis_c hz hF (k := 85) (by decide)).1]; exact h.2.2.2.1
  · have := h.2.2.2.2
    unfold ProgM at *
    rw [zdis_f hz hF (k := 66) (j := 39) (by decide), (zdis_c hz hF (k := 88) (by decide)).1]; exact this
/-- what is carried when row r has q hands -/
abbrev cClaq (N : Nat → Nat → Int) (V : zV) (nr r : Nat) (L : List Int) (I : Nat → Int) : Nat → Int := fun q => carries (N 6 0) 0 (play (updN N 0 r q) (gG V (updN N 0 r q) (-1) nr) L I)
def claqI (c : Nat → Int) (w was : Int) : Nat → Nat → Int
  | 0, _ => -2
  | n + 1, q => if w ≤ c q then q - was else claqI c w was n (q + 1)
theorem nat_cast {q : Int32} (h : 0 ≤ q.toInt) : ((q.toInt.toNat : Nat) : Int) = q.toInt := by omega
theorem lp_claqC {X : zX} {d : Nat} {Q : Option Value → zH → Prop} (hd : 10 ≤ d) {nr nt r : Nat} {N : Nat → Nat → Int} {V : zV} {I : Nat → Int} {L : List Int} (hR : HallR nr nt N) (hr : r < nr) (hI : IceR I) (ar wt pl was : Int32) (hpl : pl.toInt = 8 * 0 + r) (hwas : was.toInt = N 0 r) : ∀ (n : Nat) (σ : zS) (q : Int32) (x : Int), ThC σ nr nt (updN N 0 r x) V (-1) I L → HallR nr nt (updN N 0 r x) → 0 ≤ (gi σ 1 3).toInt → (gi σ 1 3).toInt + n ≤ 900000 → was.toInt ≤ q.toInt → q.toInt + n = 100 →
    (∀ (v : Int32) (τ : zS), zFr [2, 6, 14, 15, 16, 44] [(1, 3), (13, 5), (41, 5)] σ τ → ((∀ j, gi τ 2 j = if j = 8 * 0 + r then was else gi σ 2 j) ∧ τ.2 2 = σ.2 2) → ThC τ nr nt N V (-1) I L → (gi σ 1 3).toInt ≤ (gi τ 1 3).toInt ∧ (gi τ 1 3).toInt ≤ (gi σ 1 3).toInt + n + 1 → v.toInt = claqI (cClaq N V nr r L I) wt.toInt was.toInt n q.toInt.toNat → Q (some (.int v)) (zen τ)) →
    zwp X d MX10_fewestHands 35 [.ref 41, .int ar, .int wt, .int pl, .int was, .int (-2), .int q] [] (zen σ) Q := by
  intro n
  have e1 := l1
  have e99 : (zK1 (ix 0)).toInt = 99 := rfl
  have hm : zmean nr nt 0 r := by unfold zmean; omega
  have bw := hR.2.2 0 r hm
  have bl : zloB 0 = 0 := rfl
  rw [bl] at bw
  induction n with
  | zero =>
    intro σ q x hT hRx h0 h9 hq0 hqn hQ
    rw [b_X10_fewestHands_35 (hd := by omega), if_neg (fun y => y rfl), if_pos (il.mpr (by omega))]
    have H := ch_C (v := was) (p := pl) hRx hT hm (by omega) (by omega)
    rw [updN_two, hwas, updN_back'] at H
    refine ⟨H.1, hQ _ _ ?_ ⟨fun j => ?_, ?_⟩ H.2.1 (by rw [H.2.2.1]; omega) rfl⟩
    · rw [H.2.2.2]; exact (zFr.rf.ws (by decide)).sf (by decide)
    · rw [H.2.2.2, gi_si_ne (by decide)]
      by_cases e : j = 8 * 0 + r
      · rw [e, gi_si, if_pos rfl]
      · rw [gi_si_j e, if_neg e]
    · rw [H.2.2.2]; rfl
  | succ n ih =>
    intro σ q x hT hRx h0 h9 hq0 hqn hQ
    have eq1 : (q + 1).toInt = q.toInt + 1 := by rw [t_add (by omega), e1]
    rw [b_X10_fewestHands_35 (hd := by omega), if_neg (fun y => y rfl), if_neg (fun y => by have := il.mp y; omega)]
    have H := ch_C (v := q) (p := pl) hRx hT hm (by omega) (by omega)
    rw [updN_two] at H
    have hRq : HallR nr nt (updN N 0 r q.toInt) := hR.upd (by show (0 : Int) ≤ _; omega) (by show q.toInt ≤ 99; omega)
    refine ⟨H.1, c_all (by omega) hRq hI H.2.1 (fun v τ hF hT2 _ _ hv => ?_)⟩
    show zwp X d MX10_fewestHands 67 _ [.int v] (zen τ) Q
    have hv' : v.toInt = cClaq N V nr r L I q.toInt.toNat := by
      rw [hv]
      have := nat_cast (q := q) (by omega)
      show _ = carries (N 6 0) 0 (play (updN N 0 r ((q.toInt.toNat : Nat) : Int)) (gG V (updN N 0 r ((q.toInt.toNat : Nat) : Int)) (-1) nr) L I)
      rw [this]; rfl
    have hF1 : zFr [2, 6, 14, 15, 16, 44] [(1, 3), (13, 5), (41, 5)] σ (g_X5_change σ pl q) := by rw [H.2.2.2]; exact (zFr.rf.ws (by decide)).sf (by decide)
    have hF2 : zFr [2, 6, 14, 15, 16, 44] [(1, 3), (13, 5), (41, 5)] σ τ := hF1.tr (hF.sub (by decide) (by decide))
    have v13 : gi τ 1 3 = gi (g_X5_change σ pl q) 1 3 := hF.1 1 (by decide) 3 (by decide)
    have w13 : (gi τ 1 3).toInt = (gi σ 1 3).toInt + 1 := by rw [v13]; exact H.2.2.1
    have c2 : ∀ j, gi τ 2 j = if j = 8 * 0 + r then q else gi σ 2 j := fun j => by
      rw [hF.1 2 (by decide) j (by simp), H.2.2.2, gi_si_ne (by decide)]
      by_cases e : j = 8 * 0 + r
      · rw [e, gi_si, if_pos rfl]
      · rw [gi_si_j e, if_neg e]
    have l2c : τ.2 2 = σ.2 2 := by rw [hF.2 2 (by decide), H.2.2.2]; rfl
    rw [b_X10_fewestHands_67]
    unfold claqI at hQ
    by_cases cv : v < wt
    · have := il.mp cv
      rw [if_pos cv]
      rw [if_neg (show ¬ wt.toInt ≤ cClaq N V nr r L I q.toInt.toNat by omega)] at hQ
      refine ih τ (q + 1) q.toInt hT2 hRq (by omega) (by omega) (by omega) (by omega) (fun y ρ f1 f2 f3 f4 f5 => hQ y ρ (hF2.tr f1) ⟨fun j => ?_, f2.2.trans l2c⟩ f3 (by omega) ?_)
      · rw [f2.1, c2]
        by_cases e : j = 8 * 0 + r
        · rw [if_pos e, if_pos e]
        · rw [if_neg e, if_neg e, if_neg e]
      · rw [f5, eq1, show (q.toInt + 1).toNat = q.toInt.toNat + 1 by omega]
    · have := nil_ cv
      rw [if_neg cv]
      rw [if_pos (show wt.toInt ≤ cClaq N V nr r L I q.toInt.toNat by omega)] at hQ
      have es : (q - was).toInt = q.toInt - was.toInt := t_sub (by omega)
      have em2 : (-2 : Int32).toInt = -2 := rfl
      rw [b_X10_fewestHands_35 (hd := by omega), if_pos (fun y => by have := congrArg Int32.toInt y; omega)]
      have H2 := ch_C (v := was) (p := pl) hRq hT2 hm (by omega) (by omega)
      rw [updN_two, hwas, updN_back'] at H2
      refine ⟨H2.1, hQ _ _ (hF2.tr ?_) ⟨fun j => ?_, ?_⟩ H2.2.1 (by rw [H2.2.2.1]; omega) (by rw [es]; omega)⟩
      · rw [H2.2.2.2]; exact (zFr.rf.ws (by decide)).sf (by decide)
      · rw [H2.2.2.2, gi_si_ne (by decide)]
        by_cases e : j = 8 * 0 + r
        · rw [e, gi_si, if_pos rfl]
        · rw [gi_si_j e, if_neg e, c2, if_neg e]
      · rw [H2.2.2.2]; exact l2c
theorem lp_claqM {X : zX} {d : Nat} {Q : Option Value → zH → Prop} (hd : 12 ≤ d) {nr nt r : Nat} {N : Nat → Nat → Int} {V : zV} {I : Nat → Int} {L : List Int} (hR : HallR nr nt N) (hr : r < nr) (hI : IceR I) (a1 rw_ t0 ar was : Int32) (wt : Int) (hwt : (rw_ - rw_ / 1000 * 1000).toInt = wt) (hw9 : 0 ≤ wt ∧ wt ≤ 999) (har : ar.toInt = r) (hwas : was.toInt = N 0 r) : ∀ (n : Nat) (σ : zS) (k : Int32) (x : Int), ThM σ nr nt (updN N 0 r x) V (-1) I L → 0 ≤ k.toInt → was.toInt + k.toInt + n = 100 →
    (∀ (v : Int32) (τ : zS), zFr [67, 83, 84, 86, 87] [(66, 37)] σ τ → ((∀ j, gi τ 67 j = if j = r then was else gi σ 67 j) ∧ τ.2 67 = σ.2 67) → ThM τ nr nt N V (-1) I L → v.toInt = claqI (cClaq N V nr r L I) wt was.toInt n (was.toInt + k.toInt).toNat → Q (some (.int v)) (zen τ)) →
    zwp X d MX12_claque 60 [.ref 66, .int a1, .int rw_, .int t0, .int ar, .int was, .int (-2), .int k] [] (zen σ) Q := by
  intro n
  have e0 := l0
  have e1 := l1
  have e99 : (99 : Int32).toInt = 99 := rfl
  have em2 : (-2 : Int32).toInt = -2 := rfl
  have h6 := hR.1
  have hm : zmean nr nt 0 r := by unfold zmean; omega
  have bw := hR.2.2 0 r hm
  have bl : zloB 0 = 0 := rfl
  rw [bl] at bw
  have hix : ix ar = r := by rw [ix_t]; omega
  have hz : zin ar 6 = true := zin_of (by omega) (by omega)
  have back : ∀ (σ : zS) (x : Int), ThM σ nr nt (updN N 0 r x) V (-1) I L → ThM (si σ 67 r was) nr nt N V (-1) I L ∧ (∀ j, gi (si σ 67 r was) 67 j = if j = r then was else gi σ 67 j) := fun σ x hT => by
    have hM := HallM_lay0 (v := was) (i := r) hT.1
    rw [updN_two, hwas, updN_back'] at hM
    refine ⟨hT.hall hM (zFr.rf.ws (k := 67) (S := [67]) (F := []) (by decide)) (by decide), fun j => ?_⟩
    by_cases e : j = r
    · rw [e, gi_si, if_pos rfl]
    · rw [gi_si_j e, if_neg e]
  induction n with
  | zero =>
    intro σ k x hT hk0 hkn hQ
    have ek : (was + k).toInt = was.toInt + k.toInt := t_add (by omega)
    rw [b_X12_claque_60 (hd := by omega), if_pos (il.mpr (by omega)), hix]
    have H := back σ x hT
    exact ⟨hz, hQ _ _ (zFr.rf.ws (by decide)) ⟨H.2, rfl⟩ H.1 rfl⟩
  | succ n ih =>
    intro σ k x hT hk0 hkn hQ
    have ek : (was + k).toInt = was.toInt + k.toInt := t_add (by omega)
    have ek1 : (k + 1).toInt = k.toInt + 1 := by rw [t_add (by omega), e1]
    rw [b_X12_claque_60 (hd := by omega), if_neg (fun y => by have := il.mp y; omega), if_neg (fun y => by have := ile.mp y; omega), hix]
    have hM := HallM_lay0 (v := was + k) (i := r) hT.1
    rw [updN_two, ek] at hM
    have H : ThM (si σ 67 r (was + k)) nr nt (updN N 0 r (was.toInt + k.toInt)) V (-1) I L := hT.hall hM (zFr.rf.ws (k := 67) (S := [67]) (F := []) (by decide)) (by decide)
    have hRq : HallR nr nt (updN N 0 r (was.toInt + k.toInt)) := hR.upd (by show (0 : Int) ≤ _; omega) (by show was.toInt + k.toInt ≤ 99; omega)
    refine ⟨hz, w_X12_goAll (by omega) hRq H hI (fun τ hF hT2 hic _ => ?_)⟩
    show zwp X d MX12_claque 91 _ [] (zen τ) Q
    have hF1 : zFr [67, 83, 84, 86, 87] [(66, 37)] σ (si σ 67 r (was + k)) := zFr.rf.ws (by decide)
    have hF2 : zFr [67, 83, 84, 86, 87] [(66, 37)] σ τ := hF1.tr (hF.sub (by decide) (by decide))
    have c2 : ∀ j, gi τ 67 j = if j = r then was + k else gi σ 67 j := fun j => by
      rw [hF.1 67 (by decide) j (by simp)]
      by_cases e : j = r
      · rw [e, gi_si, if_pos rfl]
      · rw [gi_si_j e, if_neg e]
    have l2c : τ.2 67 = σ.2 67 := by rw [hF.2 67 (by decide)]; rfl
    have hJ := play_R hRq (G := gG V (updN N 0 r (was.toInt + k.toInt)) (-1) nr) L I hT2.2.2.2.2.2.2.1 hI
    have enat : (((was.toInt + k.toInt).toNat : Nat) : Int) = was.toInt + k.toInt := by omega
    have hc : cClaq N V nr r L I (was.toInt + k.toInt).toNat = carries (updN N 0 r (was.toInt + k.toInt) 6 0) 0 (play (updN N 0 r (was.toInt + k.toInt)) (gG V (updN N 0 r (was.toInt + k.toInt)) (-1) nr) L I) := by
      show carries (N 6 0) 0 (play (updN N 0 r (((was.toInt + k.toInt).toNat : Nat) : Int)) (gG V (updN N 0 r (((was.toInt + k.toInt).toNat : Nat) : Int)) (-1) nr) L I) = _
      rw [enat]; rfl
    rw [b_X12_claque_91 (hd := by omega)]
    refine w_X12_fallsOn (by omega) hRq hT2.1 (by rw [e0]; omega) hic hJ (fun u hu => ?_)
    rw [e0, Int.zero_mul, hwt] at hu
    show zwp X d MX12_claque 101 _ [.int u] (zen τ) Q
    rw [b_X12_claque_101]
    unfold claqI at hQ
    have fc := falls_car (long := updN N 0 r (was.toInt + k.toInt) 6 0) (l := 0) (w := wt) (J := play (updN N 0 r (was.toInt + k.toInt)) (gG V (updN N 0 r (was.toInt + k.toInt)) (-1) nr) L I) hw9.1 hw9.2
    rw [← hu, ← hc] at fc
    by_cases cu : u = -2
    · have := fc.mp (by rw [cu]; rfl)
      rw [if_neg (fun y => y cu)]
      rw [if_pos this] at hQ
      have H2 := back τ _ hT2
      have fin : Q (some (.int k)) (zen (si τ 67 r was)) := by
        refine hQ _ _ (hF2.tr (zFr.rf.ws (by decide))) ⟨fun j => ?_, l2c⟩ H2.1 (by omega)
        rw [H2.2, c2]
        by_cases e : j = r
        · rw [if_pos e, if_pos e]
        · rw [if_neg e, if_neg e, if_neg e]
      rw [b_X12_claque_60 (hd := by omega), hix]
      by_cases c9 : 99 < was + (k + 1)
      · rw [if_pos c9]; exact ⟨hz, fin⟩
      · rw [if_neg c9, if_pos (ile.mpr (by omega))]; exact ⟨hz, fin⟩
    · rw [if_pos cu]
      rw [if_neg (fun y => cu (ieq.mpr (by rw [fc.mpr y]; rfl)))] at hQ
      refine ih τ (k + 1) _ hT2 (by omega) (by omega) (fun y ρ f1 f2 f3 f5 => hQ y ρ (hF2.tr f1) ⟨fun j => ?_, f2.2.trans l2c⟩ f3 ?_)
      · rw [f2.1, c2]
        by_cases e : j = r
        · rw [if_pos e, if_pos e]
        · rw [if_neg e, if_neg e, if_neg e]
      · rw [f5, ek1, show (was.toInt + (k.toInt + 1)).toNat = (was.toInt + k.toInt).toNat + 1 by omega]
section CLAQUE
variable {X : zX} {d : Nat} {b : Int} {σ τ : zS} {nr nt : Nat} {N : Nat → Nat → Int} {V : zV} {I : Nat → Int} {Q : Option Value → zH → Prop} {a w : Int32}
def v_claque (σ : zS) (nr nt : Nat) (N : Nat → Nat → Int) (V : zV) (I : Nat → Int) (x w : Int) : Int := if w < 0 ∨ (nr : Int) ≤ w / 1000 then -1 else if ¬ refI σ x 0 = 0 then refI σ x 0 else claqI (cClaq N V nr (w / 1000).toNat (progS σ nt x) I) (w % 1000) (N 0 (w / 1000).toNat) (100 - N 0 (w / 1000).toNat).toNat (N 0 (w / 1000).toNat).toNat
theorem c_claque (hd : 14 ≤ d) (h : RelP b σ nr nt N V I) (hb : b ≤ 800000) (hQ : ∀ (x : Int32) (τ : zS), Cpost σ nr nt N V τ → x.toInt = v_claque σ nr nt N V I a.toInt w.toInt → Q (some (.int x)) (zen τ)) : zwp X d MX11_claque 0 [.ref 0, .int a, .int w, .null] [] (zen σ) Q := by
  have hR := h.1.2.2
  have hl := hR.long
  have h6 := hR.1
  have hI := h.2.2.2.1.2.2.1
  have e0 := l0
  have e1k : (1000 : Int32).toInt = 1000 := rfl
  have c1 := h.1.1.1
  unfold v_claque at hQ
  rw [b_X11_claque_0 (hd := by omega)]
  by_cases x1 : w < 0
  · have := il.mp x1
    rw [if_pos x1]
    exact hQ _ σ (Cpost.rf h) (by rw [if_pos (by omega)]; rfl)
  · have y1 := nil_ x1
    have ed : (w / 1000).toInt = w.toInt / 1000 := t_div (x := w) (y := 1000) (by omega) (by omega)
    have em : (w - w / 1000 * 1000).toInt = w.toInt % 1000 := t_mod (x := w) (y := 1000) (by omega) (by omega)
    rw [if_neg x1]
    by_cases x2 : w / 1000 < gi σ 1 1
    · have y2 := il.mp x2
      rw [if_pos x2]
      have nb : ¬ (w.toInt < 0 ∨ (nr : Int) ≤ w.toInt / 1000) := by omega
      rw [if_neg nb] at hQ
      by_cases hr : refI σ a.toInt 0 = 0
      · refine c_readO (by omega) h hr (fun τ hF hT => ?_)
        show zwp X d MX11_claque 26 _ [.int 0] (zen τ) Q
        rw [if_neg (fun q => q hr)] at hQ
        have hm : zmean nr nt 0 (w.toInt / 1000).toNat := by unfold zmean; omega
        have pl := place_ok (σ := τ) (nr := nr) (nt := nt) (N := N) (w := 0) (i := w / 1000) hT.1 hR (by rw [e0, ed]; unfold zmok; refine ⟨by omega, by omega, ?_⟩; exact hm)
        have bw := hR.2.2 0 _ hm
        have bl : zloB 0 = 0 := rfl
        have bh : zhiB 0 = 99 := rfl
        rw [bl, bh] at bw
        rw [e0, ed] at pl
        have hz : zin (f_X5_placeOf τ (w / 1000) 0) 80 = true := zin_of (by omega) (by omega)
        rw [b_X11_claque_26 (hd := by omega), if_pos rfl, b_X10_fewestHands_0 (hd := by omega), if_pos (ile.mpr (by omega))]
        refine ⟨hz, ?_⟩
        have ip : ix (f_X5_placeOf τ (w / 1000) 0) = 8 * 0 + (w.toInt / 1000).toNat := by rw [ix_t, pl]; omega
        have v2 : (gi τ 2 (8 * 0 + (w.toInt / 1000).toNat)).toInt = N 0 (w.toInt / 1000).toNat := hT.1.2.2 0 _ hm
        have hv1 := h.2.2.1.2.1
        have hv2 := h.2.2.1.2.2.1
        have g13 : gi τ 1 3 = gi σ 1 3 := hF.1 1 (by decide) 3 (by decide)
        rw [ip]
        refine lp_claqC (by omega) hR (r := (w.toInt / 1000).toNat) (by omega) hI (w / 1000) _ _ _ (by rw [pl]; omega) v2 (100 - N 0 (w.toInt / 1000).toNat).toNat τ _ (N 0 (w.toInt / 1000).toNat) (by rw [updN_back']; exact hT) (by rw [updN_back']; exact hR) (by rw [g13]; omega) (by rw [g13]; omega) (by omega) (by omega) (fun v ρ f1 f2 f3 f4 f5 => ?_)
        show zwp X d MX11_claque 52 _ [.int v] (zen ρ) Q
        rw [b_X11_claque_52]
        have fz : zFr [6, 14, 15, 16, 44] [(1, 3), (13, 5), (41, 5)] τ ρ := f1.drop (fun j => by rw [f2.1]; by_cases e : j = 8 * 0 + (w.toInt / 1000).toNat; (rw [if_pos e, e]); (rw [if_neg e])) f2.2
        rw [g13] at f4
        refine hQ v ρ ⟨(fr42 hF).tr (fz.sub (by decide) (by decide)), f3.2.2.1, by omega, by omega⟩ ?_
        rw [f5, em, v2]
      · refine c_readB (by omega) h hr (fun v τ hv hv2 hC => ?_)
        show zwp X d MX11_claque 26 _ [.int v] (zen τ) Q
        rw [b_X11_claque_26 (hd := by omega), if_neg hv]
        exact hQ _ τ hC (by rw [if_pos hr]; exact hv2)
    · have y2 := nil_ x2
      rw [if_neg x2]
      exact hQ _ σ (Cpost.rf h) (by rw [if_pos (by omega)]; rfl)
theorem m_claque (hd : 16 ≤ d) (h : RelP b σ nr nt N V I) (hQ : ∀ (x : Int32) (τ : zS), Mpost σ τ → x.toInt = v_claque σ nr nt N V I a.toInt w.toInt → Q (some (.int x)) (zen τ)) : zwp X d MX12_claque 0 [.ref 66, .int a, .int w, .null, .null, .null, .null, .null] [] (zen σ) Q := by
  have hR := h.1.2.2
  have hl := hR.long
  have h6 := hR.1
  have hI := h.2.2.2.1.2.2.1
  have e0 := l0
  have e1 := l1
  have e1k : (1000 : Int32).toInt = 1000 := rfl
  have z10 : ¬ (1 : Int32) = 0 := by decide
  have m1 := h.1.2.1.1
  have s1 : (gi σ 66 1 - 1).toInt = nr - 1 := by rw [t_sub (by omega), m1, e1]
  unfold v_claque at hQ
  rw [b_X12_claque_0 (hd := by omega), t_isShelfM]
  by_cases ha : a.toInt < 0 ∨ 6 ≤ a.toInt
  · rw [if_pos ha, if_pos rfl]
    refine hQ _ σ (Mpost.rf h) ?_
    by_cases x : w.toInt < 0 ∨ (nr : Int) ≤ w.toInt / 1000
    · rw [if_pos x]; rfl
    · rw [if_neg x, refI_bad ha, if_pos (by omega)]; rfl
  · rw [if_neg ha, if_neg z10]
    by_cases x1 : w < 0
    · have := il.mp x1
      rw [if_pos x1]
      exact hQ _ σ (Mpost.rf h) (by rw [if_pos (by omega)]; rfl)
    · have y1 := nil_ x1
      have ed : (w / 1000).toInt = w.toInt / 1000 := t_div (x := w) (y := 1000) (by omega) (by omega)
      have em : (w - w / 1000 * 1000).toInt = w.toInt % 1000 := t_mod (x := w) (y := 1000) (by omega) (by omega)
      rw [if_neg x1]
      unfold f_X12_isRow
      by_cases x2 : (w / 1000).toInt < (0 : Int32).toInt ∨ (gi σ 66 1 - 1).toInt < (w / 1000).toInt
      · rw [t_in0 x2, if_neg (fun y => y rfl)]
        exact hQ _ σ (Mpost.rf h) (by rw [if_pos (by omega)]; rfl)
      · rw [t_in1 x2, if_pos z10]
        have nb : ¬ (w.toInt < 0 ∨ (nr : Int) ≤ w.toInt / 1000) := by omega
        rw [if_neg nb] at hQ
        by_cases hr : refI σ a.toInt 0 = 0
        · refine m_layO (by omega) h (by omega) hr (fun τ hF hT => ?_)
          show zwp X d MX12_claque 30 _ [.int 0] (zen τ) Q
          rw [if_neg (fun q => q hr)] at hQ
          have hm : zmean nr nt 0 (w.toInt / 1000).toNat := by unfold zmean; omega
          have bw := hR.2.2 0 _ hm
          have bl : zloB 0 = 0 := rfl
          have bh : zhiB 0 = 99 := rfl
          rw [bl, bh] at bw
          have ir : ix (w / 1000) = (w.toInt / 1000).toNat := by rw [ix_t, ed]
          have hz : zin (w / 1000) 6 = true := zin_of (by omega) (by omega)
          have v2 : (gi τ 67 (ix (w / 1000))).toInt = N 0 (w.toInt / 1000).toNat := by rw [ir]; exact (hT.1.2.2.1 _ (by omega)).1
          rw [b_X12_claque_30, if_pos (by decide)]
          refine ⟨hz, lp_claqM (by omega) hR (r := (w.toInt / 1000).toNat) (by omega) hI a w 0 (w / 1000) _ (w.toInt % 1000) em (by omega) (by omega) v2 (100 - N 0 (w.toInt / 1000).toNat).toNat τ 0 (N 0 (w.toInt / 1000).toNat) (by rw [updN_back']; exact hT) (by omega) (by rw [v2]; omega) (fun v ρ f1 f2 f3 f5 => ?_)⟩
          have fz : zFr [83, 84, 86, 87] [(66, 37)] τ ρ := f1.drop (fun j => by rw [f2.1]; by_cases e : j = (w.toInt / 1000).toNat; (rw [if_pos e, e, ir]); (rw [if_neg e])) f2.2
          refine hQ v ρ ⟨(fr88 hF).tr (fr86 fz), f3.2.2.1⟩ ?_
          rw [f5, v2, e0, Int.add_zero]
        · refine m_layB (by omega) h (by omega) hr (fun v τ hv hv2 hM => ?_)
          show zwp X d MX12_claque 30 _ [.int v] (zen τ) Q
          rw [b_X12_claque_30, if_neg (fun q => by have := ile.mp q; omega)]
          exact hQ _ τ hM (by rw [if_pos hr]; exact hv2)
theorem v_claque_fr (hF : zFr SC1 FC1 σ τ) (x y : Int) : v_claque τ nr nt N V I x y = v_claque σ nr nt N V I x y := by unfold v_claque; rw [refI_fr hF, progS_fr hF]
theorem o_claque (hd : 20 ≤ d) {k : Nat} (hk : k ≤ 512) (h : Rel k σ) (a w : Int32) : zOp k σ X d MX11_claque MX12_claque [.ref 0, .int a, .int w, .null] [.ref 66, .int a, .int w, .null, .null, .null, .null, .null] := by
  obtain ⟨nr, nt, N, V, I, h⟩ := h
  exact zOp.think h (fun Q hQ => c_claque (by omega) h (by omega) hQ) (fun τ h2 hF Q hQ => m_claque (by omega) h2 (fun x ρ hM hx => hQ x ρ hM (by rw [hx, v_claque_fr hF])))
end CLAQUE
