/-! seat, claque, good, warm: a hall changed in thought -/
theorem updN_two (N : Nat → Nat → Int) (w i : Nat) (x y : Int) : updN (updN N w i x) w i y = updN N w i y := by
  funext w' i'
  unfold updN
  split
  · rfl
  · rfl
theorem updN_back' (N : Nat → Nat → Int) (w i : Nat) : updN N w i (N w i) = N := by
  funext w' i'
  unfold updN
  split
  · next h => rw [h.1, h.2]
  · rfl
/-- the class changes one number -/
theorem ch_C {σ : zS} {nr nt w i : Nat} {N : Nat → Nat → Int} {V : zV} {I : Nat → Int} {L : List Int} {v p : Int32} (hR : HallR nr nt N) (hT : ThC σ nr nt N V (-1) I L) (hm : zmean nr nt w i) (hp : p.toInt = 8 * w + i) (h0 : 0 ≤ (gi σ 1 3).toInt ∧ (gi σ 1 3).toInt ≤ 1000000) : p_X5_change σ p v ∧ ThC (g_X5_change σ p v) nr nt (updN N w i v.toInt) V (-1) I L ∧ (gi (g_X5_change σ p v) 1 3).toInt = (gi σ 1 3).toInt + 1 ∧ g_X5_change σ p v = si (si σ 2 (8 * w + i) v) 1 3 (gi σ 1 3 + 1) := by
  have hl := zmean_lt hR hm
  have e1 := l1
  have hix : ix p = 8 * w + i := by rw [ix_t, hp]; omega
  have ev : (gi σ 1 3 + 1).toInt = (gi σ 1 3).toInt + 1 := by rw [t_add (by omega), e1]
  have eg : g_X5_change σ p v = si (si σ 2 (8 * w + i) v) 1 3 (gi σ 1 3 + 1) := by unfold g_X5_change; rw [hix]
  have g13 : gi (si (si σ 2 (8 * w + i) v) 1 3 (gi σ 1 3 + 1)) 1 3 = gi σ 1 3 + 1 := gi_si
  have c : ∀ k, k ≠ 1 → k ≠ 2 → (si (si σ 2 (8 * w + i) v) 1 3 (gi σ 1 3 + 1)).1 k = σ.1 k := fun k h1 h2 => by rw [c_si_ne h1, c_si_ne h2]
  refine ⟨zin_of (by omega) (by omega), ?_, by rw [eg, g13]; exact ev, eg⟩
  rw [eg]
  obtain ⟨t1, t2, t3, t4, t5⟩ := hT
  refine ⟨?_, t2.fr (c 3 (by decide) (by decide)) (c 4 (by decide) (by decide)) (c 5 (by decide) (by decide)), t3.bump (c 13 (by decide) (by decide)) (by rw [g13]; exact ev), ?_, ?_⟩
  · have u := t1.upd (v := v) hR hm
    have a1 : ∀ j, j ≠ 3 → gi (si (si σ 2 (8 * w + i) v) 1 3 (gi σ 1 3 + 1)) 1 j = gi (si σ 2 (8 * w + i) v) 1 j := fun j hj => gi_si_j hj
    have a2 : ∀ j, gi (si (si σ 2 (8 * w + i) v) 1 3 (gi σ 1 3 + 1)) 2 j = gi (si σ 2 (8 * w + i) v) 2 j := fun j => gi_si_ne (by decide)
    exact ⟨by rw [a1 1 (by decide)]; exact u.1, by rw [a1 2 (by decide)]; exact u.2.1, fun w2 i2 h2 => by rw [a2]; exact u.2.2 w2 i2 h2⟩
  · rw [c 19 (by decide) (by decide)]; exact t4
  · unfold ProgC at *
    rw [c 42 (by decide) (by decide)]
    have : gi (si (si σ 2 (8 * w + i) v) 1 3 (gi σ 1 3 + 1)) 41 4 = gi σ 41 4 := by rw [gi_si_ne (by decide), gi_si_ne (by decide)]
    rw [this]; exact t5
/-- what is carried when row r sits at q -/
abbrev cSeat (N : Nat → Nat → Int) (V : zV) (nr r : Nat) (L : List Int) (I : Nat → Int) : Nat → Int := fun q => carries (N 6 0) 0 (play (updN N 1 r q) (gG V (updN N 1 r q) (-1) nr) L I)
theorem lp_seatC {X : zX} {d : Nat} {Q : Option Value → zH → Prop} (hd : 10 ≤ d) {nr nt r : Nat} {N : Nat → Nat → Int} {V : zV} {I : Nat → Int} {L : List Int} (hR : HallR nr nt N) (hr : r < nr) (hI : IceR I) (ar half pl was pk : Int32) (hpl : pl.toInt = 8 * 1 + r) (hwas : was.toInt = N 1 r) (hpk : pk.toInt = N 6 0) : ∀ (n : Nat) (σ : zS) (q b w : Int32) (x : Int) (w8 : Value), ThC σ nr nt (updN N 1 r x) V (-1) I L → HallR nr nt (updN N 1 r x) → 0 ≤ (gi σ 1 3).toInt → (gi σ 1 3).toInt + n ≤ 900000 → 0 ≤ q.toInt → q.toInt + n = N 6 0 →
    (∀ (v : Int32) (τ : zS), zFr [2, 6, 14, 15, 16, 44] [(1, 3), (13, 5), (41, 5)] σ τ → ((∀ j, gi τ 2 j = if j = 8 * 1 + r then was else gi σ 2 j) ∧ τ.2 2 = σ.2 2) → ThC τ nr nt N V (-1) I L → (gi τ 1 3).toInt = (gi σ 1 3).toInt + n + 1 → v.toInt = (if half = 0 then (spareI (cSeat N V nr r L I) n q.toInt.toNat w.toInt b.toInt).1 else (spareI (cSeat N V nr r L I) n q.toInt.toNat w.toInt b.toInt).2) → Q (some (.int v)) (zen τ)) →
    zwp X d MX10_bestSeat 45 [.ref 41, .int ar, .int half, .int pl, .int was, .int pk, .int b, .int w, .int q, w8] [] (zen σ) Q := by
  intro n
  have e1 := l1
  have hlong := hR.long
  have hm : zmean nr nt 1 r := by unfold zmean; omega
  induction n with
  | zero =>
    intro σ q b w x w8 hT hRx h0 h9 hq0 hqn hQ
    rw [b_X10_bestSeat_45 (hd := by omega), if_pos (ile.mpr (by omega))]
    have H := ch_C (v := was) (p := pl) hRx hT hm (by omega) (by omega)
    rw [updN_two, hwas, updN_back'] at H
    refine ⟨H.1, ?_⟩
    have hF : zFr [2, 6, 14, 15, 16, 44] [(1, 3), (13, 5), (41, 5)] σ (g_X5_change σ pl was) := by rw [H.2.2.2]; exact (zFr.rf.ws (by decide)).sf (by decide)
    have h2 : ∀ j, gi (g_X5_change σ pl was) 2 j = if j = 8 * 1 + r then was else gi σ 2 j := fun j => by
      rw [H.2.2.2, gi_si_ne (by decide)]
      by_cases e : j = 8 * 1 + r
      · rw [e, gi_si, if_pos rfl]
      · rw [gi_si_j e, if_neg e]
    by_cases ch : half = 0
    · rw [if_neg (fun y => y ch)]
      exact hQ w _ hF ⟨h2, by rw [H.2.2.2]; rfl⟩ H.2.1 (by rw [H.2.2.1]; omega) (by rw [if_pos ch]; rfl)
    · rw [if_pos ch]
      exact hQ b _ hF ⟨h2, by rw [H.2.2.2]; rfl⟩ H.2.1 (by rw [H.2.2.1]; omega) (by rw [if_neg ch]; rfl)
  | succ n ih =>
    intro σ q b w x w8 hT hRx h0 h9 hq0 hqn hQ
    have eq1 : (q + 1).toInt = q.toInt + 1 := by rw [t_add (by omega), e1]
    rw [b_X10_bestSeat_45 (hd := by omega), if_neg (fun y => by have := ile.mp y; omega)]
    have H := ch_C (v := q) (p := pl) hRx hT hm (by omega) (by omega)
    rw [updN_two] at H
    have hRq : HallR nr nt (updN N 1 r q.toInt) := hR.upd (by show (0 : Int) ≤ _; omega) (by show q.toInt ≤ 15; omega)
    refine ⟨H.1, c_all (by omega) hRq hI H.2.1 (fun v τ hF hT2 _ _ hv => ?_)⟩
    show zwp X d MX10_bestSeat 67 _ [.int v] (zen τ) Q
    have hv' : v.toInt = cSeat N V nr r L I q.toInt.toNat := by
      rw [hv]
      have : ((q.toInt.toNat : Nat) : Int) = q.toInt := by omega
      show _ = carries (N 6 0) 0 (play (updN N 1 r ((q.toInt.toNat : Nat) : Int)) (gG V (updN N 1 r ((q.toInt.toNat : Nat) : Int)) (-1) nr) L I)
      rw [this]; rfl
    have hF1 : zFr [2, 6, 14, 15, 16, 44] [(1, 3), (13, 5), (41, 5)] σ (g_X5_change σ pl q) := by rw [H.2.2.2]; exact (zFr.rf.ws (by decide)).sf (by decide)
    have hF2 : zFr [2, 6, 14, 15, 16, 44] [(1, 3), (13, 5), (41, 5)] σ τ := hF1.tr (hF.sub (by decide) (by decide))
    have v13 : gi τ 1 3 = gi (g_X5_change σ pl q) 1 3 := hF.1 1 (by decide) 3 (by decide)
    have c2 : ∀ j, gi τ 2 j = if j = 8 * 1 + r then q else gi σ 2 j := fun j => by
      rw [hF.1 2 (by decide) j (by simp), H.2.2.2, gi_si_ne (by decide)]
      by_cases e : j = 8 * 1 + r
      · rw [e, gi_si, if_pos rfl]
      · rw [gi_si_j e, if_neg e]
    have l2c : τ.2 2 = σ.2 2 := by rw [hF.2 2 (by decide), H.2.2.2]; rfl
    rw [b_X10_bestSeat_67]
    unfold spareI at hQ
    by_cases cv : v ≤ b
    · have := ile.mp cv
      rw [if_pos cv]
      rw [if_neg (show ¬ b.toInt < cSeat N V nr r L I q.toInt.toNat by omega)] at hQ
      refine ih τ (q + 1) b w q.toInt (.int v) hT2 hRq (by rw [v13, H.2.2.1]; omega) (by rw [v13, H.2.2.1]; omega) (by omega) (by omega) (fun y ρ f1 f2 f3 f4 f5 => hQ y ρ (hF2.tr f1) ⟨fun j => ?_, f2.2.trans l2c⟩ f3 (by rw [f4, v13, H.2.2.1]; omega) ?_)
      · rw [f2.1, c2]
        by_cases e : j = 8 * 1 + r
        · rw [if_pos e, if_pos e]
        · rw [if_neg e, if_neg e, if_neg e]
      · rw [f5, eq1, show (q.toInt + 1).toNat = q.toInt.toNat + 1 by omega]
    · have := nile cv
      rw [if_neg cv]
      rw [if_pos (show b.toInt < cSeat N V nr r L I q.toInt.toNat by omega)] at hQ
      refine ih τ (q + 1) v q q.toInt (.int v) hT2 hRq (by rw [v13, H.2.2.1]; omega) (by rw [v13, H.2.2.1]; omega) (by omega) (by omega) (fun y ρ f1 f2 f3 f4 f5 => hQ y ρ (hF2.tr f1) ⟨fun j => ?_, f2.2.trans l2c⟩ f3 (by rw [f4, v13, H.2.2.1]; omega) ?_)
      · rw [f2.1, c2]
        by_cases e : j = 8 * 1 + r
        · rw [if_pos e, if_pos e]
        · rw [if_neg e, if_neg e, if_neg e]
      · rw [f5, eq1, hv', show (q.toInt + 1).toNat = q.toInt.toNat + 1 by omega, show ((q.toInt.toNat : Nat) : Int) = q.toInt by omega]
/-- the reference lays one number -/
theorem ch_M {σ : zS} {nr nt r : Nat} {N : Nat → Nat → Int} {V : zV} {I : Nat → Int} {L : List Int} {v : Int32} (hT : ThM σ nr nt N V (-1) I L) : ThM (si σ 68 r v) nr nt (updN N 1 r v.toInt) V (-1) I L := by
  have hF : zFr [68] [] σ (si σ 68 r v) := zFr.rf.ws (by decide)
  refine ⟨HallM_lay1 hT.1, hT.2.1.zfr hF (by decide) (by decide), by rw [hF.1 66 (by decide) 36 (by decide)]; exact hT.2.2.1, ?_, ?_⟩
  · rw [hF.c (by decide) (by decide)]; exact hT.2.2.2.1
  · have := hT.2.2.2.2
    unfold ProgM at *
    rw [hF.1 66 (by decide) 39 (by decide), hF.c (by decide) (by decide)]; exact this
theorem lp_seatM {X : zX} {d : Nat} {Q : Option Value → zH → Prop} (hd : 12 ≤ d) {nr nt r : Nat} {N : Nat → Nat → Int} {V : zV} {I : Nat → Int} {L : List Int} (hR : HallR nr nt N) (hr : r < nr) (hI : IceR I) (a1 ar half t0 was : Int32) (har : ar.toInt = r) (hwas : was.toInt = N 1 r) : ∀ (n : Nat) (σ : zS) (q b w : Int32) (x : Int), ThM σ nr nt (updN N 1 r x) V (-1) I L → 0 ≤ q.toInt → q.toInt + n = N 6 0 →
    (∀ (v : Int32) (τ : zS), zFr [68, 83, 84, 86, 87] [(66, 37)] σ τ → ((∀ j, gi τ 68 j = if j = r then was else gi σ 68 j) ∧ τ.2 68 = σ.2 68) → ThM τ nr nt N V (-1) I L → v.toInt = (if half = 0 then (spareI (cSeat N V nr r L I) n q.toInt.toNat w.toInt b.toInt).1 else (spareI (cSeat N V nr r L I) n q.toInt.toNat w.toInt b.toInt).2) → Q (some (.int v)) (zen τ)) →
    zwp X d MX12_seat 58 [.ref 66, .int a1, .int ar, .int half, .int t0, .int was, .int w, .int b, .int q] [] (zen σ) Q := by
  intro n
  have e0 := l0
  have e1 := l1
  have hlong := hR.long
  have h6 := hR.1
  have hix : ix ar = r := by rw [ix_t]; omega
  have hz : zin ar 6 = true := zin_of (by omega) (by omega)
  induction n with
  | zero =>
    intro σ q b w x hT hq0 hqn hQ
    have hlM : (gi σ 66 9).toInt = N 6 0 := hT.1.2.2.2.2.1
    rw [b_X12_seat_58 (hd := by omega), if_pos (ile.mpr (by omega)), hix]
    refine ⟨hz, ?_⟩
    have H := ch_M (v := was) (r := r) hT
    rw [updN_two, hwas, updN_back'] at H
    have hF : zFr [68, 83, 84, 86, 87] [(66, 37)] σ (si σ 68 r was) := zFr.rf.ws (by decide)
    have h2 : ∀ j, gi (si σ 68 r was) 68 j = if j = r then was else gi σ 68 j := fun j => by
      by_cases e : j = r
      · rw [e, gi_si, if_pos rfl]
      · rw [gi_si_j e, if_neg e]
    by_cases ch : half = 0
    · rw [if_neg (fun y => y ch)]
      exact hQ w _ hF ⟨h2, rfl⟩ H (by rw [if_pos ch]; rfl)
    · rw [if_pos ch]
      exact hQ b _ hF ⟨h2, rfl⟩ H (by rw [if_neg ch]; rfl)
  | succ n ih =>
    intro σ q b w x hT hq0 hqn hQ
    have hlM : (gi σ 66 9).toInt = N 6 0 := hT.1.2.2.2.2.1
    have eq1 : (q + 1).toInt = q.toInt + 1 := by rw [t_add (by omega), e1]
    rw [b_X12_seat_58 (hd := by omega), if_neg (fun y => by have := ile.mp y; omega), hix]
    have H := ch_M (v := q) (r := r) hT
    rw [updN_two] at H
    have hRq : HallR nr nt (updN N 1 r q.toInt) := hR.upd (by show (0 : Int) ≤ _; omega) (by show q.toInt ≤ 15; omega)
    refine ⟨hz, w_X12_goAll (by omega) hRq H hI (fun τ hF hT2 hic _ => ?_)⟩
    show zwp X d MX12_seat 79 _ [] (zen τ) Q
    have hF1 : zFr [68, 83, 84, 86, 87] [(66, 37)] σ (si σ 68 r q) := zFr.rf.ws (by decide)
    have hF2 : zFr [68, 83, 84, 86, 87] [(66, 37)] σ τ := hF1.tr (hF.sub (by decide) (by decide))
    have c2 : ∀ j, gi τ 68 j = if j = r then q else gi σ 68 j := fun j => by
      rw [hF.1 68 (by decide) j (by simp)]
      by_cases e : j = r
      · rw [e, gi_si, if_pos rfl]
      · rw [gi_si_j e, if_neg e]
    have hJ := play_R hRq (G := gG V (updN N 1 r q.toInt) (-1) nr) L I hT2.2.2.2.2.2.2.1 hI
    have val : ∀ v : Int32, v.toInt = carries (updN N 1 r q.toInt 6 0) ((0 : Int32).toInt * updN N 1 r q.toInt 7 0) (play (updN N 1 r q.toInt) (gG V (updN N 1 r q.toInt) (-1) nr) L I) → v.toInt = cSeat N V nr r L I q.toInt.toNat := fun v hv => by
      rw [hv, e0, Int.zero_mul]
      have : ((q.toInt.toNat : Nat) : Int) = q.toInt := by omega
      show _ = carries (N 6 0) 0 (play (updN N 1 r ((q.toInt.toNat : Nat) : Int)) (gG V (updN N 1 r ((q.toInt.toNat : Nat) : Int)) (-1) nr) L I)
      rw [this]; rfl
    have l2c : τ.2 68 = σ.2 68 := by rw [hF.2 68 (by decide)]; rfl
    rw [b_X12_seat_79 (hd := by omega)]
    refine w_X12_heaviestAt (by omega) hRq hT2.1 (by rw [e0]; omega) hic hJ (fun v hv => ?_)
    have hv' := val v hv
    show zwp X d MX12_seat 84 _ [.int v] (zen τ) Q
    rw [b_X12_seat_84 (hd := by omega)]
    unfold spareI at hQ
    by_cases cv : b < v
    · have := il.mp cv
      rw [if_pos cv]
      rw [if_pos (show b.toInt < cSeat N V nr r L I q.toInt.toNat by omega)] at hQ
      refine w_X12_heaviestAt (by omega) hRq hT2.1 (by rw [e0]; omega) hic hJ (fun u hu => ?_)
      have hu' := val u hu
      show zwp X d MX12_seat 101 _ [.int u] (zen τ) Q
      rw [b_X12_seat_101]
      refine ih τ (q + 1) u q q.toInt hT2 (by omega) (by omega) (fun y ρ f1 f2 f3 f5 => hQ y ρ (hF2.tr f1) ⟨fun j => ?_, f2.2.trans l2c⟩ f3 ?_)
      · rw [f2.1, c2]
        by_cases e : j = r
        · rw [if_pos e, if_pos e]
        · rw [if_neg e, if_neg e, if_neg e]
      · rw [f5, eq1, hu', show (q.toInt + 1).toNat = q.toInt.toNat + 1 by omega, show ((q.toInt.toNat : Nat) : Int) = q.toInt by omega]
    · have := nil_ cv
      rw [if_neg cv]
      rw [if_neg (show ¬ b.toInt < cSeat N V nr r L I q.toInt.toNat by omega)] at hQ
      refine ih τ (q + 1) b w q.toInt hT2 (by omega) (by omega) (fun y ρ f1 f2 f3 f5 => hQ y ρ (hF2.tr f1) ⟨fun j => ?_, f2.2.trans l2c⟩ f3 ?_)
      · rw [f2.1, c2]
        by_cases e : j = r
        · rw [if_pos e, if_pos e]
        · rw [if_neg e, if_neg e, if_neg e]
      · rw [f5, eq1, show (q.toInt + 1).toNat = q.toInt.toNat + 1 by omega]
/-- a cell that is as it was needs no place in the frame -/
theorem zFr.drop {S : List Nat} {F : List (Nat × Nat)} {σ τ : zS} {c : Nat} (h : zFr (c :: S) F σ τ) (h1 : ∀ j, gi τ c j = gi σ c j) (h2 : τ.2 c = σ.2 c) : zFr S F σ τ := by
  refine ⟨fun k hk j hj => ?_, fun k hk => ?_⟩
  · by_cases e : k = c
    · rw [e]; exact h1 j
    · exact h.1 k (fun q => by rcases List.mem_cons.mp q with y | y; exact e y; exact hk y) j hj
  · by_cases e : k = c
    · rw [e]; exact h2
    · exact h.2 k (fun q => by rcases List.mem_cons.mp q with y | y; exact e y; exact hk y)
section SEAT
variable {X : zX} {d : Nat} {b : Int} {σ τ : zS} {nr nt : Nat} {N : Nat → Nat → Int} {V : zV} {I : Nat → Int} {Q : Option Value → zH → Prop} {a r f : Int32}
def v_seat (σ : zS) (nr nt : Nat) (N : Nat → Nat → Int) (V : zV) (I : Nat → Int) (x r f : Int) : Int := if (r < 0 ∨ nr ≤ r) ∨ f < 0 ∨ 1 < f then -1 else if ¬ refI σ x 0 = 0 then refI σ x 0 else if f = 0 then (spareI (cSeat N V nr r.toNat (progS σ nt x) I) (N 6 0).toNat 0 0 (-1)).1 else (spareI (cSeat N V nr r.toNat (progS σ nt x) I) (N 6 0).toNat 0 0 (-1)).2
theorem c_seat (hd : 14 ≤ d) (h : RelP b σ nr nt N V I) (hb : b ≤ 800000) (hQ : ∀ (x : Int32) (τ : zS), Cpost σ nr nt N V τ → x.toInt = v_seat σ nr nt N V I a.toInt r.toInt f.toInt → Q (some (.int x)) (zen τ)) : zwp X d MX11_seat 0 [.ref 0, .int a, .int r, .int f, .null] [] (zen σ) Q := by
  have hR := h.1.2.2
  have hl := hR.long
  have hI := h.2.2.2.1.2.2.1
  have e0 := l0
  have e1 := l1
  have em1 := lm1
  have c1 := h.1.1.1
  unfold v_seat at hQ
  rw [b_X11_seat_0 (hd := by omega)]
  by_cases x1 : r < 0
  · have := il.mp x1
    rw [if_pos x1]
    exact hQ _ σ (Cpost.rf h) (by rw [if_pos (by omega)]; rfl)
  · have y1 := nil_ x1
    rw [if_neg x1]
    by_cases x2 : gi σ 1 1 ≤ r
    · have := ile.mp x2
      rw [if_pos x2]
      exact hQ _ σ (Cpost.rf h) (by rw [if_pos (by omega)]; rfl)
    · have y2 := nile x2
      rw [if_neg x2, t_half]
      by_cases x3 : f.toInt < 0 ∨ 1 < f.toInt
      · rw [if_pos x3, if_neg (fun y => y rfl)]
        exact hQ _ σ (Cpost.rf h) (by rw [if_pos (by omega)]; rfl)
      · rw [if_neg x3, if_pos (by decide)]
        have nb : ¬ ((r.toInt < 0 ∨ (nr : Int) ≤ r.toInt) ∨ f.toInt < 0 ∨ 1 < f.toInt) := by omega
        rw [if_neg nb] at hQ
        by_cases hr : refI σ a.toInt 0 = 0
        · refine c_readO (by omega) h hr (fun τ hF hT => ?_)
          show zwp X d MX11_seat 29 _ [.int 0] (zen τ) Q
          rw [if_neg (fun q => q hr)] at hQ
          have hm : zmean nr nt 1 r.toInt.toNat := by unfold zmean; omega
          have pl := place_ok (σ := τ) (nr := nr) (nt := nt) (N := N) (w := 1) (i := r) hT.1 hR (by rw [e1]; unfold zmok; exact ⟨by omega, by omega, hm⟩)
          have hz : zin (f_X5_placeOf τ r 1) 80 = true := zin_of (by omega) (by have := hR.1; omega)
          rw [b_X11_seat_29 (hd := by omega), if_pos rfl, b_X10_bestSeat_0 (hd := by omega), if_pos (ile.mpr (by omega))]
          refine ⟨hz, ?_⟩
          have ip : ix (f_X5_placeOf τ r 1) = 8 * 1 + r.toInt.toNat := by rw [ix_t, pl]; omega
          have v2 : (gi τ 2 (8 * 1 + r.toInt.toNat)).toInt = N 1 r.toInt.toNat := hT.1.2.2 1 _ hm
          have hv1 := h.2.2.1.2.1
          have hv2 := h.2.2.1.2.2.1
          have g13 : gi τ 1 3 = gi σ 1 3 := hF.1 1 (by decide) 3 (by decide)
          rw [ip]
          refine lp_seatC (by omega) hR (r := r.toInt.toNat) (by omega) hI r f _ _ _ (by rw [pl]; omega) v2 (by rw [f_planks]; exact hT.1.long) (N 6 0).toNat τ 0 (-1) 0 (N 1 r.toInt.toNat) .null (by rw [updN_back']; exact hT) (by rw [updN_back']; exact hR) (by rw [g13]; omega) (by rw [g13]; omega) (by omega) (by omega) (fun v ρ f1 f2 f3 f4 f5 => ?_)
          show zwp X d MX11_seat 50 _ [.int v] (zen ρ) Q
          rw [b_X11_seat_50]
          have fz : zFr [6, 14, 15, 16, 44] [(1, 3), (13, 5), (41, 5)] τ ρ := f1.drop (fun j => by rw [f2.1]; by_cases e : j = 8 * 1 + r.toInt.toNat; (rw [if_pos e, e]); (rw [if_neg e])) f2.2
          refine hQ v ρ ⟨(fr42 hF).tr (fz.sub (by decide) (by decide)), f3.2.2.1, by rw [f4, g13]; omega, by rw [f4, g13]; omega⟩ ?_
          rw [f5, e0, em1]
          by_cases ch : f = 0
          · rw [if_pos ch, if_pos (by rw [ch]; rfl)]; rfl
          · rw [if_neg ch, if_neg (fun y => ch (ieq.mpr (by rw [y]; rfl)))]; rfl
        · refine c_readB (by omega) h hr (fun v τ hv hv2 hC => ?_)
          show zwp X d MX11_seat 29 _ [.int v] (zen τ) Q
          rw [b_X11_seat_29 (hd := by omega), if_neg hv]
          exact hQ _ τ hC (by rw [if_pos hr]; exact hv2)
theorem m_seat (hd : 16 ≤ d) (h : RelP b σ nr nt N V I) (hQ : ∀ (x : Int32) (τ : zS), Mpost σ τ → x.toInt = v_seat σ nr nt N V I a.toInt r.toInt f.toInt → Q (some (.int x)) (zen τ)) : zwp X d MX12_seat 0 [.ref 66, .int a, .int r, .int f, .null, .null, .null, .null, .null] [] (zen σ) Q := by
  have hR := h.1.2.2
  have hl := hR.long
  have h6 := hR.1
  have hI := h.2.2.2.1.2.2.1
  have e0 := l0
  have e1 := l1
  have em1 := lm1
  have z10 : ¬ (1 : Int32) = 0 := by decide
  have m1 := h.1.2.1.1
  have s1 : (gi σ 66 1 - 1).toInt = nr - 1 := by rw [t_sub (by omega), m1, e1]
  unfold v_seat at hQ
  rw [b_X12_seat_0 (hd := by omega), t_isShelfM]
  by_cases ha : a.toInt < 0 ∨ 6 ≤ a.toInt
  · rw [if_pos ha, if_pos rfl]
    refine hQ _ σ (Mpost.rf h) ?_
    by_cases x : (r.toInt < 0 ∨ (nr : Int) ≤ r.toInt) ∨ f.toInt < 0 ∨ 1 < f.toInt
    · rw [if_pos x]; rfl
    · rw [if_neg x, refI_bad ha, if_pos (by omega)]; rfl
  · rw [if_neg ha, if_neg z10]
    unfold f_X12_isRow
    by_cases x1 : r.toInt < (0 : Int32).toInt ∨ (gi σ 66 1 - 1).toInt < r.toInt
    · rw [t_in0 x1, if_pos rfl]
      exact hQ _ σ (Mpost.rf h) (by rw [if_pos (by omega)]; rfl)
    · rw [t_in1 x1, if_neg z10]
      by_cases x3 : f.toInt < (0 : Int32).toInt ∨ (1 : Int32).toInt < f.toInt
      · rw [t_in0 x3, if_neg (fun y => y rfl)]
        exact hQ _ σ (Mpost.rf h) (by rw [if_pos (by omega)]; rfl)
      · rw [t_in1 x3, if_pos z10]
        have nb : ¬ ((r.toInt < 0 ∨ (nr : Int) ≤ r.toInt) ∨ f.toInt < 0 ∨ 1 < f.toInt) := by omega
        rw [if_neg nb] at hQ
        by_cases hr : refI σ a.toInt 0 = 0
        · refine m_layO (by omega) h (by omega) hr (fun τ hF hT => ?_)
          show zwp X d MX12_seat 31 _ [.int 0] (zen τ) Q
          rw [if_neg (fun q => q hr)] at hQ
          have ir := ix_t r
          have hz : zin r 6 = true := zin_of (by omega) (by omega)
          have v2 : (gi τ 68 (ix r)).toInt = N 1 r.toInt.toNat := by rw [ir]; exact (hT.1.2.2.1 r.toInt.toNat (by omega)).2.1
          rw [b_X12_seat_31, if_pos (by decide)]
          refine ⟨hz, lp_seatM (by omega) hR (r := r.toInt.toNat) (by omega) hI a r f 0 _ (by omega) v2 (N 6 0).toNat τ 0 (-1) 0 (N 1 r.toInt.toNat) (by rw [updN_back']; exact hT) (by omega) (by omega) (fun v ρ f1 f2 f3 f5 => ?_)⟩
          have fz : zFr [83, 84, 86, 87] [(66, 37)] τ ρ := f1.drop (fun j => by rw [f2.1]; by_cases e : j = r.toInt.toNat; (rw [if_pos e, e, ir]); (rw [if_neg e])) f2.2
          refine hQ v ρ ⟨(fr88 hF).tr (fr86 fz), f3.2.2.1⟩ ?_
          rw [f5, e0, em1]
          by_cases ch : f = 0
          · rw [if_pos ch, if_pos (by rw [ch]; rfl)]; rfl
          · rw [if_neg ch, if_neg (fun y => ch (ieq.mpr (by rw [y]; rfl)))]; rfl
        · refine m_layB (by omega) h (by omega) hr (fun v τ hv hv2 hM => ?_)
          show zwp X d MX12_seat 31 _ [.int v] (zen τ) Q
          rw [b_X12_seat_31, if_neg (fun q => by have := ile.mp q; omega)]
          exact hQ _ τ hM (by rw [if_pos hr]; exact hv2)
theorem v_seat_fr (hF : zFr SC1 FC1 σ τ) (x y z : Int) : v_seat τ nr nt N V I x y z = v_seat σ nr nt N V I x y z := by unfold v_seat; rw [refI_fr hF, progS_fr hF]
theorem o_seat (hd : 20 ≤ d) {k : Nat} (hk : k ≤ 512) (h : Rel k σ) (a r f : Int32) : zOp k σ X d MX11_seat MX12_seat [.ref 0, .int a, .int r, .int f, .null] [.ref 66, .int a, .int r, .int f, .null, .null, .null, .null, .null] := by
  obtain ⟨nr, nt, N, V, I, h⟩ := h
  exact zOp.think h (fun Q hQ => c_seat (by omega) h (by omega) hQ) (fun τ h2 hF Q hQ => m_seat (by omega) h2 (fun x ρ hM hx => hQ x ρ hM (by rw [hx, v_seat_fr hF])))
end SEAT
