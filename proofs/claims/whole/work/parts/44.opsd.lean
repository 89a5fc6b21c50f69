/-! led, count, trace, of, feed, salt, body, keep -/
theorem zOp.sum2 {k : Nat} {σ gc gm : zS} {X : zX} {d : Nat} {mC mM : zM} {lC lM : List Value} {fc fm : Int32} {pc pm : Prop} (hc : ∀ Q : Option Value → zH → Prop, zwp X d mC 0 lC [] (zen σ) Q = (pc ∧ Q (some (.int fc)) (zen gc))) (hm : ∀ Q : Option Value → zH → Prop, zwp X d mM 0 lM [] (zen gc) Q = (pm ∧ Q (some (.int fm)) (zen gm))) (h1 : pc) (h2 : pm) (he : fm = fc) (hr : Rel (k + 1) gm) : zOp k σ X d mC mM lC lM := by
  unfold zOp
  rw [hc]
  refine ⟨h1, fc, gc, rfl, rfl, ?_⟩
  rw [hm]
  exact ⟨h2, by rw [he], gm, rfl, hr⟩
theorem and_true_eq {A B : Prop} (h : A = B) : A = (True ∧ B) := h.trans (true_and _).symm
theorem RelP.next {k : Nat} {σ : zS} {nr nt : Nat} {N : Nat → Nat → Int} {V : zV} {I : Nat → Int} (h : RelP (200 * (k : Int)) σ nr nt N V I) : Rel (k + 1) σ := ⟨nr, nt, N, V, I, h.up (by rw [Int.natCast_add]; omega)⟩
theorem t_in0 {σ : zS} {x : Int32} {lo hi : Int32} (h : x.toInt < lo.toInt ∨ hi.toInt < x.toInt) : f_X12_in σ x lo hi = 0 := by rw [t_inM, if_pos h]
theorem t_in1 {σ : zS} {x : Int32} {lo hi : Int32} (h : ¬ (x.toInt < lo.toInt ∨ hi.toInt < x.toInt)) : f_X12_in σ x lo hi = 1 := by rw [t_inM, if_neg h]
theorem l0 : (0 : Int32).toInt = 0 := rfl
theorem l1 : (1 : Int32).toInt = 1 := rfl
theorem l2 : (2 : Int32).toInt = 2 := rfl
theorem l3 : (3 : Int32).toInt = 3 := rfl
theorem l4 : (4 : Int32).toInt = 4 := rfl
theorem l5 : (5 : Int32).toInt = 5 := rfl
theorem l6 : (6 : Int32).toInt = 6 := rfl
theorem l7 : (7 : Int32).toInt = 7 := rfl
theorem l8 : (8 : Int32).toInt = 8 := rfl
theorem l9 : (9 : Int32).toInt = 9 := rfl
theorem l15 : (15 : Int32).toInt = 15 := rfl
theorem l16 : (16 : Int32).toInt = 16 := rfl
theorem l24 : (24 : Int32).toInt = 24 := rfl
theorem l255 : (255 : Int32).toInt = 255 := rfl
theorem ln10 : ¬ (1 : Int32) = 0 := by decide
theorem lm1 : (-1 : Int32).toInt = -1 := rfl
section OPSD
variable {X : zX} {d : Nat} {σ : zS} {k : Nat}
theorem o_led (hd : 20 ≤ d) (h : Rel k σ) (a : Int32) : zOp k σ X d MX11_led MX12_led [.ref 0, .int a] [.ref 66, .int a] := by
  obtain ⟨nr, nt, N, V, I, h⟩ := h
  have e0 := l0
  have e4 := l4
  have H := h.2.2.2.2.1.2.2
  by_cases hc : a.toInt < 0 ∨ 4 < a.toInt
  · refine zOp.sum2 (fun Q => s_X11_led σ a) (fun Q => s_X12_led (hd := by omega) σ a) ?_ ?_ ?_ h.next
    · unfold p_X11_led
      by_cases q : a < 0
      · rw [if_pos q]; exact trivial
      · have := nil_ q
        rw [if_neg q, if_neg (fun q2 => by have := ile.mp q2; omega)]; exact trivial
    · unfold p_X12_led
      rw [t_in0 hc, if_pos rfl]; exact trivial
    · unfold f_X11_led f_X12_led
      rw [t_in0 hc, if_pos rfl]
      by_cases q : a < 0
      · rw [if_pos q]
      · have := nil_ q
        rw [if_neg q, if_neg (fun q2 => by have := ile.mp q2; omega)]
  · have hz : zin a 5 = true := zin_of (by omega) (by omega)
    have q1 : ¬ a < 0 := fun q => by have := il.mp q; omega
    have q2 : a ≤ 4 := ile.mpr (by omega)
    have hix := ix_t a
    refine zOp.sum2 (fun Q => s_X11_led σ a) (fun Q => s_X12_led (hd := by omega) σ a) ?_ ?_ ?_ h.next
    · unfold p_X11_led
      rw [if_neg q1, if_pos q2]; exact hz
    · unfold p_X12_led
      rw [t_in1 hc, if_neg (by decide)]; exact hz
    · unfold f_X11_led f_X12_led
      rw [t_in1 hc, if_neg (by decide), if_neg q1, if_pos q2]
      exact (H (ix a) (by omega)).1.symm
theorem o_count (hd : 20 ≤ d) (h : Rel k σ) (a : Int32) : zOp k σ X d MX11_count MX12_count [.ref 0, .int a] [.ref 66, .int a] := by
  obtain ⟨nr, nt, N, V, I, h⟩ := h
  refine zOp.sum2 (fun Q => and_true_eq (s_X11_count σ a)) (fun Q => and_true_eq (s_X12_count σ a)) trivial trivial ?_ h.next
  obtain ⟨h1, h2, h3, h4, h5, ⟨D, U, h6⟩, ⟨n, h7⟩, h8, ⟨nb, ran, h9⟩⟩ := h
  have g0 : gi σ 66 1 = gi σ 1 1 := ieq.mpr (by rw [h1.1.1, h1.2.1.1])
  have g1 : gi σ 66 6 = gi σ 1 2 := ieq.mpr (by rw [h1.1.2.1, h1.2.1.2.1])
  have g2 : gi σ 66 20 = gi σ 7 2 := ieq.mpr (by rw [h7.2.1, h7.2.2.1])
  have g3 : gi σ 66 13 = gi σ 24 3 := ieq.mpr (by rw [h6.2.1, h6.2.2.2.1])
  have g4 : gi σ 66 49 = gi σ 63 2 := ieq.mpr (by rw [h9.2.1, h9.2.2.1])
  have g5 : gi σ 66 51 = gi σ 63 3 := ieq.mpr (by rw [h9.2.2.2.2.2.1, h9.2.2.2.2.2.2.1])
  unfold f_X11_count f_X12_count
  rw [g0, g1, g2, g3, g4, g5]
theorem o_trace (hd : 20 ≤ d) (h : Rel k σ) (a : Int32) : zOp k σ X d MX11_trace MX12_trace [.ref 0, .int a] [.ref 66, .int a] := by
  obtain ⟨nr, nt, N, V, I, h⟩ := h
  have hn := h.next
  obtain ⟨h1, h2, h3, h4, h5, h6, h7, h8, ⟨nb, ran, h9⟩⟩ := h
  have e0 := l0
  have e24 := l24
  have r1 := h9.2.2.2.2.2.1
  have r2 := h9.2.2.2.2.2.2.1
  have r3 := h9.2.2.2.2.2.2.2
  have em := t_zmn (gi σ 63 3) 24
  have hix := ix_t a
  refine zOp.sum2 (fun Q => s_X11_trace σ a) (fun Q => s_X12_trace σ a) ?_ ?_ ?_ hn
  · unfold p_X11_trace
    split
    · exact trivial
    · next q1 =>
      have := nil_ q1
      split
      · next q2 => have := il.mp q2; exact zin_of (by omega) (by omega)
      · exact trivial
  · unfold p_X12_trace
    split
    · exact trivial
    · next q1 =>
      have := nil_ q1
      split
      · exact trivial
      · split
        · exact trivial
        · next q2 => have := nile q2; exact zin_of (by omega) (by omega)
  · unfold f_X11_trace f_X12_trace
    by_cases q1 : a < 0
    · rw [if_pos q1, if_pos q1]
    · have := nil_ q1
      rw [if_neg q1, if_neg q1]
      by_cases q2 : a < zmn (gi σ 63 3) 24
      · have := il.mp q2
        rw [if_pos q2, if_neg (fun q => by have := ile.mp q; omega), if_neg (fun q => by have := ile.mp q; omega)]
        exact (r3 (ix a) (by omega) (by omega)).symm
      · have := nil_ q2
        rw [if_neg q2]
        by_cases q3 : gi σ 66 51 ≤ a
        · rw [if_pos q3]
        · have := nile q3
          rw [if_neg q3, if_pos (ile.mpr (by omega))]
theorem o_salt (hd : 20 ≤ d) (h : Rel k σ) (a : Int32) : zOp k σ X d MX11_salt MX12_salt [.ref 0, .int a, .null] [.ref 66, .int a, .null] := by
  obtain ⟨nr, nt, N, V, I, h⟩ := h
  have e0 := l0
  have e15 := l15
  have e16 := l16
  have hix := ix_t a
  by_cases hc : a.toInt < 0 ∨ 15 < a.toInt
  · refine zOp.sum2 (gc := σ) (gm := σ) (fc := -1) (fm := -1) (pc := True) (pm := True) (fun Q => ?_) (fun Q => ?_) trivial trivial rfl h.next
    · have q : g_X11_salt σ a = σ ∧ f_X11_salt σ a = -1 ∧ p_X11_salt σ a := by
        unfold g_X11_salt f_X11_salt p_X11_salt
        by_cases q : a < 0
        · rw [if_pos q, if_pos q, if_pos q]; exact ⟨rfl, rfl, trivial⟩
        · have := nil_ q
          have q2 : ¬ a < 16 := fun q2 => by have := il.mp q2; omega
          rw [if_neg q, if_neg q, if_neg q, if_neg q2, if_neg q2, if_neg q2]; exact ⟨rfl, rfl, trivial⟩
      rw [s_X11_salt, q.1, q.2.1, ztrue_and q.2.2, true_and]
    · have q : g_X12_salt σ a = σ ∧ f_X12_salt σ a = -1 ∧ p_X12_salt σ a := by
        unfold g_X12_salt f_X12_salt p_X12_salt
        rw [t_in0 hc, if_neg (by decide), if_neg (by decide), if_neg (by decide)]; exact ⟨rfl, rfl, trivial⟩
      rw [s_X12_salt (hd := by omega), q.1, q.2.1, ztrue_and q.2.2, true_and]
  · have hz : zin a 16 = true := zin_of (by omega) (by omega)
    have q1 : ¬ a < 0 := fun q => by have := il.mp q; omega
    have q2 : a < 16 := il.mpr (by omega)
    obtain ⟨h1, h2, h3, h4, h5, h6, h7, h8, h9⟩ := h
    have hF : zFr [19, 85] [] σ (si (si σ 19 (ix a) 0) 85 (ix a) 0) := (zFr.rf.ws (by decide)).ws (by decide)
    refine zOp.sum2 (gc := si σ 19 (ix a) 0) (gm := si (si σ 19 (ix a) 0) 85 (ix a) 0) (fc := gi σ 19 (ix a)) (fm := gi σ 85 (ix a)) (pc := True) (pm := True) (fun Q => ?_) (fun Q => ?_) trivial trivial ?_ ⟨nr, nt, N, V, fun p => if p = ix a then 0 else I p, h1.zfr hF (by decide), h2.zfr hF (by decide), ⟨h3.1.fr rfl rfl rfl rfl, h3.2.1, ?_, h3.2.2.2⟩, ?_, h5.zfr hF (by decide), h6.zfr hF (by decide), h7.zfr hF (by decide), h8.zfr hF (by decide), h9.zfr hF (by decide)⟩
    · have q : g_X11_salt σ a = si σ 19 (ix a) 0 ∧ f_X11_salt σ a = gi σ 19 (ix a) ∧ p_X11_salt σ a := by
        unfold g_X11_salt f_X11_salt p_X11_salt
        rw [if_neg q1, if_neg q1, if_neg q1, if_pos q2, if_pos q2, if_pos q2]; exact ⟨rfl, rfl, hz, hz⟩
      rw [s_X11_salt, q.1, q.2.1, ztrue_and q.2.2, true_and]
    · have q : g_X12_salt (si σ 19 (ix a) 0) a = si (si σ 19 (ix a) 0) 85 (ix a) 0 ∧ f_X12_salt (si σ 19 (ix a) 0) a = gi σ 85 (ix a) ∧ p_X12_salt (si σ 19 (ix a) 0) a := by
        unfold g_X12_salt f_X12_salt p_X12_salt
        rw [t_in1 hc, if_pos ln10, if_pos ln10, if_pos ln10]; exact ⟨rfl, rfl, hz, hz⟩
      rw [s_X12_salt (hd := by omega), q.1, q.2.1, ztrue_and q.2.2, true_and]
    · exact ieq.mpr ((h4.2.1 (ix a) (by omega)).trans (h4.1 (ix a) (by omega)).symm)
    · have := h3.2.2.1; show (gi σ 1 3).toInt ≤ _; rw [Int.natCast_add]; omega
    · refine ⟨fun p hp => ?_, fun p hp => ?_, fun p hp => ?_, fun hnt p hp => ?_⟩
      · show (gi (si (si σ 19 (ix a) 0) 85 (ix a) 0) 19 p).toInt = (if p = ix a then (0 : Int) else I p)
        rw [gi_si_ne (by decide)]
        by_cases e : p = ix a
        · rw [e, gi_si, if_pos rfl]; rfl
        · rw [gi_si_j e, if_neg e]; exact h4.1 p hp
      · show (gi (si (si σ 19 (ix a) 0) 85 (ix a) 0) 85 p).toInt = (if p = ix a then (0 : Int) else I p)
        by_cases e : p = ix a
        · rw [e, gi_si, if_pos rfl]; rfl
        · rw [gi_si_j e, if_neg e]; exact h4.2.1 p hp
      · have := h4.2.2.1 p hp
        show 0 ≤ (if p = ix a then (0 : Int) else I p) ∧ (if p = ix a then (0 : Int) else I p) ≤ 999
        split <;> omega
      · show (if p = ix a then (0 : Int) else I p) = 0
        split
        · rfl
        · exact h4.2.2.2 hnt p hp
theorem o_feed (hd : 20 ≤ d) (h : Rel k σ) (a : Int32) : zOp k σ X d MX11_feed MX12_feed [.ref 0, .int a] [.ref 66, .int a] := by
  obtain ⟨nr, nt, N, V, I, h⟩ := h
  have e0 := l0
  have e255 := l255
  by_cases hc : a.toInt < 0 ∨ 255 < a.toInt
  · refine zOp.sum2 (gc := σ) (gm := σ) (fc := -1) (fm := -1) (pc := True) (pm := True) (fun Q => ?_) (fun Q => ?_) trivial trivial rfl h.next
    · have q : g_X11_feed σ a = σ ∧ f_X11_feed σ a = -1 ∧ p_X11_feed σ a := by
        unfold g_X11_feed f_X11_feed p_X11_feed
        by_cases q : a < 0
        · rw [if_pos q, if_pos q, if_pos q]; exact ⟨rfl, rfl, trivial⟩
        · have := nil_ q
          have q2 : ¬ a ≤ 255 := fun q2 => by have := ile.mp q2; omega
          rw [if_neg q, if_neg q, if_neg q, if_neg q2, if_neg q2, if_neg q2]; exact ⟨rfl, rfl, trivial⟩
      rw [s_X11_feed (hd := by omega), q.1, q.2.1, ztrue_and q.2.2, true_and]
    · have q : g_X12_feed σ a = σ ∧ f_X12_feed σ a = -1 ∧ p_X12_feed σ a := by
        unfold g_X12_feed f_X12_feed p_X12_feed
        rw [t_in0 hc, if_neg (by decide), if_neg (by decide), if_neg (by decide)]; exact ⟨rfl, rfl, trivial⟩
      rw [s_X12_feed (hd := by omega), q.1, q.2.1, ztrue_and q.2.2, true_and]
  · have q1 : ¬ a < 0 := fun q => by have := il.mp q; omega
    have q2 : a ≤ 255 := ile.mpr (by omega)
    have hn := h.next
    obtain ⟨h1, h2, h3, h4, h5, h6, ⟨n, hn0, hn1, hn2, hn3⟩, h8, h9⟩ := h
    have e120 : (120 : Int32).toInt = 120 := rfl
    by_cases hf : n = 120
    · have c1 : gi σ 7 2 = 120 := ieq.mpr (by rw [hn1, hf]; rfl)
      have c2 : gi σ 66 20 = 120 := ieq.mpr (by rw [hn2, hf]; rfl)
      refine zOp.sum2 (gc := σ) (gm := σ) (fc := -3) (fm := -3) (pc := True) (pm := True) (fun Q => ?_) (fun Q => ?_) trivial trivial rfl hn
      · have q : g_X11_feed σ a = σ ∧ f_X11_feed σ a = -3 ∧ p_X11_feed σ a := by
          unfold g_X11_feed f_X11_feed p_X11_feed
          rw [if_neg q1, if_neg q1, if_neg q1, if_pos q2, if_pos q2, if_pos q2, if_neg (fun q => q c1), if_neg (fun q => q c1), if_neg (fun q => q c1)]; exact ⟨rfl, rfl, trivial⟩
        rw [s_X11_feed (hd := by omega), q.1, q.2.1, ztrue_and q.2.2, true_and]
      · have q : g_X12_feed σ a = σ ∧ f_X12_feed σ a = -3 ∧ p_X12_feed σ a := by
          unfold g_X12_feed f_X12_feed p_X12_feed
          rw [t_in1 hc, if_pos ln10, if_pos ln10, if_pos ln10, if_neg (fun q => q c2), if_neg (fun q => q c2), if_neg (fun q => q c2)]; exact ⟨rfl, rfl, trivial⟩
        rw [s_X12_feed (hd := by omega), q.1, q.2.1, ztrue_and q.2.2, true_and]
    · have c1 : ¬ gi σ 7 2 = 120 := fun q => hf (by rw [q, e120] at hn1; omega)
      have c2 : ¬ gi σ 66 20 = 120 := fun q => hf (by rw [q, e120] at hn2; omega)
      have z1 : zin (gi σ 7 2) 120 = true := zin_of (by omega) (by omega)
      have z2 : zin (gi σ 66 20) 120 = true := zin_of (by omega) (by omega)
      have i1 : ix (gi σ 7 2) = n := by rw [ix_t, hn1]; omega
      have i2 : ix (gi σ 66 20) = n := by rw [ix_t, hn2]; omega
      have s1 : (gi σ 7 2 + 1).toInt = n + 1 := by rw [t_succ (by omega), hn1]
      have s2 : (gi σ 66 20 + 1).toInt = n + 1 := by rw [t_succ (by omega), hn2]
      have hF : zFr [8, 77] [(7, 2), (66, 20)] σ (si (si (si (si σ 8 n a) 7 2 (gi σ 7 2 + 1)) 77 n ((Int32.toInt8 a).toInt32)) 66 20 (gi σ 66 20 + 1)) := (((zFr.rf.ws (by decide)).sf (by decide)).ws (by decide)).sf (by decide)
      refine zOp.sum2 (gc := si (si σ 8 n a) 7 2 (gi σ 7 2 + 1)) (gm := si (si (si (si σ 8 n a) 7 2 (gi σ 7 2 + 1)) 77 n ((Int32.toInt8 a).toInt32)) 66 20 (gi σ 66 20 + 1)) (fc := gi σ 7 2 + 1) (fm := gi σ 66 20 + 1) (pc := True) (pm := True) (fun Q => ?_) (fun Q => ?_) trivial trivial (ieq.mpr (by rw [s1, s2])) ⟨nr, nt, N, V, I, h1.zfr hF (by decide), h2.zfr hF (by decide), ⟨h3.1.fr rfl rfl rfl rfl, h3.2.1, ?_, h3.2.2.2⟩, h4.zfr hF (by decide), h5.zfr hF (by decide), h6.zfr hF (by decide), ⟨n + 1, by omega, s1, s2, fun j hj => ?_⟩, h8.zfr hF (by decide), h9.zfr hF (by decide)⟩
      · have q : g_X11_feed σ a = si (si σ 8 n a) 7 2 (gi σ 7 2 + 1) ∧ f_X11_feed σ a = gi σ 7 2 + 1 ∧ p_X11_feed σ a := by
          unfold g_X11_feed f_X11_feed p_X11_feed
          rw [if_neg q1, if_neg q1, if_neg q1, if_pos q2, if_pos q2, if_pos q2, if_pos c1, if_pos c1, if_pos c1]
          unfold g_X9_add
          rw [i1]
          exact ⟨rfl, rfl, z1⟩
        rw [s_X11_feed (hd := by omega), q.1, q.2.1, ztrue_and q.2.2, true_and]
      · have eb : (Int32.toInt8 ((Int32.toInt8 a).toInt32)).toInt32 = (Int32.toInt8 a).toInt32 := by rw [Int8.toInt8_toInt32]
        have g20 : gi (si (si σ 8 n a) 7 2 (gi σ 7 2 + 1)) 66 20 = gi σ 66 20 := rfl
        have q : g_X12_feed (si (si σ 8 n a) 7 2 (gi σ 7 2 + 1)) a = si (si (si (si σ 8 n a) 7 2 (gi σ 7 2 + 1)) 77 n ((Int32.toInt8 a).toInt32)) 66 20 (gi σ 66 20 + 1) ∧ f_X12_feed (si (si σ 8 n a) 7 2 (gi σ 7 2 + 1)) a = gi σ 66 20 + 1 ∧ p_X12_feed (si (si σ 8 n a) 7 2 (gi σ 7 2 + 1)) a := by
          unfold g_X12_feed f_X12_feed p_X12_feed
          rw [t_in1 hc, if_pos ln10, if_pos ln10, if_pos ln10, g20, if_pos c2, if_pos c2, if_pos c2, i2, eb]
          exact ⟨rfl, rfl, z2⟩
        rw [s_X12_feed (hd := by omega), q.1, q.2.1, ztrue_and q.2.2, true_and]
      · have := h3.2.2.1; show (gi σ 1 3).toInt ≤ _; rw [Int.natCast_add]; omega
      · have g8 : gi (si (si (si (si σ 8 n a) 7 2 (gi σ 7 2 + 1)) 77 n ((Int32.toInt8 a).toInt32)) 66 20 (gi σ 66 20 + 1)) 8 j = gi (si σ 8 n a) 8 j := rfl
        have g77 : gi (si (si (si (si σ 8 n a) 7 2 (gi σ 7 2 + 1)) 77 n ((Int32.toInt8 a).toInt32)) 66 20 (gi σ 66 20 + 1)) 77 j = gi (si σ 77 n ((Int32.toInt8 a).toInt32)) 77 j := by
          rw [gi_si_ne (by decide)]
          by_cases e : j = n
          · rw [e, gi_si, gi_si]
          · rw [gi_si_j e, gi_si_j e]; rfl
        rw [g8, g77]
        by_cases e : j = n
        · rw [e, gi_si, gi_si]; exact ⟨by omega, by omega, rfl⟩
        · rw [gi_si_j e, gi_si_j e]; exact hn3 j (by omega)
end OPSD
