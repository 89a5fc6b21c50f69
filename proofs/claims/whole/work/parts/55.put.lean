/-! put, body -/
theorem b8 (v : Int64) : -128 ≤ (Int32.toInt64 ((Int32.toInt8 (Int64.toInt32 v)).toInt32)).toInt ∧ (Int32.toInt64 ((Int32.toInt8 (Int64.toInt32 v)).toInt32)).toInt ≤ 127 := by
  have h1 := Int8.toInt_lt (Int32.toInt8 (Int64.toInt32 v))
  have h2 := Int8.le_toInt (Int32.toInt8 (Int64.toInt32 v))
  rw [Int32.toInt_toInt64, Int8.toInt_toInt32]
  omega
theorem b16 (v : Int64) : -32768 ≤ (Int32.toInt64 ((Int32.toInt16 (Int64.toInt32 v)).toInt32)).toInt ∧ (Int32.toInt64 ((Int32.toInt16 (Int64.toInt32 v)).toInt32)).toInt ≤ 32767 := by
  have h1 := Int16.toInt_lt (Int32.toInt16 (Int64.toInt32 v))
  have h2 := Int16.le_toInt (Int32.toInt16 (Int64.toInt32 v))
  rw [Int32.toInt_toInt64, Int16.toInt_toInt32]
  omega
def heldI (t : Int32) (v : Int64) : Int64 := if t = 0 then (Int32.toInt64 ((Int32.toInt8 (Int64.toInt32 v)).toInt32)) else if t = 1 then (Int32.toInt64 ((Int32.toInt16 (Int64.toInt32 v)).toInt32)) else if t = 2 then (Int32.toInt64 (Int64.toInt32 v)) else if t = 4 then (if (lg_cmp v 0) = 0 then 0 else 1) else v
/-- one cell of a shelf, both sides -/
theorem RS1.cell {σ τ : zS} {s r : Nat} {p : Nat} {w : Int64} (h : RS1 σ s r) (hp : p < 60) (h1 : τ.1 r = σ.1 r) (h2 : ∀ j, gl τ (r + 1) j = if j = p then w else gl σ (r + 1) j) (h3 : gi τ 95 s = gi σ 95 s) (h4 : gi τ 96 s = gi σ 96 s) (h5 : ∀ j, j < 60 → gl τ 97 (60 * s + j) = if j = p then w else gl σ 97 (60 * s + j)) (h6 : gi τ 63 2 = gi σ 63 2) (hw : gi σ r 1 = 2 → ((gi σ r 3).toInt = 0 → -128 ≤ w.toInt ∧ w.toInt ≤ 127) ∧ ((gi σ r 3).toInt = 1 → -32768 ≤ w.toInt ∧ w.toInt ≤ 32767)) : RS1 τ s r := by
  have hg : ∀ j, gi τ r j = gi σ r j := fun j => by show τ.1 r j = _; rw [h1]; rfl
  unfold RS1 at *
  rw [hg, hg, hg, hg, h3, h4, h6]
  refine ⟨h.1, h.2.1, h.2.2.1, fun j hj => by rw [h2, h5 j hj, h.2.2.2.1 j hj], ?_⟩
  rcases h.2.2.2.2 with q | q | q
  · exact Or.inl q
  · exact Or.inr (Or.inl q)
  · refine Or.inr (Or.inr ⟨q.1, q.2.1, q.2.2.1, q.2.2.2.1, fun h0 j hj => ?_, fun h0 j hj => ?_⟩)
    · rw [h5 j hj]
      by_cases e : j = p
      · rw [if_pos e]; exact (hw q.1).1 h0
      · rw [if_neg e]; exact q.2.2.2.2.1 h0 j hj
    · rw [h5 j hj]
      by_cases e : j = p
      · rw [if_pos e]; exact (hw q.1).2 h0
      · rw [if_neg e]; exact q.2.2.2.2.2 h0 j hj
theorem RelP.body {b : Int} {σ τ : zS} {nr nt : Nat} {N : Nat → Nat → Int} {V : zV} {I : Nat → Int} (h : RelP b σ nr nt N V I) (hF : zFr [64, 65, 93, 94] [(63, 2), (63, 3), (66, 49), (66, 51)] σ τ) (hm : (gi σ 63 2).toInt ≤ (gi τ 63 2).toInt) (hB : RB τ) : RelP b τ nr nt N V I := by
  obtain ⟨h1, h2, h3, h4, h5, h6, h7, h8, h9⟩ := h
  have e13 : gi τ 1 3 = gi σ 1 3 := hF.1 1 (by decide) 3 (by decide)
  refine ⟨h1.zfr hF (by decide), h2.zfr hF (by decide), ⟨h3.1.fr (hF.c (by decide) (by decide)) (hF.c (by decide) (by decide)) (hF.c (by decide) (by decide)) e13, by rw [e13]; exact h3.2.1, by rw [e13]; exact h3.2.2.1, by rw [hF.1 66 (by decide) 36 (by decide)]; exact h3.2.2.2⟩, h4.zfr hF (by decide), h5.zfr hF (by decide), h6.zfr hF (by decide), h7.zfr hF (by decide), fun s hs => ?_, hB⟩
  refine (h8 s hs).fr (hF.c (by simp; omega) (by simp; omega)) (hF.2 _ (by simp; omega)) (hF.1 95 (by decide) s (by simp)) (hF.1 96 (by decide) s (by simp)) (fun j _ => ?_) hm
  show τ.2 97 _ = _
  rw [hF.2 97 (by decide)]; rfl
section PUT
variable {X : zX} {d : Nat} {σ : zS} {k : Nat}
theorem o_put (hd : 20 ≤ d) (h : Rel k σ) (a i : Int32) (v : Int64) : zOp k σ X d MX11_put MX12_put [.ref 0, .int a, .int i, .long v, .null, .null] [.ref 66, .int a, .int i, .long v, .null, .null, .null] := by
  have hn : Rel (k + 1) σ := by obtain ⟨nr, nt, N, V, I, h⟩ := h; exact h.next
  obtain ⟨nr, nt, N, V, I, h⟩ := h
  have hS := h.2.2.2.2.2.2.2.1
  have e0 := l0
  have C := plC hS a i
  have M := fun (τ : zS) h96 => plM (τ := τ) h96 a i
  have e60 : (60 : Int32).toInt = 60 := rfl
  by_cases c : plI σ a.toInt i.toInt = 0
  · have hp := pl0 c
    have hz := hS.sz a.toInt.toNat (by omega)
    have fc : f_X11_refusalOfPlace σ a i = 0 := ieq.mpr (by rw [C.2, c]; rfl)
    have ea : (60 * a).toInt = 60 * a.toInt := by rw [t_mul (by rw [e60]; omega), e60]
    have eb : (60 * a + i).toInt = 60 * a.toInt + i.toInt := by rw [t_add (by rw [ea]; omega), ea]
    have hix := ix_t a
    have hii := ix_t i
    have hs6 : ix a < 6 := by omega
    have S := hS (ix a) hs6
    have ib : ix (60 * a + i) = 60 * ix a + ix i := by rw [ix_t, eb]; omega
    have z6 : zin a 6 = true := zin_of (by omega) (by omega)
    have z360 : zin (60 * a + i) 360 = true := zin_of (by omega) (by omega)
    have z60 : zin i 60 = true := zin_of (by omega) (by omega)
    have hk : gi σ (29 + 2 * ix a) 1 = 2 ∧ 0 ≤ (gi σ (29 + 2 * ix a) 3).toInt ∧ (gi σ (29 + 2 * ix a) 3).toInt ≤ 4 ∧ (gi σ 95 (ix a)).toInt = -2 - (gi σ (29 + 2 * ix a) 3).toInt := by
      have h95 := hp.2.2.2.2
      rw [← hix] at h95
      rcases S.2.2.2.2 with q | q | q
      · omega
      · have : (gi σ 95 (ix a)).toInt = (gi σ (29 + 2 * ix a) 2).toInt := by rw [q.2.1]
        omega
      · exact ⟨q.1, q.2.1, q.2.2.1, q.2.2.2.1⟩
    obtain ⟨k1, k2, k3, k4⟩ := hk
    have em2 : (-2 : Int32).toInt = -2 := rfl
    have ekind : (-2) - gi σ 95 (ix a) = gi σ (29 + 2 * ix a) 3 := ieq.mpr (by rw [t_sub (by rw [em2]; omega), em2]; omega)
    -- the class
    have q1 : p_X11_put σ a i v ∧ f_X11_put σ a i v = 1 ∧ g_X11_put σ a i v = sl σ (29 + 2 * ix a + 1) (ix i) (heldI (gi σ (29 + 2 * ix a) 3) v) := by
      unfold p_X11_put f_X11_put g_X11_put
      rw [if_pos fc, if_pos fc, if_pos fc]
      exact ⟨⟨C.1, z6, z60⟩, rfl, rfl⟩
    have hw : ((gi σ (29 + 2 * ix a) 3).toInt = 0 → -128 ≤ (heldI (gi σ (29 + 2 * ix a) 3) v).toInt ∧ (heldI (gi σ (29 + 2 * ix a) 3) v).toInt ≤ 127) ∧ ((gi σ (29 + 2 * ix a) 3).toInt = 1 → -32768 ≤ (heldI (gi σ (29 + 2 * ix a) 3) v).toInt ∧ (heldI (gi σ (29 + 2 * ix a) 3) v).toInt ≤ 32767) := by
      unfold heldI
      constructor
      · intro x
        rw [if_pos (ieq.mpr (by rw [x]; rfl))]; exact b8 v
      · intro x
        rw [if_neg (fun y => by rw [y] at x; revert x; decide), if_pos (ieq.mpr (by rw [x]; rfl))]; exact b16 v
    generalize hτ : sl σ (29 + 2 * ix a + 1) (ix i) (heldI (gi σ (29 + 2 * ix a) 3) v) = τ at *
    have g1 : ∀ q j, gi τ q j = gi σ q j := fun q j => by rw [← hτ]; rfl
    have pl : plI τ a.toInt i.toInt = 0 := by
      unfold plI at c ⊢
      rw [g1, g1]; exact c
    have Mτ := M τ (fun s hs => by rw [g1]; exact hS.sz s hs)
    have fm : 0 ≤ f_X12_whyNoPlace τ a i := ile.mpr (by rw [Mτ.2, pl]; exact Int.le_refl _)
    have q2 : p_X12_put τ a i v ∧ f_X12_put τ a i v = 1 ∧ g_X12_put τ a i v = sl τ 97 (60 * ix a + ix i) (heldI (gi σ (29 + 2 * ix a) 3) v) := by
      unfold p_X12_put f_X12_put g_X12_put heldI
      rw [if_pos fm, if_pos fm, if_pos fm, g1, ekind, ib]
      refine ⟨⟨Mτ.1, z6, ?_⟩, rfl, ?_⟩
      · split
        · split
          · split
            · split
              · split <;> exact z360
              · exact z360
            · exact z360
          · exact z360
        · exact z360
      · by_cases x0 : gi σ (29 + 2 * ix a) 3 = 0
        · rw [if_neg (fun y => y x0), if_pos x0]
        · rw [if_pos x0, if_neg x0]
          by_cases x1 : gi σ (29 + 2 * ix a) 3 = 1
          · rw [if_neg (fun y => y x1), if_pos x1]
          · rw [if_pos x1, if_neg x1]
            by_cases x2 : gi σ (29 + 2 * ix a) 3 = 2
            · rw [if_neg (fun y => y x2), if_pos x2]
            · rw [if_pos x2, if_neg x2]
              by_cases x3 : gi σ (29 + 2 * ix a) 3 = 3
              · rw [if_neg (fun y => y x3), if_neg (by rw [x3]; decide)]
              · have x4 : gi σ (29 + 2 * ix a) 3 = 4 := ieq.mpr (by
                  have y0 := mt ieq.mpr x0
                  have y1 := mt ieq.mpr x1
                  have y2 := mt ieq.mpr x2
                  have y3 := mt ieq.mpr x3
                  rw [l0] at y0
                  rw [l1] at y1
                  rw [l2] at y2
                  rw [l3] at y3
                  rw [l4]; omega)
                rw [if_pos x3, if_pos x4]
                by_cases x5 : lg_cmp v 0 = 0
                · rw [if_pos x5, if_pos x5]
                · rw [if_neg x5, if_neg x5]
    refine zOp.sum2 (gc := τ) (gm := sl τ 97 (60 * ix a + ix i) (heldI (gi σ (29 + 2 * ix a) 3) v)) (fc := 1) (fm := 1) (pc := True) (pm := True) (fun Q => and_true_eq (by rw [s_X11_put (hd := by omega), q1.2.1, q1.2.2, ztrue_and q1.1])) (fun Q => and_true_eq (by rw [s_X12_put (hd := by omega), q2.2.1, q2.2.2, ztrue_and q2.1])) trivial trivial rfl ⟨nr, nt, N, V, I, (h.shelf (τ := sl τ 97 (60 * ix a + ix i) (heldI (gi σ (29 + 2 * ix a) 3) v)) ?_ (fun s hs => ?_)).up (by rw [Int.natCast_add]; omega)⟩
    · rw [← hτ]
      exact (zFr.rf.wl (List.mem_append_right [29, 31, 33, 35, 37, 39] (List.mem_append_left [95, 96, 97, 98] (mem30 hs6)))).wl (by decide)
    · have gg : ∀ q j, gi (sl τ 97 (60 * ix a + ix i) (heldI (gi σ (29 + 2 * ix a) 3) v)) q j = gi σ q j := fun q j => g1 q j
      have cc : ∀ q, (sl τ 97 (60 * ix a + ix i) (heldI (gi σ (29 + 2 * ix a) 3) v)).1 q = σ.1 q := fun q => by rw [← hτ]; rfl
      have g97 : ∀ j, gl τ 97 j = gl σ 97 j := fun j => by rw [← hτ, gl_all, if_neg (fun y => by omega)]
      by_cases es : s = ix a
      · rw [es]
        refine S.cell (p := ix i) (w := heldI (gi σ (29 + 2 * ix a) 3) v) (by omega) (cc _) (fun j => ?_) (gg _ _) (gg _ _) (fun j hj => ?_) (gg _ _) (fun _ => hw)
        · rw [gl_all, if_neg (fun y => by omega), ← hτ, gl_all]
          by_cases e : j = ix i
          · rw [if_pos e, if_pos ⟨rfl, e⟩]
          · rw [if_neg e, if_neg (fun y => e y.2)]
        · rw [gl_all, g97]
          by_cases e : j = ix i
          · rw [if_pos e, if_pos ⟨rfl, by omega⟩]
          · rw [if_neg e, if_neg (fun y => e (by omega))]
      · refine (hS s hs).fr (cc _) ?_ (gg _ _) (gg _ _) (fun j hj => ?_) (by rw [gg]; exact Int.le_refl _)
        · rw [← hτ]
          show (if 29 + 2 * s + 1 = 97 then _ else if 29 + 2 * s + 1 = 29 + 2 * ix a + 1 then _ else σ.2 _) = _
          rw [if_neg (by omega), if_neg (by omega)]
        · rw [gl_all, g97, if_neg (fun y => by omega)]
  · have hl := plI_le σ a.toInt i.toInt
    have M := M σ hS.sz
    have fc : ¬ f_X11_refusalOfPlace σ a i = 0 := fun q => c (by rw [← C.2, q]; rfl)
    have fm : ¬ 0 ≤ f_X12_whyNoPlace σ a i := fun q => by have := ile.mp q; rw [M.2] at this; omega
    have q1 : p_X11_put σ a i v ∧ f_X11_put σ a i v = f_X11_refusalOfPlace σ a i ∧ g_X11_put σ a i v = σ := by
      unfold p_X11_put f_X11_put g_X11_put
      rw [if_neg fc, if_neg fc, if_neg fc]; exact ⟨⟨C.1, trivial⟩, rfl, rfl⟩
    have q2 : p_X12_put σ a i v ∧ f_X12_put σ a i v = f_X12_whyNoPlace σ a i ∧ g_X12_put σ a i v = σ := by
      unfold p_X12_put f_X12_put g_X12_put
      rw [if_neg fm, if_neg fm, if_neg fm]; exact ⟨⟨M.1, trivial⟩, rfl, rfl⟩
    refine zOp.same hn (x := f_X11_refusalOfPlace σ a i) (fm := f_X12_whyNoPlace σ a i) (fun Q => ?_) (fun Q => ?_) (ieq.mpr (by rw [C.2, M.2]))
    · rw [s_X11_put (hd := by omega), q1.2.1, q1.2.2, ztrue_and q1.1]
    · rw [s_X12_put (hd := by omega), q2.2.1, q2.2.2, ztrue_and q2.1]
theorem o_body (hd : 20 ≤ d) (h : Rel k σ) (a : Int32) : zOp k σ X d MX11_body MX12_body [.ref 0, .int a] [.ref 66, .int a] := by
  have hn : Rel (k + 1) σ := by obtain ⟨nr, nt, N, V, I, h⟩ := h; exact h.next
  obtain ⟨nr, nt, N, V, I, h⟩ := h
  obtain ⟨nb, ran, b1, b2, b3, b4, b5, b6, b7, b8⟩ := h.2.2.2.2.2.2.2.2
  have e0 := l0
  have e1 := l1
  have e7 := l7
  have e8 := l8
  have e50 : (50 : Int32).toInt = 50 := rfl
  have z10 : ¬ (1 : Int32) = 0 := by decide
  by_cases ca : a.toInt < 0 ∨ 8 ≤ a.toInt
  · refine zOp.same hn (x := -1) (fm := -1) (fun Q => ?_) (fun Q => ?_) rfl
    · have q : g_X11_body σ a = σ ∧ f_X11_body σ a = -1 ∧ p_X11_body σ a := by
        unfold g_X11_body f_X11_body p_X11_body
        by_cases c1 : a < 0
        · rw [if_pos c1, if_pos c1, if_pos c1]; exact ⟨rfl, rfl, trivial⟩
        · have := nil_ c1
          have c2 : ¬ a < 8 := fun y => by have := il.mp y; omega
          rw [if_neg c1, if_neg c1, if_neg c1, if_neg c2, if_neg c2, if_neg c2]; exact ⟨rfl, rfl, trivial⟩
      rw [s_X11_body (hd := by omega), q.1, q.2.1, ztrue_and q.2.2]
    · have q : g_X12_body σ a = σ ∧ f_X12_body σ a = -1 ∧ p_X12_body σ a := by
        unfold g_X12_body f_X12_body p_X12_body
        rw [t_in0 (by omega), if_neg (fun y => y rfl), if_neg (fun y => y rfl), if_neg (fun y => y rfl)]; exact ⟨rfl, rfl, trivial⟩
      rw [s_X12_body (hd := by omega), q.1, q.2.1, ztrue_and q.2.2]
  · have c1 : ¬ a < 0 := fun y => by have := il.mp y; omega
    have c2 : a < 8 := il.mpr (by omega)
    have ci : ∀ τ, f_X12_in τ a 0 7 = 1 := fun τ => t_in1 (by omega)
    by_cases cn : nb = 50
    · have n1 : ¬ ¬ gi σ 63 2 = 50 := fun y => y (ieq.mpr (by omega))
      have n2 : ¬ ¬ gi σ 66 49 = 50 := fun y => y (ieq.mpr (by omega))
      refine zOp.same hn (x := -3) (fm := -3) (fun Q => ?_) (fun Q => ?_) rfl
      · have q : g_X11_body σ a = σ ∧ f_X11_body σ a = -3 ∧ p_X11_body σ a := by
          unfold g_X11_body f_X11_body p_X11_body
          rw [if_neg c1, if_neg c1, if_neg c1, if_pos c2, if_pos c2, if_pos c2, if_neg n1, if_neg n1, if_neg n1]; exact ⟨rfl, rfl, trivial⟩
        rw [s_X11_body (hd := by omega), q.1, q.2.1, ztrue_and q.2.2]
      · have q : g_X12_body σ a = σ ∧ f_X12_body σ a = -3 ∧ p_X12_body σ a := by
          unfold g_X12_body f_X12_body p_X12_body
          rw [ci, if_pos z10, if_pos z10, if_pos z10, if_neg n2, if_neg n2, if_neg n2]; exact ⟨rfl, rfl, trivial⟩
        rw [s_X12_body (hd := by omega), q.1, q.2.1, ztrue_and q.2.2]
    · have n1 : ¬ gi σ 63 2 = 50 := fun y => by rw [y] at b2; omega
      have n2 : ¬ gi σ 66 49 = 50 := fun y => by rw [y] at b3; omega
      have i1 : ix (gi σ 63 2) = nb := by rw [ix_t]; omega
      have i2 : ix (gi σ 66 49) = nb := by rw [ix_t]; omega
      have s1 : (gi σ 63 2 + 1).toInt = nb + 1 := by rw [t_add (by omega), b2, e1]
      have s2 : (gi σ 66 49 + 1).toInt = nb + 1 := by rw [t_add (by omega), b3, e1]
      have s3 : gi σ 66 49 + 1 - 1 = gi σ 63 2 := ieq.mpr (by rw [t_sub (by omega), s2, e1]; omega)
      have hF : zFr [64, 65, 93, 94] [(63, 2), (63, 3), (66, 49), (66, 51)] σ (si (si (si (si σ 64 nb a) 63 2 (gi σ 63 2 + 1)) 93 nb a) 66 49 (gi σ 66 49 + 1)) := (((zFr.rf.ws (by decide)).sf (by decide)).ws (by decide)).sf (by decide)
      refine zOp.sum2 (gc := si (si σ 64 nb a) 63 2 (gi σ 63 2 + 1)) (gm := si (si (si (si σ 64 nb a) 63 2 (gi σ 63 2 + 1)) 93 nb a) 66 49 (gi σ 66 49 + 1)) (fc := gi σ 63 2) (fm := gi σ 63 2) (pc := True) (pm := True) (fun Q => and_true_eq ?_) (fun Q => and_true_eq ?_) trivial trivial rfl ⟨nr, nt, N, V, I, (h.body hF ?_ ⟨nb + 1, ran, by omega, ?_, ?_, fun j hj => ?_, b5, ?_, ?_, ?_⟩).up (by rw [Int.natCast_add]; omega)⟩
      · have q : g_X11_body σ a = si (si σ 64 nb a) 63 2 (gi σ 63 2 + 1) ∧ f_X11_body σ a = gi σ 63 2 ∧ p_X11_body σ a := by
          unfold g_X11_body f_X11_body p_X11_body
          rw [if_neg c1, if_neg c1, if_neg c1, if_pos c2, if_pos c2, if_pos c2, if_pos n1, if_pos n1, if_pos n1]
          refine ⟨?_, rfl, zin_of (by omega) (by omega)⟩
          unfold g_X1_add; rw [i1]
        rw [s_X11_body (hd := by omega), q.1, q.2.1, ztrue_and q.2.2]
      · have g49 : gi (si (si σ 64 nb a) 63 2 (gi σ 63 2 + 1)) 66 49 = gi σ 66 49 := rfl
        have q : g_X12_body (si (si σ 64 nb a) 63 2 (gi σ 63 2 + 1)) a = si (si (si (si σ 64 nb a) 63 2 (gi σ 63 2 + 1)) 93 nb a) 66 49 (gi σ 66 49 + 1) ∧ f_X12_body (si (si σ 64 nb a) 63 2 (gi σ 63 2 + 1)) a = gi σ 63 2 ∧ p_X12_body (si (si σ 64 nb a) 63 2 (gi σ 63 2 + 1)) a := by
          unfold g_X12_body f_X12_body p_X12_body
          rw [ci, g49, if_pos z10, if_pos z10, if_pos z10, if_pos n2, if_pos n2, if_pos n2, i2]
          exact ⟨rfl, s3, zin_of (by omega) (by omega)⟩
        rw [s_X12_body (hd := by omega), q.1, q.2.1, ztrue_and q.2.2]
      · show _ ≤ (gi σ 63 2 + 1).toInt
        omega
      · exact s1
      · exact s2
      · have g64 : gi (si (si (si (si σ 64 nb a) 63 2 (gi σ 63 2 + 1)) 93 nb a) 66 49 (gi σ 66 49 + 1)) 64 j = gi (si σ 64 nb a) 64 j := rfl
        have g93 : gi (si (si (si (si σ 64 nb a) 63 2 (gi σ 63 2 + 1)) 93 nb a) 66 49 (gi σ 66 49 + 1)) 93 j = if j = nb then a else gi σ 93 j := by
          by_cases e : j = nb
          · rw [gi_si_ne (by decide), e, gi_si, if_pos rfl]
          · rw [gi_si_ne (by decide), gi_si_j e, gi_si_ne (by decide), gi_si_ne (by decide), if_neg e]
        rw [g64, g93, gi_all]
        by_cases e : j = nb
        · rw [if_pos ⟨rfl, e⟩, if_pos e]; exact ⟨rfl, by omega, by omega⟩
        · rw [if_neg (fun y => e y.2), if_neg e]; exact b4 j (by omega)
      · exact b6
      · exact b7
      · exact b8
end PUT
