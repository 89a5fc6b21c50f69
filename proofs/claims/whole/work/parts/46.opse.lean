/-! of, hands, turn, undo, redo -/
def addR (N : Nat → Nat → Int) (nr : Nat) (h o e : Int) : Nat → Nat → Int := fun w i => if i = nr ∧ w < 4 then (if w = 0 then h else if w = 1 then o else if w = 2 then 5 else e) else N w i
def addT (N : Nat → Nat → Int) (nt : Nat) (g l : Int) : Nat → Nat → Int := fun w i => if i = nt ∧ 4 ≤ w ∧ w < 6 then (if w = 4 then g else l) else N w i
theorem addR_at {N : Nat → Nat → Int} {nr : Nat} {h o e : Int} : addR N nr h o e 0 nr = h ∧ addR N nr h o e 1 nr = o ∧ addR N nr h o e 2 nr = 5 ∧ addR N nr h o e 3 nr = e := by
  unfold addR
  refine ⟨?_, ?_, ?_, ?_⟩ <;> rw [if_pos ⟨rfl, by omega⟩] <;> rfl
theorem addR_ne {N : Nat → Nat → Int} {nr : Nat} {h o e : Int} {w i : Nat} (hn : ¬ (i = nr ∧ w < 4)) : addR N nr h o e w i = N w i := by unfold addR; rw [if_neg hn]
theorem addT_at {N : Nat → Nat → Int} {nt : Nat} {g l : Int} : addT N nt g l 4 nt = g ∧ addT N nt g l 5 nt = l := by
  unfold addT
  refine ⟨?_, ?_⟩ <;> rw [if_pos ⟨rfl, by omega, by omega⟩] <;> rfl
theorem addT_ne {N : Nat → Nat → Int} {nt : Nat} {g l : Int} {w i : Nat} (hn : ¬ (i = nt ∧ 4 ≤ w ∧ w < 6)) : addT N nt g l w i = N w i := by unfold addT; rw [if_neg hn]
theorem HallR.addR {nr nt : Nat} {N : Nat → Nat → Int} {h o e : Int} (hR : HallR nr nt N) (h6 : nr < 6) (hh : 0 ≤ h ∧ h ≤ 99) (ho : 0 ≤ o ∧ o ≤ 15) (he : 0 ≤ e ∧ e ≤ 9) : HallR (nr + 1) nt (addR N nr h o e) := by
  refine ⟨by omega, hR.2.1, fun w i hm => ?_⟩
  by_cases c : i = nr ∧ w < 4
  · have hw : w = 0 ∨ w = 1 ∨ w = 2 ∨ w = 3 := by omega
    rw [c.1]
    rcases hw with q | q | q | q <;> rw [q]
    · rw [addR_at.1]; exact hh
    · rw [addR_at.2.1]; exact ho
    · rw [addR_at.2.2.1]; exact ⟨by decide, by decide⟩
    · rw [addR_at.2.2.2]; exact he
  · rw [addR_ne c]
    refine hR.2.2 w i ?_
    unfold zmean at *
    omega
theorem HallR.addT {nr nt : Nat} {N : Nat → Nat → Int} {g l : Int} (hR : HallR nr nt N) (h8 : nt < 8) (hg : 0 ≤ g ∧ g ≤ 9) (hl : 1 ≤ l ∧ l ≤ 60) : HallR nr (nt + 1) (addT N nt g l) := by
  refine ⟨hR.1, by omega, fun w i hm => ?_⟩
  by_cases c : i = nt ∧ 4 ≤ w ∧ w < 6
  · have hw : w = 4 ∨ w = 5 := by omega
    rw [c.1]
    rcases hw with q | q <;> rw [q]
    · rw [addT_at.1]; exact hg
    · rw [addT_at.2]; exact hl
  · rw [addT_ne c]
    refine hR.2.2 w i ?_
    unfold zmean at *
    omega
theorem gi_all {σ : zS} {c j0 q j : Nat} {v : Int32} : gi (si σ c j0 v) q j = if q = c ∧ j = j0 then v else gi σ q j := by
  by_cases e1 : q = c
  · subst e1
    by_cases e2 : j = j0
    · rw [if_pos ⟨rfl, e2⟩, e2, gi_si]
    · rw [if_neg (fun x => e2 x.2), gi_si_j e2]
  · rw [if_neg (fun x => e1 x.1), gi_si_ne e1]
theorem HallC.addRow {σ : zS} {nr nt : Nat} {N : Nat → Nat → Int} {h o e : Int32} (hH : HallC σ nr nt N) (hR : HallR nr nt N) (h6 : nr < 6) : p_X5_addRow σ h o e ∧ HallC (g_X5_addRow σ h o e) (nr + 1) nt (addR N nr h.toInt o.toInt e.toInt) ∧ zFr [2] [(1, 1), (1, 3)] σ (g_X5_addRow σ h o e) ∧ gi (g_X5_addRow σ h o e) 1 3 = gi σ 1 3 + 1 := by
  have h1 := hH.1
  have e0 := l0
  have e8 := l8
  have e16 := l16
  have e24 := l24
  have s0 : (0 + gi σ 1 1).toInt = nr := by rw [t_add (by omega), h1, e0]; omega
  have s8 : (8 + gi σ 1 1).toInt = 8 + nr := by rw [t_add (by omega), h1, e8]
  have s16 : (16 + gi σ 1 1).toInt = 16 + nr := by rw [t_add (by omega), h1, e16]
  have s24 : (24 + gi σ 1 1).toInt = 24 + nr := by rw [t_add (by omega), h1, e24]
  refine ⟨⟨zin_of (by omega) (by omega), zin_of (by omega) (by omega), zin_of (by omega) (by omega), zin_of (by omega) (by omega)⟩, ?_, ?_, ?_⟩
  · unfold g_X5_addRow
    rw [ix_t, ix_t, ix_t, ix_t, s0, s8, s16, s24]
    rw [show ((nr : Int)).toNat = nr by omega, show (8 + (nr : Int)).toNat = 8 + nr by omega, show (16 + (nr : Int)).toNat = 16 + nr by omega, show (24 + (nr : Int)).toNat = 24 + nr by omega]
    refine ⟨?_, ?_, fun w i hm => ?_⟩
    · rw [gi_si, t_succ (by omega), h1]; omega
    · rw [gi_si_j (by decide), gi_si_j (by decide)]; exact hH.2.1
    · have hi8 : i < 8 := by have := hR.2.1; unfold zmean at hm; omega
      have hw10 : w < 10 := by unfold zmean at hm; omega
      rw [gi_si_ne (by decide), gi_si_ne (by decide), gi_all, gi_all, gi_all, gi_all]
      by_cases c : i = nr ∧ w < 4
      · have hw : w = 0 ∨ w = 1 ∨ w = 2 ∨ w = 3 := by omega
        rw [c.1]
        rcases hw with q | q | q | q <;> rw [q]
        · rw [if_neg (by omega), if_neg (by omega), if_neg (by omega), if_pos (by omega), addR_at.1]
        · rw [if_neg (by omega), if_neg (by omega), if_pos (by omega), addR_at.2.1]
        · rw [if_neg (by omega), if_pos (by omega), addR_at.2.2.1]; rfl
        · rw [if_pos (by omega), addR_at.2.2.2]
      · rw [if_neg (by omega), if_neg (by omega), if_neg (by omega), if_neg (by omega), addR_ne c]
        refine hH.2.2 w i ?_
        unfold zmean at *
        omega
  · unfold g_X5_addRow
    exact (((((zFr.rf.ws (by decide)).ws (by decide)).ws (by decide)).ws (by decide)).sf (by decide)).sf (by decide)
  · unfold g_X5_addRow
    rw [gi_si_j (by decide), gi_si]
theorem HallM.addRow {σ : zS} {nr nt : Nat} {N : Nat → Nat → Int} {h o e : Int32} (hH : HallM σ nr nt N) (h6 : nr < 6) : p_X12_addRow σ h o e ∧ (f_X12_addRow σ h o e).toInt = nr ∧ HallM (g_X12_addRow σ h o e) (nr + 1) nt (addR N nr h.toInt o.toInt e.toInt) ∧ zFr [67, 68, 69, 70] [(66, 1)] σ (g_X12_addRow σ h o e) := by
  have h1 := hH.1
  have e1 := l1
  have z : zin (gi σ 66 1) 6 = true := zin_of (by omega) (by omega)
  have i1 : ix (gi σ 66 1) = nr := by rw [ix_t, h1]; omega
  have s1 : (gi σ 66 1 + 1).toInt = nr + 1 := by rw [t_succ (by omega), h1]
  refine ⟨⟨z, z, z, z⟩, ?_, ?_, ?_⟩
  · unfold f_X12_addRow
    rw [t_sub (by rw [s1, e1]; omega), s1, e1]; omega
  · unfold g_X12_addRow
    rw [i1]
    have hr := hH.2.2.1
    have ht := hH.2.2.2.1
    have hs := hH.2.2.2.2
    refine ⟨by rw [gi_si, s1]; omega, hH.2.1, fun i hi => ?_, fun i hi => ?_, ?_, ?_, ?_, ?_⟩
    · by_cases c : i = nr
      · rw [c, addR_at.1, addR_at.2.1, addR_at.2.2.1, addR_at.2.2.2]
        refine ⟨?_, ?_, ?_, ?_⟩
        · rw [gi_si_ne (by decide), gi_si_ne (by decide), gi_si_ne (by decide), gi_si_ne (by decide), gi_si]
        · rw [gi_si_ne (by decide), gi_si_ne (by decide), gi_si_ne (by decide), gi_si]
        · rw [gi_si_ne (by decide), gi_si_ne (by decide), gi_si]; rfl
        · rw [gi_si_ne (by decide), gi_si]
      · have hi' := hr i (by omega)
        rw [addR_ne (by omega), addR_ne (by omega), addR_ne (by omega), addR_ne (by omega)]
        refine ⟨?_, ?_, ?_, ?_⟩
        · rw [gi_si_ne (by decide), gi_si_ne (by decide), gi_si_ne (by decide), gi_si_ne (by decide), gi_si_j c]; exact hi'.1
        · rw [gi_si_ne (by decide), gi_si_ne (by decide), gi_si_ne (by decide), gi_si_j c]; exact hi'.2.1
        · rw [gi_si_ne (by decide), gi_si_ne (by decide), gi_si_j c]; exact hi'.2.2.1
        · rw [gi_si_ne (by decide), gi_si_j c]; exact hi'.2.2.2
    · rw [addR_ne (by omega), addR_ne (by omega)]; exact ht i hi
    · rw [addR_ne (by omega)]; exact hs.1
    · rw [addR_ne (by omega)]; exact hs.2.1
    · rw [addR_ne (by omega)]; exact hs.2.2.1
    · rw [addR_ne (by omega)]; exact hs.2.2.2
  · unfold g_X12_addRow
    exact ((((zFr.rf.ws (by decide)).ws (by decide)).ws (by decide)).ws (by decide)).sf (by decide)
theorem RX.more {σ : zS} {nr nt nr' nt' : Nat} (h : RX σ nr nt) (h1 : nr ≤ nr') (h2 : nt ≤ nt') : RX σ nr' nt' := by
  obtain ⟨D, U, a, b, c, d, e, f⟩ := h
  refine ⟨D, U, a, b, c, d, e, fun j hj => ?_⟩
  obtain ⟨w, i, g⟩ := f j hj
  refine ⟨w, i, ?_, g.2⟩
  have := g.1
  unfold zmean at *
  omega
theorem RI.more {σ : zS} {nt nt' : Nat} {I : Nat → Int} (h : RI σ nt I) (h2 : nt ≤ nt') : RI σ nt' I := ⟨h.1, h.2.1, h.2.2.1, fun q => h.2.2.2 (by omega)⟩
theorem RP.more {σ : zS} {nt nt' : Nat} (h : RP σ nt) (h2 : nt ≤ nt') : RP σ nt' := by
  obtain ⟨⟨J, a, b, c, d⟩, e⟩ := h
  exact ⟨⟨J, a, b, c, fun q => d (by omega)⟩, e⟩
/-- a row of hands comes to both -/
theorem RelP.addRow {b : Int} {σ : zS} {nr nt : Nat} {N : Nat → Nat → Int} {V : zV} {I : Nat → Int} {h o e : Int32} (hP : RelP b σ nr nt N V I) (hb : b < 2000000000) (h6 : nr < 6) (hh : 0 ≤ h.toInt ∧ h.toInt ≤ 99) (ho : 0 ≤ o.toInt ∧ o.toInt ≤ 15) (he : 0 ≤ e.toInt ∧ e.toInt ≤ 9) : RelP (b + 1) (g_X12_addRow (g_X5_addRow σ h o e) h o e) (nr + 1) nt (addR N nr h.toInt o.toInt e.toInt) V I := by
  obtain ⟨h1, h2, h3, h4, h5, h6', h7, h8, h9⟩ := hP
  have C := h1.1.addRow (h := h) (o := o) (e := e) h1.2.2 h6
  have hM1 : HallM (g_X5_addRow σ h o e) nr nt N := h1.2.1.zfr C.2.2.1 (by decide) (by decide)
  have M := hM1.addRow (h := h) (o := o) (e := e) h6
  have hF : zFr [2, 67, 68, 69, 70] [(1, 1), (1, 3), (66, 1)] σ (g_X12_addRow (g_X5_addRow σ h o e) h o e) := (C.2.2.1.sub (by decide) (by decide)).tr (M.2.2.2.sub (by decide) (by decide))
  have c1 : ∀ j, gi (g_X12_addRow (g_X5_addRow σ h o e) h o e) 1 j = gi (g_X5_addRow σ h o e) 1 j := fun j => by
    show (g_X12_addRow (g_X5_addRow σ h o e) h o e).1 1 j = _
    rw [M.2.2.2.c (by decide) (by decide)]; rfl
  have hv := h3.2.1
  have hv2 := h3.2.2.1
  have e13 : (gi (g_X12_addRow (g_X5_addRow σ h o e) h o e) 1 3).toInt = (gi σ 1 3).toInt + 1 := by rw [c1, C.2.2.2, t_succ (by omega)]
  refine ⟨⟨?_, M.2.2.1, h1.2.2.addR h6 hh ho he⟩, h2.zfr hF (by decide), ⟨h3.1.bump (hF.c (by decide) (by decide)) e13, by omega, by omega, ?_⟩, h4.zfr hF (by decide), h5.zfr hF (by decide), (h6'.zfr hF (by decide)).more (by omega) (by omega), h7.zfr hF (by decide), h8.zfr hF (by decide), h9.zfr hF (by decide)⟩
  · refine C.2.1.fr ?_ ?_
    · exact M.2.2.2.c (by decide) (by decide)
    · exact M.2.2.2.c (by decide) (by decide)
  · rw [hF.1 66 (by decide) 36 (by decide)]; exact h3.2.2.2
section OPSE
variable {X : zX} {d : Nat} {σ : zS} {k : Nat}
theorem zOp.same {x : Int32} {fm : Int32} {mC mM : zM} {lC lM : List Value} (hn : Rel (k + 1) σ) (hc : ∀ Q : Option Value → zH → Prop, zwp X d mC 0 lC [] (zen σ) Q = Q (some (.int x)) (zen σ)) (hm : ∀ Q : Option Value → zH → Prop, zwp X d mM 0 lM [] (zen σ) Q = Q (some (.int fm)) (zen σ)) (he : fm = x) : zOp k σ X d mC mM lC lM :=
  zOp.sum2 (gc := σ) (gm := σ) (pc := True) (pm := True) (fun Q => and_true_eq (hc Q)) (fun Q => and_true_eq (hm Q)) trivial trivial he hn
theorem o_hands (hd : 20 ≤ d) (hk : k ≤ 512) (h : Rel k σ) (a b : Int32) : zOp k σ X d MX11_hands MX12_hands [.ref 0, .int a, .int b] [.ref 66, .int a, .int b] := by
  have hn : Rel (k + 1) σ := by obtain ⟨nr, nt, N, V, I, h⟩ := h; exact h.next
  obtain ⟨nr, nt, N, V, I, h⟩ := h
  have e0 := l0
  have e15 := l15
  have e99 : (99 : Int32).toInt = 99 := rfl
  have e6 := l6
  have z10 : ¬ (1 : Int32) = 0 := by decide
  have F0 := fits_eq (σ := σ) (w := 0) (v := a) (by omega)
  have F1 := fits_eq (σ := σ) (w := 1) (v := b) (by have := l1; omega)
  rw [show zloB (Int32.toInt 0).toNat = 0 from rfl, show zhiB (Int32.toInt 0).toNat = 99 from rfl] at F0
  rw [show zloB (Int32.toInt 1).toNat = 0 from rfl, show zhiB (Int32.toInt 1).toNat = 15 from rfl] at F1
  by_cases ca : 0 ≤ a.toInt ∧ a.toInt ≤ 99
  · rw [if_pos ca] at F0
    have ma : f_X12_in σ a 0 99 = 1 := t_in1 (by omega)
    by_cases cb : 0 ≤ b.toInt ∧ b.toInt ≤ 15
    · rw [if_pos cb] at F1
      have mb : f_X12_in σ b 0 15 = 1 := t_in1 (by omega)
      have r1 := h.1.1.1
      have r2 := h.1.2.1.1
      have n6 := h.1.2.2.1
      by_cases cn : nr = 6
      · have c1 : gi σ 1 1 = 6 := ieq.mpr (by rw [r1, cn]; rfl)
        have c2 : gi σ 66 1 = 6 := ieq.mpr (by rw [r2, cn]; rfl)
        refine zOp.same hn (x := -3) (fm := -3) (fun Q => ?_) (fun Q => ?_) rfl
        · have q : g_X11_hands σ a b = σ ∧ f_X11_hands σ a b = -3 ∧ p_X11_hands σ a b := by
            unfold g_X11_hands f_X11_hands p_X11_hands
            rw [F0.2, F1.2]
            rw [if_neg z10, if_neg z10, if_neg z10, if_pos z10, if_pos z10, if_pos z10, if_neg (fun q => q c1), if_neg (fun q => q c1), if_neg (fun q => q c1)]
            exact ⟨rfl, rfl, F0.1, F1.1, trivial⟩
          rw [s_X11_hands (hd := by omega), q.1, q.2.1, ztrue_and q.2.2]
        · have q : g_X12_hands σ a b = σ ∧ f_X12_hands σ a b = -3 ∧ p_X12_hands σ a b := by
            unfold g_X12_hands f_X12_hands p_X12_hands
            rw [ma, mb]
            rw [if_neg z10, if_neg z10, if_neg z10, if_pos z10, if_pos z10, if_pos z10, if_neg (fun q => q c2), if_neg (fun q => q c2), if_neg (fun q => q c2)]
            exact ⟨rfl, rfl, trivial⟩
          rw [s_X12_hands (hd := by omega), q.1, q.2.1, ztrue_and q.2.2]
      · have c1 : ¬ gi σ 1 1 = 6 := fun q => cn (by rw [q, e6] at r1; omega)
        have C := h.1.1.addRow (h := a) (o := b) (e := 0) h.1.2.2 (by omega)
        have hM1 : HallM (g_X5_addRow σ a b 0) nr nt N := h.1.2.1.zfr C.2.2.1 (by decide) (by decide)
        have M := hM1.addRow (h := a) (o := b) (e := 0) (by omega)
        have c2 : ¬ gi (g_X5_addRow σ a b 0) 66 1 = 6 := fun q => cn (by have := hM1.1; rw [q, e6] at this; omega)
        have ma2 : f_X12_in (g_X5_addRow σ a b 0) a 0 99 = 1 := t_in1 (by omega)
        have mb2 : f_X12_in (g_X5_addRow σ a b 0) b 0 15 = 1 := t_in1 (by omega)
        refine zOp.sum2 (gc := g_X5_addRow σ a b 0) (gm := g_X12_addRow (g_X5_addRow σ a b 0) a b 0) (fc := gi σ 1 1) (fm := f_X12_addRow (g_X5_addRow σ a b 0) a b 0) (pc := True) (pm := True) (fun Q => and_true_eq ?_) (fun Q => and_true_eq ?_) trivial trivial (ieq.mpr (by rw [M.2.1, r1])) ⟨nr + 1, nt, _, V, I, (h.addRow (by omega) (by omega) ca cb (by omega)).up (by rw [Int.natCast_add]; omega)⟩
        · have q : g_X11_hands σ a b = g_X5_addRow σ a b 0 ∧ f_X11_hands σ a b = gi σ 1 1 ∧ p_X11_hands σ a b := by
            unfold g_X11_hands f_X11_hands p_X11_hands
            rw [F0.2, F1.2]
            rw [if_neg z10, if_neg z10, if_neg z10, if_pos z10, if_pos z10, if_pos z10, if_pos c1, if_pos c1, if_pos c1]
            exact ⟨rfl, rfl, F0.1, F1.1, C.1⟩
          rw [s_X11_hands (hd := by omega), q.1, q.2.1, ztrue_and q.2.2]
        · have q : g_X12_hands (g_X5_addRow σ a b 0) a b = g_X12_addRow (g_X5_addRow σ a b 0) a b 0 ∧ f_X12_hands (g_X5_addRow σ a b 0) a b = f_X12_addRow (g_X5_addRow σ a b 0) a b 0 ∧ p_X12_hands (g_X5_addRow σ a b 0) a b := by
            unfold g_X12_hands f_X12_hands p_X12_hands
            rw [ma2, mb2]
            rw [if_neg z10, if_neg z10, if_neg z10, if_pos z10, if_pos z10, if_pos z10, if_pos c2, if_pos c2, if_pos c2]
            exact ⟨rfl, rfl, M.1⟩
          rw [s_X12_hands (hd := by omega), q.1, q.2.1, ztrue_and q.2.2]
    · rw [if_neg cb] at F1
      have mb : f_X12_in σ b 0 15 = 0 := t_in0 (by omega)
      refine zOp.same hn (x := -1) (fm := -1) (fun Q => ?_) (fun Q => ?_) rfl
      · have q : g_X11_hands σ a b = σ ∧ f_X11_hands σ a b = -1 ∧ p_X11_hands σ a b := by
          unfold g_X11_hands f_X11_hands p_X11_hands
          rw [F0.2, F1.2]
          rw [if_neg z10, if_neg z10, if_neg z10, if_neg (fun q => q rfl), if_neg (fun q => q rfl), if_neg (fun q => q rfl)]
          exact ⟨rfl, rfl, F0.1, F1.1, trivial⟩
        rw [s_X11_hands (hd := by omega), q.1, q.2.1, ztrue_and q.2.2]
      · have q : g_X12_hands σ a b = σ ∧ f_X12_hands σ a b = -1 ∧ p_X12_hands σ a b := by
          unfold g_X12_hands f_X12_hands p_X12_hands
          rw [ma, mb]
          rw [if_neg z10, if_neg z10, if_neg z10, if_neg (fun q => q rfl), if_neg (fun q => q rfl), if_neg (fun q => q rfl)]
          exact ⟨rfl, rfl, trivial⟩
        rw [s_X12_hands (hd := by omega), q.1, q.2.1, ztrue_and q.2.2]
  · rw [if_neg ca] at F0
    have ma : f_X12_in σ a 0 99 = 0 := t_in0 (by omega)
    refine zOp.same hn (x := -1) (fm := -1) (fun Q => ?_) (fun Q => ?_) rfl
    · have q : g_X11_hands σ a b = σ ∧ f_X11_hands σ a b = -1 ∧ p_X11_hands σ a b := by
        unfold g_X11_hands f_X11_hands p_X11_hands
        rw [F0.2, if_pos rfl, if_pos rfl, if_pos rfl]
        exact ⟨rfl, rfl, F0.1, trivial⟩
      rw [s_X11_hands (hd := by omega), q.1, q.2.1, ztrue_and q.2.2]
    · have q : g_X12_hands σ a b = σ ∧ f_X12_hands σ a b = -1 ∧ p_X12_hands σ a b := by
        unfold g_X12_hands f_X12_hands p_X12_hands
        rw [ma, if_pos rfl, if_pos rfl, if_pos rfl]
        exact ⟨rfl, rfl, trivial⟩
      rw [s_X12_hands (hd := by omega), q.1, q.2.1, ztrue_and q.2.2]
theorem o_of (hd : 20 ≤ d) (h : Rel k σ) (a b : Int32) : zOp k σ X d MX11_of MX12_of [.ref 0, .int a, .int b, .null] [.ref 66, .int a, .int b] := by
  have hn : Rel (k + 1) σ := by obtain ⟨nr, nt, N, V, I, h⟩ := h; exact h.next
  obtain ⟨nr, nt, N, V, I, h⟩ := h
  have e0 := l0
  have e15 := l15
  have e16 := l16
  have hix := ix_t a
  have z10 : ¬ (1 : Int32) = 0 := by decide
  have H4 := h.2.2.2.1
  by_cases c10 : b = 10
  · have nc : ¬ ¬ b = 10 := fun q => q c10
    by_cases ca : a.toInt < 0 ∨ 15 < a.toInt
    · refine zOp.same hn (x := -1) (fm := -1) (fun Q => ?_) (fun Q => ?_) rfl
      · have q : f_X11_of σ a b = -1 ∧ p_X11_of σ a b := by
          unfold f_X11_of p_X11_of
          rw [if_neg nc, if_neg nc]
          by_cases q : a < 0
          · rw [if_pos q, if_pos q]; exact ⟨rfl, trivial⟩
          · have := nil_ q
            have q2 : ¬ a < 16 := fun q2 => by have := il.mp q2; omega
            rw [if_neg q, if_neg q, if_neg q2, if_neg q2]; exact ⟨rfl, trivial⟩
        rw [s_X11_of (hd := by omega), q.1, ztrue_and q.2]
      · have q : f_X12_of σ a b = -1 ∧ p_X12_of σ a b := by
          unfold f_X12_of p_X12_of
          rw [if_neg nc, if_neg nc, t_in0 (lo := 0) (hi := 15) (by omega), if_pos rfl, if_pos rfl]; exact ⟨rfl, trivial⟩
        rw [s_X12_of (hd := by omega), q.1, ztrue_and q.2]
    · have hz : zin a 16 = true := zin_of (by omega) (by omega)
      have q1 : ¬ a < 0 := fun q => by have := il.mp q; omega
      have q2 : a < 16 := il.mpr (by omega)
      refine zOp.same hn (x := gi σ 19 (ix a)) (fm := gi σ 85 (ix a)) (fun Q => ?_) (fun Q => ?_) (ieq.mpr ((H4.2.1 (ix a) (by omega)).trans (H4.1 (ix a) (by omega)).symm))
      · have q : f_X11_of σ a b = gi σ 19 (ix a) ∧ p_X11_of σ a b := by
          unfold f_X11_of p_X11_of
          rw [if_neg nc, if_neg nc, if_neg q1, if_neg q1, if_pos q2, if_pos q2]; exact ⟨rfl, hz⟩
        rw [s_X11_of (hd := by omega), q.1, ztrue_and q.2]
      · have q : f_X12_of σ a b = gi σ 85 (ix a) ∧ p_X12_of σ a b := by
          unfold f_X12_of p_X12_of
          rw [if_neg nc, if_neg nc, t_in1 (lo := 0) (hi := 15) (by omega), if_neg z10, if_neg z10]; exact ⟨rfl, hz⟩
        rw [s_X12_of (hd := by omega), q.1, ztrue_and q.2]
  · have O := isOne_eq (σ := σ) (w := b) (i := a) h.1.2.1 h.1.2.2
    by_cases hm : zmok nr nt b.toInt a.toInt
    · have P := place_ok h.1.1 h.1.2.2 hm
      have hl := zmean_lt h.1.2.2 hm.2.2
      have hm1 := hm.1
      have hm2 := hm.2.1
      have VA := valueAt_ok (aw := b) (ai := a) h.1.2.1 h.1.2.2 hm.2.2 (by omega) (by omega)
      have hz : zin (f_X5_placeOf σ a b) 80 = true := zin_of (by omega) (by omega)
      have ip : ix (f_X5_placeOf σ a b) = 8 * b.toInt.toNat + a.toInt.toNat := by rw [ix_t, P]; omega
      have q1 : 0 ≤ f_X5_placeOf σ a b := ile.mpr (by omega)
      refine zOp.same hn (x := gi σ 2 (ix (f_X5_placeOf σ a b))) (fm := f_X12_valueAt σ b a) (fun Q => ?_) (fun Q => ?_) (ieq.mpr (by rw [VA.2, ip]; exact (h.1.1.2.2 _ _ hm.2.2).symm))
      · have q : f_X11_of σ a b = gi σ 2 (ix (f_X5_placeOf σ a b)) ∧ p_X11_of σ a b := by
          unfold f_X11_of p_X11_of
          rw [if_pos c10, if_pos c10, if_pos q1, if_pos q1]; exact ⟨rfl, hz⟩
        rw [s_X11_of (hd := by omega), q.1, ztrue_and q.2]
      · have q : f_X12_of σ a b = f_X12_valueAt σ b a ∧ p_X12_of σ a b := by
          unfold f_X12_of p_X12_of
          rw [if_pos c10, if_pos c10, O.1 hm, if_neg z10, if_neg z10]; exact ⟨rfl, VA.1⟩
        rw [s_X12_of (hd := by omega), q.1, ztrue_and q.2]
    · have P := place_no (σ := σ) h.1.1 hm
      have q1 : ¬ 0 ≤ f_X5_placeOf σ a b := by rw [P]; decide
      refine zOp.same hn (x := -1) (fm := -1) (fun Q => ?_) (fun Q => ?_) rfl
      · have q : f_X11_of σ a b = -1 ∧ p_X11_of σ a b := by
          unfold f_X11_of p_X11_of
          rw [if_pos c10, if_pos c10, if_neg q1, if_neg q1]; exact ⟨rfl, trivial⟩
        rw [s_X11_of (hd := by omega), q.1, ztrue_and q.2]
      · have q : f_X12_of σ a b = -1 ∧ p_X12_of σ a b := by
          unfold f_X12_of p_X12_of
          rw [if_pos c10, if_pos c10, O.2 hm, if_pos rfl, if_pos rfl]; exact ⟨rfl, trivial⟩
        rw [s_X12_of (hd := by omega), q.1, ztrue_and q.2]
end OPSE
