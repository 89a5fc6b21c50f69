/-! goes, image, back -/
theorem falls_b {J : Nat → Int} {l w : Int} : ∀ (n p : Nat), fallI J l w n p = -2 ∨ ((p : Int) ≤ fallI J l w n p ∧ fallI J l w n p < p + n) := by
  intro n
  induction n with
  | zero => intro p; exact Or.inl rfl
  | succ n ih =>
    intro p
    unfold fallI
    split
    · right; omega
    · rcases ih (p + 1) with h | h
      · exact Or.inl h
      · right; omega
section DEEDB
variable {X : zX} {d : Nat} {σ : zS} {k : Nat}
/-- ice behind a crossing -/
def goesI (long W pc f : Int) (I : Nat → Int) : Nat → Int := fun p => if f ≠ -2 ∧ (p : Int) = f then 0 else thawI long ((pc * (if f = -2 then long else f + 1)) * W) I p
theorem o_goes (hd : 20 ≤ d) (h : Rel k σ) (a : Int32) : zOp k σ X d MX11_goes MX12_goes [.ref 0, .int a] [.ref 66, .int a, .null] := by
  have hn : Rel (k + 1) σ := by obtain ⟨nr, nt, N, V, I, h⟩ := h; exact h.next
  obtain ⟨nr, nt, N, V, I, h⟩ := h
  have hR := h.1.2.2
  have hl := hR.long
  have hw := hR.warm
  have hI2 := h.2.2.2.1.2.2.1
  have e0 := l0
  have e1 := l1
  have em2 : (-2 : Int32).toInt = -2 := rfl
  have z10 : ¬ (1 : Int32) = 0 := by decide
  have hl5 := h.2.2.2.2.1.2.2
  by_cases cw : a.toInt < 0 ∨ 9999 < a.toInt
  · refine zOp.same hn (x := -1) (fm := -1) (fun Q => ?_) (fun Q => ?_) rfl
    · rw [b_X11_goes_0 (hd := by omega), t_wp, if_pos cw, if_pos rfl]
    · rw [b_X12_goes_0 (hd := by omega), t_wpM, if_pos cw, if_neg (fun q => q rfl)]
  · have ed : (a / 10).toInt = a.toInt / 10 := t_div (x := a) (y := 10) (by omega) (by decide)
    have em : (a - a / 10 * 10).toInt = a.toInt % 10 := t_mod (x := a) (y := 10) (by omega) (by decide)
    unfold zOp
    rw [b_X11_goes_0 (hd := by omega), t_wp, if_neg cw, if_neg z10, b_X4_someoneCrosses_0 (hd := by omega)]
    refine w_X2_fallsOn (by omega) zB_18 h.1.1 hR h.2.2.2.1.1 hI2 (by omega) (fun f hf => ?_)
    rw [ed, em] at hf
    have fb := falls_b (J := I) (l := a.toInt % 10 * N 7 0) (w := a.toInt / 10) (N 6 0).toNat 0
    have hf' : f.toInt = fallI I (a.toInt % 10 * N 7 0) (a.toInt / 10) (N 6 0).toNat 0 := hf
    rw [← hf'] at fb
    show zwp X (d - 1) MX4_someoneCrosses 10 _ [.int f] (zen σ) _
    rw [b_X4_someoneCrosses_10 (hd := by omega)]
    generalize hpc : a - a / 10 * 10 = pc at *
    -- the minutes
    have hM0 : ∀ m : Int32, m.toInt = pc.toInt * (if f.toInt = -2 then N 6 0 else f.toInt + 1) → zwp X (d - 1 - 1) MX2_thaw 0 [.ref 18, .int m, .ref 1, .null, .null, .null] [] (zen σ) (fun v h' => zwp X (d - 1) MX4_someoneCrosses 44 [.ref 17, .int (a / 10), .int pc, .ref 1, .int f, .int m] (zpsh v []) h' (fun v h' => zwp X d MX11_goes 26 [.ref 0, .int a] (zpsh v []) h' (fun v h => ∃ (x : Int32) (σ1 : zS), v = some (.int x) ∧ h = zen σ1 ∧ zwp X d MX12_goes 0 [.ref 66, .int a, .null] [] (zen σ1) (fun v' h' => v' = some (.int x) ∧ ∃ σ', h' = zen σ' ∧ Rel (k + 1) σ')))) := by
      intro m hm
      have bm : 0 ≤ m.toInt ∧ m.toInt ≤ 1000 := by
        have h1 : 0 ≤ (if f.toInt = -2 then N 6 0 else f.toInt + 1) ∧ (if f.toInt = -2 then N 6 0 else f.toInt + 1) ≤ 16 := by split <;> omega
        have := mulb (show 0 ≤ pc.toInt by omega) (show pc.toInt ≤ 9 by omega) h1.1 h1.2
        omega
      refine w_X2_thaw (by omega) zB_18 h.1.1 hR h.2.2.2.1.1 hI2 (by omega) (fun g hg => ?_)
      show zwp X (d - 1) MX4_someoneCrosses 44 _ [] (zen (sA σ 19 g)) _
      have i2 : ix 2 = 2 := rfl
      have i3 : ix 3 = 3 := rfl
      have i4 : ix 4 = 4 := rfl
      rw [b_X4_someoneCrosses_44, i2, i3, i4]
      -- what both come to
      have fin : ∀ τ1 : zS, zFr [6, 14, 15, 16, 19, 20] [(13, 5)] σ τ1 → CacheC τ1 nr nt N V (-1) → IceAt (τ1.1 19) (goesI (N 6 0) (N 7 0) pc.toInt f.toInt I) → (∀ j, gi τ1 20 j = if j = 2 then gi σ 20 2 + 1 else if j = 4 then gi σ 20 4 + m else if j = 3 ∧ ¬ f = -2 then gi σ 20 3 + 1 else gi σ 20 j) → zwp X d MX11_goes 26 [.ref 0, .int a] [.int f] (zen τ1) (fun v h => ∃ (x : Int32) (σ1 : zS), v = some (.int x) ∧ h = zen σ1 ∧ zwp X d MX12_goes 0 [.ref 66, .int a, .null] [] (zen σ1) (fun v' h' => v' = some (.int x) ∧ ∃ σ', h' = zen σ' ∧ Rel (k + 1) σ')) := by
        intro τ1 hF1 hC1 hic1 l20
        rw [b_X11_goes_26]
        refine ⟨f, τ1, rfl, rfl, ?_⟩
        have hM1 : HallM τ1 nr nt N := h.1.2.1.zfr hF1 (by decide) (by decide)
        rw [b_X12_goes_0 (hd := by omega), t_wpM, if_neg cw, if_pos z10]
        refine w_X12_beginIce (I := I) (by rw [hF1.c (by decide) (by decide)]; exact h.2.2.2.1.2.1) (fun fb0 hfb => ?_)
        show zwp X d MX12_goes 13 _ [] _ _
        generalize hτ2 : si (sA τ1 86 fb0) 66 37 0 = τ2
        have hF2 : zFr [83, 84, 85, 86, 87, 90] [(66, 37)] τ1 τ2 := by rw [← hτ2]; exact (zFr.rf.wA (by decide)).sf (by decide)
        have hM2 : HallM τ2 nr nt N := hM1.zfr hF2 (by decide) (by decide)
        have h9 := hM2.2.2.2.2.1
        have hic2 : IceAt (τ2.1 86) I := by rw [← hτ2]; exact hfb
        rw [b_X12_goes_13 (hd := by omega), hpc]
        refine w_X12_fallsOn (by omega) hR hM2 (by omega) hic2 hI2 (fun f2 hf2 => ?_)
        rw [ed, em] at hf2
        have ef : f2 = f := ieq.mpr (hf2.trans hf.symm)
        subst ef
        show zwp X d MX12_goes 25 _ [.int f2] (zen τ2) _
        rw [b_X12_goes_25 (hd := by omega), hpc]
        have c90 : ∀ j, gi τ2 90 j = gi σ 90 j := fun j => by rw [← hτ2, gi_si_ne (by decide), gi_sA_ne (by decide)]; exact hF1.1 90 (by decide) j (by simp)
        have m37 : gi τ2 66 37 = 0 := by rw [← hτ2, gi_si]
        have th : ∀ m2 : Int32, m2 = m → zwp X (d - 1) MX12_thaw 0 [.ref 66, .int m2, .null] [] (zen τ2) (fun v h' => zwp X d MX12_goes 49 [.ref 66, .int a, .int f2] (zpsh v []) h' (fun v' h' => v' = some (.int f2) ∧ ∃ σ', h' = zen σ' ∧ Rel (k + 1) σ')) := by
          intro m2 em2'
          subst em2'
          refine w_X12_thaw (by omega) (I := I) hR hM2 hic2 hI2 (by omega) (fun g2 hg2 => ?_)
          show zwp X d MX12_goes 49 _ [] _ _
          generalize hτ3 : si (sA τ2 86 g2) 66 37 (gi τ2 66 37 + m2) = τ3
          have hF3 : zFr [83, 84, 85, 86, 87, 90] [(66, 37)] τ1 τ3 := by rw [← hτ3]; exact (hF2.wA (by decide)).sf (by decide)
          have d90 : ∀ j, gi τ3 90 j = gi σ 90 j := fun j => by rw [← hτ3, gi_si_ne (by decide), gi_sA_ne (by decide)]; exact c90 j
          have n37 : gi τ3 66 37 = m2 := by rw [← hτ3, gi_si, m37, Int32.zero_add]
          have i86 : ∀ j, gi τ3 86 j = g2 j := fun j => by rw [← hτ3, gi_si_ne (by decide), gi_sA]
          -- behind become()
          have beh : ∀ τ4 : zS, zFr [83, 84, 85, 86, 87, 90] [(66, 37)] τ1 τ4 → IceAt (τ4.1 86) (goesI (N 6 0) (N 7 0) pc.toInt f2.toInt I) → gi τ4 66 37 = m2 → (∀ j, gi τ4 90 j = if j = 2 then gi σ 90 2 + 1 else if j = 3 ∧ ¬ f2 = -2 then gi σ 90 3 + 1 else gi σ 90 j) → zwp X (d - 1) MX12_become 0 [.ref 66, .null] [] (zen τ4) (fun v h' => zwp X d MX12_goes 84 [.ref 66, .int a, .int f2] (zpsh v []) h' (fun v' h' => v' = some (.int f2) ∧ ∃ σ', h' = zen σ' ∧ Rel (k + 1) σ')) := by
            intro τ4 hF4 hic4 h37 h90
            refine w_X12_become (by omega) hR (hM1.zfr hF4 (by decide) (by decide)) hic4 (fun y g4 hg4 hy => ?_)
            show zwp X d MX12_goes 84 _ [.int y] _ _
            rw [b_X12_goes_84]
            have hFr : zFr [83, 84, 85, 86, 87, 90] [(66, 37)] τ1 (si (sA τ4 85 g4) 90 4 (gi τ4 90 4 + gi τ4 66 37)) := (hF4.wA (by decide)).ws (by decide)
            have hJ : IceR (goesI (N 6 0) (N 7 0) pc.toInt f2.toInt I) := by
              intro p hp
              unfold goesI
              split
              · omega
              · rw [← hm]; exact thawI_R (mulb bm.1 bm.2 hw.1 hw.2).1 hI2 p hp
            refine ⟨rfl, _, rfl, nr, nt, N, V, _, (h.deed hF1 hC1 hFr hic1 ?_ hJ (fun q p hp => ?_) (fun j hj => ?_)).up (by rw [Int.natCast_add]; omega)⟩
            · rw [c_si_ne (by decide), sA_1]; exact hg4
            · have hi0 := h.2.2.2.1.2.2.2 q p hp
              have hmm := mulb bm.1 bm.2 hw.1 hw.2
              unfold goesI thawI
              rw [hi0, ← hm]
              split
              · rfl
              · split
                · omega
                · rfl
            · rw [l20 j]
              by_cases e4 : j = 4
              · rw [e4, gi_si, h90 4, h37, if_neg (by omega), if_pos rfl, if_neg (by omega), if_neg (by omega), (hl5 4 (by omega)).1]
              · rw [gi_si_j e4, gi_sA_ne (by decide), h90 j, if_neg e4]
                by_cases ej2 : j = 2
                · rw [if_pos ej2, if_pos ej2, (hl5 2 (by omega)).1]
                · rw [if_neg ej2, if_neg ej2]
                  by_cases ej3 : j = 3 ∧ ¬ f2 = -2
                  · rw [if_pos ej3, if_pos ej3, (hl5 3 (by omega)).1]
                  · rw [if_neg ej3, if_neg ej3, (hl5 j hj).1]
          rw [b_X12_goes_49 (hd := by omega), i2, i3]
          by_cases cf : f2 < 0
          · have := il.mp cf
            have q2 : f2 = -2 := ieq.mpr (by omega)
            rw [if_pos cf]
            refine beh _ (hF3.ws (by decide)) (fun p hp => ?_) (by rw [gi_si_ne (by decide)]; exact n37) (fun j => ?_)
            · show (gi (si τ3 90 2 (gi τ3 90 2 + 1)) 86 p).toInt = _
              have qf2 : f2.toInt = -2 := by rw [q2]; rfl
              rw [gi_si_ne (by decide), i86, hg2 p hp, hm]
              unfold goesI
              rw [if_neg (show ¬ (f2.toInt ≠ -2 ∧ (p : Int) = f2.toInt) by omega)]
            · rw [gi_all, d90, d90]
              by_cases ej2 : j = 2
              · rw [if_pos ⟨rfl, ej2⟩, if_pos ej2]
              · rw [if_neg (fun x => ej2 x.2), if_neg ej2, if_neg (fun x => x.2 q2)]
          · have := nil_ cf
            have q2 : ¬ f2 = -2 := fun q => by rw [q, em2] at this; omega
            have zf : zin f2 16 = true := zin_of (by omega) (by omega)
            have ixf := ix_t f2
            rw [if_neg cf, ztrue_and zf]
            refine beh _ (((hF3.ws (by decide)).ws (by decide)).ws (by decide)) (fun p hp => ?_) (by rw [gi_si_ne (by decide), gi_si_ne (by decide), gi_si_ne (by decide)]; exact n37) (fun j => ?_)
            · show (gi (si (si (si τ3 86 (ix f2) 0) 90 3 (gi τ3 90 3 + 1)) 90 2 (gi τ3 90 2 + 1)) 86 p).toInt = _
              rw [gi_si_ne (by decide), gi_si_ne (by decide)]
              unfold goesI
              by_cases ep : p = ix f2
              · rw [if_pos (show f2.toInt ≠ -2 ∧ (p : Int) = f2.toInt by omega), ep, gi_si]; rfl
              · rw [gi_si_j ep, if_neg (show ¬ (f2.toInt ≠ -2 ∧ (p : Int) = f2.toInt) by omega), i86, hg2 p hp, hm]
            · rw [d90 2, d90 3]
              by_cases ej2 : j = 2
              · rw [ej2, gi_si, if_pos rfl]
              · rw [gi_si_j ej2, if_neg ej2]
                by_cases ej3 : j = 3
                · rw [ej3, gi_si, if_pos ⟨rfl, q2⟩]
                · rw [gi_si_j ej3, if_neg (fun x => ej3 x.1), gi_si_ne (by decide)]; exact d90 j
        by_cases cf : 0 ≤ f2
        · have := ile.mp cf
          rw [if_pos cf]
          refine th _ (ieq.mpr ?_)
          have e3 : (f2 + 1).toInt = f2.toInt + 1 := t_succ (by omega)
          have hb := mulb (show 0 ≤ pc.toInt by omega) (show pc.toInt ≤ 9 by omega) (show 0 ≤ f2.toInt + 1 by omega) (show f2.toInt + 1 ≤ 16 by omega)
          rw [t_mul (by rw [e3]; omega), e3, hm, if_neg (by omega)]
        · have := nile cf
          rw [if_neg cf]
          refine th _ (ieq.mpr ?_)
          have hb := mulb (show 0 ≤ pc.toInt by omega) (show pc.toInt ≤ 9 by omega) (show 0 ≤ N 6 0 by omega) hl.2
          rw [t_mul (by rw [h9]; omega), h9, hm, if_pos (by omega)]
      have bC : ∀ τ1 : zS, zFr [19, 20] [] σ τ1 → CacheC τ1 nr nt N V (-1) := fun τ1 hF => h.2.2.1.1.fr (hF.c (by decide) (by decide)) (hF.c (by decide) (by decide)) (hF.c (by decide) (by decide)) (hF.1 1 (by decide) 3 (by decide))
      have s20 : ∀ j, gi (sA σ 19 g) 20 j = gi σ 20 j := fun j => gi_sA_ne (by decide)
      by_cases cf : f = -2
      · have qf : f.toInt = -2 := by rw [cf]; rfl
        have hF1 : zFr [19, 20] [] σ (si (si (sA σ 19 g) 20 2 (gi (sA σ 19 g) 20 2 + 1)) 20 4 (gi (sA σ 19 g) 20 4 + m)) := ((zFr.rf.wA (by decide)).ws (by decide)).ws (by decide)
        rw [if_pos cf]
        show zwp X d MX11_goes 26 _ [.int f] _ _
        refine fin _ (hF1.sub (by decide) (by decide)) (bC _ hF1) (fun p hp => ?_) (fun j => ?_)
        · show (gi (si (si (sA σ 19 g) 20 2 (gi (sA σ 19 g) 20 2 + 1)) 20 4 (gi (sA σ 19 g) 20 4 + m)) 19 p).toInt = _
          rw [gi_si_ne (by decide), gi_si_ne (by decide), gi_sA, hg p hp, hm]
          unfold goesI
          rw [if_neg (show ¬ (f.toInt ≠ -2 ∧ (p : Int) = f.toInt) by omega)]
        · rw [s20, s20]
          by_cases e4 : j = 4
          · rw [e4, gi_si, if_neg (by omega), if_pos rfl]
          · rw [gi_si_j e4]
            by_cases ej2 : j = 2
            · rw [ej2, gi_si, if_pos rfl]
            · rw [gi_si_j ej2, if_neg ej2, if_neg e4, if_neg (fun x => x.2 cf)]; exact s20 j
      · have qf : ¬ f.toInt = -2 := fun q => cf (ieq.mpr (by rw [q, em2]))
        have zf : zin f 16 = true := zin_of (by omega) (by omega)
        have ixf := ix_t f
        rw [if_neg cf, ztrue_and zf]
        generalize hA : si (si (sA σ 19 g) 20 2 (gi (sA σ 19 g) 20 2 + 1)) 20 4 (gi (sA σ 19 g) 20 4 + m) = A
        have aF : zFr [19, 20] [] σ A := by rw [← hA]; exact ((zFr.rf.wA (by decide)).ws (by decide)).ws (by decide)
        have a20 : ∀ j, gi A 20 j = if j = 2 then gi σ 20 2 + 1 else if j = 4 then gi σ 20 4 + m else gi σ 20 j := by
          intro j
          rw [← hA, s20, s20]
          by_cases e4 : j = 4
          · rw [e4, gi_si, if_neg (by omega), if_pos rfl]
          · rw [gi_si_j e4]
            by_cases ej2 : j = 2
            · rw [ej2, gi_si, if_pos rfl]
            · rw [gi_si_j ej2, if_neg ej2, if_neg e4]; exact s20 j
        have a19 : ∀ p, gi A 19 p = g p := fun p => by rw [← hA, gi_si_ne (by decide), gi_si_ne (by decide), gi_sA]
        show zwp X d MX11_goes 26 _ [.int f] _ _
        have hF1 : zFr [19, 20] [] σ (si (si A 19 (ix f) 0) 20 3 (gi (sA σ 19 g) 20 3 + 1)) := (aF.ws (by decide)).ws (by decide)
        refine fin _ (hF1.sub (by decide) (by decide)) (bC _ hF1) (fun p hp => ?_) (fun j => ?_)
        · show (gi (si (si A 19 (ix f) 0) 20 3 (gi (sA σ 19 g) 20 3 + 1)) 19 p).toInt = _
          rw [gi_si_ne (by decide)]
          unfold goesI
          by_cases ep : p = ix f
          · rw [if_pos (show f.toInt ≠ -2 ∧ (p : Int) = f.toInt by omega), ep, gi_si]; rfl
          · rw [gi_si_j ep, if_neg (show ¬ (f.toInt ≠ -2 ∧ (p : Int) = f.toInt) by omega), a19, hg p hp, hm]
        · rw [s20 3]
          by_cases ej3 : j = 3
          · rw [ej3, gi_si, if_neg (by omega), if_neg (by omega), if_pos ⟨rfl, cf⟩]
          · rw [gi_si_j ej3, gi_si_ne (by decide), a20 j]
            by_cases ej2 : j = 2
            · rw [if_pos ej2, if_pos ej2]
            · rw [if_neg ej2, if_neg ej2]
              by_cases e4 : j = 4
              · rw [if_pos e4, if_pos e4]
              · rw [if_neg e4, if_neg e4, if_neg (fun x => ej3 x.1)]
    by_cases cf : f = -2
    · have qf : f.toInt = -2 := by rw [cf]; rfl
      rw [if_neg (fun q => q cf)]
      refine hM0 _ ?_
      have hpl := h.1.1.long
      have hb := mulb (show 0 ≤ pc.toInt by omega) (show pc.toInt ≤ 9 by omega) (show 0 ≤ N 6 0 by omega) hl.2
      rw [f_planks, t_mul (by rw [hpl]; omega), hpl, if_pos qf]
    · have qf : ¬ f.toInt = -2 := fun q => cf (ieq.mpr (by rw [q, em2]))
      rw [if_pos cf]
      refine hM0 _ ?_
      have e3 : (f + 1).toInt = f.toInt + 1 := t_succ (by omega)
      have hb := mulb (show 0 ≤ pc.toInt by omega) (show pc.toInt ≤ 9 by omega) (show 0 ≤ f.toInt + 1 by omega) (show f.toInt + 1 ≤ 16 by omega)
      rw [t_mul (by rw [e3]; omega), e3, if_neg qf]
end DEEDB
