/-! shelves: keep, element, put -/
theorem mem29 {s : Nat} (h : s < 6) : 29 + 2 * s ∈ [29, 31, 33, 35, 37, 39] := by
  have : s = 0 ∨ s = 1 ∨ s = 2 ∨ s = 3 ∨ s = 4 ∨ s = 5 := by omega
  rcases this with e | e | e | e | e | e <;> subst e <;> decide
theorem mem30 {s : Nat} (h : s < 6) : 29 + 2 * s + 1 ∈ [30, 32, 34, 36, 38, 40] := by
  have : s = 0 ∨ s = 1 ∨ s = 2 ∨ s = 3 ∨ s = 4 ∨ s = 5 := by omega
  rcases this with e | e | e | e | e | e <;> subst e <;> decide
theorem gl_all {σ : zS} {c j0 q j : Nat} {v : Int64} : gl (sl σ c j0 v) q j = if q = c ∧ j = j0 then v else gl σ q j := by
  show (if q = c then vp_updL (σ.2 c) j0 v else σ.2 q) j = _
  by_cases e1 : q = c
  · subst e1
    rw [if_pos rfl]
    show (if j = j0 then v else σ.2 q j) = _
    by_cases e2 : j = j0
    · rw [if_pos e2, if_pos ⟨rfl, e2⟩]
    · rw [if_neg e2, if_neg (fun x => e2 x.2)]; rfl
  · rw [if_neg e1, if_neg (fun x => e1 x.1)]; rfl
theorem gi_sl {σ : zS} {c j0 q j : Nat} {v : Int64} : gi (sl σ c j0 v) q j = gi σ q j := rfl
theorem zFr.wl {S : List Nat} {F : List (Nat × Nat)} {σ τ : zS} {k : Nat} {f : Nat → Int64} (h : zFr S F σ τ) (hk : k ∈ S) : zFr S F σ (sL τ k f) := by
  refine ⟨fun q hq j hj => h.1 q hq j hj, fun q hq => ?_⟩
  show (if q = k then f else τ.2 q) = _
  rw [if_neg (fun e => hq (by rw [e]; exact hk))]
  exact h.2 q hq
/-- all but the shelves -/
theorem RelP.shelf {b : Int} {σ τ : zS} {nr nt : Nat} {N : Nat → Nat → Int} {V : zV} {I : Nat → Int} (h : RelP b σ nr nt N V I) (hF : zFr [29, 31, 33, 35, 37, 39, 30, 32, 34, 36, 38, 40, 95, 96, 97, 98] [] σ τ) (hS : RS τ) : RelP b τ nr nt N V I := by
  obtain ⟨h1, h2, h3, h4, h5, h6, h7, h8, h9⟩ := h
  have e13 : gi τ 1 3 = gi σ 1 3 := hF.1 1 (by decide) 3 (by decide)
  exact ⟨h1.zfr hF (by decide), h2.zfr hF (by decide), ⟨h3.1.fr (hF.c (by decide) (by decide)) (hF.c (by decide) (by decide)) (hF.c (by decide) (by decide)) e13, by rw [e13]; exact h3.2.1, by rw [e13]; exact h3.2.2.1, by rw [hF.1 66 (by decide) 36 (by decide)]; exact h3.2.2.2⟩, h4.zfr hF (by decide), h5.zfr hF (by decide), h6.zfr hF (by decide), h7.zfr hF (by decide), hS, h9.zfr hF (by decide)⟩
section SHELF
variable {X : zX} {d : Nat} {σ : zS} {k : Nat}
theorem o_keep (hd : 20 ≤ d) (h : Rel k σ) (a b : Int32) : zOp k σ X d MX11_keep MX12_keep [.ref 0, .int a, .int b] [.ref 66, .int a, .int b] := by
  have hn : Rel (k + 1) σ := by obtain ⟨nr, nt, N, V, I, h⟩ := h; exact h.next
  obtain ⟨nr, nt, N, V, I, h⟩ := h
  have e0 := l0
  have e1 := l1
  have em1 := lm1
  have z10 : ¬ (1 : Int32) = 0 := by decide
  obtain ⟨nb, ran, b1, b2, b3, b4, b5⟩ := h.2.2.2.2.2.2.2.2
  have e49 : (gi σ 66 49 - 1).toInt = nb - 1 := by rw [t_sub (by omega), b3, e1]
  by_cases ca : a.toInt < 0 ∨ 6 ≤ a.toInt
  · refine zOp.same hn (x := -1) (fm := -1) (fun Q => ?_) (fun Q => ?_) rfl
    · have q : g_X11_keep σ a b = σ ∧ f_X11_keep σ a b = -1 ∧ p_X11_keep σ a b := by
        unfold g_X11_keep f_X11_keep p_X11_keep
        rw [t_isShelf, if_pos ca, if_pos rfl, if_pos rfl, if_pos rfl]; exact ⟨rfl, rfl, trivial⟩
      rw [s_X11_keep (hd := by omega), q.1, q.2.1, ztrue_and q.2.2]
    · have q : g_X12_keep σ a b = σ ∧ f_X12_keep σ a b = -1 ∧ p_X12_keep σ a b := by
        unfold g_X12_keep f_X12_keep p_X12_keep
        rw [t_isShelfM, if_pos ca, if_pos rfl, if_pos rfl, if_pos rfl]; exact ⟨rfl, rfl, trivial⟩
      rw [s_X12_keep (hd := by omega), q.1, q.2.1, ztrue_and q.2.2]
  · have hz : zin a 6 = true := zin_of (by omega) (by omega)
    have hix := ix_t a
    have hs6 : ix a < 6 := by omega
    have S0 := h.2.2.2.2.2.2.2.1 (ix a) hs6
    -- the common end
    have fin : ∀ x : Int32, (x = 0 ∧ b = -1 ∨ x = 1 ∧ 0 ≤ b.toInt ∧ b.toInt < nb) → Rel (k + 1) (si (si (si σ (29 + 2 * ix a) 1 x) (29 + 2 * ix a) 2 b) 95 (ix a) b) := by
      intro x hx
      have hF : zFr [29, 31, 33, 35, 37, 39, 30, 32, 34, 36, 38, 40, 95, 96, 97, 98] [] σ (si (si (si σ (29 + 2 * ix a) 1 x) (29 + 2 * ix a) 2 b) 95 (ix a) b) := ((zFr.rf.ws (List.mem_append_left [30, 32, 34, 36, 38, 40, 95, 96, 97, 98] (mem29 hs6))).ws (List.mem_append_left [30, 32, 34, 36, 38, 40, 95, 96, 97, 98] (mem29 hs6))).ws (by decide)
      refine ⟨nr, nt, N, V, I, (h.shelf hF (fun s hs => ?_)).up (by rw [Int.natCast_add]; omega)⟩
      have g63 : gi (si (si (si σ (29 + 2 * ix a) 1 x) (29 + 2 * ix a) 2 b) 95 (ix a) b) 63 2 = gi σ 63 2 := by rw [gi_si_ne (by omega), gi_si_ne (by omega), gi_si_ne (by omega)]
      by_cases es : s = ix a
      · rw [es]
        have g1 : gi (si (si (si σ (29 + 2 * ix a) 1 x) (29 + 2 * ix a) 2 b) 95 (ix a) b) (29 + 2 * ix a) 1 = x := by rw [gi_si_ne (by omega), gi_si_j (by decide), gi_si]
        have g2 : gi (si (si (si σ (29 + 2 * ix a) 1 x) (29 + 2 * ix a) 2 b) 95 (ix a) b) (29 + 2 * ix a) 2 = b := by rw [gi_si_ne (by omega), gi_si]
        have g4 : gi (si (si (si σ (29 + 2 * ix a) 1 x) (29 + 2 * ix a) 2 b) 95 (ix a) b) (29 + 2 * ix a) 4 = gi σ (29 + 2 * ix a) 4 := by rw [gi_si_ne (by omega), gi_si_j (by decide), gi_si_j (by decide)]
        have g95 : gi (si (si (si σ (29 + 2 * ix a) 1 x) (29 + 2 * ix a) 2 b) 95 (ix a) b) 95 (ix a) = b := gi_si
        have g96 : gi (si (si (si σ (29 + 2 * ix a) 1 x) (29 + 2 * ix a) 2 b) 95 (ix a) b) 96 (ix a) = gi σ 96 (ix a) := by rw [gi_si_ne (by decide), gi_si_ne (by omega), gi_si_ne (by omega)]
        unfold RS1
        rw [g1, g2, g4, g95, g96, g63]
        refine ⟨S0.1, S0.2.1, S0.2.2.1, S0.2.2.2.1, ?_⟩
        rcases hx with ⟨hx, hb⟩ | ⟨hx, hb⟩
        · exact Or.inl ⟨hx, by rw [hb]; rfl⟩
        · exact Or.inr (Or.inl ⟨hx, rfl, hb.1, by omega⟩)
      · refine (h.2.2.2.2.2.2.2.1 s hs).fr ?_ rfl ?_ ?_ (fun j _ => rfl) (by rw [g63]; exact Int.le_refl _)
        · rw [c_si_ne (by omega), c_si_ne (by omega), c_si_ne (by omega)]
        · rw [gi_si_j es, gi_si_ne (by omega), gi_si_ne (by omega)]
        · rw [gi_si_ne (by decide), gi_si_ne (by omega), gi_si_ne (by omega)]
    by_cases cb : b = -1
    · have hq : g_X11_keep σ a b = si (si σ (29 + 2 * ix a) 1 0) (29 + 2 * ix a) 2 b ∧ f_X11_keep σ a b = 1 ∧ p_X11_keep σ a b := by
        unfold g_X11_keep f_X11_keep p_X11_keep g_X8_hold
        rw [t_isShelf, if_neg ca, if_neg z10, if_neg z10, if_neg z10, if_pos cb, if_pos cb, if_pos cb, if_neg (fun q => q cb)]; exact ⟨rfl, rfl, hz⟩
      refine zOp.sum2 (gc := si (si σ (29 + 2 * ix a) 1 0) (29 + 2 * ix a) 2 b) (gm := si (si (si σ (29 + 2 * ix a) 1 0) (29 + 2 * ix a) 2 b) 95 (ix a) b) (fc := 1) (fm := 1) (pc := True) (pm := True) (fun Q => and_true_eq (by rw [s_X11_keep (hd := by omega), hq.1, hq.2.1, ztrue_and hq.2.2])) (fun Q => and_true_eq ?_) trivial trivial rfl (fin 0 (Or.inl ⟨rfl, cb⟩))
      have hq2 : ∀ τ, g_X12_keep τ a b = si τ 95 (ix a) b ∧ f_X12_keep τ a b = 1 ∧ p_X12_keep τ a b := fun τ => by
        unfold g_X12_keep f_X12_keep p_X12_keep
        rw [t_isShelfM, if_neg ca, if_neg z10, if_neg z10, if_neg z10, if_pos cb, if_pos cb, if_pos cb]; exact ⟨rfl, rfl, hz⟩
      rw [s_X12_keep (hd := by omega), (hq2 _).1, (hq2 _).2.1, ztrue_and (hq2 _).2.2]
    · by_cases cc : 0 ≤ b.toInt ∧ b.toInt < nb
      · have hh : f_X1_has σ b = 1 := by
          unfold f_X1_has
          rw [if_neg (fun q => by have := il.mp q; omega), if_neg (fun q => by have := ile.mp q; omega)]
        have hq : g_X11_keep σ a b = si (si σ (29 + 2 * ix a) 1 1) (29 + 2 * ix a) 2 b ∧ f_X11_keep σ a b = 1 ∧ p_X11_keep σ a b := by
          unfold g_X11_keep f_X11_keep p_X11_keep g_X8_hold
          rw [hh, t_isShelf, if_neg ca, if_neg z10, if_neg z10, if_neg z10, if_neg cb, if_neg cb, if_neg cb, if_pos z10, if_pos z10, if_pos z10, if_pos cb]; exact ⟨rfl, rfl, hz⟩
        refine zOp.sum2 (gc := si (si σ (29 + 2 * ix a) 1 1) (29 + 2 * ix a) 2 b) (gm := si (si (si σ (29 + 2 * ix a) 1 1) (29 + 2 * ix a) 2 b) 95 (ix a) b) (fc := 1) (fm := 1) (pc := True) (pm := True) (fun Q => and_true_eq (by rw [s_X11_keep (hd := by omega), hq.1, hq.2.1, ztrue_and hq.2.2])) (fun Q => and_true_eq ?_) trivial trivial rfl (fin 1 (Or.inr ⟨rfl, cc⟩))
        have g49 : gi (si (si σ (29 + 2 * ix a) 1 1) (29 + 2 * ix a) 2 b) 66 49 = gi σ 66 49 := by rw [gi_si_ne (by omega), gi_si_ne (by omega)]
        have hi : f_X12_isBody (si (si σ (29 + 2 * ix a) 1 1) (29 + 2 * ix a) 2 b) b = 1 := by
          unfold f_X12_isBody
          rw [g49]
          exact t_in1 (by omega)
        have hq2 : g_X12_keep (si (si σ (29 + 2 * ix a) 1 1) (29 + 2 * ix a) 2 b) a b = si (si (si σ (29 + 2 * ix a) 1 1) (29 + 2 * ix a) 2 b) 95 (ix a) b ∧ f_X12_keep (si (si σ (29 + 2 * ix a) 1 1) (29 + 2 * ix a) 2 b) a b = 1 ∧ p_X12_keep (si (si σ (29 + 2 * ix a) 1 1) (29 + 2 * ix a) 2 b) a b := by
          unfold g_X12_keep f_X12_keep p_X12_keep
          rw [hi, t_isShelfM, if_neg ca, if_neg z10, if_neg z10, if_neg z10, if_neg cb, if_neg cb, if_neg cb, if_pos z10, if_pos z10, if_pos z10]; exact ⟨rfl, rfl, hz⟩
        rw [s_X12_keep (hd := by omega), hq2.1, hq2.2.1, ztrue_and hq2.2.2]
      · have hh : f_X1_has σ b = 0 := by
          unfold f_X1_has
          by_cases q : b < 0
          · rw [if_pos q]
          · have := nil_ q
            rw [if_neg q, if_pos (ile.mpr (by omega))]
        have hi : f_X12_isBody σ b = 0 := by unfold f_X12_isBody; exact t_in0 (by omega)
        refine zOp.same hn (x := -1) (fm := -1) (fun Q => ?_) (fun Q => ?_) rfl
        · have q : g_X11_keep σ a b = σ ∧ f_X11_keep σ a b = -1 ∧ p_X11_keep σ a b := by
            unfold g_X11_keep f_X11_keep p_X11_keep
            rw [hh, t_isShelf, if_neg ca, if_neg z10, if_neg z10, if_neg z10, if_neg cb, if_neg cb, if_neg cb, if_neg (fun q => q rfl), if_neg (fun q => q rfl), if_neg (fun q => q rfl)]; exact ⟨rfl, rfl, trivial⟩
          rw [s_X11_keep (hd := by omega), q.1, q.2.1, ztrue_and q.2.2]
        · have q : g_X12_keep σ a b = σ ∧ f_X12_keep σ a b = -1 ∧ p_X12_keep σ a b := by
            unfold g_X12_keep f_X12_keep p_X12_keep
            rw [hi, t_isShelfM, if_neg ca, if_neg z10, if_neg z10, if_neg z10, if_neg cb, if_neg cb, if_neg cb, if_neg (fun q => q rfl), if_neg (fun q => q rfl), if_neg (fun q => q rfl)]; exact ⟨rfl, rfl, trivial⟩
          rw [s_X12_keep (hd := by omega), q.1, q.2.1, ztrue_and q.2.2]
/-- why there is no place -/
def plI (σ : zS) (a i : Int) : Int := if a < 0 ∨ 6 ≤ a then -1 else if (gi σ 95 a.toNat).toInt = -1 then -11 else if 0 ≤ (gi σ 95 a.toNat).toInt then -12 else if i < 0 ∨ (gi σ 96 a.toNat).toInt ≤ i then -13 else 0
theorem plM {τ : zS} (h96 : ∀ s, s < 6 → 0 ≤ (gi τ 96 s).toInt ∧ (gi τ 96 s).toInt ≤ 60) (a i : Int32) : p_X12_whyNoPlace τ a i ∧ (f_X12_whyNoPlace τ a i).toInt = plI τ a.toInt i.toInt := by
  have e0 := l0
  have e1 := l1
  have em1 := lm1
  unfold p_X12_whyNoPlace f_X12_whyNoPlace plI
  rw [t_isShelfM]
  by_cases ca : a.toInt < 0 ∨ 6 ≤ a.toInt
  · rw [if_pos ca, if_pos ca, if_neg (fun q => q rfl), if_neg (fun q => q rfl)]; exact ⟨trivial, rfl⟩
  · have z10 : ¬ (1 : Int32) = 0 := by decide
    have hz : zin a 6 = true := zin_of (by omega) (by omega)
    have hix := ix_t a
    rw [if_neg ca, if_neg ca, if_pos z10, if_pos z10, ← hix]
    have h6 := h96 (ix a) (by omega)
    by_cases c1 : gi τ 95 (ix a) = -1
    · rw [if_neg (fun q => q c1), if_neg (fun q => q c1), if_pos (by rw [c1]; rfl)]; exact ⟨⟨hz, trivial⟩, rfl⟩
    · have c1' : ¬ (gi τ 95 (ix a)).toInt = -1 := fun q => c1 (ieq.mpr (by rw [q, em1]))
      rw [if_pos c1, if_pos c1, if_neg c1']
      by_cases c2 : gi τ 95 (ix a) < 0
      · have := il.mp c2
        rw [if_pos c2, if_pos c2, if_neg (show ¬ 0 ≤ (gi τ 95 (ix a)).toInt by omega)]
        have es : (gi τ 96 (ix a) - 1).toInt = (gi τ 96 (ix a)).toInt - 1 := by rw [t_sub (by omega), e1]
        by_cases c3 : i.toInt < 0 ∨ (gi τ 96 (ix a)).toInt ≤ i.toInt
        · rw [if_pos c3, t_in0 (by omega), if_pos rfl]; exact ⟨⟨hz, hz, hz⟩, rfl⟩
        · rw [if_neg c3, t_in1 (by omega), if_neg z10]; exact ⟨⟨hz, hz, hz⟩, rfl⟩
      · have := nil_ c2
        rw [if_neg c2, if_neg c2, if_pos (show 0 ≤ (gi τ 95 (ix a)).toInt by omega)]; exact ⟨⟨hz, hz, trivial⟩, rfl⟩
theorem plC (h : RS σ) (a i : Int32) : p_X11_refusalOfPlace σ a i ∧ (f_X11_refusalOfPlace σ a i).toInt = plI σ a.toInt i.toInt := by
  have e0 := l0
  have e1 := l1
  have em1 := lm1
  unfold p_X11_refusalOfPlace f_X11_refusalOfPlace plI
  rw [t_isShelf]
  by_cases ca : a.toInt < 0 ∨ 6 ≤ a.toInt
  · rw [if_pos ca, if_pos ca, if_pos rfl, if_pos rfl]; exact ⟨trivial, rfl⟩
  · have z10 : ¬ (1 : Int32) = 0 := by decide
    have hz : zin a 6 = true := zin_of (by omega) (by omega)
    have hix := ix_t a
    have S := h (ix a) (by omega)
    rw [if_neg ca, if_neg ca, if_neg z10, if_neg z10, ← hix]
    have pe : p_X11_refusal σ a (gi σ (29 + 2 * ix a) 3) := by
      unfold p_X11_refusal
      rw [t_isShelf, if_neg ca, if_pos z10]; exact hz
    have fe : f_X11_refusal σ a (gi σ (29 + 2 * ix a) 3) = if ¬ gi σ (29 + 2 * ix a) 1 = 0 then (if ¬ gi σ (29 + 2 * ix a) 1 = 2 then -12 else 0) else -11 := by
      unfold f_X11_refusal
      rw [t_isShelf, if_neg ca, if_pos z10, if_neg (show ¬ ¬ gi σ (29 + 2 * ix a) 3 = gi σ (29 + 2 * ix a) 3 from fun q => q rfl)]
    rw [fe]
    rcases S.2.2.2.2 with q | q | q
    · have n2 : ¬ ¬ gi σ (29 + 2 * ix a) 1 = 0 := fun x => x q.1
      rw [if_neg n2, if_neg (by decide), if_neg (by decide), if_pos q.2]
      exact ⟨⟨hz, pe, trivial⟩, rfl⟩
    · have h1 : ¬ gi σ (29 + 2 * ix a) 1 = 0 := by rw [q.1]; decide
      have h2 : ¬ gi σ (29 + 2 * ix a) 1 = 2 := by rw [q.1]; decide
      have h95 : (gi σ 95 (ix a)).toInt = (gi σ (29 + 2 * ix a) 2).toInt := by rw [q.2.1]
      rw [if_pos h1, if_pos h2, if_neg (by decide), if_neg (by decide), if_neg (by omega), if_pos (by omega)]
      exact ⟨⟨hz, pe, trivial⟩, rfl⟩
    · have h1 : ¬ gi σ (29 + 2 * ix a) 1 = 0 := by rw [q.1]; decide
      have h2 : ¬ ¬ gi σ (29 + 2 * ix a) 1 = 2 := fun x => x q.1
      rw [if_pos h1, if_neg h2, if_pos rfl, if_pos rfl, if_neg (show ¬ (gi σ 95 (ix a)).toInt = -1 by omega), if_neg (show ¬ 0 ≤ (gi σ 95 (ix a)).toInt by omega)]
      refine ⟨⟨hz, pe, hz⟩, ?_⟩
      have es : (gi σ (29 + 2 * ix a) 4 - 1).toInt = (gi σ (29 + 2 * ix a) 4).toInt - 1 := by have := S.1; have := S.2.1; rw [t_sub (by omega), e1]
      have hp : f_X8_hasPlaces σ (29 + 2 * ix a) i 1 = if i.toInt < 0 ∨ (gi σ (29 + 2 * ix a) 4).toInt ≤ i.toInt then 0 else 1 := by
        unfold f_X8_hasPlaces
        rw [if_neg (show ¬ (1 : Int32) < 0 by decide)]
        by_cases c1 : i < 0
        · have := il.mp c1
          rw [if_pos c1, if_pos (by omega)]
        · have := nil_ c1
          rw [if_neg c1]
          by_cases c2 : gi σ (29 + 2 * ix a) 4 - 1 < i
          · have := il.mp c2
            rw [if_pos c2, if_pos (by omega)]
          · have := nil_ c2
            rw [if_neg c2, if_neg (by omega)]
      rw [hp, S.2.2.1]
      by_cases c3 : i.toInt < 0 ∨ (gi σ (29 + 2 * ix a) 4).toInt ≤ i.toInt
      · rw [if_pos c3, if_pos c3, if_pos rfl]; rfl
      · rw [if_neg c3, if_neg c3, if_neg z10]; rfl
theorem RS.sz (h : RS σ) : ∀ s, s < 6 → 0 ≤ (gi σ 96 s).toInt ∧ (gi σ 96 s).toInt ≤ 60 := fun s hs => by
  have := h s hs
  rw [this.2.2.1]; exact ⟨this.1, this.2.1⟩
theorem pl0 {a i : Int} (h : plI σ a i = 0) : 0 ≤ a ∧ a < 6 ∧ 0 ≤ i ∧ i < (gi σ 96 a.toNat).toInt ∧ (gi σ 95 a.toNat).toInt < -1 := by
  unfold plI at h
  split at h
  · omega
  · split at h
    · omega
    · split at h
      · omega
      · split at h
        · omega
        · omega
theorem plI_le (σ : zS) (a i : Int) : plI σ a i = 0 ∨ plI σ a i < 0 := by
  unfold plI
  split
  · right; omega
  · split
    · right; omega
    · split
      · right; omega
      · split
        · right; omega
        · left; rfl
def zOpL (k : Nat) (σ : zS) (X : zX) (d : Nat) (mC mM : zM) (lC lM : List Value) : Prop := zwp X d mC 0 lC [] (zen σ) (fun v h => ∃ (x : Int64) (σ1 : zS), v = some (.long x) ∧ h = zen σ1 ∧ zwp X d mM 0 lM [] (zen σ1) (fun v' h' => v' = some (.long x) ∧ ∃ σ', h' = zen σ' ∧ Rel (k + 1) σ'))
theorem o_element (hd : 20 ≤ d) (h : Rel k σ) (a i : Int32) : zOpL k σ X d MX11_element MX12_element [.ref 0, .int a, .int i] [.ref 66, .int a, .int i] := by
  obtain ⟨nr, nt, N, V, I, h⟩ := h
  have hS := h.2.2.2.2.2.2.2.1
  have e0 := l0
  have C := plC hS a i
  have M := plM hS.sz a i
  have e60 : (60 : Int32).toInt = 60 := rfl
  unfold zOpL
  rw [s_X11_element (hd := by omega)]
  by_cases c : plI σ a.toInt i.toInt = 0
  · have hp := pl0 c
    have hz := hS.sz a.toInt.toNat (by omega)
    have fc : f_X11_refusalOfPlace σ a i = 0 := ieq.mpr (by rw [C.2, c]; rfl)
    have fm : 0 ≤ f_X12_whyNoPlace σ a i := ile.mpr (by rw [M.2, c]; exact Int.le_refl _)
    have ea : (60 * a).toInt = 60 * a.toInt := by rw [t_mul (by rw [e60]; omega), e60]
    have eb : (60 * a + i).toInt = 60 * a.toInt + i.toInt := by rw [t_add (by rw [ea]; omega), ea]
    have S := hS a.toInt.toNat (by omega)
    have hix := ix_t a
    have hii := ix_t i
    have ib : ix (60 * a + i) = 60 * ix a + ix i := by rw [ix_t, eb]; omega
    have q1 : p_X11_element σ a i ∧ f_X11_element σ a i = gl σ (29 + 2 * ix a + 1) (ix i) := by
      unfold p_X11_element f_X11_element
      rw [if_pos fc, if_pos fc]
      exact ⟨⟨C.1, zin_of (by omega) (by omega), zin_of (by omega) (by omega)⟩, rfl⟩
    have q2 : p_X12_element σ a i ∧ f_X12_element σ a i = gl σ 97 (60 * ix a + ix i) := by
      unfold p_X12_element f_X12_element
      rw [if_pos fm, if_pos fm, ib]
      exact ⟨⟨M.1, zin_of (by omega) (by omega)⟩, rfl⟩
    refine ⟨q1.1, _, σ, rfl, rfl, ?_⟩
    rw [s_X12_element (hd := by omega)]
    refine ⟨q2.1, ?_, σ, rfl, h.next⟩
    rw [q1.2, q2.2]
    have := S.2.2.2.1 (ix i) (by omega)
    rw [← hix] at this
    rw [this]
  · have hl := plI_le σ a.toInt i.toInt
    have fc : ¬ f_X11_refusalOfPlace σ a i = 0 := fun q => c (by rw [← C.2, q]; rfl)
    have fm : ¬ 0 ≤ f_X12_whyNoPlace σ a i := fun q => by have := ile.mp q; rw [M.2] at this; omega
    have q1 : p_X11_element σ a i ∧ f_X11_element σ a i = -9223372036854775808 := by
      unfold p_X11_element f_X11_element
      rw [if_neg fc, if_neg fc]; exact ⟨⟨C.1, trivial⟩, rfl⟩
    have q2 : p_X12_element σ a i ∧ f_X12_element σ a i = -9223372036854775808 := by
      unfold p_X12_element f_X12_element
      rw [if_neg fm, if_neg fm]; exact ⟨⟨M.1, trivial⟩, rfl⟩
    refine ⟨q1.1, _, σ, rfl, rfl, ?_⟩
    rw [s_X12_element (hd := by omega)]
    exact ⟨q2.1, by rw [q1.2, q2.2], σ, rfl, h.next⟩
end SHELF
