/-! row: a shelf laid anew -/
theorem zFr.wll {S : List Nat} {F : List (Nat × Nat)} {σ τ : zS} {c : Nat} (hc : c ∈ S) (h1 : τ.1 = σ.1) (h2 : ∀ q, q ≠ c → τ.2 q = σ.2 q) : zFr S F σ τ :=
  ⟨fun q _ j _ => by show τ.1 q j = _; rw [h1]; rfl, fun q hq => h2 q (fun e => hq (e ▸ hc))⟩
theorem sl_ne {σ : zS} {c j0 q : Nat} {v : Int64} (h : q ≠ c) : (sl σ c j0 v).2 q = σ.2 q := by
  show (if q = c then _ else σ.2 q) = _
  rw [if_neg h]
theorem lp_fill {X : zX} {d : Nat} {Q : Option Value → zH → Prop} (r : Nat) (hr : zisS r = true) (v : Int64) (e : Int32) (he : e.toInt = 60) : ∀ (n : Nat) (σ : zS) (p : Int32), 0 ≤ p.toInt → p.toInt + n = 60 → (∀ τ : zS, τ.1 = σ.1 → (∀ q, q ≠ r + 1 → τ.2 q = σ.2 q) → (∀ j, gl τ (r + 1) j = if p.toInt.toNat ≤ j ∧ j < 60 then v else gl σ (r + 1) j) → Q none (zen τ)) → zwp X d MJ7_fill_d0a16 6 [.ref (r + 1), .long v, .null, .int p, .int e] [] (zen σ) Q := by
  intro n
  have e1 := l1
  induction n with
  | zero =>
    intro σ p h0 hp hQ
    rw [b_J7_fill_d0a16_6 (hl0 := hr), if_pos (ile.mpr (by omega))]
    exact hQ σ rfl (fun _ _ => rfl) (fun j => by rw [if_neg (by omega)])
  | succ n ih =>
    intro σ p h0 hp hQ
    have ep : (p + 1).toInt = p.toInt + 1 := by rw [t_add (by omega), e1]
    have hix := ix_t p
    rw [b_J7_fill_d0a16_6 (hl0 := hr), if_neg (fun q => by have := ile.mp q; omega)]
    refine ⟨zin_of (by omega) (by omega), ih _ _ (by omega) (by omega) (fun τ h1 h2 h3 => hQ τ h1 (fun q hq => (h2 q hq).trans (sl_ne hq)) (fun j => ?_))⟩
    rw [h3 j, gl_all]
    by_cases c1 : (p + 1).toInt.toNat ≤ j ∧ j < 60
    · rw [if_pos c1, if_pos (by omega)]
    · rw [if_neg c1]
      by_cases c2 : j = ix p
      · rw [if_pos ⟨rfl, c2⟩, if_pos (by omega)]
      · rw [if_neg (fun y => c2 y.2), if_neg (by omega)]
theorem lp_rowM {X : zX} {d : Nat} {Q : Option Value → zH → Prop} (a b c : Int32) (ha : 0 ≤ a.toInt ∧ a.toInt < 6) : ∀ (n : Nat) (σ : zS) (p : Int32), 0 ≤ p.toInt → p.toInt + n = 60 * a.toInt + 60 → (∀ τ : zS, τ.1 = σ.1 → (∀ q, q ≠ 97 → τ.2 q = σ.2 q) → (∀ j, gl τ 97 j = if p.toInt.toNat ≤ j ∧ j < 60 * a.toInt.toNat + 60 then 0 else gl σ 97 j) → Q (some (.int 1)) (zen τ)) → zwp X d MX12_row 54 [.ref 66, .int a, .int b, .int c, .int p] [] (zen σ) Q := by
  intro n
  have e1 := l1
  have e60 : (60 : Int32).toInt = 60 := rfl
  have ea : (60 * a).toInt = 60 * a.toInt := by rw [t_mul (by rw [e60]; omega), e60]
  have eb : (60 * a + 60).toInt = 60 * a.toInt + 60 := by rw [t_add (by rw [ea, e60]; omega), ea, e60]
  induction n with
  | zero =>
    intro σ p h0 hp hQ
    rw [b_X12_row_54, if_pos (ile.mpr (by omega))]
    exact hQ σ rfl (fun _ _ => rfl) (fun j => by rw [if_neg (by omega)])
  | succ n ih =>
    intro σ p h0 hp hQ
    have ep : (p + 1).toInt = p.toInt + 1 := by rw [t_add (by omega), e1]
    have hix := ix_t p
    rw [b_X12_row_54, if_neg (fun q => by have := ile.mp q; omega)]
    refine ⟨zin_of (by omega) (by omega), ih _ _ (by omega) (by omega) (fun τ h1 h2 h3 => hQ τ h1 (fun q hq => (h2 q hq).trans (sl_ne hq)) (fun j => ?_))⟩
    rw [h3 j, gl_all]
    by_cases c1 : (p + 1).toInt.toNat ≤ j ∧ j < 60 * a.toInt.toNat + 60
    · rw [if_pos c1, if_pos (by omega)]
    · rw [if_neg c1]
      by_cases c2 : j = ix p
      · rw [if_pos ⟨rfl, c2⟩, if_pos (by omega)]
      · rw [if_neg (fun y => c2 y.2), if_neg (by omega)]
section ROW
variable {X : zX} {d : Nat} {σ : zS} {k : Nat}
theorem o_row (hd : 20 ≤ d) (h : Rel k σ) (a b c : Int32) : zOp k σ X d MX11_row MX12_row [.ref 0, .int a, .int b, .int c] [.ref 66, .int a, .int b, .int c, .null] := by
  have hn : Rel (k + 1) σ := by obtain ⟨nr, nt, N, V, I, h⟩ := h; exact h.next
  obtain ⟨nr, nt, N, V, I, h⟩ := h
  have hS := h.2.2.2.2.2.2.2.1
  have e0 := l0
  have e4 := l4
  have e60 : (60 : Int32).toInt = 60 := rfl
  have em2 : (-2 : Int32).toInt = -2 := rfl
  have z10 : ¬ (1 : Int32) = 0 := by decide
  have same : ∀ x : Int32, (∀ Q : Option Value → zH → Prop, zwp X d MX11_row 0 [.ref 0, .int a, .int b, .int c] [] (zen σ) Q = Q (some (.int x)) (zen σ)) → (∀ Q : Option Value → zH → Prop, zwp X d MX12_row 0 [.ref 66, .int a, .int b, .int c, .null] [] (zen σ) Q = Q (some (.int x)) (zen σ)) → zOp k σ X d MX11_row MX12_row [.ref 0, .int a, .int b, .int c] [.ref 66, .int a, .int b, .int c, .null] := fun x h1 h2 => zOp.same hn (x := x) (fm := x) h1 h2 rfl
  by_cases ca : a.toInt < 0 ∨ 6 ≤ a.toInt
  · refine same (-1) (fun Q => ?_) (fun Q => ?_)
    · rw [b_X11_row_0 (hd := by omega), t_isShelf, if_pos ca, if_pos rfl]
    · rw [b_X12_row_0 (hd := by omega), t_isShelfM, if_pos ca, if_pos rfl]
  · by_cases cb : b.toInt < 0 ∨ 4 < b.toInt
    · refine same (-1) (fun Q => ?_) (fun Q => ?_)
      · rw [b_X11_row_0 (hd := by omega), t_isShelf, if_neg ca, if_neg z10]
        by_cases x1 : b < 0
        · rw [if_pos x1]
        · have y1 := nil_ x1
          rw [if_neg x1, if_pos (il.mpr (by omega))]
      · rw [b_X12_row_0 (hd := by omega), t_isShelfM, if_neg ca, if_neg z10, t_in0 (by omega), if_pos rfl]
    · have hb0 : 0 ≤ b.toInt := by omega
      have hb4 : b.toInt ≤ 4 := by omega
      have b1 : ¬ b < 0 := fun q => by have := il.mp q; omega
      have b2 : ¬ 4 < b := fun q => by have := il.mp q; omega
      have b3 : f_X12_in σ b 0 4 = 1 := t_in1 (by omega)
      by_cases c1 : c ≤ 60
      · by_cases c2 : 0 ≤ c
        · have d1 := ile.mp c1
          have d2 := ile.mp c2
          have hc0 : 0 ≤ c.toInt := by omega
          have hc60 : c.toInt ≤ 60 := by omega
          have hix := ix_t a
          have hs6 : ix a < 6 := by omega
          have hz : zin a 6 = true := zin_of (by omega) (by omega)
          have zS := zS_all (ix a) hs6
          unfold zOp
          rw [b_X11_row_0 (hd := by omega), t_isShelf, if_neg ca, if_neg z10, if_neg b1, if_neg b2, if_pos c1, if_pos c2]
          refine ⟨hz, ?_⟩
          rw [b_X8_holdRow_0 (hd := by omega) (h1 := zS), b_J7_fill_d0a16_0 (h1 := zS)]
          generalize hσ1 : si (si (si σ (29 + 2 * ix a) 1 2) (29 + 2 * ix a) 3 b) (29 + 2 * ix a) 4 c = σ1
          have hF1 : zFr [29, 31, 33, 35, 37, 39, 30, 32, 34, 36, 38, 40, 95, 96, 97, 98] [] σ σ1 := by
            rw [← hσ1]
            exact ((zFr.rf.ws (List.mem_append_left [30, 32, 34, 36, 38, 40, 95, 96, 97, 98] (mem29 hs6))).ws (List.mem_append_left [30, 32, 34, 36, 38, 40, 95, 96, 97, 98] (mem29 hs6))).ws (List.mem_append_left [30, 32, 34, 36, 38, 40, 95, 96, 97, 98] (mem29 hs6))
          refine lp_fill (29 + 2 * ix a) zS 0 60 e60 60 σ1 0 (by rw [e0]; omega) (by rw [e0]; omega) (fun τ t1 t2 t3 => ?_)
          show zwp _ _ MX8_holdRow 23 _ [] (zen τ) _
          rw [b_X8_holdRow_23 (hl0 := zS)]
          show zwp _ _ MX11_row 42 _ [] (zen τ) _
          rw [b_X11_row_42]
          have hF2 : zFr [29, 31, 33, 35, 37, 39, 30, 32, 34, 36, 38, 40, 95, 96, 97, 98] [] σ τ := hF1.tr (zFr.wll (List.mem_append_right [29, 31, 33, 35, 37, 39] (List.mem_append_left [95, 96, 97, 98] (mem30 hs6))) t1 t2)
          refine ⟨1, τ, rfl, rfl, ?_⟩
          have ea : (60 * a).toInt = 60 * a.toInt := by rw [t_mul (by rw [e60]; omega), e60]
          rw [b_X12_row_0 (hd := by omega), t_isShelfM, if_neg ca, if_neg z10, t_in1 (by omega), if_neg z10, if_pos c1, if_pos c2]
          refine ⟨hz, hz, ?_⟩
          generalize hτ1 : si (si τ 95 (ix a) ((-2) - b)) 96 (ix a) c = τ1
          refine lp_rowM a b c (by omega) 60 τ1 (60 * a) (by omega) (by omega) (fun ρ r1 r2 r3 => ⟨rfl, ρ, rfl, nr, nt, N, V, I, (h.shelf (τ := ρ) ?_ (fun s hs => ?_)).up (by rw [Int.natCast_add]; omega)⟩)
          · refine (hF2.tr ?_).tr (zFr.wll (c := 97) (by decide) r1 r2)
            rw [← hτ1]
            exact (zFr.rf.ws (by decide)).ws (by decide)
          · have G : ∀ q j, gi ρ q j = if q = 96 ∧ j = ix a then c else if q = 95 ∧ j = ix a then (-2) - b else if q = 29 + 2 * ix a ∧ j = 4 then c else if q = 29 + 2 * ix a ∧ j = 3 then b else if q = 29 + 2 * ix a ∧ j = 1 then 2 else gi σ q j := fun q j => by
              show ρ.1 q j = _
              rw [r1, ← hτ1]
              show gi _ q j = _
              rw [gi_all, gi_all]
              show (if _ then _ else if _ then _ else τ.1 q j) = _
              rw [t1, ← hσ1]
              show (if _ then _ else if _ then _ else gi _ q j) = _
              rw [gi_all, gi_all, gi_all]
            have eb : ((-2) - b).toInt = -2 - b.toInt := by rw [t_sub (by rw [em2]; omega), em2]
            have L97 : ∀ j, gl ρ 97 j = if 60 * ix a ≤ j ∧ j < 60 * ix a + 60 then 0 else gl σ 97 j := fun j => by
              rw [r3 j, ea, ← hix]
              have w : (60 * a.toInt).toNat = 60 * ix a := by omega
              rw [w]
              have g97 : gl τ1 97 j = gl σ 97 j := by
                rw [← hτ1]
                show τ.2 97 j = _
                rw [t2 97 (by omega), ← hσ1]; rfl
              rw [g97]
            by_cases es : s = ix a
            · rw [es]
              unfold RS1
              have v1 : gi ρ (29 + 2 * ix a) 1 = 2 := by rw [G, if_neg (by omega), if_neg (by omega), if_neg (by omega), if_neg (by omega), if_pos ⟨rfl, rfl⟩]
              have v3 : gi ρ (29 + 2 * ix a) 3 = b := by rw [G, if_neg (by omega), if_neg (by omega), if_neg (by omega), if_pos ⟨rfl, rfl⟩]
              have v4 : gi ρ (29 + 2 * ix a) 4 = c := by rw [G, if_neg (by omega), if_neg (by omega), if_pos ⟨rfl, rfl⟩]
              have v95 : gi ρ 95 (ix a) = (-2) - b := by rw [G, if_neg (by omega), if_pos ⟨rfl, rfl⟩]
              have v96 : gi ρ 96 (ix a) = c := by rw [G, if_pos ⟨rfl, rfl⟩]
              have z97 : ∀ j, j < 60 → gl ρ 97 (60 * ix a + j) = 0 := fun j hj => by rw [L97, if_pos (by omega)]
              have zC : ∀ j, j < 60 → gl ρ (29 + 2 * ix a + 1) j = 0 := fun j hj => by
                show ρ.2 _ j = _
                rw [r2 _ (by omega), ← hτ1]
                show gl τ _ j = _
                rw [t3 j, if_pos (by rw [e0]; omega)]
              have zt : (0 : Int64).toInt = 0 := Int64.toInt_zero
              rw [v1, v3, v4, v95, v96]
              exact ⟨hc0, hc60, rfl, fun j hj => by rw [z97 j hj, zC j hj], Or.inr (Or.inr ⟨rfl, hb0, hb4, eb, fun _ j hj => by rw [z97 j hj, zt]; exact ⟨by decide, by decide⟩, fun _ j hj => by rw [z97 j hj, zt]; exact ⟨by decide, by decide⟩⟩)⟩
            · have n2 : ∀ j, gi ρ (29 + 2 * s) j = gi σ (29 + 2 * s) j := fun j => by rw [G, if_neg (by omega), if_neg (by omega), if_neg (by omega), if_neg (by omega), if_neg (by omega)]
              refine (hS s hs).fr (funext n2) ?_ (by rw [G, if_neg (by omega), if_neg (by omega), if_neg (by omega), if_neg (by omega), if_neg (by omega)]) (by rw [G, if_neg (by omega), if_neg (by omega), if_neg (by omega), if_neg (by omega), if_neg (by omega)]) (fun j hj => ?_) (by rw [G, if_neg (by omega), if_neg (by omega), if_neg (by omega), if_neg (by omega), if_neg (by omega)]; exact Int.le_refl _)
              · rw [r2 _ (by omega), ← hτ1]
                show τ.2 _ = _
                rw [t2 _ (by omega), ← hσ1]; rfl
              · rw [L97, if_neg (by omega)]
        · refine same (-14) (fun Q => ?_) (fun Q => ?_)
          · rw [b_X11_row_0 (hd := by omega), t_isShelf, if_neg ca, if_neg z10, if_neg b1, if_neg b2, if_pos c1, if_neg c2]
          · rw [b_X12_row_0 (hd := by omega), t_isShelfM, if_neg ca, if_neg z10, b3, if_neg z10, if_pos c1, if_neg c2]
      · refine same (-1) (fun Q => ?_) (fun Q => ?_)
        · rw [b_X11_row_0 (hd := by omega), t_isShelf, if_neg ca, if_neg z10, if_neg b1, if_neg b2, if_neg c1]
        · rw [b_X12_row_0 (hd := by omega), t_isShelfM, if_neg ca, if_neg z10, b3, if_neg z10, if_neg c1]
end ROW
