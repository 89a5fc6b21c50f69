/-! shift: from shelf to shelf -/
theorem il_bound (x : Int32) : -2147483648 ≤ x.toInt ∧ x.toInt < 2147483648 := ⟨Int32.le_toInt x, Int32.toInt_lt x⟩
theorem RS1.lays {σ τ : zS} {s r : Nat} {W : Nat → Int64} (h : RS1 σ s r) (h1 : τ.1 r = σ.1 r) (h2 : ∀ j, j < 60 → gl τ (r + 1) j = W j) (h3 : gi τ 95 s = gi σ 95 s) (h4 : gi τ 96 s = gi σ 96 s) (h5 : ∀ j, j < 60 → gl τ 97 (60 * s + j) = W j) (h6 : gi τ 63 2 = gi σ 63 2) (hw : gi σ r 1 = 2 → ∀ j, j < 60 → ((gi σ r 3).toInt = 0 → -128 ≤ (W j).toInt ∧ (W j).toInt ≤ 127) ∧ ((gi σ r 3).toInt = 1 → -32768 ≤ (W j).toInt ∧ (W j).toInt ≤ 32767)) : RS1 τ s r := by
  have hg : ∀ j, gi τ r j = gi σ r j := fun j => by show τ.1 r j = _; rw [h1]; rfl
  unfold RS1 at *
  rw [hg, hg, hg, hg, h3, h4, h6]
  refine ⟨h.1, h.2.1, h.2.2.1, fun j hj => by rw [h2 j hj, h5 j hj], ?_⟩
  rcases h.2.2.2.2 with q | q | q
  · exact Or.inl q
  · exact Or.inr (Or.inl q)
  · refine Or.inr (Or.inr ⟨q.1, q.2.1, q.2.2.1, q.2.2.2.1, fun h0 j hj => ?_, fun h0 j hj => ?_⟩)
    · rw [h5 j hj]; exact (hw q.1 j hj).1 h0
    · rw [h5 j hj]; exact (hw q.1 j hj).2 h0
theorem lp_shift1 {X : zX} {d : Nat} {Q : Option Value → zH → Prop} (a b c e n : Int32) (ha : 0 ≤ a.toInt ∧ a.toInt < 6) (hb : 0 ≤ b.toInt) (hn : 0 ≤ n.toInt) (hbn : b.toInt + n.toInt ≤ 60) : ∀ (m : Nat) (σ : zS) (p : Int32), 0 ≤ p.toInt → p.toInt + m = n.toInt → (∀ τ : zS, τ.1 = σ.1 → (∀ q, q ≠ 98 → τ.2 q = σ.2 q) → (∀ j, gl τ 98 j = if p.toInt.toNat ≤ j ∧ j < n.toInt.toNat then gl σ 97 (60 * a.toInt.toNat + b.toInt.toNat + j) else gl σ 98 j) → zwp X d MX12_shift 150 [.ref 66, .int a, .int b, .int c, .int e, .int n, .int 0] [] (zen τ) Q) → zwp X d MX12_shift 113 [.ref 66, .int a, .int b, .int c, .int e, .int n, .int p] [] (zen σ) Q := by
  intro m
  have e1 := l1
  have e60 : (60 : Int32).toInt = 60 := rfl
  have ea : (60 * a).toInt = 60 * a.toInt := by rw [t_mul (by rw [e60]; omega), e60]
  have eb : (60 * a + b).toInt = 60 * a.toInt + b.toInt := by rw [t_add (by rw [ea]; omega), ea]
  induction m with
  | zero =>
    intro σ p h0 hp hQ
    rw [b_X12_shift_113, if_pos (ile.mpr (by omega))]
    exact hQ σ rfl (fun _ _ => rfl) (fun j => by rw [if_neg (by omega)])
  | succ m ih =>
    intro σ p h0 hp hQ
    have ep : (p + 1).toInt = p.toInt + 1 := by rw [t_add (by omega), e1]
    have hix := ix_t p
    have ec : (60 * a + b + p).toInt = 60 * a.toInt + b.toInt + p.toInt := by rw [t_add (by rw [eb]; omega), eb]
    have hic : ix (60 * a + b + p) = 60 * a.toInt.toNat + b.toInt.toNat + ix p := by rw [ix_t, ec]; omega
    rw [b_X12_shift_113, if_neg (fun q => by have := ile.mp q; omega), hic]
    refine ⟨zin_of (by omega) (by omega), zin_of (by omega) (by omega), ih _ _ (by omega) (by omega) (fun τ h1 h2 h3 => hQ τ h1 (fun q hq => (h2 q hq).trans (sl_ne hq)) (fun j => ?_))⟩
    rw [h3 j, gl_all, gl_all]
    by_cases c1 : (p + 1).toInt.toNat ≤ j ∧ j < n.toInt.toNat
    · rw [if_pos c1, if_pos (show p.toInt.toNat ≤ j ∧ j < n.toInt.toNat by omega), if_neg (by omega)]
    · rw [if_neg c1]
      by_cases c2 : j = ix p
      · rw [if_pos ⟨rfl, c2⟩, if_pos (by omega), c2]
      · rw [if_neg (fun y => c2 y.2), if_neg (by omega)]
theorem lp_shift2 {X : zX} {d : Nat} {Q : Option Value → zH → Prop} (a b c e n : Int32) (hc : 0 ≤ c.toInt ∧ c.toInt < 6) (he : 0 ≤ e.toInt) (hn : 0 ≤ n.toInt) (hen : e.toInt + n.toInt ≤ 60) : ∀ (m : Nat) (σ : zS) (p : Int32), 0 ≤ p.toInt → p.toInt + m = n.toInt → (∀ τ : zS, τ.1 = σ.1 → (∀ q, q ≠ 97 → τ.2 q = σ.2 q) → (∀ j, gl τ 97 j = if 60 * c.toInt.toNat + e.toInt.toNat + p.toInt.toNat ≤ j ∧ j < 60 * c.toInt.toNat + e.toInt.toNat + n.toInt.toNat then gl σ 98 (j - (60 * c.toInt.toNat + e.toInt.toNat)) else gl σ 97 j) → Q (some (.int n)) (zen τ)) → zwp X d MX12_shift 150 [.ref 66, .int a, .int b, .int c, .int e, .int n, .int p] [] (zen σ) Q := by
  intro m
  have e1 := l1
  have e60 : (60 : Int32).toInt = 60 := rfl
  have ea : (60 * c).toInt = 60 * c.toInt := by rw [t_mul (by rw [e60]; omega), e60]
  have eb : (60 * c + e).toInt = 60 * c.toInt + e.toInt := by rw [t_add (by rw [ea]; omega), ea]
  induction m with
  | zero =>
    intro σ p h0 hp hQ
    rw [b_X12_shift_150, if_pos (ile.mpr (by omega))]
    exact hQ σ rfl (fun _ _ => rfl) (fun j => by rw [if_neg (by omega)])
  | succ m ih =>
    intro σ p h0 hp hQ
    have ep : (p + 1).toInt = p.toInt + 1 := by rw [t_add (by omega), e1]
    have hix := ix_t p
    have ec : (60 * c + e + p).toInt = 60 * c.toInt + e.toInt + p.toInt := by rw [t_add (by rw [eb]; omega), eb]
    have hic : ix (60 * c + e + p) = 60 * c.toInt.toNat + e.toInt.toNat + ix p := by rw [ix_t, ec]; omega
    rw [b_X12_shift_150, if_neg (fun q => by have := ile.mp q; omega), hic]
    refine ⟨zin_of (by omega) (by omega), zin_of (by omega) (by omega), ih _ _ (by omega) (by omega) (fun τ h1 h2 h3 => hQ τ h1 (fun q hq => (h2 q hq).trans (sl_ne hq)) (fun j => ?_))⟩
    rw [h3 j, gl_all, gl_all]
    by_cases c1 : 60 * c.toInt.toNat + e.toInt.toNat + (p + 1).toInt.toNat ≤ j ∧ j < 60 * c.toInt.toNat + e.toInt.toNat + n.toInt.toNat
    · rw [if_pos c1, if_pos (show 60 * c.toInt.toNat + e.toInt.toNat + p.toInt.toNat ≤ j ∧ j < 60 * c.toInt.toNat + e.toInt.toNat + n.toInt.toNat by omega), if_neg (by omega)]
    · rw [if_neg c1]
      by_cases c2 : j = 60 * c.toInt.toNat + e.toInt.toNat + ix p
      · rw [if_pos ⟨rfl, c2⟩, if_pos (by omega), c2]
        congr 1; omega
      · rw [if_neg (fun y => c2 y.2), if_neg (by omega)]
theorem sL_1 (σ : zS) (k : Nat) (f : Nat → Int64) : (sL σ k f).2 k = f := by
  show (if k = k then f else σ.2 k) = f
  rw [if_pos rfl]
theorem vl_at {f g : Nat → Int64} {s t n j : Nat} : va_cpy f g s t n j = if t ≤ j ∧ j < t + n then f (s + (j - t)) else g j := by
  unfold va_cpy
  rfl
/-- one shelf's kind -/
def kdI (σ : zS) (s : Nat) : Int := (gi σ 95 s).toInt
def rfI (σ : zS) (s t : Nat) : Int := if kdI σ s = -1 ∨ kdI σ t = -1 then -11 else if 0 ≤ kdI σ s then -12 else if kdI σ s = kdI σ t then 0 else -12
theorem refuse_c {σ : zS} (h : RS σ) {a : Int32} (ha : 0 ≤ a.toInt ∧ a.toInt < 6) (sort : Int32) : p_X11_refusal σ a sort ∧ f_X11_refusal σ a sort = (if kdI σ (ix a) = -1 then -11 else if 0 ≤ kdI σ (ix a) then -12 else if gi σ (29 + 2 * ix a) 3 = sort then 0 else -12) := by
  have z10 : ¬ (1 : Int32) = 0 := by decide
  have hix := ix_t a
  have S := (h (ix a) (by omega)).2.2.2.2
  unfold p_X11_refusal f_X11_refusal kdI
  rw [t_isShelf, if_neg (show ¬ (a.toInt < 0 ∨ 6 ≤ a.toInt) by omega), if_pos z10, if_pos z10]
  refine ⟨zin_of (by omega) (by omega), ?_⟩
  rcases S with q | q | q
  · rw [q.1, if_neg (fun y => y rfl), if_pos q.2]
  · have : (gi σ 95 (ix a)).toInt = (gi σ (29 + 2 * ix a) 2).toInt := by rw [q.2.1]
    rw [q.1, if_pos z10, if_pos (by decide), if_neg (by omega), if_pos (by omega)]
  · rw [q.1, if_pos (by decide), if_neg (fun y => y rfl), if_neg (show ¬ (gi σ 95 (ix a)).toInt = -1 by omega), if_neg (show ¬ 0 ≤ (gi σ 95 (ix a)).toInt by omega)]
    by_cases e : gi σ (29 + 2 * ix a) 3 = sort
    · rw [if_neg (fun y => y e), if_pos e]
    · rw [if_pos e, if_neg e]
theorem two_c {σ : zS} (h : RS σ) {a c : Int32} (ha : 0 ≤ a.toInt ∧ a.toInt < 6) (hc : 0 ≤ c.toInt ∧ c.toInt < 6) : p_X11_refusalOfTwo σ a c ∧ (f_X11_refusalOfTwo σ a c).toInt = rfI σ (ix a) (ix c) := by
  have z10 : ¬ (1 : Int32) = 0 := by decide
  have hia := ix_t a
  have hic := ix_t c
  have A := refuse_c h ha (gi σ (29 + 2 * ix a) 3)
  have C := refuse_c h hc (gi σ (29 + 2 * ix a) 3)
  have SA := (h (ix a) (by omega)).2.2.2.2
  have SC := (h (ix c) (by omega)).2.2.2.2
  unfold p_X11_refusalOfTwo f_X11_refusalOfTwo f_X11_firstNamed
  rw [t_isShelf, t_isShelf, if_neg (show ¬ (a.toInt < 0 ∨ 6 ≤ a.toInt) by omega), if_neg (show ¬ (c.toInt < 0 ∨ 6 ≤ c.toInt) by omega), if_neg z10, if_neg z10, if_pos z10, if_pos z10, A.2, C.2]
  refine ⟨⟨zin_of (by omega) (by omega), A.1, C.1⟩, ?_⟩
  have n11 : ¬ (-11 : Int32) = 0 := by decide
  have n12 : ¬ (-12 : Int32) = 0 := by decide
  unfold rfI
  by_cases a1 : kdI σ (ix a) = -1
  · rw [if_pos a1, if_pos (Or.inl a1), if_pos n11]
    by_cases c1 : kdI σ (ix c) = -1
    · rw [if_pos c1, if_pos n11]; rfl
    · rw [if_neg c1]
      by_cases c2 : 0 ≤ kdI σ (ix c)
      · rw [if_pos c2, if_pos n12]; rfl
      · rw [if_neg c2]
        by_cases c3 : gi σ (29 + 2 * ix c) 3 = gi σ (29 + 2 * ix a) 3
        · rw [if_pos c3, if_neg (fun y => y rfl)]; rfl
        · rw [if_neg c3, if_pos n12]; rfl
  · rw [if_neg a1]
    by_cases c1 : kdI σ (ix c) = -1
    · rw [if_pos c1, if_pos (Or.inr c1)]
      by_cases a2 : 0 ≤ kdI σ (ix a)
      · rw [if_pos a2, if_pos n12, if_pos n11]; rfl
      · rw [if_neg a2, if_pos rfl, if_neg (fun y => y rfl)]; rfl
    · rw [if_neg c1, if_neg (show ¬ (kdI σ (ix a) = -1 ∨ kdI σ (ix c) = -1) from fun y => y.elim a1 c1)]
      by_cases a2 : 0 ≤ kdI σ (ix a)
      · rw [if_pos a2, if_pos n12, if_pos a2]
        by_cases c2 : 0 ≤ kdI σ (ix c)
        · rw [if_pos c2, if_pos n12]; rfl
        · rw [if_neg c2]
          by_cases c3 : gi σ (29 + 2 * ix c) 3 = gi σ (29 + 2 * ix a) 3
          · rw [if_pos c3, if_neg (fun y => y rfl)]; rfl
          · rw [if_neg c3, if_pos n12]; rfl
      · rw [if_neg a2, if_pos rfl, if_neg (fun y => y rfl), if_neg a2]
        by_cases c2 : 0 ≤ kdI σ (ix c)
        · rw [if_pos c2, if_neg (by omega)]; rfl
        · rw [if_neg c2]
          unfold kdI at a1 a2 c1 c2 ⊢
          have ka : (gi σ 95 (ix a)).toInt = -2 - (gi σ (29 + 2 * ix a) 3).toInt := by
            rcases SA with q | q | q
            · exact absurd q.2 a1
            · exact absurd (by rw [q.2.1]; exact q.2.2.1) a2
            · exact q.2.2.2.1
          have kc : (gi σ 95 (ix c)).toInt = -2 - (gi σ (29 + 2 * ix c) 3).toInt := by
            rcases SC with q | q | q
            · exact absurd q.2 c1
            · exact absurd (by rw [q.2.1]; exact q.2.2.1) c2
            · exact q.2.2.2.1
          by_cases c3 : gi σ (29 + 2 * ix c) 3 = gi σ (29 + 2 * ix a) 3
          · rw [if_pos c3, if_pos (by rw [ka, kc, c3])]; rfl
          · rw [if_neg c3, if_neg (fun y => c3 (ieq.mpr (by omega)))]; rfl
section SHIFT
variable {X : zX} {d : Nat} {σ : zS} {k : Nat}
theorem places_c {s : Nat} (hsz : 0 ≤ (gi σ (29 + 2 * s) 4).toInt ∧ (gi σ (29 + 2 * s) 4).toInt ≤ 60) (i n : Int32) : f_X8_hasPlaces σ (29 + 2 * s) i n = if 0 ≤ n.toInt ∧ 0 ≤ i.toInt ∧ i.toInt + n.toInt ≤ (gi σ (29 + 2 * s) 4).toInt then 1 else 0 := by
  have e0 := l0
  unfold f_X8_hasPlaces
  by_cases x1 : n < 0
  · have := il.mp x1
    rw [if_pos x1, if_neg (by omega)]
  · have y1 := nil_ x1
    rw [if_neg x1]
    by_cases x2 : i < 0
    · have := il.mp x2
      rw [if_pos x2, if_neg (by omega)]
    · have y2 := nil_ x2
      have es : (gi σ (29 + 2 * s) 4 - n).toInt = (gi σ (29 + 2 * s) 4).toInt - n.toInt := t_sub (by have := il_bound n; omega)
      rw [if_neg x2]
      by_cases x3 : gi σ (29 + 2 * s) 4 - n < i
      · have := il.mp x3
        rw [if_pos x3, if_neg (by omega)]
      · have := nil_ x3
        rw [if_neg x3, if_pos (by omega)]
theorem o_shift (hd : 20 ≤ d) (h : Rel k σ) (a b c e n : Int32) : zOp k σ X d MX11_shift MX12_shift [.ref 0, .int a, .int b, .int c, .int e, .int n, .null, .null, .null] [.ref 66, .int a, .int b, .int c, .int e, .int n, .null] := by
  have hn : Rel (k + 1) σ := by obtain ⟨nr, nt, N, V, I, h⟩ := h; exact h.next
  obtain ⟨nr, nt, N, V, I, h⟩ := h
  have hS := h.2.2.2.2.2.2.2.1
  have e0 := l0
  have em1 := lm1
  have z10 : ¬ (1 : Int32) = 0 := by decide
  have same : ∀ x : Int32, (p_X11_shift σ a b c e n ∧ f_X11_shift σ a b c e n = x ∧ g_X11_shift σ a b c e n = σ) → (∀ Q : Option Value → zH → Prop, zwp X d MX12_shift 0 [.ref 66, .int a, .int b, .int c, .int e, .int n, .null] [] (zen σ) Q = Q (some (.int x)) (zen σ)) → zOp k σ X d MX11_shift MX12_shift [.ref 0, .int a, .int b, .int c, .int e, .int n, .null, .null, .null] [.ref 66, .int a, .int b, .int c, .int e, .int n, .null] := fun x h1 h2 => zOp.same hn (x := x) (fm := x) (fun Q => by rw [s_X11_shift (hd := by omega), h1.2.1, h1.2.2, ztrue_and h1.1]) h2 rfl
  by_cases ca : a.toInt < 0 ∨ 6 ≤ a.toInt
  · refine same (-1) ?_ (fun Q => ?_)
    · have q : p_X11_refusalOfTwo σ a c ∧ f_X11_refusalOfTwo σ a c = -1 := by
        unfold p_X11_refusalOfTwo f_X11_refusalOfTwo
        rw [t_isShelf, if_pos ca, if_pos rfl, if_pos rfl]; exact ⟨trivial, rfl⟩
      have n0 : ¬ (-1 : Int32) = 0 := by decide
      unfold p_X11_shift f_X11_shift g_X11_shift
      rw [q.2, if_neg n0, if_neg n0, if_neg n0]; exact ⟨⟨q.1, trivial⟩, rfl, rfl⟩
    · rw [b_X12_shift_0 (hd := by omega), t_isShelfM, if_pos ca, if_pos rfl]
  · by_cases cc : c.toInt < 0 ∨ 6 ≤ c.toInt
    · refine same (-1) ?_ (fun Q => ?_)
      · have q : p_X11_refusalOfTwo σ a c ∧ f_X11_refusalOfTwo σ a c = -1 := by
          unfold p_X11_refusalOfTwo f_X11_refusalOfTwo
          rw [t_isShelf, t_isShelf, if_neg ca, if_pos cc, if_neg z10, if_neg z10, if_neg (fun y => y rfl), if_neg (fun y => y rfl)]; exact ⟨trivial, rfl⟩
        have n0 : ¬ (-1 : Int32) = 0 := by decide
        unfold p_X11_shift f_X11_shift g_X11_shift
        rw [q.2, if_neg n0, if_neg n0, if_neg n0]; exact ⟨⟨q.1, trivial⟩, rfl, rfl⟩
      · rw [b_X12_shift_0 (hd := by omega), t_isShelfM, t_isShelfM, if_neg ca, if_pos cc, if_neg z10, if_neg (fun y => y rfl)]
    · have hia := ix_t a
      have hic := ix_t c
      have za : zin a 6 = true := zin_of (by omega) (by omega)
      have zc : zin c 6 = true := zin_of (by omega) (by omega)
      have T := two_c hS (a := a) (c := c) (by omega) (by omega)
      have SA := hS (ix a) (by omega)
      have SC := hS (ix c) (by omega)
      have bad : ∀ x : Int32, ¬ x = 0 → x.toInt = rfI σ (ix a) (ix c) → p_X11_shift σ a b c e n ∧ f_X11_shift σ a b c e n = x ∧ g_X11_shift σ a b c e n = σ := fun x n0 hx => by
        have q : f_X11_refusalOfTwo σ a c = x := ieq.mpr (by rw [T.2, hx])
        unfold p_X11_shift f_X11_shift g_X11_shift
        rw [q, if_neg n0, if_neg n0, if_neg n0]; exact ⟨⟨T.1, trivial⟩, rfl, rfl⟩
      have M : ∀ τ : zS, τ.1 = σ.1 → ∀ Q : Option Value → zH → Prop, zwp X d MX12_shift 0 [.ref 66, .int a, .int b, .int c, .int e, .int n, .null] [] (zen τ) Q = (if gi σ 95 (ix a) = -1 then Q (some (.int (-11))) (zen τ) else if ¬ gi σ 95 (ix c) = -1 then (if 0 ≤ gi σ 95 (ix a) then Q (some (.int (-12))) (zen τ) else if gi σ 95 (ix a) = gi σ 95 (ix c) then (if n < 0 then Q (some (.int (-13))) (zen τ) else if b < 0 then Q (some (.int (-13))) (zen τ) else if e < 0 then Q (some (.int (-13))) (zen τ) else if gi σ 96 (ix a) - n < b then Q (some (.int (-13))) (zen τ) else if e ≤ gi σ 96 (ix c) - n then zwp X d MX12_shift 113 [.ref 66, .int a, .int b, .int c, .int e, .int n, .int 0] [] (zen τ) Q else Q (some (.int (-13))) (zen τ)) else Q (some (.int (-12))) (zen τ)) else Q (some (.int (-11))) (zen τ)) := fun τ hτ Q => by
        have g : ∀ q j, gi τ q j = gi σ q j := fun q j => by show τ.1 q j = _; rw [hτ]; rfl
        rw [b_X12_shift_0 (hd := by omega), t_isShelfM, t_isShelfM, if_neg ca, if_neg cc, if_neg z10, if_pos z10]
        simp only [g, za, zc, true_and]
      by_cases k1 : gi σ 95 (ix a) = -1
      · refine same (-11) (bad (-11) (by decide) ?_) (fun Q => by rw [M σ rfl, if_pos k1])
        unfold rfI kdI
        rw [k1, if_pos (Or.inl (show (-1 : Int32).toInt = -1 from rfl))]; rfl
      · by_cases k2 : gi σ 95 (ix c) = -1
        · refine same (-11) (bad (-11) (by decide) ?_) (fun Q => by rw [M σ rfl, if_neg k1, if_neg (fun y => y k2)])
          unfold rfI kdI
          rw [k2, if_pos (Or.inr (show (-1 : Int32).toInt = -1 from rfl))]; rfl
        · have j1 : ¬ (gi σ 95 (ix a)).toInt = -1 := fun y => k1 (ieq.mpr (by rw [y]; rfl))
          have j2 : ¬ (gi σ 95 (ix c)).toInt = -1 := fun y => k2 (ieq.mpr (by rw [y]; rfl))
          have j12 : ¬ ((gi σ 95 (ix a)).toInt = -1 ∨ (gi σ 95 (ix c)).toInt = -1) := fun y => y.elim j1 j2
          by_cases k3 : 0 ≤ gi σ 95 (ix a)
          · have j3 := ile.mp k3
            refine same (-12) (bad (-12) (by decide) ?_) (fun Q => by rw [M σ rfl, if_neg k1, if_pos k2, if_pos k3])
            unfold rfI kdI
            rw [if_neg j12, if_pos (by omega)]; rfl
          · have j3 := nile k3
            by_cases k4 : gi σ 95 (ix a) = gi σ 95 (ix c)
            · have ok : f_X11_refusalOfTwo σ a c = 0 := ieq.mpr (by
                rw [T.2]
                unfold rfI kdI
                rw [if_neg j12, if_neg (by omega), if_pos (by rw [k4])]; rfl)
              have PA := places_c (σ := σ) (s := ix a) ⟨SA.1, SA.2.1⟩ b n
              have PC := places_c (σ := σ) (s := ix c) ⟨SC.1, SC.2.1⟩ e n
              have za' := SA.1
              have za2 := SA.2.1
              have zc' := SC.1
              have zc2 := SC.2.1
              rw [← SA.2.2.1] at PA za' za2
              rw [← SC.2.2.1] at PC zc' zc2
              have M2 : ∀ τ : zS, τ.1 = σ.1 → ∀ Q : Option Value → zH → Prop, zwp X d MX12_shift 0 [.ref 66, .int a, .int b, .int c, .int e, .int n, .null] [] (zen τ) Q = (if (0 ≤ n.toInt ∧ 0 ≤ b.toInt ∧ b.toInt + n.toInt ≤ (gi σ 96 (ix a)).toInt) ∧ 0 ≤ e.toInt ∧ e.toInt + n.toInt ≤ (gi σ 96 (ix c)).toInt then zwp X d MX12_shift 113 [.ref 66, .int a, .int b, .int c, .int e, .int n, .int 0] [] (zen τ) Q else Q (some (.int (-13))) (zen τ)) := fun τ hτ Q => by
                rw [M τ hτ, if_neg k1, if_pos k2, if_neg k3, if_pos k4]
                by_cases x1 : n < 0
                · have := il.mp x1
                  rw [if_pos x1, if_neg (by omega)]
                · have y1 := nil_ x1
                  have es : (gi σ 96 (ix a) - n).toInt = (gi σ 96 (ix a)).toInt - n.toInt := t_sub (by have := il_bound n; omega)
                  have et : (gi σ 96 (ix c) - n).toInt = (gi σ 96 (ix c)).toInt - n.toInt := t_sub (by have := il_bound n; omega)
                  rw [if_neg x1]
                  by_cases x2 : b < 0
                  · have := il.mp x2
                    rw [if_pos x2, if_neg (by omega)]
                  · have y2 := nil_ x2
                    rw [if_neg x2]
                    by_cases x3 : e < 0
                    · have := il.mp x3
                      rw [if_pos x3, if_neg (by omega)]
                    · have y3 := nil_ x3
                      rw [if_neg x3]
                      by_cases x4 : gi σ 96 (ix a) - n < b
                      · have := il.mp x4
                        rw [if_pos x4, if_neg (by omega)]
                      · have y4 := nil_ x4
                        rw [if_neg x4]
                        by_cases x5 : e ≤ gi σ 96 (ix c) - n
                        · have := ile.mp x5
                          rw [if_pos x5, if_pos (by omega)]
                        · have := nile x5
                          rw [if_neg x5, if_neg (by omega)]
              by_cases k5 : (0 ≤ n.toInt ∧ 0 ≤ b.toInt ∧ b.toInt + n.toInt ≤ (gi σ 96 (ix a)).toInt) ∧ 0 ≤ e.toInt ∧ e.toInt + n.toInt ≤ (gi σ 96 (ix c)).toInt
              · have hn0 := k5.1.1
                have q : p_X11_shift σ a b c e n ∧ f_X11_shift σ a b c e n = n ∧ g_X11_shift σ a b c e n = sL σ (29 + 2 * ix c + 1) (va_cpy (σ.2 (29 + 2 * ix a + 1)) (σ.2 (29 + 2 * ix c + 1)) (ix b) (ix e) (ix n)) := by
                  unfold p_X11_shift f_X11_shift g_X11_shift
                  rw [ok, if_pos rfl, if_pos rfl, if_pos rfl, PA, PC, if_pos k5.1, if_pos (show 0 ≤ n.toInt ∧ 0 ≤ e.toInt ∧ e.toInt + n.toInt ≤ (gi σ 96 (ix c)).toInt by omega), if_neg z10, if_neg z10, if_neg z10, if_pos z10, if_pos z10, if_pos z10]
                  refine ⟨⟨T.1, za, zc, fun y => ?_, fun y => ?_, fun y => ?_, ?_, ?_⟩, rfl, rfl⟩
                  · have := il.mp y; omega
                  · have := il.mp y; omega
                  · have := il.mp y; omega
                  · rw [ix_t, ix_t]; omega
                  · rw [ix_t, ix_t]; omega
                unfold zOp
                rw [s_X11_shift (hd := by omega), q.2.1, q.2.2]
                have hib := ix_t b
                have hie := ix_t e
                have hin := ix_t n
                generalize hτ : sL σ (29 + 2 * ix c + 1) (va_cpy (σ.2 (29 + 2 * ix a + 1)) (σ.2 (29 + 2 * ix c + 1)) (ix b) (ix e) (ix n)) = τ
                have w1 : τ.1 = σ.1 := by rw [← hτ]; rfl
                have w2 : ∀ x, x ≠ 29 + 2 * ix c + 1 → τ.2 x = σ.2 x := fun x hx => by
                  rw [← hτ]
                  show (if x = 29 + 2 * ix c + 1 then _ else σ.2 x) = _
                  rw [if_neg hx]
                have w3 : ∀ j, gl τ (29 + 2 * ix c + 1) j = if ix e ≤ j ∧ j < ix e + ix n then gl σ (29 + 2 * ix a + 1) (ix b + (j - ix e)) else gl σ (29 + 2 * ix c + 1) j := fun j => by
                  rw [← hτ]
                  show (sL σ (29 + 2 * ix c + 1) _).2 (29 + 2 * ix c + 1) j = _
                  rw [sL_1]
                  exact vl_at
                refine ⟨q.1, n, τ, rfl, rfl, ?_⟩
                rw [M2 τ w1, if_pos k5]
                refine lp_shift1 a b c e n (by omega) (by omega) (by omega) (by omega) n.toInt.toNat τ 0 (by rw [e0]; omega) (by rw [e0]; omega) (fun τ1 u1 u2 u3 => lp_shift2 a b c e n (by omega) (by omega) (by omega) (by omega) n.toInt.toNat τ1 0 (by rw [e0]; omega) (by rw [e0]; omega) (fun ρ r1 r2 r3 => ⟨rfl, ρ, rfl, nr, nt, N, V, I, (h.shelf (τ := ρ) ?_ (fun s hs => ?_)).up (by rw [Int.natCast_add]; omega)⟩))
                · exact ((zFr.wll (List.mem_append_right [29, 31, 33, 35, 37, 39] (List.mem_append_left [95, 96, 97, 98] (mem30 (by omega)))) w1 w2).tr (zFr.wll (c := 98) (by decide) u1 u2)).tr (zFr.wll (c := 97) (by decide) r1 r2)
                · have c1 : ρ.1 = σ.1 := r1.trans (u1.trans w1)
                  have G : ∀ x j, gi ρ x j = gi σ x j := fun x j => by show ρ.1 x j = _; rw [c1]; rfl
                  have L97 : ∀ j, gl ρ 97 j = if 60 * ix c + ix e ≤ j ∧ j < 60 * ix c + ix e + ix n then gl σ 97 (60 * ix a + ix b + (j - (60 * ix c + ix e))) else gl σ 97 j := fun j => by
                    have t97 : ∀ i, gl τ 97 i = gl σ 97 i := fun i => by show τ.2 97 i = _; rw [w2 97 (by omega)]; rfl
                    have t197 : ∀ i, gl τ1 97 i = gl σ 97 i := fun i => by show τ1.2 97 i = _; rw [u2 97 (by omega)]; exact t97 i
                    rw [r3 j, t197, e0, ← hic, ← hie, ← hin]
                    by_cases x : 60 * ix c + ix e ≤ j ∧ j < 60 * ix c + ix e + ix n
                    · rw [if_pos x, if_pos (by omega), u3, if_pos (by rw [e0]; omega), t97, ← hia, ← hib]
                    · rw [if_neg x, if_neg (by omega)]
                  have LC : ∀ s', s' < 6 → s' ≠ ix c → ρ.2 (29 + 2 * s' + 1) = σ.2 (29 + 2 * s' + 1) := fun s' hs' hne => by rw [r2 _ (by omega), u2 _ (by omega), w2 _ (by omega)]
                  by_cases es : s = ix c
                  · rw [es]
                    refine SC.lays (W := fun j => if ix e ≤ j ∧ j < ix e + ix n then gl σ 97 (60 * ix a + ix b + (j - ix e)) else gl σ 97 (60 * ix c + j)) (by rw [c1]) (fun j hj => ?_) (G _ _) (G _ _) (fun j hj => ?_) (G _ _) (fun hm j hj => ?_)
                    · show ρ.2 _ j = _
                      rw [r2 _ (by omega), u2 _ (by omega)]
                      show gl τ _ j = _
                      rw [w3 j]
                      by_cases x : ix e ≤ j ∧ j < ix e + ix n
                      · rw [if_pos x, if_pos x, SA.2.2.2.1 _ (by omega), Nat.add_assoc]
                      · rw [if_neg x, if_neg x, SC.2.2.2.1 _ hj]
                    · rw [L97]
                      by_cases x : ix e ≤ j ∧ j < ix e + ix n
                      · rw [if_pos x, if_pos (by omega)]
                        congr 1; omega
                      · rw [if_neg x, if_neg (by omega)]
                    · have ma : gi σ (29 + 2 * ix a) 1 = 2 ∧ (gi σ (29 + 2 * ix a) 3).toInt = (gi σ (29 + 2 * ix c) 3).toInt ∧ ((gi σ (29 + 2 * ix a) 3).toInt = 0 → ∀ j, j < 60 → -128 ≤ (gl σ 97 (60 * ix a + j)).toInt ∧ (gl σ 97 (60 * ix a + j)).toInt ≤ 127) ∧ ((gi σ (29 + 2 * ix a) 3).toInt = 1 → ∀ j, j < 60 → -32768 ≤ (gl σ 97 (60 * ix a + j)).toInt ∧ (gl σ 97 (60 * ix a + j)).toInt ≤ 32767) := by
                        rw [e0] at j3
                        have kc : (gi σ 95 (ix c)).toInt = -2 - (gi σ (29 + 2 * ix c) 3).toInt := by
                          rcases SC.2.2.2.2 with y | y | y
                          · rw [y.1] at hm; exact absurd hm (by decide)
                          · rw [y.1] at hm; exact absurd hm (by decide)
                          · exact y.2.2.2.1
                        rcases SA.2.2.2.2 with y | y | y
                        · exact absurd y.2 j1
                        · have := y.2.2.1; rw [← y.2.1] at this; omega
                        · rw [← k4] at kc
                          exact ⟨y.1, by have := y.2.2.2.1; omega, y.2.2.2.2⟩
                      have mc : gi σ (29 + 2 * ix c) 1 = 2 → ((gi σ (29 + 2 * ix c) 3).toInt = 0 → ∀ j, j < 60 → -128 ≤ (gl σ 97 (60 * ix c + j)).toInt ∧ (gl σ 97 (60 * ix c + j)).toInt ≤ 127) ∧ ((gi σ (29 + 2 * ix c) 3).toInt = 1 → ∀ j, j < 60 → -32768 ≤ (gl σ 97 (60 * ix c + j)).toInt ∧ (gl σ 97 (60 * ix c + j)).toInt ≤ 32767) := fun hm => by
                        rcases SC.2.2.2.2 with y | y | y
                        · rw [y.1] at hm; exact absurd hm (by decide)
                        · rw [y.1] at hm; exact absurd hm (by decide)
                        · exact y.2.2.2.2
                      show ((gi σ (29 + 2 * ix c) 3).toInt = 0 → -128 ≤ (if ix e ≤ j ∧ j < ix e + ix n then gl σ 97 (60 * ix a + ix b + (j - ix e)) else gl σ 97 (60 * ix c + j)).toInt ∧ (if ix e ≤ j ∧ j < ix e + ix n then gl σ 97 (60 * ix a + ix b + (j - ix e)) else gl σ 97 (60 * ix c + j)).toInt ≤ 127) ∧ ((gi σ (29 + 2 * ix c) 3).toInt = 1 → -32768 ≤ (if ix e ≤ j ∧ j < ix e + ix n then gl σ 97 (60 * ix a + ix b + (j - ix e)) else gl σ 97 (60 * ix c + j)).toInt ∧ (if ix e ≤ j ∧ j < ix e + ix n then gl σ 97 (60 * ix a + ix b + (j - ix e)) else gl σ 97 (60 * ix c + j)).toInt ≤ 32767)
                      by_cases x : ix e ≤ j ∧ j < ix e + ix n
                      · rw [if_pos x, Nat.add_assoc]
                        exact ⟨fun y => ma.2.2.1 (by omega) _ (by omega), fun y => ma.2.2.2 (by omega) _ (by omega)⟩
                      · rw [if_neg x]
                        exact ⟨fun y => (mc hm).1 y j hj, fun y => (mc hm).2 y j hj⟩
                  · refine (hS s hs).fr (by rw [c1]) (LC s hs es) (G _ _) (G _ _) (fun j hj => ?_) (by rw [G]; exact Int.le_refl _)
                    rw [L97, if_neg (by omega)]
              · refine same (-13) ?_ (fun Q => by rw [M2 σ rfl, if_neg k5])
                unfold p_X11_shift f_X11_shift g_X11_shift
                rw [ok, if_pos rfl, if_pos rfl, if_pos rfl, PA, PC]
                by_cases x1 : 0 ≤ n.toInt ∧ 0 ≤ b.toInt ∧ b.toInt + n.toInt ≤ (gi σ 96 (ix a)).toInt
                · rw [if_pos x1, if_neg (show ¬ (0 ≤ n.toInt ∧ 0 ≤ e.toInt ∧ e.toInt + n.toInt ≤ (gi σ 96 (ix c)).toInt) by omega), if_neg z10, if_neg z10, if_neg z10, if_neg (fun y => y rfl), if_neg (fun y => y rfl), if_neg (fun y => y rfl)]; exact ⟨⟨T.1, za, zc, trivial⟩, rfl, rfl⟩
                · rw [if_neg x1, if_pos rfl, if_pos rfl, if_pos rfl]; exact ⟨⟨T.1, za, zc, trivial⟩, rfl, rfl⟩
            · refine same (-12) (bad (-12) (by decide) ?_) (fun Q => by rw [M σ rfl, if_neg k1, if_pos k2, if_neg k3, if_neg k4])
              unfold rfI kdI
              rw [if_neg j12, if_neg (by omega), if_neg (fun y => k4 (ieq.mpr y))]; rfl
end SHIFT
