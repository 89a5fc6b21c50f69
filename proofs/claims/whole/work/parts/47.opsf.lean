/-! rows, turn -/
theorem lgc_lt {x y : Int64} : lg_cmp x y < 0 ↔ x.toInt < y.toInt := by
  unfold lg_cmp
  by_cases h1 : x > y
  · have := Int64.lt_iff_toInt_lt.mp h1
    rw [if_pos h1]
    exact ⟨fun q => absurd q (by decide), fun q => by omega⟩
  · have h1' : ¬ y.toInt < x.toInt := fun q => h1 (Int64.lt_iff_toInt_lt.mpr q)
    rw [if_neg h1]
    by_cases h2 : x = y
    · rw [if_pos h2, h2]
      exact ⟨fun q => absurd q (by decide), fun q => by omega⟩
    · rw [if_neg h2]
      have : ¬ x.toInt = y.toInt := fun q => h2 (Int64.toInt_inj.mp q)
      exact ⟨fun _ => by omega, fun _ => by decide⟩
theorem lgc_ge {x y : Int64} : 0 ≤ lg_cmp x y ↔ y.toInt ≤ x.toInt := by
  have := lgc_lt (x := x) (y := y)
  constructor
  · intro h
    have h2 : ¬ lg_cmp x y < 0 := fun q => by have a := il.mp q; have b := ile.mp h; omega
    have : ¬ x.toInt < y.toInt := fun q => h2 (this.mpr q)
    omega
  · intro h
    have h2 : ¬ lg_cmp x y < 0 := fun q => by have := this.mp q; omega
    have := nil_ h2
    exact ile.mpr this
theorem lgc_eq {x y : Int64} : lg_cmp x y = 0 ↔ x = y := by
  unfold lg_cmp
  by_cases h1 : x > y
  · have := Int64.lt_iff_toInt_lt.mp h1
    rw [if_pos h1]
    exact ⟨fun q => absurd q (by decide), fun q => by rw [q] at this; omega⟩
  · rw [if_neg h1]
    by_cases h2 : x = y
    · rw [if_pos h2]; exact ⟨fun _ => h2, fun _ => rfl⟩
    · rw [if_neg h2]; exact ⟨fun q => absurd q (by decide), fun q => absurd q h2⟩
def okT (e : Nat → Int) (p : Nat) : Bool := decide ((0 ≤ e p ∧ e p ≤ 99) ∧ (0 ≤ e (p + 1) ∧ e (p + 1) ≤ 15) ∧ (0 ≤ e (p + 2) ∧ e (p + 2) ≤ 9))
def rowsI (e : Nat → Int) (size i : Int) : Nat → Nat → Nat → (Nat → Nat → Int) → Nat × Nat × (Nat → Nat → Int)
  | 0, k, nr, N => (k, nr, N)
  | n + 1, k, nr, N => if nr = 6 ∨ size ≤ i + 3 * k + 2 ∨ okT e (i + 3 * k).toNat = false then (k, nr, N) else rowsI e size i n (k + 1) (nr + 1) (addR N nr (e (i + 3 * k).toNat) (e ((i + 3 * k).toNat + 1)) (e ((i + 3 * k).toNat + 2)))
theorem rowsI_R {e : Nat → Int} {size i : Int} {nt : Nat} : ∀ (n k nr : Nat) (N : Nat → Nat → Int), HallR nr nt N → HallR (rowsI e size i n k nr N).2.1 nt (rowsI e size i n k nr N).2.2 ∧ nr ≤ (rowsI e size i n k nr N).2.1 ∧ k ≤ (rowsI e size i n k nr N).1 ∧ (rowsI e size i n k nr N).1 ≤ k + n := by
  intro n
  induction n with
  | zero => intro k nr N hR; exact ⟨hR, Nat.le_refl _, Nat.le_refl _, Nat.le_refl _⟩
  | succ n ih =>
    intro k nr N hR
    unfold rowsI
    by_cases c : nr = 6 ∨ size ≤ i + 3 * k + 2 ∨ okT e (i + 3 * k).toNat = false
    · rw [if_pos c]; exact ⟨hR, Nat.le_refl _, Nat.le_refl _, by omega⟩
    · rw [if_neg c]
      have h6 := hR.1
      have hk : okT e (i + 3 * k).toNat = true := by
        cases hh : okT e (i + 3 * k).toNat with
        | true => rfl
        | false => exact absurd (Or.inr (Or.inr hh)) c
      have ok := of_decide_eq_true hk
      have := ih (k + 1) (nr + 1) _ (hR.addR (by omega) ok.1 ok.2.1 ok.2.2)
      exact ⟨this.1, by omega, by omega, by omega⟩
theorem lp_X5_addRowsFrom {X : zX} {d : Nat} {Q : Option Value → zH → Prop} (hd : 2 ≤ d) {nt : Nat} {e : Nat → Int} {size : Int} (r : Nat) (h : zisS r = true) (i most : Int32) (hi : 0 ≤ i.toInt) (hm : most.toInt ≤ 6) (hs : 0 ≤ size ∧ size ≤ 60) : ∀ (n : Nat) (σ : zS) (k : Int32) (nr : Nat) (N : Nat → Nat → Int) (w5 w6 w7 w8 : Value), HallC σ nr nt N → HallR nr nt N → (gi σ r 4).toInt = size → (∀ j, j < 60 → (gl σ (r + 1) j).toInt = e j ∧ -128 ≤ e j ∧ e j ≤ 127) → 0 ≤ k.toInt → k.toInt + n = most.toInt → 0 ≤ (gi σ 1 3).toInt → (gi σ 1 3).toInt + n ≤ 2000000000 → (∀ (v : Int32) (τ : zS), zFr [2] [(1, 1), (1, 3)] σ τ → v.toInt = (rowsI e size i.toInt n k.toInt.toNat nr N).1 → HallC τ (rowsI e size i.toInt n k.toInt.toNat nr N).2.1 nt (rowsI e size i.toInt n k.toInt.toNat nr N).2.2 → (gi τ 1 3).toInt = (gi σ 1 3).toInt + (v.toInt - k.toInt) → Q (some (.int v)) (zen τ)) → zwp X d MX5_addRowsFrom 3 [.ref 1, .ref r, .int i, .int most, .int k, w5, w6, w7, w8] [] (zen σ) Q := by
  have hrr : 29 ≤ r := by
    have h1 := (zS_1 h).2.2.1
    have : ∀ q, q < 99 → zisS q = true → 29 ≤ q := by decide +kernel
    exact this r h1 h
  have e0 := l0
  have e1 := l1
  have e2 := l2
  have e3 := l3
  have e6 := l6
  intro n
  induction n with
  | zero =>
    intro σ k nr N w5 w6 w7 w8 hH hR hsz hE h0 hk hv0 hv hQ
    rw [b_X5_addRowsFrom_3 (hd := by omega) (hl1 := h), if_pos (ile.mpr (by omega))]
    unfold rowsI at hQ
    exact hQ _ σ zFr.rf (by omega) hH (by omega)
  | succ n ih =>
    intro σ k nr N w5 w6 w7 w8 hH hR hsz hE h0 hk hv0 hv hQ
    have h6 := hR.1
    have es : (k + 1).toInt = k.toInt + 1 := t_succ (by omega)
    have er : (k + 1).toInt.toNat = k.toInt.toNat + 1 := by omega
    have ek2 : (k.toInt.toNat : Int) = k.toInt := by omega
    have e3k1 : (3 * (k + 1)).toInt = 3 * (k.toInt + 1) := by rw [t_mul (by rw [e3, es]; omega), e3, es]
    have e3k : (3 * k).toInt = 3 * k.toInt := by rw [t_mul (by rw [e3]; omega), e3]
    unfold rowsI at hQ
    rw [ek2] at hQ
    have stop : (nr = 6 ∨ size ≤ i.toInt + 3 * k.toInt + 2 ∨ okT e (i.toInt + 3 * k.toInt).toNat = false) → Q (some (.int k)) (zen σ) := by
      intro c
      rw [if_pos c] at hQ
      exact hQ k σ zFr.rf (by omega) hH (by omega)
    rw [b_X5_addRowsFrom_3 (hd := by omega) (hl1 := h), if_neg (fun q => by have := ile.mp q; omega)]
    by_cases c1 : 6 ≤ gi σ 1 1
    · have := ile.mp c1
      rw [if_pos c1]
      exact stop (Or.inl (by have := hH.1; omega))
    · have := nile c1
      rw [if_neg c1]
      have g1 := hH.1
      have esz : (gi σ r 4 - 3 * (k + 1)).toInt = size - 3 * (k.toInt + 1) := by rw [t_sub (by rw [e3k1]; omega), e3k1, hsz]
      by_cases c2 : gi σ r 4 - 3 * (k + 1) < i
      · have := il.mp c2
        rw [if_pos c2]
        exact stop (Or.inr (Or.inl (by omega)))
      · have := nil_ c2
        rw [if_neg c2]
        have ea : (i + 3 * k).toInt = i.toInt + 3 * k.toInt := by rw [t_add (by rw [e3k]; omega), e3k]
        have ea1 : (i + 3 * k + 1).toInt = i.toInt + 3 * k.toInt + 1 := by rw [t_add (by rw [ea]; omega), ea, e1]
        have ea2 : (i + 3 * k + 2).toInt = i.toInt + 3 * k.toInt + 2 := by rw [t_add (by rw [ea]; omega), ea, e2]
        have z0 : zin (i + 3 * k) 60 = true := zin_of (by omega) (by omega)
        have z1 : zin (i + 3 * k + 1) 60 = true := zin_of (by omega) (by omega)
        have z2 : zin (i + 3 * k + 2) 60 = true := zin_of (by omega) (by omega)
        rw [ztrue_and z0, ztrue_and z1, ztrue_and z2]
        generalize hp : (i.toInt + 3 * k.toInt).toNat = p at hQ stop
        have i0 : ix (i + 3 * k) = p := by rw [ix_t, ea, hp]
        have i1 : ix (i + 3 * k + 1) = p + 1 := by rw [ix_t, ea1]; omega
        have i2 : ix (i + 3 * k + 2) = p + 2 := by rw [ix_t, ea2]; omega
        rw [i0, i1, i2]
        have E0 := hE p (by omega)
        have E1 := hE (p + 1) (by omega)
        have E2 := hE (p + 2) (by omega)
        have b0 : (Int64.toInt32 (gl σ (r + 1) p)).toInt = e p := by rw [tq_l2i (by rw [E0.1]; omega), E0.1]
        have b1 : (Int64.toInt32 (gl σ (r + 1) (p + 1))).toInt = e (p + 1) := by rw [tq_l2i (by rw [E1.1]; omega), E1.1]
        have b2 : (Int64.toInt32 (gl σ (r + 1) (p + 2))).toInt = e (p + 2) := by rw [tq_l2i (by rw [E2.1]; omega), E2.1]
        generalize Int64.toInt32 (gl σ (r + 1) p) = x0 at b0
        generalize Int64.toInt32 (gl σ (r + 1) (p + 1)) = x1 at b1
        generalize Int64.toInt32 (gl σ (r + 1) (p + 2)) = x2 at b2
        have F0 := fits_eq (σ := σ) (w := 0) (v := x0) (by omega)
        have F1 := fits_eq (σ := σ) (w := 1) (v := x1) (by omega)
        have F3 := fits_eq (σ := σ) (w := 3) (v := x2) (by omega)
        rw [show zloB (Int32.toInt 0).toNat = 0 from rfl, show zhiB (Int32.toInt 0).toNat = 99 from rfl] at F0
        rw [show zloB (Int32.toInt 1).toNat = 0 from rfl, show zhiB (Int32.toInt 1).toNat = 15 from rfl] at F1
        rw [show zloB (Int32.toInt 3).toNat = 0 from rfl, show zhiB (Int32.toInt 3).toNat = 9 from rfl] at F3
        have z10 : ¬ (1 : Int32) = 0 := by decide
        rw [ztrue_and F0.1]
        by_cases d0 : 0 ≤ x0.toInt ∧ x0.toInt ≤ 99
        · rw [if_pos d0] at F0
          rw [F0.2, if_neg z10, ztrue_and F1.1]
          by_cases d1 : 0 ≤ x1.toInt ∧ x1.toInt ≤ 15
          · rw [if_pos d1] at F1
            rw [F1.2, if_neg z10, ztrue_and F3.1]
            by_cases d2 : 0 ≤ x2.toInt ∧ x2.toInt ≤ 9
            · rw [if_pos d2] at F3
              rw [F3.2, if_pos z10]
              have ok : okT e p = true := decide_eq_true (by omega)
              have C := hH.addRow (h := x0) (o := x1) (e := x2) hR (by omega)
              rw [ztrue_and C.1]
              rw [if_neg (by rw [ok]; simp; omega), ← b0, ← b1, ← b2] at hQ
              have g4 : gi (g_X5_addRow σ x0 x1 x2) r 4 = gi σ r 4 := C.2.2.1.1 r (by simp <;> omega) 4 (by simp <;> omega)
              have gl4 : ∀ j, gl (g_X5_addRow σ x0 x1 x2) (r + 1) j = gl σ (r + 1) j := fun j => by show (g_X5_addRow σ x0 x1 x2).2 (r + 1) j = _; rw [C.2.2.1.2 (r + 1) (by simp <;> omega)]; rfl
              have ev : (gi (g_X5_addRow σ x0 x1 x2) 1 3).toInt = (gi σ 1 3).toInt + 1 := by rw [C.2.2.2, t_succ (by omega)]
              · refine ih _ (k + 1) (nr + 1) _ _ _ _ _ C.2.1 (hR.addR (by omega) d0 d1 d2) (by rw [g4]; exact hsz) (fun j hj => by rw [gl4]; exact hE j hj) (by omega) (by omega) (by omega) (by omega) (fun v τ hF hv2 hC2 hv3 => ?_)
                rw [er] at hv2 hC2
                exact hQ v τ (C.2.2.1.tr hF) hv2 hC2 (by omega)
            · rw [if_neg d2] at F3
              rw [F3.2, if_neg (fun q => q rfl)]
              exact stop (Or.inr (Or.inr (decide_eq_false (by omega))))
          · rw [if_neg d1] at F1
            rw [F1.2, if_pos rfl]
            exact stop (Or.inr (Or.inr (decide_eq_false (by omega))))
        · rw [if_neg d0] at F0
          rw [F0.2, if_pos rfl]
          exact stop (Or.inr (Or.inr (decide_eq_false (by omega))))
theorem lp_X12_rows {X : zX} {d : Nat} {Q : Option Value → zH → Prop} (hd : 2 ≤ d) {nt : Nat} {e : Nat → Int} {size : Int} (s i most : Int32) (hs6 : 0 ≤ s.toInt ∧ s.toInt < 6) (hm : most.toInt ≤ 6) (hs : size ≤ 60) (hi : 0 ≤ i.toInt) : ∀ (n : Nat) (σ : zS) (k : Int32) (nr : Nat) (N : Nat → Nat → Int) (w5 w7 : Value), HallM σ nr nt N → HallR nr nt N → (gi σ 96 (ix s)).toInt = size → (∀ j, j < 60 → (gl σ 97 (60 * s.toInt.toNat + j)).toInt = e j ∧ -128 ≤ e j ∧ e j ≤ 127) → 0 ≤ k.toInt → k.toInt + n = most.toInt → (∀ (v : Int32) (τ : zS), zFr [67, 68, 69, 70] [(66, 1)] σ τ → v.toInt = (rowsI e size i.toInt n k.toInt.toNat nr N).1 → HallM τ (rowsI e size i.toInt n k.toInt.toNat nr N).2.1 nt (rowsI e size i.toInt n k.toInt.toNat nr N).2.2 → Q (some (.int v)) (zen τ)) → zwp X d MX12_rows 58 [.ref 66, .int s, .int i, .int most, .int k, w5, .null, w7] [] (zen σ) Q := by
  have e0 := l0
  have e1 := l1
  have e2 := l2
  have e3 := l3
  have e6 := l6
  have e60 : (60 : Int32).toInt = 60 := rfl
  have z6 : zin s 6 = true := zin_of hs6.1 (by omega)
  have E0 : (0 : Int64).toInt = 0 := rfl
  have E2 : (2 : Int64).toInt = 2 := rfl
  intro n
  induction n with
  | zero =>
    intro σ k nr N w5 w7 hH hR hsz hE h0 hk hQ
    rw [b_X12_rows_58 (hd := by omega), if_pos (ile.mpr (by omega))]
    unfold rowsI at hQ
    exact hQ _ σ zFr.rf (by omega) hH
  | succ n ih =>
    intro σ k nr N w5 w7 hH hR hsz hE h0 hk hQ
    have h6 := hR.1
    have es : (k + 1).toInt = k.toInt + 1 := t_succ (by omega)
    have er : (k + 1).toInt.toNat = k.toInt.toNat + 1 := by omega
    have ek2 : (k.toInt.toNat : Int) = k.toInt := by omega
    have e3k : (3 * k).toInt = 3 * k.toInt := by rw [t_mul (by rw [e3]; omega), e3]
    have hmx := Int32.toInt_lt i
    unfold rowsI at hQ
    rw [ek2] at hQ
    have stop : (nr = 6 ∨ size ≤ i.toInt + 3 * k.toInt + 2 ∨ okT e (i.toInt + 3 * k.toInt).toNat = false) → Q (some (.int k)) (zen σ) := by
      intro c
      rw [if_pos c] at hQ
      exact hQ k σ zFr.rf (by omega) hH
    have ea : (Int32.toInt64 i + Int32.toInt64 (3 * k)).toInt = i.toInt + 3 * k.toInt := by rw [lg_i2l_add, e3k]
    have ea2 : (Int32.toInt64 i + Int32.toInt64 (3 * k) + 2).toInt = i.toInt + 3 * k.toInt + 2 := by
      rw [Int64.toInt_add, ea, E2]
      exact Int.bmod_eq_of_le (by omega) (by omega)
    rw [b_X12_rows_58 (hd := by omega), if_neg (fun q => by have := ile.mp q; omega), if_neg (fun q => by have := lgc_lt.mp q; rw [ea, E0] at this; omega), ztrue_and z6]
    by_cases c2 : 0 ≤ lg_cmp (Int32.toInt64 i + Int32.toInt64 (3 * k) + 2) (Int32.toInt64 (gi σ 96 (ix s)))
    · have := lgc_ge.mp c2
      rw [ea2, Int32.toInt_toInt64, hsz] at this
      rw [if_pos c2]
      exact stop (Or.inr (Or.inl (by omega)))
    · have h2 : ¬ (size ≤ i.toInt + 3 * k.toInt + 2) := fun q => c2 (lgc_ge.mpr (by rw [ea2, Int32.toInt_toInt64, hsz]; omega))
      rw [if_neg c2]
      by_cases c1 : gi σ 66 1 = 6
      · rw [if_neg (fun q => q c1)]
        exact stop (Or.inl (by have := hH.1; rw [c1, e6] at this; omega))
      · have g1 := hH.1
        have hn6 : nr ≠ 6 := fun q => c1 (ieq.mpr (by rw [g1, q]; rfl))
        rw [if_pos c1]
        generalize hp : (i.toInt + 3 * k.toInt).toNat = p at hQ stop
        have ed : (Int64.toInt32 (Int32.toInt64 i + Int32.toInt64 (3 * k))).toInt = p := by rw [tq_l2i (by rw [ea]; omega), ea]; omega
        have e60s : (60 * s).toInt = 60 * s.toInt := by rw [t_mul (by rw [e60]; omega), e60]
        have eb : (60 * s + Int64.toInt32 (Int32.toInt64 i + Int32.toInt64 (3 * k))).toInt = 60 * s.toInt + p := by rw [t_add (by rw [e60s, ed]; omega), e60s, ed]
        generalize 60 * s + Int64.toInt32 (Int32.toInt64 i + Int32.toInt64 (3 * k)) = q0 at eb
        have eb1 : (q0 + 1).toInt = 60 * s.toInt + p + 1 := by rw [t_add (by rw [eb]; omega), eb, e1]
        have eb2 : (q0 + 2).toInt = 60 * s.toInt + p + 2 := by rw [t_add (by rw [eb]; omega), eb, e2]
        have z0 : zin q0 360 = true := zin_of (by omega) (by omega)
        have z1 : zin (q0 + 1) 360 = true := zin_of (by omega) (by omega)
        have z2 : zin (q0 + 2) 360 = true := zin_of (by omega) (by omega)
        have i0 : ix q0 = 60 * s.toInt.toNat + p := by rw [ix_t, eb]; omega
        have i1 : ix (q0 + 1) = 60 * s.toInt.toNat + (p + 1) := by rw [ix_t, eb1]; omega
        have i2 : ix (q0 + 2) = 60 * s.toInt.toNat + (p + 2) := by rw [ix_t, eb2]; omega
        rw [ztrue_and z0, ztrue_and z0, ztrue_and z1, ztrue_and z1, ztrue_and z2, ztrue_and z2, i0, i1, i2]
        have E0' := hE p (by omega)
        have E1' := hE (p + 1) (by omega)
        have E2' := hE (p + 2) (by omega)
        have b0 : (Int64.toInt32 (gl σ 97 (60 * s.toInt.toNat + p))).toInt = e p := by rw [tq_l2i (by rw [E0'.1]; omega), E0'.1]
        have b1 : (Int64.toInt32 (gl σ 97 (60 * s.toInt.toNat + (p + 1)))).toInt = e (p + 1) := by rw [tq_l2i (by rw [E1'.1]; omega), E1'.1]
        have b2 : (Int64.toInt32 (gl σ 97 (60 * s.toInt.toNat + (p + 2)))).toInt = e (p + 2) := by rw [tq_l2i (by rw [E2'.1]; omega), E2'.1]
        generalize Int64.toInt32 (gl σ 97 (60 * s.toInt.toNat + p)) = x0 at b0
        generalize Int64.toInt32 (gl σ 97 (60 * s.toInt.toNat + (p + 1))) = x1 at b1
        generalize Int64.toInt32 (gl σ 97 (60 * s.toInt.toNat + (p + 2))) = x2 at b2
        have e99 : (99 : Int32).toInt = 99 := rfl
        have e15 := l15
        have e9 := l9
        have z10 : ¬ (1 : Int32) = 0 := by decide
        by_cases d0 : x0.toInt < 0 ∨ 99 < x0.toInt
        · rw [t_in0 (lo := 0) (hi := 99) (by omega), if_pos rfl]
          exact stop (Or.inr (Or.inr (decide_eq_false (by omega))))
        · rw [t_in1 (lo := 0) (hi := 99) (by omega), if_neg z10]
          by_cases d1 : x1.toInt < 0 ∨ 15 < x1.toInt
          · rw [t_in0 (lo := 0) (hi := 15) (by omega), if_pos rfl]
            exact stop (Or.inr (Or.inr (decide_eq_false (by omega))))
          · rw [t_in1 (lo := 0) (hi := 15) (by omega), if_neg z10]
            by_cases d2 : x2.toInt < 0 ∨ 9 < x2.toInt
            · rw [t_in0 (lo := 0) (hi := 9) (by omega), if_neg (fun q => q rfl)]
              exact stop (Or.inr (Or.inr (decide_eq_false (by omega))))
            · rw [t_in1 (lo := 0) (hi := 9) (by omega), if_pos z10]
              have ok : okT e p = true := decide_eq_true (by omega)
              have M := hH.addRow (h := x0) (o := x1) (e := x2) (by omega)
              rw [ztrue_and M.1]
              rw [if_neg (by rw [ok]; simp; omega), ← b0, ← b1, ← b2] at hQ
              have g96 : gi (g_X12_addRow σ x0 x1 x2) 96 (ix s) = gi σ 96 (ix s) := M.2.2.2.1 96 (by simp) (ix s) (by simp)
              have gl97 : ∀ j, gl (g_X12_addRow σ x0 x1 x2) 97 j = gl σ 97 j := fun j => by show (g_X12_addRow σ x0 x1 x2).2 97 j = _; rw [M.2.2.2.2 97 (by simp)]; rfl
              refine ih _ (k + 1) (nr + 1) _ _ _ M.2.2.1 (hR.addR (by omega) (by omega) (by omega) (by omega)) (by rw [g96]; exact hsz) (fun j hj => by rw [gl97]; exact hE j hj) (by omega) (by omega) (fun v τ hF hv2 hC2 => ?_)
              rw [er] at hv2 hC2
              exact hQ v τ (M.2.2.2.tr hF) hv2 hC2
theorem rowsI_0 {e : Nat → Int} {size i : Int} : ∀ (n k nr : Nat) (N : Nat → Nat → Int), (rowsI e size i n k nr N).1 = k → (rowsI e size i n k nr N).2 = (nr, N) := by
  intro n
  cases n with
  | zero => intro k nr N _; rfl
  | succ n =>
    intro k nr N h
    unfold rowsI at h ⊢
    by_cases c : nr = 6 ∨ size ≤ i + 3 * k + 2 ∨ okT e (i + 3 * k).toNat = false
    · rw [if_pos c]
    · rw [if_neg c] at h
      exfalso
      have : ∀ (n k nr : Nat) (N : Nat → Nat → Int), k ≤ (rowsI e size i n k nr N).1 := by
        intro n
        induction n with
        | zero => intro k nr N; exact Nat.le_refl _
        | succ n ih =>
          intro k nr N
          unfold rowsI
          split
          · exact Nat.le_refl _
          · exact Nat.le_trans (Nat.le_succ _) (ih _ _ _)
      have := this n (k + 1) (nr + 1) (addR N nr (e (i + 3 * k).toNat) (e ((i + 3 * k).toNat + 1)) (e ((i + 3 * k).toNat + 2)))
      omega
section OPSF
variable {X : zX} {d : Nat} {σ : zS} {k : Nat}
theorem o_rows (hd : 20 ≤ d) (hk : k ≤ 512) (h : Rel k σ) (a i m : Int32) : zOp k σ X d MX11_rows MX12_rows [.ref 0, .int a, .int i, .int m, .null] [.ref 66, .int a, .int i, .int m, .null, .null, .null, .null] := by
  have hn : Rel (k + 1) σ := by obtain ⟨nr, nt, N, V, I, h⟩ := h; exact h.next
  obtain ⟨nr, nt, N, V, I, h⟩ := h
  have e0 := l0
  have e1 := l1
  have e6 := l6
  have em11 : (-11 : Int32).toInt = -11 := rfl
  have em1 := lm1
  have em2 : (-2 : Int32).toInt = -2 := rfl
  have z10 : ¬ (1 : Int32) = 0 := by decide
  have RS := h.2.2.2.2.2.2.2.1
  have R := refC RS (a := a) (sort := 0) (by omega)
  rw [e0] at R
  by_cases cm : m.toInt < 1 ∨ 6 < m.toInt
  · refine zOp.same hn (x := -1) (fm := -1) (fun Q => ?_) (fun Q => ?_) rfl
    · rw [b_X11_rows_0 (hd := by omega)]
      by_cases c1 : m < 1
      · rw [if_pos c1]
      · have := nil_ c1
        rw [if_neg c1, if_neg (fun q => by have := ile.mp q; omega)]
    · rw [b_X12_rows_0 (hd := by omega)]
      by_cases ca : f_X12_isShelf σ a = 0
      · rw [if_pos ca]
      · rw [if_neg ca, t_in0 (lo := 1) (hi := 6) (by omega), if_neg (fun q => q rfl)]
  · have c1 : ¬ m < 1 := fun q => by have := il.mp q; omega
    have c2 : m ≤ 6 := ile.mpr (by omega)
    by_cases ca : a.toInt < 0 ∨ 6 ≤ a.toInt
    · have hr := R.2
      rw [refI_bad ca] at hr
      refine zOp.same hn (x := f_X11_refusal σ a 0) (fm := -1) (fun Q => ?_) (fun Q => ?_) (ieq.mpr (by rw [hr, em1]))
      · rw [b_X11_rows_0 (hd := by omega), if_neg c1, if_pos c2, ztrue_and R.1, if_pos (fun q => by rw [q] at hr; omega), if_neg (fun q => by rw [q] at hr; omega)]
      · rw [b_X12_rows_0 (hd := by omega), t_isShelfM, if_pos ca, if_pos rfl]
    · have hsh : f_X12_isShelf σ a = 1 := by rw [t_isShelfM, if_neg ca]
      have hz : zin a 6 = true := zin_of (by omega) (by omega)
      have hix := ix_t a
      have hin : f_X12_in σ m 1 6 = 1 := t_in1 (by omega)
      have rd : refI σ a.toInt 0 = if (gi σ 95 (ix a)).toInt = -1 then -11 else if (gi σ 95 (ix a)).toInt = -2 - 0 then 0 else -12 := by unfold refI; rw [if_neg ca, hix]
      by_cases h95 : gi σ 95 (ix a) = -1
      · have q95 : (gi σ 95 (ix a)).toInt = -1 := by rw [h95]; rfl
        rw [if_pos q95] at rd
        have hr := R.2
        rw [rd] at hr
        refine zOp.same hn (x := 0) (fm := 0) (fun Q => ?_) (fun Q => ?_) rfl
        · rw [b_X11_rows_0 (hd := by omega), if_neg c1, if_pos c2, ztrue_and R.1, if_neg (fun q => q (ieq.mpr (by rw [hr, em11])))]
        · rw [b_X12_rows_0 (hd := by omega), hsh, if_neg z10, hin, if_pos z10, ztrue_and hz, if_pos h95, ztrue_and hz, if_neg (fun q => q h95)]
      · have q95 : ¬ (gi σ 95 (ix a)).toInt = -1 := fun q => h95 (ieq.mpr (by rw [q, em1]))
        rw [if_neg q95] at rd
        by_cases h952 : gi σ 95 (ix a) = -2
        · have q952 : (gi σ 95 (ix a)).toInt = -2 := by rw [h952]; rfl
          rw [if_pos (by omega)] at rd
          have hr := R.2
          rw [rd] at hr
          have hr0 : f_X11_refusal σ a 0 = 0 := ieq.mpr (by rw [hr, e0])
          by_cases ci : 0 ≤ i
          · have ci' := ile.mp ci
            have B := RS.bytes rd
            have S1 := RS (ix a) (by omega)
            have hv := h.2.2.1.2.1
            have hv2 := h.2.2.1.2.2.1
            unfold zOp
            rw [b_X11_rows_0 (hd := by omega), if_neg c1, if_pos c2, ztrue_and R.1, if_pos (fun q => by rw [q] at hr; omega), if_pos hr0, if_pos ci, ztrue_and hz, b_X5_addRowsFrom_0 (h2 := zS_at hz)]
            refine lp_X5_addRowsFrom (by omega) (nt := nt) (e := fun j => (gl σ 97 (60 * a.toInt.toNat + j)).toInt) (size := (gi σ (29 + 2 * ix a) 4).toInt) _ (zS_at hz) i m (by omega) (by omega) ⟨S1.1, S1.2.1⟩ m.toInt.toNat σ 0 nr N _ _ _ _ h.1.1 h.1.2.2 rfl (fun j hj => ?_) (by omega) (by omega) hv (by omega) (fun v τ hF hv1 hC hv3 => ?_)
            · have := B.2.2.2 j hj
              rw [hix]
              exact ⟨by rw [this.1], this.2⟩
            · show zwp X d MX11_rows 61 _ [.int v] (zen τ) _
              rw [b_X11_rows_61]
              refine ⟨v, τ, rfl, rfl, ?_⟩
              have hsh2 : f_X12_isShelf τ a = 1 := by rw [t_isShelfM, if_neg ca]
              have hin2 : f_X12_in τ m 1 6 = 1 := t_in1 (by omega)
              have g95 : gi τ 95 (ix a) = gi σ 95 (ix a) := hF.1 95 (by decide) (ix a) (by simp)
              have g96 : gi τ 96 (ix a) = gi σ (29 + 2 * ix a) 4 := (hF.1 96 (by decide) (ix a) (by simp)).trans S1.2.2.1
              have gl97 : ∀ j, gl τ 97 j = gl σ 97 j := fun j => by show τ.2 97 j = _; rw [hF.2 97 (by decide)]; rfl
              rw [b_X12_rows_0 (hd := by omega), hsh2, if_neg z10, hin2, if_pos z10, ztrue_and hz, g95, if_neg h95, ztrue_and hz, if_pos h952, ztrue_and hz, if_pos h95]
              refine lp_X12_rows (by omega) (nt := nt) (e := fun j => (gl σ 97 (60 * a.toInt.toNat + j)).toInt) (size := (gi σ (29 + 2 * ix a) 4).toInt) a i m (by omega) (by omega) S1.2.1 ci' m.toInt.toNat τ 0 nr N _ _ (h.1.2.1.zfr hF (by decide) (by decide)) h.1.2.2 (by rw [g96]) (fun j hj => ?_) (by omega) (by omega) (fun v2 ρ hF2 hv4 hM => ?_)
              · rw [gl97]
                exact ⟨rfl, (B.2.2.2 j hj).2⟩
              · have z0 : (0 : Int).toNat = 0 := rfl
                rw [e0, z0] at hv1 hC hv4 hM
                generalize hrr : rowsI (fun j => (gl σ 97 (60 * a.toInt.toNat + j)).toInt) (gi σ (29 + 2 * ix a) 4).toInt i.toInt m.toInt.toNat 0 nr N = rr at hv1 hC hv4 hM
                have rR := rowsI_R (nt := nt) (e := fun j => (gl σ 97 (60 * a.toInt.toNat + j)).toInt) (size := (gi σ (29 + 2 * ix a) 4).toInt) (i := i.toInt) m.toInt.toNat 0 nr N h.1.2.2
                have r0 := rowsI_0 (e := fun j => (gl σ 97 (60 * a.toInt.toNat + j)).toInt) (size := (gi σ (29 + 2 * ix a) 4).toInt) (i := i.toInt) m.toInt.toNat 0 nr N
                rw [hrr] at rR r0
                refine ⟨by rw [ieq.mpr (hv4.trans hv1.symm)], ρ, rfl, rr.2.1, nt, rr.2.2, V, I, ?_⟩
                obtain ⟨h1, h2, h3, h4, h5, h6', h7, h8, h9⟩ := h
                have hFF : zFr [2, 67, 68, 69, 70] [(1, 1), (1, 3), (66, 1)] σ ρ := (hF.sub (by decide) (by decide)).tr (hF2.sub (by decide) (by decide))
                have e13 : (gi ρ 1 3).toInt = (gi σ 1 3).toInt + v.toInt := by
                  have : gi ρ 1 3 = gi τ 1 3 := hF2.1 1 (by decide) 3 (by decide)
                  rw [this, hv3]; omega
                refine ⟨⟨hC.fr (hF2.c (by decide) (by decide)) (hF2.c (by decide) (by decide)), hM, rR.1⟩, h2.zfr hFF (by decide), ⟨?_, by omega, by rw [Int.natCast_add]; omega, ?_⟩, h4.zfr hFF (by decide), h5.zfr hFF (by decide), (h6'.zfr hFF (by decide)).more (by omega) (by omega), h7.zfr hFF (by decide), h8.zfr hFF (by decide), h9.zfr hFF (by decide)⟩
                · by_cases hz0 : rr.1 = 0
                  · have r00 := r0 hz0
                    rw [show rr.2.1 = nr from by rw [r00], show rr.2.2 = N from by rw [r00]]
                    exact h3.1.fr (hFF.c (by decide) (by decide)) (hFF.c (by decide) (by decide)) (hFF.c (by decide) (by decide)) (ieq.mpr (by rw [e13]; omega))
                  · have c13 : ρ.1 13 = σ.1 13 := hFF.c (by decide) (by decide)
                    have g : ∀ j, gi ρ 13 j = gi σ 13 j := fun j => by show ρ.1 13 j = _; rw [c13]; rfl
                    have q2 := h3.1.2.1
                    refine ⟨by rw [g]; exact h3.1.1, by rw [g]; omega, by rw [g]; exact h3.1.2.2.1, fun q => ?_⟩
                    rw [g] at q
                    have := congrArg Int32.toInt q
                    omega
                · rw [hFF.1 66 (by decide) 36 (by decide)]; exact h3.2.2.2
          · have ci' := nile ci
            refine zOp.same hn (x := 0) (fm := 0) (fun Q => ?_) (fun Q => ?_) rfl
            · rw [b_X11_rows_0 (hd := by omega), if_neg c1, if_pos c2, ztrue_and R.1, if_pos (fun q => by rw [q] at hr; omega), if_pos hr0, if_neg ci]
            · have E0 : (0 : Int64).toInt = 0 := rfl
              rw [b_X12_rows_0 (hd := by omega), hsh, if_neg z10, hin, if_pos z10, ztrue_and hz, if_neg h95, ztrue_and hz, if_pos h952, ztrue_and hz, if_pos h95, b_X12_rows_58 (hd := by omega), if_neg (fun q => by have := ile.mp q; omega), if_pos (lgc_lt.mpr (by rw [lg_i2l_add, E0]; have : (3 * (0 : Int32)).toInt = 0 := rfl; omega))]
        · have q952 : ¬ (gi σ 95 (ix a)).toInt = -2 - 0 := fun q => h952 (ieq.mpr (by rw [q, em2]; omega))
          rw [if_neg q952] at rd
          have hr := R.2
          rw [rd] at hr
          have em12 : (-12 : Int32).toInt = -12 := rfl
          refine zOp.same hn (x := f_X11_refusal σ a 0) (fm := -12) (fun Q => ?_) (fun Q => ?_) (ieq.mpr (by rw [hr, em12]))
          · rw [b_X11_rows_0 (hd := by omega), if_neg c1, if_pos c2, ztrue_and R.1, if_pos (fun q => by rw [q] at hr; omega), if_neg (fun q => by rw [q] at hr; omega)]
          · rw [b_X12_rows_0 (hd := by omega), hsh, if_neg z10, hin, if_pos z10, ztrue_and hz, if_neg h95, ztrue_and hz, if_neg h952]
theorem HallC.addTurn {nr nt : Nat} {N : Nat → Nat → Int} {g l : Int32} (hH : HallC σ nr nt N) (hR : HallR nr nt N) (h8 : nt < 8) : p_X5_addTurn σ g l ∧ HallC (g_X5_addTurn σ g l) nr (nt + 1) (addT N nt g.toInt l.toInt) ∧ zFr [2] [(1, 2), (1, 3)] σ (g_X5_addTurn σ g l) ∧ gi (g_X5_addTurn σ g l) 1 3 = gi σ 1 3 + 1 := by
  have h1 := hH.2.1
  have e32 : (32 : Int32).toInt = 32 := rfl
  have e40 : (40 : Int32).toInt = 40 := rfl
  have s32 : (32 + gi σ 1 2).toInt = 32 + nt := by rw [t_add (by omega), h1, e32]
  have s40 : (40 + gi σ 1 2).toInt = 40 + nt := by rw [t_add (by omega), h1, e40]
  refine ⟨⟨zin_of (by omega) (by omega), zin_of (by omega) (by omega)⟩, ?_, ?_, ?_⟩
  · unfold g_X5_addTurn
    rw [ix_t, ix_t, s32, s40]
    rw [show (32 + (nt : Int)).toNat = 32 + nt by omega, show (40 + (nt : Int)).toNat = 40 + nt by omega]
    refine ⟨?_, ?_, fun w i hm => ?_⟩
    · rw [gi_si_j (by decide), gi_si_j (by decide)]; exact hH.1
    · rw [gi_si, t_succ (by omega), h1]; omega
    · have hi8 : i < 8 := by have := hR.1; unfold zmean at hm; omega
      have hw10 : w < 10 := by unfold zmean at hm; omega
      rw [gi_si_ne (by decide), gi_si_ne (by decide), gi_all, gi_all]
      by_cases c : i = nt ∧ 4 ≤ w ∧ w < 6
      · have hw : w = 4 ∨ w = 5 := by omega
        rw [c.1]
        rcases hw with q | q <;> rw [q]
        · rw [if_neg (by omega), if_pos (by omega), addT_at.1]
        · rw [if_pos (by omega), addT_at.2]
      · rw [if_neg (by omega), if_neg (by omega), addT_ne c]
        refine hH.2.2 w i ?_
        unfold zmean at *
        omega
  · unfold g_X5_addTurn
    exact (((zFr.rf.ws (by decide)).ws (by decide)).sf (by decide)).sf (by decide)
  · unfold g_X5_addTurn
    rw [gi_si_j (by decide), gi_si]
def gMT (τ : zS) (nt : Nat) (a b : Int32) : zS := si (si (si τ 71 nt a) 72 nt b) 66 6 (gi τ 66 6 + 1)
theorem HallM.addTurn {τ : zS} {nr nt : Nat} {N : Nat → Nat → Int} {g l : Int32} (hM1 : HallM τ nr nt N) (h8 : nt < 8) : HallM (gMT τ nt g l) nr (nt + 1) (addT N nt g.toInt l.toInt) ∧ zFr [71, 72] [(66, 6)] τ (gMT τ nt g l) := by
  have hs := hM1.2.2.2.2
  have g6 := hM1.2.1
  have s6 : (gi τ 66 6 + 1).toInt = nt + 1 := by rw [t_succ (by omega), g6]
  unfold gMT
  refine ⟨⟨hM1.1, by rw [gi_si, s6]; omega, fun i hi => ?_, fun i hi => ?_, ?_, ?_, ?_, ?_⟩, ((zFr.rf.ws (by decide)).ws (by decide)).sf (by decide)⟩
  · rw [addT_ne (by omega), addT_ne (by omega), addT_ne (by omega), addT_ne (by omega)]; exact hM1.2.2.1 i hi
  · by_cases c : i = nt
    · rw [c, addT_at.1, addT_at.2]
      refine ⟨?_, ?_⟩
      · rw [gi_si_ne (by decide), gi_si_ne (by decide), gi_si]
      · rw [gi_si_ne (by decide), gi_si]
    · have := hM1.2.2.2.1 i (by omega)
      rw [addT_ne (by omega), addT_ne (by omega)]
      refine ⟨?_, ?_⟩
      · rw [gi_si_ne (by decide), gi_si_ne (by decide), gi_si_j c]; exact this.1
      · rw [gi_si_ne (by decide), gi_si_j c]; exact this.2
  · rw [addT_ne (by omega)]; exact hs.1
  · rw [addT_ne (by omega)]; exact hs.2.1
  · rw [addT_ne (by omega)]; exact hs.2.2.1
  · rw [addT_ne (by omega)]; exact hs.2.2.2
theorem o_turn (hd : 20 ≤ d) (hk : k ≤ 512) (h : Rel k σ) (a b : Int32) : zOp k σ X d MX11_turn MX12_turn [.ref 0, .int a, .int b] [.ref 66, .int a, .int b] := by
  have hn : Rel (k + 1) σ := by obtain ⟨nr, nt, N, V, I, h⟩ := h; exact h.next
  obtain ⟨nr, nt, N, V, I, h⟩ := h
  have e0 := l0
  have e1 := l1
  have e9 := l9
  have e60 : (60 : Int32).toInt = 60 := rfl
  have e8 := l8
  have z10 : ¬ (1 : Int32) = 0 := by decide
  have F0 := fits_eq (σ := σ) (w := 4) (v := a) (by have := l4; omega)
  have F1 := fits_eq (σ := σ) (w := 5) (v := b) (by have := l5; omega)
  rw [show zloB (Int32.toInt 4).toNat = 0 from rfl, show zhiB (Int32.toInt 4).toNat = 9 from rfl] at F0
  rw [show zloB (Int32.toInt 5).toNat = 1 from rfl, show zhiB (Int32.toInt 5).toNat = 60 from rfl] at F1
  by_cases ca : 0 ≤ a.toInt ∧ a.toInt ≤ 9
  · rw [if_pos ca] at F0
    have ma : ∀ τ, f_X12_in τ a 0 9 = 1 := fun τ => t_in1 (by omega)
    by_cases cb : 1 ≤ b.toInt ∧ b.toInt ≤ 60
    · rw [if_pos cb] at F1
      have mb : ∀ τ, f_X12_in τ b 1 60 = 1 := fun τ => t_in1 (by omega)
      have r1 := h.1.1.2.1
      have r2 := h.1.2.1.2.1
      have n8 := h.1.2.2.2.1
      by_cases cn : nt = 8
      · have c1 : gi σ 1 2 = 8 := ieq.mpr (by rw [r1, cn]; rfl)
        have c2 : gi σ 66 6 = 8 := ieq.mpr (by rw [r2, cn]; rfl)
        refine zOp.same hn (x := -3) (fm := -3) (fun Q => ?_) (fun Q => ?_) rfl
        · have q : g_X11_turn σ a b = σ ∧ f_X11_turn σ a b = -3 ∧ p_X11_turn σ a b := by
            unfold g_X11_turn f_X11_turn p_X11_turn
            rw [F0.2, F1.2]
            rw [if_neg z10, if_neg z10, if_neg z10, if_pos z10, if_pos z10, if_pos z10, if_neg (fun q => q c1), if_neg (fun q => q c1), if_neg (fun q => q c1)]
            exact ⟨rfl, rfl, F0.1, F1.1, trivial⟩
          rw [s_X11_turn (hd := by omega), q.1, q.2.1, ztrue_and q.2.2]
        · have q : g_X12_turn σ a b = σ ∧ f_X12_turn σ a b = -3 ∧ p_X12_turn σ a b := by
            unfold g_X12_turn f_X12_turn p_X12_turn
            rw [ma, mb]
            rw [if_neg z10, if_neg z10, if_neg z10, if_pos z10, if_pos z10, if_pos z10, if_neg (fun q => q c2), if_neg (fun q => q c2), if_neg (fun q => q c2)]
            exact ⟨rfl, rfl, trivial⟩
          rw [s_X12_turn (hd := by omega), q.1, q.2.1, ztrue_and q.2.2]
      · have c1 : ¬ gi σ 1 2 = 8 := fun q => cn (by rw [q, e8] at r1; omega)
        have C := h.1.1.addTurn (g := a) (l := b) h.1.2.2 (by omega)
        have hM1 : HallM (g_X5_addTurn σ a b) nr nt N := h.1.2.1.zfr C.2.2.1 (by decide) (by decide)
        have g6 : (gi (g_X5_addTurn σ a b) 66 6).toInt = nt := hM1.2.1
        have c2 : ¬ gi (g_X5_addTurn σ a b) 66 6 = 8 := fun q => cn (by rw [q, e8] at g6; omega)
        have z : zin (gi (g_X5_addTurn σ a b) 66 6) 8 = true := zin_of (by omega) (by omega)
        have i6 : ix (gi (g_X5_addTurn σ a b) 66 6) = nt := by rw [ix_t, g6]; omega
        have s6 : (gi (g_X5_addTurn σ a b) 66 6 + 1).toInt = nt + 1 := by rw [t_succ (by omega), g6]
        have M0 := hM1.addTurn (g := a) (l := b) (by omega)
        have M := M0.1
        have hF2 := M0.2
        have hFF : zFr [2, 71, 72] [(1, 2), (1, 3), (66, 6)] σ (gMT (g_X5_addTurn σ a b) nt a b) := (C.2.2.1.sub (by decide) (by decide)).tr (hF2.sub (by decide) (by decide))
        refine zOp.sum2 (gc := (g_X5_addTurn σ a b)) (gm := gMT (g_X5_addTurn σ a b) nt a b) (fc := gi σ 1 2) (fm := gi (g_X5_addTurn σ a b) 66 6 + 1 - 1) (pc := True) (pm := True) (fun Q => and_true_eq ?_) (fun Q => and_true_eq ?_) trivial trivial (ieq.mpr (by rw [t_sub (by rw [s6]; omega), s6, r1, e1]; omega)) ⟨nr, nt + 1, addT N nt a.toInt b.toInt, V, I, ?_⟩
        · have q : g_X11_turn σ a b = (g_X5_addTurn σ a b) ∧ f_X11_turn σ a b = gi σ 1 2 ∧ p_X11_turn σ a b := by
            unfold g_X11_turn f_X11_turn p_X11_turn
            rw [F0.2, F1.2]
            rw [if_neg z10, if_neg z10, if_neg z10, if_pos z10, if_pos z10, if_pos z10, if_pos c1, if_pos c1, if_pos c1]
            exact ⟨rfl, rfl, F0.1, F1.1, C.1⟩
          rw [s_X11_turn (hd := by omega), q.1, q.2.1, ztrue_and q.2.2]
        · have q : g_X12_turn (g_X5_addTurn σ a b) a b = gMT (g_X5_addTurn σ a b) nt a b ∧ f_X12_turn (g_X5_addTurn σ a b) a b = gi (g_X5_addTurn σ a b) 66 6 + 1 - 1 ∧ p_X12_turn (g_X5_addTurn σ a b) a b := by
            unfold g_X12_turn f_X12_turn p_X12_turn
            rw [ma, mb]
            rw [if_neg z10, if_neg z10, if_neg z10, if_pos z10, if_pos z10, if_pos z10, if_pos c2, if_pos c2, if_pos c2, i6]
            exact ⟨rfl, rfl, z, z⟩
          rw [s_X12_turn (hd := by omega), q.1, q.2.1, ztrue_and q.2.2]
        · obtain ⟨h1, h2, h3, h4, h5, h6', h7, h8, h9⟩ := h
          have hv := h3.2.1
          have hv2 := h3.2.2.1
          have e13 : (gi (gMT (g_X5_addTurn σ a b) nt a b) 1 3).toInt = (gi σ 1 3).toInt + 1 := by
            rw [hF2.1 1 (by decide) 3 (by decide), C.2.2.2, t_succ (by omega)]
          refine ⟨⟨C.2.1.fr (hF2.c (by decide) (by decide)) (hF2.c (by decide) (by decide)), M, h1.2.2.addT (by omega) ca cb⟩, h2.zfr hFF (by decide), ⟨h3.1.bump (hFF.c (by decide) (by decide)) e13, by omega, by rw [Int.natCast_add]; omega, ?_⟩, (h4.zfr hFF (by decide)).more (by omega), (h5.zfr hFF (by decide)).more (by omega), (h6'.zfr hFF (by decide)).more (by omega) (by omega), h7.zfr hFF (by decide), h8.zfr hFF (by decide), h9.zfr hFF (by decide)⟩
          rw [hFF.1 66 (by decide) 36 (by decide)]; exact h3.2.2.2
    · rw [if_neg cb] at F1
      have mb : f_X12_in σ b 1 60 = 0 := t_in0 (by omega)
      refine zOp.same hn (x := -1) (fm := -1) (fun Q => ?_) (fun Q => ?_) rfl
      · have q : g_X11_turn σ a b = σ ∧ f_X11_turn σ a b = -1 ∧ p_X11_turn σ a b := by
          unfold g_X11_turn f_X11_turn p_X11_turn
          rw [F0.2, F1.2]
          rw [if_neg z10, if_neg z10, if_neg z10, if_neg (fun q => q rfl), if_neg (fun q => q rfl), if_neg (fun q => q rfl)]
          exact ⟨rfl, rfl, F0.1, F1.1, trivial⟩
        rw [s_X11_turn (hd := by omega), q.1, q.2.1, ztrue_and q.2.2]
      · have q : g_X12_turn σ a b = σ ∧ f_X12_turn σ a b = -1 ∧ p_X12_turn σ a b := by
          unfold g_X12_turn f_X12_turn p_X12_turn
          rw [ma, mb]
          rw [if_neg z10, if_neg z10, if_neg z10, if_neg (fun q => q rfl), if_neg (fun q => q rfl), if_neg (fun q => q rfl)]
          exact ⟨rfl, rfl, trivial⟩
        rw [s_X12_turn (hd := by omega), q.1, q.2.1, ztrue_and q.2.2]
  · rw [if_neg ca] at F0
    have ma : f_X12_in σ a 0 9 = 0 := t_in0 (by omega)
    refine zOp.same hn (x := -1) (fm := -1) (fun Q => ?_) (fun Q => ?_) rfl
    · have q : g_X11_turn σ a b = σ ∧ f_X11_turn σ a b = -1 ∧ p_X11_turn σ a b := by
        unfold g_X11_turn f_X11_turn p_X11_turn
        rw [F0.2, if_pos rfl, if_pos rfl, if_pos rfl]
        exact ⟨rfl, rfl, F0.1, trivial⟩
      rw [s_X11_turn (hd := by omega), q.1, q.2.1, ztrue_and q.2.2]
    · have q : g_X12_turn σ a b = σ ∧ f_X12_turn σ a b = -1 ∧ p_X12_turn σ a b := by
        unfold g_X12_turn f_X12_turn p_X12_turn
        rw [ma, if_pos rfl, if_pos rfl, if_pos rfl]
        exact ⟨rfl, rfl, trivial⟩
      rw [s_X12_turn (hd := by omega), q.1, q.2.1, ztrue_and q.2.2]
end OPSF
