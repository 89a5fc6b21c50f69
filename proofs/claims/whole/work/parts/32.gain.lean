/-! what hands give: the class -/
abbrev zV : Type := Option ((Nat → Int32) → Int32)
def factsI (N : Nat → Nat → Int) (r t p : Nat) (i : Int) : Nat → Int32 := fun j => Int32.ofInt (if j = 0 then N 4 t else if j = 1 then N 0 r else if j = 2 then N 2 r else if j = 3 then N 3 r else if j = 4 then (if 0 ≤ N 1 r - p then N 1 r - p else -(N 1 r - p)) else i)
def rowV (V : zV) (f : Nat → Int32) : Int32 := match V with
  | none => ((f 0 - f 3) * f 1) / (f 4 + 1) / 4
  | some v => v f
def rowG (V : zV) (N : Nat → Nat → Int) (r t p : Nat) (i : Int) : Int := max (-99) (min 99 (rowV V (factsI N r t p i)).toInt)
def gainR (V : zV) (N : Nat → Nat → Int) (lo : Int) (t p : Nat) (i : Int) : Nat → Nat → Int
  | 0, _ => 0
  | n + 1, r => (if (r : Int) = lo then 0 else rowG V N r t p i) + gainR V N lo t p i n (r + 1)
theorem rowG_b (V : zV) (N : Nat → Nat → Int) (r t p : Nat) (i : Int) : -99 ≤ rowG V N r t p i ∧ rowG V N r t p i ≤ 99 := by unfold rowG; omega
theorem gainR_b (V : zV) (N : Nat → Nat → Int) (lo : Int) (t p : Nat) (i : Int) : ∀ n r : Nat, -(99 * (n : Int)) ≤ gainR V N lo t p i n r ∧ gainR V N lo t p i n r ≤ 99 * n := by
  intro n
  induction n with
  | zero => intro r; unfold gainR; omega
  | succ n ih =>
    intro r
    have h1 := ih (r + 1)
    have h2 := rowG_b V N r t p i
    unfold gainR
    split <;> omega
def zLawV (σ : zS) (v : (Nat → Int32) → Int32) : Prop := ∀ τ : zS, τ.1 3 = σ.1 3 → τ.1 4 = σ.1 4 → τ.1 5 = σ.1 5 → ∀ (X : zX) (d : Nat) (Q : Option Value → zH → Prop), (∀ f, Q (some (.int (v (τ.1 14)))) (zen (sA τ 6 f))) → zwp X d MX6_value 0 [.ref 3, .ref 14, .null, .null, .null, .null, .null, .null] [] (zen τ) Q
def zext6 (v : (Nat → Int32) → Int32) : Prop := ∀ f g : Nat → Int32, (∀ j, j < 6 → f j = g j) → v f = v g
def zext5 (v : (Nat → Int32) → Int32) : Prop := ∀ f g : Nat → Int32, (∀ j, j < 5 → f j = g j) → v f = v g
def LawC (σ : zS) (V : zV) : Prop := match V with
  | none => gi σ 3 3 = 0 ∧ gi σ 3 4 = 0
  | some v => ¬ gi σ 3 3 = 0 ∧ zLawV σ v ∧ zext6 v ∧ (gi σ 3 4 = 0 → zext5 v)
theorem LawC.fr {σ τ : zS} {V : zV} (h : LawC σ V) (h3 : τ.1 3 = σ.1 3) (h4 : τ.1 4 = σ.1 4) (h5 : τ.1 5 = σ.1 5) : LawC τ V := by
  cases V with
  | none => unfold LawC gi at *; rw [h3]; exact h
  | some v =>
    unfold LawC gi at *
    rw [h3]
    exact ⟨h.1, fun ρ e3 e4 e5 => h.2.1 ρ (e3.trans h3) (e4.trans h4) (e5.trans h5), h.2.2⟩
theorem LawC.ext {σ : zS} {V : zV} (h : LawC σ V) {f g : Nat → Int32} (e : ∀ j, j < 6 → f j = g j) : rowV V f = rowV V g := by
  cases V with
  | none => unfold rowV; dsimp only; rw [e 0 (by omega), e 1 (by omega), e 3 (by omega), e 4 (by omega)]
  | some v => exact h.2.2.1 f g e
theorem LawC.ext5 {σ : zS} {V : zV} (h : LawC σ V) (hl : gi σ 3 4 = 0) {f g : Nat → Int32} (e : ∀ j, j < 5 → f j = g j) : rowV V f = rowV V g := by
  cases V with
  | none => unfold rowV; dsimp only; rw [e 0 (by omega), e 1 (by omega), e 3 (by omega), e 4 (by omega)]
  | some v => exact h.2.2.2 hl f g e
theorem LawC.gain {σ : zS} {V : zV} (h : LawC σ V) (hl : gi σ 3 4 = 0) (N : Nat → Nat → Int) (lo : Int) (t p : Nat) (i i' : Int) : ∀ n r, gainR V N lo t p i n r = gainR V N lo t p i' n r := by
  intro n
  induction n with
  | zero => intro r; rfl
  | succ n ih =>
    intro r
    unfold gainR
    rw [ih]
    have : rowG V N r t p i = rowG V N r t p i' := by
      unfold rowG
      rw [h.ext5 hl (f := factsI N r t p i) (g := factsI N r t p i')]
      intro j hj
      unfold factsI
      match j, hj with
      | 0, _ => rfl
      | 1, _ => rfl
      | 2, _ => rfl
      | 3, _ => rfl
      | 4, _ => rfl
    rw [this]
theorem getp {σ : zS} {w i : Int32} (hw : 0 ≤ w.toInt ∧ w.toInt < 10) (hi : 0 ≤ i.toInt ∧ i.toInt < 8) : p_X5_get σ w i := by
  unfold p_X5_get
  have e8 : (8 : Int32).toInt = 8 := rfl
  have e1 : (w * 8).toInt = w.toInt * 8 := by rw [t_mul (by rw [e8]; omega), e8]
  have e2 : (w * 8 + i).toInt = w.toInt * 8 + i.toInt := by rw [t_add (by rw [e1]; omega), e1]
  exact zin_of (by omega) (by omega)
theorem getf {σ : zS} {w i : Int32} (hw : 0 ≤ w.toInt ∧ w.toInt < 10) (hi : 0 ≤ i.toInt ∧ i.toInt < 8) : f_X5_get σ w i = gi σ 2 (8 * w.toInt.toNat + i.toInt.toNat) := by
  unfold f_X5_get
  have e8 : (8 : Int32).toInt = 8 := rfl
  have e1 : (w * 8).toInt = w.toInt * 8 := by rw [t_mul (by rw [e8]; omega), e8]
  have e2 : (w * 8 + i).toInt = w.toInt * 8 + i.toInt := by rw [t_add (by rw [e1]; omega), e1]
  rw [ix_t, e2, show (w.toInt * 8 + i.toInt).toNat = 8 * w.toInt.toNat + i.toInt.toNat by omega]
theorem HallC.getR {σ : zS} {nr nt : Nat} {N : Nat → Nat → Int} (hH : HallC σ nr nt N) (hR : HallR nr nt N) {w i : Int32} {k : Nat} (hk : w.toInt = k) (h4 : k < 4) (hi : 0 ≤ i.toInt ∧ i.toInt < nr) : p_X5_get σ w i ∧ (f_X5_get σ w i).toInt = N k i.toInt.toNat := by
  have := hR.1
  refine ⟨getp (by omega) (by omega), ?_⟩
  rw [getf (by omega) (by omega), show w.toInt.toNat = k by omega]
  exact hH.2.2 k _ (Or.inl (by omega))
theorem HallC.getT {σ : zS} {nr nt : Nat} {N : Nat → Nat → Int} (hH : HallC σ nr nt N) (hR : HallR nr nt N) {w i : Int32} {k : Nat} (hk : w.toInt = k) (h4 : 4 ≤ k ∧ k < 6) (hi : 0 ≤ i.toInt ∧ i.toInt < nt) : p_X5_get σ w i ∧ (f_X5_get σ w i).toInt = N k i.toInt.toNat := by
  have := hR.2.1
  refine ⟨getp (by omega) (by omega), ?_⟩
  rw [getf (by omega) (by omega), show w.toInt.toNat = k by omega]
  exact hH.2.2 k _ (Or.inr (Or.inl (by omega)))
theorem HallC.getS {σ : zS} {nr nt : Nat} {N : Nat → Nat → Int} (hH : HallC σ nr nt N) {w : Int32} {k : Nat} (hk : w.toInt = k) (h4 : 6 ≤ k ∧ k < 10) : p_X5_get σ w 0 ∧ (f_X5_get σ w 0).toInt = N k 0 := by
  have e0 : (0 : Int32).toInt = 0 := rfl
  refine ⟨getp (by omega) (by omega), ?_⟩
  rw [getf (by omega) (by omega), show w.toInt.toNat = k by omega, e0]
  exact hH.2.2 k _ (Or.inr (Or.inr (by omega)))
theorem lp_X0_given {X : zX} {d : Nat} {Q : Option Value → zH → Prop} (hd : 2 ≤ d) {nr nt : Nat} {N : Nat → Nat → Int} {V : zV} {lo : Int} (hR : HallR nr nt N) (t p : Nat) (i : Int) (a1 plank there from_ ahead : Int32) (ht : t < nt) (hp : p < 16) (hpl : plank.toInt = p) (hah : ahead.toInt ≤ nr) (hi : 0 ≤ i ∧ i ≤ 999) : ∀ (n : Nat) (σ : zS) (r acc : Int32) (w8 : Value), HallC σ nr nt N → LawC σ V → (gi σ 13 6).toInt = lo → gi σ 14 0 = Int32.ofInt (N 4 t) → gi σ 14 5 = Int32.ofInt i → 0 ≤ r.toInt → r.toInt + n = ahead.toInt → -1000000 + 99 * n ≤ acc.toInt → acc.toInt ≤ 1000000 - 99 * n → (∀ (v : Int32) (τ : zS), zFr [6, 14] [] σ τ → v.toInt = acc.toInt + gainR V N lo t p i n r.toInt.toNat → Q (some (.int v)) (zen τ)) → zwp X d MX0_given 29 [.ref 13, .int a1, .int plank, .int there, .int from_, .int ahead, .int acc, .int r, w8] [] (zen σ) Q := by
  intro n
  induction n with
  | zero =>
    intro σ r acc w8 hH hL hlo g0 g5 h0 hn b1 b2 hQ
    rw [b_X0_given_29 (hd := by omega), if_pos (ile.mpr (by omega))]
    refine hQ acc σ zFr.rf ?_
    unfold gainR; omega
  | succ n ih =>
    intro σ r acc w8 hH hL hlo g0 g5 h0 hn b1 b2 hQ
    have h6 := hR.1
    have es : (r + 1).toInt = r.toInt + 1 := t_succ (by omega)
    have er : (r + 1).toInt.toNat = r.toInt.toNat + 1 := by omega
    have er2 : (r.toInt.toNat : Int) = r.toInt := by omega
    rw [b_X0_given_29 (hd := by omega), if_neg (fun q => by have := ile.mp q; omega)]
    unfold gainR at hQ
    by_cases hc : r = gi σ 13 6
    · have hc' : (r.toInt.toNat : Int) = lo := by rw [er2, hc, hlo]
      rw [if_pos hc]
      refine ih σ (r + 1) acc w8 hH hL hlo g0 g5 (by omega) (by omega) (by omega) (by omega) (fun v τ hF hv => hQ v τ hF ?_)
      rw [if_pos hc', hv, er]; omega
    · have hc' : ¬ (r.toInt.toNat : Int) = lo := by rw [er2, ← hlo]; exact fun q => hc (ieq.mpr q)
      have hb := rowG_b V N r.toInt.toNat t p i
      have hrn : 0 ≤ r.toInt ∧ r.toInt < nr := by omega
      have G0 := hH.getR hR (w := 0) (k := 0) rfl (by omega) hrn
      have G1 := hH.getR hR (w := 1) (k := 1) rfl (by omega) hrn
      have G2 := hH.getR hR (w := 2) (k := 2) rfl (by omega) hrn
      have G3 := hH.getR hR (w := 3) (k := 3) rfl (by omega) hrn
      rw [if_neg hc, ztrue_and G0.1, ztrue_and G2.1, ztrue_and G3.1, ztrue_and G1.1]
      generalize hnm : upd (upd (upd (upd (σ.1 14) 1 (f_X5_get σ 0 r)) 2 (f_X5_get σ 2 r)) 3 (f_X5_get σ 3 r)) 4 (zab (f_X5_get σ 1 r - plank)) = nm
      have eS : si (si (si (si σ 14 (ix 1) (f_X5_get σ 0 r)) 14 (ix 2) (f_X5_get σ 2 r)) 14 (ix 3) (f_X5_get σ 3 r)) 14 (ix 4) (zab (f_X5_get σ 1 r - plank)) = sA σ 14 nm := by
        rw [si_eq σ, si_sA, si_sA, si_sA]; rw [← hnm]; rfl
      rw [eS]
      have bN1 := hR.2.2 1 r.toInt.toNat (Or.inl (by omega))
      have z1 : zhiB 1 = 15 := rfl
      have z1' : zloB 1 = 0 := rfl
      rw [z1, z1'] at bN1
      have ed : (zab (f_X5_get σ 1 r - plank)).toInt = if 0 ≤ N 1 r.toInt.toNat - p then N 1 r.toInt.toNat - p else -(N 1 r.toInt.toNat - p) := by
        have e1 : (f_X5_get σ 1 r - plank).toInt = N 1 r.toInt.toNat - p := by rw [t_sub (by rw [G1.2, hpl]; omega), G1.2, hpl]
        rw [t_zab (by rw [e1]; omega), e1]
      have hnf : ∀ j, j < 6 → nm j = factsI N r.toInt.toNat t p i j := by
        intro j hj
        rw [← hnm]
        unfold factsI
        match j, hj with
        | 0, _ => exact g0
        | 1, _ => exact of_t G0.2
        | 2, _ => exact of_t G2.2
        | 3, _ => exact of_t G3.2
        | 4, _ => exact of_t ed
        | 5, _ => exact g5
      have go : ∀ (x : Int32) (τ : zS) (w : Value), zFr [6, 14] [] σ τ → τ.1 14 = nm → x = rowV V nm → zwp X d MX0_given 29 [.ref 13, .int a1, .int plank, .int there, .int from_, .int ahead, .int (acc + zmx (-99) (zmn 99 x)), .int (r + 1), w] [] (zen τ) Q := by
        intro x τ w hF hτ hx
        have ev : (zmx (-99) (zmn 99 x)).toInt = rowG V N r.toInt.toNat t p i := by
          rw [t_zmx, t_zmn, hx, hL.ext hnf]
          rfl
        have ea : (acc + zmx (-99) (zmn 99 x)).toInt = acc.toInt + rowG V N r.toInt.toNat t p i := by rw [t_add (by rw [ev]; omega), ev]
        have c1 : τ.1 1 = σ.1 1 := hF.c (by decide) (by simp)
        have c2 : τ.1 2 = σ.1 2 := hF.c (by decide) (by simp)
        have c3 : τ.1 3 = σ.1 3 := hF.c (by decide) (by simp)
        have c4 : τ.1 4 = σ.1 4 := hF.c (by decide) (by simp)
        have c5 : τ.1 5 = σ.1 5 := hF.c (by decide) (by simp)
        have c13 : τ.1 13 = σ.1 13 := hF.c (by decide) (by simp)
        refine ih τ (r + 1) _ w (hH.fr c1 c2) (hL.fr c3 c4 c5) (by unfold gi; rw [c13]; exact hlo) ?_ ?_ (by omega) (by omega) (by omega) (by omega) (fun v ρ hF2 hv => hQ v ρ (hF.tr hF2) ?_)
        · show τ.1 14 0 = _
          rw [hτ, ← hnm]; exact g0
        · show τ.1 14 5 = _
          rw [hτ, ← hnm]; exact g5
        · rw [hv, ea, if_neg hc', er]; omega
      have f14 : zFr [6, 14] [] σ (sA σ 14 nm) := zFr.rf.wA (by decide)
      cases V with
      | none =>
        have hl0 := hL.1
        rw [if_neg (fun q => q hl0)]
        have hd4 : nm 4 = zab (f_X5_get σ 1 r - plank) := by rw [← hnm]; rfl
        have hp4 : p_X0_givenWithoutText (sA σ 14 nm) := by
          unfold p_X0_givenWithoutText
          rw [decide_eq_true_eq]
          intro q
          have e4 : gi (sA σ 14 nm) 14 (ix 4) = nm 4 := gi_sA
          have e1 : (1 : Int32).toInt = 1 := rfl
          rw [e4, hd4] at q
          have := congrArg Int32.toInt q
          rw [t_add (by rw [ed, e1]; split <;> omega), ed, e1] at this
          have e0 : (0 : Int32).toInt = 0 := rfl
          rw [e0] at this
          split at this <;> omega
        rw [ztrue_and hp4]
        refine go _ _ _ f14 (sA_1 σ 14 nm) ?_
        unfold f_X0_givenWithoutText
        rw [gi_sA, gi_sA, gi_sA, gi_sA]
        rfl
      | some v =>
        rw [if_pos hL.1]
        have c3 : (sA σ 14 nm).1 3 = σ.1 3 := c_sA_ne (by decide)
        refine hL.2.1 (sA σ 14 nm) c3 (c_sA_ne (by decide)) (c_sA_ne (by decide)) X (d - 1) _ (fun f => ?_)
        show zwp X d MX0_given 142 _ [.int (v ((sA σ 14 nm).1 14))] _ Q
        rw [b_X0_given_142]
        refine go _ _ _ (f14.wA (by decide)) ?_ ?_
        · rw [c_sA_ne (by decide), sA_1]
        · rw [sA_1]; rfl
theorem w_X0_given {X : zX} {d : Nat} {Q : Option Value → zH → Prop} (hd : 2 ≤ d) {σ : zS} {nr nt : Nat} {N : Nat → Nat → Int} {V : zV} {lo : Int} (hR : HallR nr nt N) (hH : HallC σ nr nt N) (hL : LawC σ V) (hlo : (gi σ 13 6).toInt = lo) {t p n : Nat} {i : Int} {turn plank there from_ ahead : Int32} (ht : t < nt) (htu : turn.toInt = t) (hp : p < 16) (hpl : plank.toInt = p) (hth : there.toInt = i) (hi : 0 ≤ i ∧ i ≤ 999) (hf : 0 ≤ from_.toInt) (hn : from_.toInt + n = ahead.toInt) (hah : ahead.toInt ≤ nr)
    (hQ : ∀ (v : Int32) (τ : zS), zFr [6, 14] [] σ τ → v.toInt = gainR V N lo t p i n from_.toInt.toNat → Q (some (.int v)) (zen τ)) : zwp X d MX0_given 0 [.ref 13, .int turn, .int plank, .int there, .int from_, .int ahead, .null, .null, .null] [] (zen σ) Q := by
  have G4 := hH.getT hR (w := 4) (k := 4) rfl (by omega) (i := turn) (by omega)
  have e0 : (0 : Int32).toInt = 0 := rfl
  have h6 := hR.1
  rw [b_X0_given_0 (hd := by omega), ztrue_and G4.1]
  have eS : si (si σ 14 (ix 0) (f_X5_get σ 4 turn)) 14 (ix 5) there = sA σ 14 (upd (upd (σ.1 14) 0 (f_X5_get σ 4 turn)) 5 there) := by rw [si_eq σ, si_sA]; rfl
  rw [eS]
  have f14 : zFr [6, 14] [] σ (sA σ 14 (upd (upd (σ.1 14) 0 (f_X5_get σ 4 turn)) 5 there)) := zFr.rf.wA (by decide)
  refine lp_X0_given hd (lo := lo) hR t p i turn plank there from_ ahead ht hp hpl hah hi n _ from_ 0 _ (hH.fr (c_sA_ne (by decide)) (c_sA_ne (by decide))) (hL.fr (c_sA_ne (by decide)) (c_sA_ne (by decide)) (c_sA_ne (by decide))) ?_ ?_ ?_ hf hn (by omega) (by omega) (fun v τ hF hv => hQ v τ (f14.tr hF) ?_)
  · rw [gi_sA_ne (by decide)]; exact hlo
  · rw [gi_sA]
    have := G4.2
    rw [show turn.toInt.toNat = t by omega] at this
    exact of_t this
  · rw [gi_sA]; exact of_t hth
  · rw [hv, e0]; omega
