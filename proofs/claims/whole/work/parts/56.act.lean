/-! the act of a body -/
def aC (k m : Nat) : Nat := ([1, 10, 11, 2, 20, 10, 11, 2, 1, 30, 11, 2, 1, 41, 40, 2, 20, 10, 11, 50, 1, 41, 60, 61, 70, 10, 11, 2, 81, 80, 11, 2] : List Nat).getD (4 * k + m) 0
def aK (j : Nat) : Int32 := Int32.ofNat j
def aCal : Nat → Nat → Int32 → Nat → Nat → Int32 → List Nat × Int32
  | 0, _, _, _, _, _ => ([], 0)
  | f + 1, K, b, k, m, n => (fun r : List Nat × Int32 => (aC k m :: r.1, r.2)) (if aC k m = 1 then ([], n + b) else if aC k m = 2 then ((aCal f K b K 1 n).1 ++ (aCal f K b K 2 1).1, (aCal f K b K 1 n).2 - (aCal f K b K 2 1).2) else if aC k m = 10 then ((aCal f K b K 0 n).1, (aCal f K b K 0 n).2 * 2) else if aC k m = 11 then ([], n ^^^ b) else if aC k m = 20 then ((aCal f K b 0 0 n).1, (aCal f K b 0 0 n).2 + 3) else if aC k m = 30 then ((aCal f K b 0 1 n).1, -(aCal f K b 0 1 n).2) else if aC k m = 40 then ((aCal f K b 2 2 n).1, (aCal f K b 2 2 n).2 * 3) else if aC k m = 41 then ((aCal f K b 2 1 (n + 1)).1, (aCal f K b 2 1 (n + 1)).2) else if aC k m = 50 then ((aCal f K b 1 3 n).1, (aCal f K b 1 3 n).2 ^^^ 5) else if aC k m = 60 then ((aCal f K b 3 2 n).1 ++ (aCal f K b K 0 2).1, (aCal f K b 3 2 n).2 - (aCal f K b K 0 2).2) else if aC k m = 61 then ((aCal f K b 3 3 n).1, (aCal f K b 3 3 n).2 + 1) else if aC k m = 70 then ((aCal f K b 0 0 n).1, (aCal f K b 0 0 n).2 * 2) else if aC k m = 80 then ((aCal f K b 6 1 n).1 ++ (aCal f K b K 2 2).1, (aCal f K b 6 1 n).2 + (aCal f K b K 2 2).2) else if aC k m = 81 then ((aCal f K b 6 0 n).1, (aCal f K b 6 0 n).2 - 1) else ([], 0))
def aOk : Nat → Nat → Nat → Nat → Bool
  | 0, _, _, _ => false
  | f + 1, K, k, m => if aC k m = 1 then true else if aC k m = 2 then aOk f K K 1 && aOk f K K 2 else if aC k m = 10 then aOk f K K 0 else if aC k m = 11 then true else if aC k m = 20 then aOk f K 0 0 else if aC k m = 30 then aOk f K 0 1 else if aC k m = 40 then aOk f K 2 2 else if aC k m = 41 then aOk f K 2 1 else if aC k m = 50 then aOk f K 1 3 else if aC k m = 60 then aOk f K 3 2 && aOk f K K 0 else if aC k m = 61 then aOk f K 3 3 else if aC k m = 70 then aOk f K 0 0 else if aC k m = 80 then aOk f K 6 1 && aOk f K K 2 else if aC k m = 81 then aOk f K 6 0 else false
def gC (σ : zS) (c : Int32) : zS := if 24 ≤ gi σ 63 3 then si σ 63 3 (gi σ 63 3 + 1) else si (si σ 65 (ix (gi σ 63 3)) c) 63 3 (gi σ 63 3 + 1)
def noteC (σ : zS) (l : List Nat) : zS := l.foldl (fun τ c => gC τ (aK c)) σ
def noteM (σ : zS) (l : List Nat) : zS := l.foldl (fun τ c => g_X12_ran τ (aK c)) σ
theorem gC_fr {σ : zS} {c : Int32} : zFr [65] [(63, 3)] σ (gC σ c) := by
  unfold gC
  split
  · exact zFr.rf.sf (by decide)
  · exact (zFr.rf.ws (by decide)).sf (by decide)
theorem noteC_fr {l : List Nat} : ∀ {σ : zS}, zFr [65] [(63, 3)] σ (noteC σ l) := by
  induction l with
  | nil => intro σ; exact zFr.rf
  | cons c l ih => intro σ; exact gC_fr.tr ih
theorem gM_fr {σ : zS} {c : Int32} : zFr [94] [(66, 51)] σ (g_X12_ran σ c) := by
  unfold g_X12_ran
  split
  · exact zFr.rf.sf (by decide)
  · exact (zFr.rf.ws (by decide)).sf (by decide)
theorem noteM_fr {l : List Nat} : ∀ {σ : zS}, zFr [94] [(66, 51)] σ (noteM σ l) := by
  induction l with
  | nil => intro σ; exact zFr.rf
  | cons c l ih => intro σ; exact gM_fr.tr ih
theorem gC_n {σ : zS} {c : Int32} : gi (gC σ c) 63 3 = gi σ 63 3 + 1 := by
  unfold gC
  split <;> exact gi_si
theorem gM_n {σ : zS} {c : Int32} : gi (g_X12_ran σ c) 66 51 = gi σ 66 51 + 1 := by
  unfold g_X12_ran
  split <;> exact gi_si
theorem noteC_n {l : List Nat} : ∀ {σ : zS}, 0 ≤ (gi σ 63 3).toInt → (gi σ 63 3).toInt + l.length ≤ 1000 → (gi (noteC σ l) 63 3).toInt = (gi σ 63 3).toInt + l.length := by
  induction l with
  | nil => intro σ _ _; show (gi σ 63 3).toInt = _; simp
  | cons c l ih =>
    intro σ h0 h1
    rw [List.length_cons, Int.natCast_add] at *
    have e : (gi (gC σ (aK c)) 63 3).toInt = (gi σ 63 3).toInt + 1 := by rw [gC_n, t_add (by rw [l1]; omega), l1]
    have := ih (σ := gC σ (aK c)) (by omega) (by omega)
    show (gi (noteC (gC σ (aK c)) l) 63 3).toInt = _
    omega
theorem noteM_n {l : List Nat} : ∀ {σ : zS}, 0 ≤ (gi σ 66 51).toInt → (gi σ 66 51).toInt + l.length ≤ 1000 → (gi (noteM σ l) 66 51).toInt = (gi σ 66 51).toInt + l.length := by
  induction l with
  | nil => intro σ _ _; show (gi σ 66 51).toInt = _; simp
  | cons c l ih =>
    intro σ h0 h1
    rw [List.length_cons, Int.natCast_add] at *
    have e : (gi (g_X12_ran σ (aK c)) 66 51).toInt = (gi σ 66 51).toInt + 1 := by rw [gM_n, t_add (by rw [l1]; omega), l1]
    have := ih (σ := g_X12_ran σ (aK c)) (by omega) (by omega)
    show (gi (noteM (g_X12_ran σ (aK c)) l) 66 51).toInt = _
    omega
theorem noteC_app {σ : zS} {l l' : List Nat} : noteC (noteC σ l) l' = noteC σ (l ++ l') := List.foldl_append.symm
theorem noteM_app {σ : zS} {l l' : List Nat} : noteM (noteM σ l) l' = noteM σ (l ++ l') := List.foldl_append.symm
theorem aC_t : ∀ k, k < 8 → ∀ m, m < 4 → zin (aK k * 4 + aK m) 32 = true ∧ zK4 (ix (aK k * 4 + aK m)) = aK (aC k m) ∧ (aC k m = 1 ∨ aC k m = 2 ∨ aC k m = 10 ∨ aC k m = 11 ∨ aC k m = 20 ∨ aC k m = 30 ∨ aC k m = 40 ∨ aC k m = 41 ∨ aC k m = 50 ∨ aC k m = 60 ∨ aC k m = 61 ∨ aC k m = 70 ∨ aC k m = 80 ∨ aC k m = 81) := by decide +kernel
theorem l40 : (40 : Int32).toInt = 40 := rfl
/-- the class calls an act -/
theorem w_called (f : Nat) : ∀ {X : zX} {d : Nat} {Q : Option Value → zH → Prop} {σ : zS} {K k m : Nat} {b n dep : Int32}, aOk f K k m = true → K < 8 → k < 8 → m < 4 → 0 ≤ dep.toInt → dep.toInt + f ≤ 40 → 2 * f ≤ d → gi σ 63 5 = aK K → gi σ 63 4 = b → 0 ≤ (gi σ 63 3).toInt → (gi σ 63 3).toInt + (aCal f K b k m n).1.length ≤ 1000 → Q (some (.int (aCal f K b k m n).2)) (zen (noteC σ (aCal f K b k m n).1)) → zwp X d MX1_called 0 [.ref 63, .int (aK k), .int (aK m), .int n, .int dep, .null] [] (zen σ) Q := by
  induction f with
  | zero => intro X d Q σ K k m b n dep h0; cases h0
  | succ f ih =>
    intro X d Q σ K k m b n dep hok hK hk hm hd0 hd1 hd h5 h4 hn0 hn1 hQ
    have ht := aC_t k hk m hm
    have e1 := l1
    have dn : ¬ 40 ≤ dep := fun y => by have := ile.mp y; rw [l40] at this; omega
    have ed : (dep + 1).toInt = dep.toInt + 1 := by rw [t_add (by omega), e1]
    rw [b_X1_called_0 (hd := by omega), ht.2.1]
    refine ⟨ht.1, ?_⟩
    have hz : ¬ 24 ≤ gi σ 63 3 → zin (gi σ 63 3) 24 = true := fun y => by have := nile y; rw [l24] at this; exact zin_of (by omega) (by omega)
    rw [if_neg dn, if_neg dn]
    have hlen : (aCal (f + 1) K b k m n).1.length = ((aCal (f + 1) K b k m n).1.tail).length + 1 := by
      unfold aCal; rw [List.tail_cons, List.length_cons]
    have go : zwp X (d - 1) MX1_run 0 [.ref 63, .int (aK (aC k m)), .int n, .int (dep + 1)] [] (zen (gC σ (aK (aC k m)))) (fun v h' => zwp X d MX1_called 59 [.ref 63, .int (aK k), .int (aK m), .int n, .int dep, .int (aK (aC k m))] (zpsh v []) h' Q) := by
      have g5 : gi (gC σ (aK (aC k m))) 63 5 = aK K := by rw [gC_fr.1 63 (by decide) 5 (by decide)]; exact h5
      have g4 : gi (gC σ (aK (aC k m))) 63 4 = b := by rw [gC_fr.1 63 (by decide) 4 (by decide)]; exact h4
      have hN : (gi (gC σ (aK (aC k m))) 63 3).toInt = (gi σ 63 3).toInt + 1 := by rw [gC_n, t_add (by rw [l1]; omega), l1]
      have fin : ∀ {l : List Nat} {v : Int32}, aCal (f + 1) K b k m n = (aC k m :: l, v) → Q (some (.int v)) (zen (noteC (gC σ (aK (aC k m))) l)) := fun {l v} e => by rw [e] at hQ; exact hQ
      generalize hτ : gC σ (aK (aC k m)) = τ at *
      rw [b_X1_run_0 (hd := by omega)]
      unfold aOk at hok
      unfold aCal at hn1 fin
      rcases ht.2.2 with hc | hc | hc | hc | hc | hc | hc | hc | hc | hc | hc | hc | hc | hc
      · -- 1
        rw [hc] at hok hn1 fin ⊢
        rw [if_pos (rfl : (1 : Nat) = 1)] at hok hn1 fin
        rw [if_pos (show aK 1 = 1 from rfl)]
        rw [g4]; show zwp _ _ _ _ _ [_] _ _; rw [b_X1_called_59]; exact fin rfl
      · -- 2
        rw [hc] at hok hn1 fin ⊢
        rw [if_neg (show ¬ (2 : Nat) = 1 by decide), if_pos (rfl : (2 : Nat) = 2)] at hok hn1 fin
        rw [if_neg (show ¬ aK 2 = 1 by decide), if_pos (show aK 2 = 2 from rfl)]
        rw [g5]
        rw [Bool.and_eq_true] at hok
        have hl := List.length_append (as := (aCal f K b K 1 n).1) (bs := (aCal f K b K 2 1).1)
        rw [List.length_cons] at hn1; rw [List.length_append] at hn1
        refine ih (X := X) (d := d - 1 - 1) (σ := τ) (K := K) (k := K) (m := 1) (b := b) (n := n) (dep := dep + 1) hok.1 hK hK (by decide) (by omega) (by omega) (by omega) g5 g4 (by omega) (by first | omega | (push_cast at hn1 ⊢; omega)) ?_
        show zwp _ _ _ _ _ [_] _ _
        have hN2 := noteC_n (σ := τ) (l := (aCal f K b K 1 n).1) (by omega) (by first | omega | (push_cast at hn1 ⊢; omega))
        rw [b_X1_run_142 (hd := by omega)]
        have g5' : gi (noteC τ (aCal f K b K 1 n).1) 63 5 = aK K := by rw [noteC_fr.1 63 (by decide) 5 (by decide)]; exact g5
        have g4' : gi (noteC τ (aCal f K b K 1 n).1) 63 4 = b := by rw [noteC_fr.1 63 (by decide) 4 (by decide)]; exact g4
        rw [g5']
        refine ih (X := X) (d := d - 1 - 1) (K := K) (k := K) (m := 2) (b := b) (n := 1) (dep := dep + 1) hok.2 hK hK (by decide) (by omega) (by omega) (by omega) g5' g4' (by omega) (by first | omega | (push_cast at hn1 ⊢; omega)) ?_
        show zwp _ _ _ _ _ [_, _] _ _
        rw [b_X1_run_153]
        show zwp _ _ _ _ _ [_] _ _
        rw [b_X1_called_59, noteC_app]; exact fin rfl
      · -- 10
        rw [hc] at hok hn1 fin ⊢
        rw [if_neg (show ¬ (10 : Nat) = 1 by decide), if_neg (show ¬ (10 : Nat) = 2 by decide), if_pos (rfl : (10 : Nat) = 10)] at hok hn1 fin
        rw [if_neg (show ¬ aK 10 = 1 by decide), if_neg (show ¬ aK 10 = 2 by decide), if_pos (show aK 10 = 10 from rfl)]
        rw [g5]
        rw [List.length_cons] at hn1
        refine ih (X := X) (d := d - 1 - 1) (σ := τ) (K := K) (k := K) (m := 0) (b := b) (n := n) (dep := dep + 1) hok hK hK (by decide) (by omega) (by omega) (by omega) g5 g4 (by omega) (by first | omega | (push_cast at hn1 ⊢; omega)) ?_
        show zwp _ _ _ _ _ [_] _ _
        rw [b_X1_run_166]
        show zwp _ _ _ _ _ [_] _ _
        rw [b_X1_called_59]; exact fin rfl
      · -- 11
        rw [hc] at hok hn1 fin ⊢
        rw [if_neg (show ¬ (11 : Nat) = 1 by decide), if_neg (show ¬ (11 : Nat) = 2 by decide), if_neg (show ¬ (11 : Nat) = 10 by decide), if_pos (rfl : (11 : Nat) = 11)] at hok hn1 fin
        rw [if_neg (show ¬ aK 11 = 1 by decide), if_neg (show ¬ aK 11 = 2 by decide), if_neg (show ¬ aK 11 = 10 by decide), if_pos (show aK 11 = 11 from rfl)]
        rw [g4]; show zwp _ _ _ _ _ [_] _ _; rw [b_X1_called_59]; exact fin rfl
      · -- 20
        rw [hc] at hok hn1 fin ⊢
        rw [if_neg (show ¬ (20 : Nat) = 1 by decide), if_neg (show ¬ (20 : Nat) = 2 by decide), if_neg (show ¬ (20 : Nat) = 10 by decide), if_neg (show ¬ (20 : Nat) = 11 by decide), if_pos (rfl : (20 : Nat) = 20)] at hok hn1 fin
        rw [if_neg (show ¬ aK 20 = 1 by decide), if_neg (show ¬ aK 20 = 2 by decide), if_neg (show ¬ aK 20 = 10 by decide), if_neg (show ¬ aK 20 = 11 by decide), if_pos (show aK 20 = 20 from rfl)]
        rw [List.length_cons] at hn1
        refine ih (X := X) (d := d - 1 - 1) (σ := τ) (K := K) (k := 0) (m := 0) (b := b) (n := n) (dep := dep + 1) hok hK (by decide) (by decide) (by omega) (by omega) (by omega) g5 g4 (by omega) (by first | omega | (push_cast at hn1 ⊢; omega)) ?_
        show zwp _ _ _ _ _ [_] _ _
        rw [b_X1_run_184]
        show zwp _ _ _ _ _ [_] _ _
        rw [b_X1_called_59]; exact fin rfl
      · -- 30
        rw [hc] at hok hn1 fin ⊢
        rw [if_neg (show ¬ (30 : Nat) = 1 by decide), if_neg (show ¬ (30 : Nat) = 2 by decide), if_neg (show ¬ (30 : Nat) = 10 by decide), if_neg (show ¬ (30 : Nat) = 11 by decide), if_neg (show ¬ (30 : Nat) = 20 by decide), if_pos (rfl : (30 : Nat) = 30)] at hok hn1 fin
        rw [if_neg (show ¬ aK 30 = 1 by decide), if_neg (show ¬ aK 30 = 2 by decide), if_neg (show ¬ aK 30 = 10 by decide), if_neg (show ¬ aK 30 = 11 by decide), if_neg (show ¬ aK 30 = 20 by decide), if_pos (show aK 30 = 30 from rfl)]
        rw [List.length_cons] at hn1
        refine ih (X := X) (d := d - 1 - 1) (σ := τ) (K := K) (k := 0) (m := 1) (b := b) (n := n) (dep := dep + 1) hok hK (by decide) (by decide) (by omega) (by omega) (by omega) g5 g4 (by omega) (by first | omega | (push_cast at hn1 ⊢; omega)) ?_
        show zwp _ _ _ _ _ [_] _ _
        rw [b_X1_run_195]
        show zwp _ _ _ _ _ [_] _ _
        rw [b_X1_called_59]; exact fin rfl
      · -- 40
        rw [hc] at hok hn1 fin ⊢
        rw [if_neg (show ¬ (40 : Nat) = 1 by decide), if_neg (show ¬ (40 : Nat) = 2 by decide), if_neg (show ¬ (40 : Nat) = 10 by decide), if_neg (show ¬ (40 : Nat) = 11 by decide), if_neg (show ¬ (40 : Nat) = 20 by decide), if_neg (show ¬ (40 : Nat) = 30 by decide), if_pos (rfl : (40 : Nat) = 40)] at hok hn1 fin
        rw [if_neg (show ¬ aK 40 = 1 by decide), if_neg (show ¬ aK 40 = 2 by decide), if_neg (show ¬ aK 40 = 10 by decide), if_neg (show ¬ aK 40 = 11 by decide), if_neg (show ¬ aK 40 = 20 by decide), if_neg (show ¬ aK 40 = 30 by decide), if_pos (show aK 40 = 40 from rfl)]
        rw [List.length_cons] at hn1
        refine ih (X := X) (d := d - 1 - 1) (σ := τ) (K := K) (k := 2) (m := 2) (b := b) (n := n) (dep := dep + 1) hok hK (by decide) (by decide) (by omega) (by omega) (by omega) g5 g4 (by omega) (by first | omega | (push_cast at hn1 ⊢; omega)) ?_
        show zwp _ _ _ _ _ [_] _ _
        rw [b_X1_run_205]
        show zwp _ _ _ _ _ [_] _ _
        rw [b_X1_called_59]; exact fin rfl
      · -- 41
        rw [hc] at hok hn1 fin ⊢
        rw [if_neg (show ¬ (41 : Nat) = 1 by decide), if_neg (show ¬ (41 : Nat) = 2 by decide), if_neg (show ¬ (41 : Nat) = 10 by decide), if_neg (show ¬ (41 : Nat) = 11 by decide), if_neg (show ¬ (41 : Nat) = 20 by decide), if_neg (show ¬ (41 : Nat) = 30 by decide), if_neg (show ¬ (41 : Nat) = 40 by decide), if_pos (rfl : (41 : Nat) = 41)] at hok hn1 fin
        rw [if_neg (show ¬ aK 41 = 1 by decide), if_neg (show ¬ aK 41 = 2 by decide), if_neg (show ¬ aK 41 = 10 by decide), if_neg (show ¬ aK 41 = 11 by decide), if_neg (show ¬ aK 41 = 20 by decide), if_neg (show ¬ aK 41 = 30 by decide), if_neg (show ¬ aK 41 = 40 by decide), if_pos (show aK 41 = 41 from rfl)]
        rw [List.length_cons] at hn1
        refine ih (X := X) (d := d - 1 - 1) (σ := τ) (K := K) (k := 2) (m := 1) (b := b) (n := (n + 1)) (dep := dep + 1) hok hK (by decide) (by decide) (by omega) (by omega) (by omega) g5 g4 (by omega) (by first | omega | (push_cast at hn1 ⊢; omega)) ?_
        show zwp _ _ _ _ _ [_] _ _
        rw [b_X1_run_218]
        show zwp _ _ _ _ _ [_] _ _
        rw [b_X1_called_59]; exact fin rfl
      · -- 50
        rw [hc] at hok hn1 fin ⊢
        rw [if_neg (show ¬ (50 : Nat) = 1 by decide), if_neg (show ¬ (50 : Nat) = 2 by decide), if_neg (show ¬ (50 : Nat) = 10 by decide), if_neg (show ¬ (50 : Nat) = 11 by decide), if_neg (show ¬ (50 : Nat) = 20 by decide), if_neg (show ¬ (50 : Nat) = 30 by decide), if_neg (show ¬ (50 : Nat) = 40 by decide), if_neg (show ¬ (50 : Nat) = 41 by decide), if_pos (rfl : (50 : Nat) = 50)] at hok hn1 fin
        rw [if_neg (show ¬ aK 50 = 1 by decide), if_neg (show ¬ aK 50 = 2 by decide), if_neg (show ¬ aK 50 = 10 by decide), if_neg (show ¬ aK 50 = 11 by decide), if_neg (show ¬ aK 50 = 20 by decide), if_neg (show ¬ aK 50 = 30 by decide), if_neg (show ¬ aK 50 = 40 by decide), if_neg (show ¬ aK 50 = 41 by decide), if_pos (show aK 50 = 50 from rfl)]
        rw [List.length_cons] at hn1
        refine ih (X := X) (d := d - 1 - 1) (σ := τ) (K := K) (k := 1) (m := 3) (b := b) (n := n) (dep := dep + 1) hok hK (by decide) (by decide) (by omega) (by omega) (by omega) g5 g4 (by omega) (by first | omega | (push_cast at hn1 ⊢; omega)) ?_
        show zwp _ _ _ _ _ [_] _ _
        rw [b_X1_run_227]
        show zwp _ _ _ _ _ [_] _ _
        rw [b_X1_called_59]; exact fin rfl
      · -- 60
        rw [hc] at hok hn1 fin ⊢
        rw [if_neg (show ¬ (60 : Nat) = 1 by decide), if_neg (show ¬ (60 : Nat) = 2 by decide), if_neg (show ¬ (60 : Nat) = 10 by decide), if_neg (show ¬ (60 : Nat) = 11 by decide), if_neg (show ¬ (60 : Nat) = 20 by decide), if_neg (show ¬ (60 : Nat) = 30 by decide), if_neg (show ¬ (60 : Nat) = 40 by decide), if_neg (show ¬ (60 : Nat) = 41 by decide), if_neg (show ¬ (60 : Nat) = 50 by decide), if_pos (rfl : (60 : Nat) = 60)] at hok hn1 fin
        rw [if_neg (show ¬ aK 60 = 1 by decide), if_neg (show ¬ aK 60 = 2 by decide), if_neg (show ¬ aK 60 = 10 by decide), if_neg (show ¬ aK 60 = 11 by decide), if_neg (show ¬ aK 60 = 20 by decide), if_neg (show ¬ aK 60 = 30 by decide), if_neg (show ¬ aK 60 = 40 by decide), if_neg (show ¬ aK 60 = 41 by decide), if_neg (show ¬ aK 60 = 50 by decide), if_pos (show aK 60 = 60 from rfl)]
        rw [Bool.and_eq_true] at hok
        have hl := List.length_append (as := (aCal f K b 3 2 n).1) (bs := (aCal f K b K 0 2).1)
        rw [List.length_cons] at hn1; rw [List.length_append] at hn1
        refine ih (X := X) (d := d - 1 - 1) (σ := τ) (K := K) (k := 3) (m := 2) (b := b) (n := n) (dep := dep + 1) hok.1 hK (by decide) (by decide) (by omega) (by omega) (by omega) g5 g4 (by omega) (by first | omega | (push_cast at hn1 ⊢; omega)) ?_
        show zwp _ _ _ _ _ [_] _ _
        have hN2 := noteC_n (σ := τ) (l := (aCal f K b 3 2 n).1) (by omega) (by first | omega | (push_cast at hn1 ⊢; omega))
        rw [b_X1_run_238 (hd := by omega)]
        have g5' : gi (noteC τ (aCal f K b 3 2 n).1) 63 5 = aK K := by rw [noteC_fr.1 63 (by decide) 5 (by decide)]; exact g5
        have g4' : gi (noteC τ (aCal f K b 3 2 n).1) 63 4 = b := by rw [noteC_fr.1 63 (by decide) 4 (by decide)]; exact g4
        rw [g5']
        refine ih (X := X) (d := d - 1 - 1) (K := K) (k := K) (m := 0) (b := b) (n := 2) (dep := dep + 1) hok.2 hK hK (by decide) (by omega) (by omega) (by omega) g5' g4' (by omega) (by first | omega | (push_cast at hn1 ⊢; omega)) ?_
        show zwp _ _ _ _ _ [_, _] _ _
        rw [b_X1_run_249]
        show zwp _ _ _ _ _ [_] _ _
        rw [b_X1_called_59, noteC_app]; exact fin rfl
      · -- 61
        rw [hc] at hok hn1 fin ⊢
        rw [if_neg (show ¬ (61 : Nat) = 1 by decide), if_neg (show ¬ (61 : Nat) = 2 by decide), if_neg (show ¬ (61 : Nat) = 10 by decide), if_neg (show ¬ (61 : Nat) = 11 by decide), if_neg (show ¬ (61 : Nat) = 20 by decide), if_neg (show ¬ (61 : Nat) = 30 by decide), if_neg (show ¬ (61 : Nat) = 40 by decide), if_neg (show ¬ (61 : Nat) = 41 by decide), if_neg (show ¬ (61 : Nat) = 50 by decide), if_neg (show ¬ (61 : Nat) = 60 by decide), if_pos (rfl : (61 : Nat) = 61)] at hok hn1 fin
        rw [if_neg (show ¬ aK 61 = 1 by decide), if_neg (show ¬ aK 61 = 2 by decide), if_neg (show ¬ aK 61 = 10 by decide), if_neg (show ¬ aK 61 = 11 by decide), if_neg (show ¬ aK 61 = 20 by decide), if_neg (show ¬ aK 61 = 30 by decide), if_neg (show ¬ aK 61 = 40 by decide), if_neg (show ¬ aK 61 = 41 by decide), if_neg (show ¬ aK 61 = 50 by decide), if_neg (show ¬ aK 61 = 60 by decide), if_pos (show aK 61 = 61 from rfl)]
        rw [List.length_cons] at hn1
        refine ih (X := X) (d := d - 1 - 1) (σ := τ) (K := K) (k := 3) (m := 3) (b := b) (n := n) (dep := dep + 1) hok hK (by decide) (by decide) (by omega) (by omega) (by omega) g5 g4 (by omega) (by first | omega | (push_cast at hn1 ⊢; omega)) ?_
        show zwp _ _ _ _ _ [_] _ _
        rw [b_X1_run_259]
        show zwp _ _ _ _ _ [_] _ _
        rw [b_X1_called_59]; exact fin rfl
      · -- 70
        rw [hc] at hok hn1 fin ⊢
        rw [if_neg (show ¬ (70 : Nat) = 1 by decide), if_neg (show ¬ (70 : Nat) = 2 by decide), if_neg (show ¬ (70 : Nat) = 10 by decide), if_neg (show ¬ (70 : Nat) = 11 by decide), if_neg (show ¬ (70 : Nat) = 20 by decide), if_neg (show ¬ (70 : Nat) = 30 by decide), if_neg (show ¬ (70 : Nat) = 40 by decide), if_neg (show ¬ (70 : Nat) = 41 by decide), if_neg (show ¬ (70 : Nat) = 50 by decide), if_neg (show ¬ (70 : Nat) = 60 by decide), if_neg (show ¬ (70 : Nat) = 61 by decide), if_pos (rfl : (70 : Nat) = 70)] at hok hn1 fin
        rw [if_neg (show ¬ aK 70 = 1 by decide), if_neg (show ¬ aK 70 = 2 by decide), if_neg (show ¬ aK 70 = 10 by decide), if_neg (show ¬ aK 70 = 11 by decide), if_neg (show ¬ aK 70 = 20 by decide), if_neg (show ¬ aK 70 = 30 by decide), if_neg (show ¬ aK 70 = 40 by decide), if_neg (show ¬ aK 70 = 41 by decide), if_neg (show ¬ aK 70 = 50 by decide), if_neg (show ¬ aK 70 = 60 by decide), if_neg (show ¬ aK 70 = 61 by decide), if_pos (show aK 70 = 70 from rfl)]
        rw [List.length_cons] at hn1
        refine ih (X := X) (d := d - 1 - 1) (σ := τ) (K := K) (k := 0) (m := 0) (b := b) (n := n) (dep := dep + 1) hok hK (by decide) (by decide) (by omega) (by omega) (by omega) g5 g4 (by omega) (by first | omega | (push_cast at hn1 ⊢; omega)) ?_
        show zwp _ _ _ _ _ [_] _ _
        rw [b_X1_run_270]
        show zwp _ _ _ _ _ [_] _ _
        rw [b_X1_called_59]; exact fin rfl
      · -- 80
        rw [hc] at hok hn1 fin ⊢
        rw [if_neg (show ¬ (80 : Nat) = 1 by decide), if_neg (show ¬ (80 : Nat) = 2 by decide), if_neg (show ¬ (80 : Nat) = 10 by decide), if_neg (show ¬ (80 : Nat) = 11 by decide), if_neg (show ¬ (80 : Nat) = 20 by decide), if_neg (show ¬ (80 : Nat) = 30 by decide), if_neg (show ¬ (80 : Nat) = 40 by decide), if_neg (show ¬ (80 : Nat) = 41 by decide), if_neg (show ¬ (80 : Nat) = 50 by decide), if_neg (show ¬ (80 : Nat) = 60 by decide), if_neg (show ¬ (80 : Nat) = 61 by decide), if_neg (show ¬ (80 : Nat) = 70 by decide), if_pos (rfl : (80 : Nat) = 80)] at hok hn1 fin
        rw [if_neg (show ¬ aK 80 = 1 by decide), if_neg (show ¬ aK 80 = 2 by decide), if_neg (show ¬ aK 80 = 10 by decide), if_neg (show ¬ aK 80 = 11 by decide), if_neg (show ¬ aK 80 = 20 by decide), if_neg (show ¬ aK 80 = 30 by decide), if_neg (show ¬ aK 80 = 40 by decide), if_neg (show ¬ aK 80 = 41 by decide), if_neg (show ¬ aK 80 = 50 by decide), if_neg (show ¬ aK 80 = 60 by decide), if_neg (show ¬ aK 80 = 61 by decide), if_neg (show ¬ aK 80 = 70 by decide), if_pos (show aK 80 = 80 from rfl)]
        rw [Bool.and_eq_true] at hok
        have hl := List.length_append (as := (aCal f K b 6 1 n).1) (bs := (aCal f K b K 2 2).1)
        rw [List.length_cons] at hn1; rw [List.length_append] at hn1
        refine ih (X := X) (d := d - 1 - 1) (σ := τ) (K := K) (k := 6) (m := 1) (b := b) (n := n) (dep := dep + 1) hok.1 hK (by decide) (by decide) (by omega) (by omega) (by omega) g5 g4 (by omega) (by first | omega | (push_cast at hn1 ⊢; omega)) ?_
        show zwp _ _ _ _ _ [_] _ _
        have hN2 := noteC_n (σ := τ) (l := (aCal f K b 6 1 n).1) (by omega) (by first | omega | (push_cast at hn1 ⊢; omega))
        rw [b_X1_run_282 (hd := by omega)]
        have g5' : gi (noteC τ (aCal f K b 6 1 n).1) 63 5 = aK K := by rw [noteC_fr.1 63 (by decide) 5 (by decide)]; exact g5
        have g4' : gi (noteC τ (aCal f K b 6 1 n).1) 63 4 = b := by rw [noteC_fr.1 63 (by decide) 4 (by decide)]; exact g4
        rw [g5']
        refine ih (X := X) (d := d - 1 - 1) (K := K) (k := K) (m := 2) (b := b) (n := 2) (dep := dep + 1) hok.2 hK hK (by decide) (by omega) (by omega) (by omega) g5' g4' (by omega) (by first | omega | (push_cast at hn1 ⊢; omega)) ?_
        show zwp _ _ _ _ _ [_, _] _ _
        rw [b_X1_run_293]
        show zwp _ _ _ _ _ [_] _ _
        rw [b_X1_called_59, noteC_app]; exact fin rfl
      · -- 81
        rw [hc] at hok hn1 fin ⊢
        rw [if_neg (show ¬ (81 : Nat) = 1 by decide), if_neg (show ¬ (81 : Nat) = 2 by decide), if_neg (show ¬ (81 : Nat) = 10 by decide), if_neg (show ¬ (81 : Nat) = 11 by decide), if_neg (show ¬ (81 : Nat) = 20 by decide), if_neg (show ¬ (81 : Nat) = 30 by decide), if_neg (show ¬ (81 : Nat) = 40 by decide), if_neg (show ¬ (81 : Nat) = 41 by decide), if_neg (show ¬ (81 : Nat) = 50 by decide), if_neg (show ¬ (81 : Nat) = 60 by decide), if_neg (show ¬ (81 : Nat) = 61 by decide), if_neg (show ¬ (81 : Nat) = 70 by decide), if_neg (show ¬ (81 : Nat) = 80 by decide), if_pos (rfl : (81 : Nat) = 81)] at hok hn1 fin
        rw [if_neg (show ¬ aK 81 = 1 by decide), if_neg (show ¬ aK 81 = 2 by decide), if_neg (show ¬ aK 81 = 10 by decide), if_neg (show ¬ aK 81 = 11 by decide), if_neg (show ¬ aK 81 = 20 by decide), if_neg (show ¬ aK 81 = 30 by decide), if_neg (show ¬ aK 81 = 40 by decide), if_neg (show ¬ aK 81 = 41 by decide), if_neg (show ¬ aK 81 = 50 by decide), if_neg (show ¬ aK 81 = 60 by decide), if_neg (show ¬ aK 81 = 61 by decide), if_neg (show ¬ aK 81 = 70 by decide), if_neg (show ¬ aK 81 = 80 by decide), if_pos (show aK 81 = 81 from rfl)]
        rw [List.length_cons] at hn1
        refine ih (X := X) (d := d - 1 - 1) (σ := τ) (K := K) (k := 6) (m := 0) (b := b) (n := n) (dep := dep + 1) hok hK (by decide) (by decide) (by omega) (by omega) (by omega) g5 g4 (by omega) (by first | omega | (push_cast at hn1 ⊢; omega)) ?_
        show zwp _ _ _ _ _ [_] _ _
        rw [b_X1_run_304]
        show zwp _ _ _ _ _ [_] _ _
        rw [b_X1_called_59]; exact fin rfl
    by_cases c : 24 ≤ gi σ 63 3
    · rw [if_pos c]
      have e : gC σ (aK (aC k m)) = si σ 63 3 (gi σ 63 3 + 1) := by unfold gC; rw [if_pos c]
      rw [← e]; exact go
    · rw [if_neg c]
      have e : gC σ (aK (aC k m)) = si (si σ 65 (ix (gi σ 63 3)) (aK (aC k m))) 63 3 (gi σ 63 3 + 1) := by unfold gC; rw [if_neg c]
      rw [← e]; exact ⟨hz c, go⟩
