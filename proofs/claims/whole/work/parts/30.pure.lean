/-! numbers -/
theorem il {x y : Int32} : x < y ↔ x.toInt < y.toInt := Int32.lt_iff_toInt_lt
theorem ile {x y : Int32} : x ≤ y ↔ x.toInt ≤ y.toInt := Int32.le_iff_toInt_le
theorem ieq {x y : Int32} : x = y ↔ x.toInt = y.toInt := Int32.toInt_inj.symm
theorem nil_ {x y : Int32} (h : ¬ x < y) : y.toInt ≤ x.toInt := Int.not_lt.mp fun q => h (il.mpr q)
theorem nile {x y : Int32} (h : ¬ x ≤ y) : y.toInt < x.toInt := Int.not_le.mp fun q => h (ile.mpr q)
theorem ix_t (i : Int32) : ix i = i.toInt.toNat := rfl
theorem zin_of {i : Int32} {n : Nat} (h1 : 0 ≤ i.toInt) (h2 : i.toInt < n) : zin i n = true := by
  unfold zin
  rw [decide_eq_true_eq, il, Int32.toInt_zero]
  have e : i.toNatClampNeg = i.toInt.toNat := rfl
  rw [e]
  omega
theorem zin_to {i : Int32} {n : Nat} (h : zin i n = true) : 0 ≤ i.toInt ∧ i.toInt < n := by
  unfold zin at h
  rw [decide_eq_true_eq, il, Int32.toInt_zero] at h
  have e : i.toNatClampNeg = i.toInt.toNat := rfl
  rw [e] at h
  omega
theorem t_add {x y : Int32} (h : -2147483648 ≤ x.toInt + y.toInt ∧ x.toInt + y.toInt < 2147483648) : (x + y).toInt = x.toInt + y.toInt := by
  rw [Int32.toInt_add]; exact Int.bmod_eq_of_le (by omega) (by omega)
theorem t_sub {x y : Int32} (h : -2147483648 ≤ x.toInt - y.toInt ∧ x.toInt - y.toInt < 2147483648) : (x - y).toInt = x.toInt - y.toInt := by
  rw [Int32.toInt_sub]; exact Int.bmod_eq_of_le (by omega) (by omega)
theorem t_mul {x y : Int32} (h : -2147483648 ≤ x.toInt * y.toInt ∧ x.toInt * y.toInt < 2147483648) : (x * y).toInt = x.toInt * y.toInt := by
  rw [Int32.toInt_mul]; exact Int.bmod_eq_of_le (by omega) (by omega)
theorem t_succ {x : Int32} (h : x.toInt < 2147483647) : (x + 1).toInt = x.toInt + 1 := by
  have h1 := Int32.le_toInt x
  have e : (1 : Int32).toInt = 1 := rfl
  rw [t_add (by rw [e]; omega), e]
theorem t_zmx (x y : Int32) : (zmx x y).toInt = max x.toInt y.toInt := by
  unfold zmx
  split
  · next h => have := il.mp h; omega
  · next h => have := nil_ h; omega
theorem t_zmn (x y : Int32) : (zmn x y).toInt = min x.toInt y.toInt := by
  unfold zmn
  split
  · next h => have := il.mp h; omega
  · next h => have := nil_ h; omega
theorem t_zab {x : Int32} (h : -2147483648 < x.toInt) : (zab x).toInt = if 0 ≤ x.toInt then x.toInt else -x.toInt := by
  have h2 := Int32.toInt_lt x
  have e : (0 : Int32).toInt = 0 := rfl
  unfold zab
  split
  · next h0 => have := ile.mp h0; rw [e] at this; rw [if_pos this]
  · next h0 =>
    have := nile h0
    rw [e] at this
    rw [if_neg (by omega), t_sub (by rw [e]; omega), e]; omega
theorem t_oi {n : Int} (h : -2147483648 ≤ n ∧ n < 2147483648) : (Int32.ofInt n).toInt = n := Int32.toInt_ofInt_of_le (by omega) (by omega)
theorem oi_t (x : Int32) : Int32.ofInt x.toInt = x := Int32.ofInt_toInt x
theorem of_t {x : Int32} {n : Int} (h : x.toInt = n) : x = Int32.ofInt n := by rw [← h, oi_t]
/-! states -/
theorem gi_si_ne {σ : zS} {k j k' j' : Nat} {v : Int32} (h : k' ≠ k) : gi (si σ k j v) k' j' = gi σ k' j' := by
  show (if k' = k then upd (σ.1 k) j v else σ.1 k') j' = _
  rw [if_neg h]
  rfl
theorem gi_si {σ : zS} {k j : Nat} {v : Int32} : gi (si σ k j v) k j = v := by
  show (if k = k then upd (σ.1 k) j v else σ.1 k) j = _
  rw [if_pos rfl]
  show upd _ j v j = v
  unfold upd
  rw [if_pos rfl]
theorem gi_si_j {σ : zS} {k j j' : Nat} {v : Int32} (h : j' ≠ j) : gi (si σ k j v) k j' = gi σ k j' := by
  show (if k = k then upd (σ.1 k) j v else σ.1 k) j' = _
  rw [if_pos rfl]
  show upd _ j v j' = _
  unfold upd
  rw [if_neg h]
  rfl
theorem c_si_ne {σ : zS} {k j k' : Nat} {v : Int32} (h : k' ≠ k) : (si σ k j v).1 k' = σ.1 k' := (sA_n σ k _ k' h).1
theorem c_sA_ne {σ : zS} {k k' : Nat} {f : Nat → Int32} (h : k' ≠ k) : (sA σ k f).1 k' = σ.1 k' := (sA_n σ k _ k' h).1
theorem sA_sA (σ : zS) (k : Nat) (f g : Nat → Int32) : sA (sA σ k f) k g = sA σ k g := by
  refine Prod.ext (funext fun q => ?_) rfl
  show (if q = k then g else if q = k then f else σ.1 q) = if q = k then g else σ.1 q
  split <;> rfl
theorem sA_self (σ : zS) (k : Nat) : sA σ k (σ.1 k) = σ := by
  refine Prod.ext (funext fun q => ?_) rfl
  show (if q = k then σ.1 k else σ.1 q) = σ.1 q
  split
  · next h => rw [h]
  · rfl
theorem si_sA (σ : zS) (k j : Nat) (f : Nat → Int32) (v : Int32) : si (sA σ k f) k j v = sA σ k (upd f j v) := by
  unfold si; rw [sA_sA, sA_1]
theorem si_eq (σ : zS) (k j : Nat) (v : Int32) : si σ k j v = sA σ k (upd (σ.1 k) j v) := rfl
theorem gi_sA {σ : zS} {k j : Nat} {f : Nat → Int32} : gi (sA σ k f) k j = f j := by show (sA σ k f).1 k j = _; rw [sA_1]
theorem gi_sA_ne {σ : zS} {k k' j : Nat} {f : Nat → Int32} (h : k' ≠ k) : gi (sA σ k f) k' j = gi σ k' j := by show (sA σ k f).1 k' j = _; rw [c_sA_ne h]; rfl
theorem upd_at (f : Nat → Int32) (j : Nat) (v : Int32) : upd f j v j = v := by unfold upd; rw [if_pos rfl]
theorem upd_ne (f : Nat → Int32) {j i : Nat} (v : Int32) (h : i ≠ j) : upd f j v i = f i := by unfold upd; rw [if_neg h]
/-- outside the cells S and the fields F nothing is other -/
def zFr (S : List Nat) (F : List (Nat × Nat)) (σ τ : zS) : Prop := (∀ k, k ∉ S → ∀ j, (k, j) ∉ F → gi τ k j = gi σ k j) ∧ (∀ k, k ∉ S → τ.2 k = σ.2 k)
theorem zFr.rf {S : List Nat} {F : List (Nat × Nat)} {σ : zS} : zFr S F σ σ := ⟨fun _ _ _ _ => rfl, fun _ _ => rfl⟩
theorem zFr.tr {S : List Nat} {F : List (Nat × Nat)} {σ τ ρ : zS} (h1 : zFr S F σ τ) (h2 : zFr S F τ ρ) : zFr S F σ ρ := ⟨fun k hk j hj => (h2.1 k hk j hj).trans (h1.1 k hk j hj), fun k hk => (h2.2 k hk).trans (h1.2 k hk)⟩
theorem zFr.sub {S S' : List Nat} {F F' : List (Nat × Nat)} {σ τ : zS} (h : zFr S F σ τ) (hS : ∀ k, k ∈ S → k ∈ S') (hF : ∀ q, q ∈ F → q ∈ F' ∨ q.1 ∈ S') : zFr S' F' σ τ :=
  ⟨fun k hk j hj => h.1 k (fun q => hk (hS k q)) j (fun q => (hF _ q).elim hj hk), fun k hk => h.2 k (fun q => hk (hS k q))⟩
theorem zFr.wA {S : List Nat} {F : List (Nat × Nat)} {σ τ : zS} {k : Nat} {f : Nat → Int32} (h : zFr S F σ τ) (hk : k ∈ S) : zFr S F σ (sA τ k f) :=
  ⟨fun q hq j hj => (gi_sA_ne (fun e => hq (by rw [e]; exact hk))).trans (h.1 q hq j hj), fun q hq => h.2 q hq⟩
theorem zFr.ws {S : List Nat} {F : List (Nat × Nat)} {σ τ : zS} {k j : Nat} {v : Int32} (h : zFr S F σ τ) (hk : k ∈ S) : zFr S F σ (si τ k j v) := h.wA hk
theorem zFr.sf {S : List Nat} {F : List (Nat × Nat)} {σ τ : zS} {k j : Nat} {v : Int32} (h : zFr S F σ τ) (hk : (k, j) ∈ F) : zFr S F σ (si τ k j v) := by
  refine ⟨fun q hq i hj => ?_, fun q hq => h.2 q hq⟩
  by_cases e : q = k
  · subst e
    by_cases e2 : i = j
    · subst e2; exact absurd hk hj
    · rw [gi_si_j e2]; exact h.1 q hq i hj
  · rw [gi_si_ne e]; exact h.1 q hq i hj
theorem zFr.c {S : List Nat} {F : List (Nat × Nat)} {σ τ : zS} {k : Nat} (h : zFr S F σ τ) (hk : k ∉ S) (hF : ∀ q, q ∈ F → q.1 ≠ k) : τ.1 k = σ.1 k := funext fun j => h.1 k hk j (fun q => hF _ q rfl)
/-! ice, in numbers -/
def IceAt (f : Nat → Int32) (I : Nat → Int) : Prop := ∀ p, p < 16 → (f p).toInt = I p
def IceR (I : Nat → Int) : Prop := ∀ p, p < 16 → 0 ≤ I p ∧ I p ≤ 999
def thawI (long loss : Int) (I : Nat → Int) : Nat → Int := fun p => if (p : Int) < long then max 0 (I p - loss) else I p
def carI (I : Nat → Int) (l : Int) : Nat → Int
  | 0 => 999
  | n + 1 => min (carI I l n) (I n - l * n)
def carries (long l : Int) (I : Nat → Int) : Int := max 0 (carI I l long.toNat)
def fallI (I : Nat → Int) (l w : Int) : Nat → Nat → Int
  | 0, _ => -2
  | n + 1, p => if max 0 (I p - l * p) < w then p else fallI I l w n (p + 1)
def falls (long l w : Int) (I : Nat → Int) : Int := fallI I l w long.toNat 0
def thinI (I : Nat → Int) : Nat → Nat → Nat → Nat
  | 0, _, b => b
  | n + 1, p, b => if I p < I b then thinI I n (p + 1) p else thinI I n (p + 1) b
def thinnest (long : Int) (I : Nat → Int) : Nat := thinI I (long.toNat - 1) 1 0
theorem thawI_R {long loss : Int} {I : Nat → Int} (hl : 0 ≤ loss) (h : IceR I) : IceR (thawI long loss I) := by
  intro p hp
  have := h p hp
  unfold thawI
  split <;> omega
/-! the halls -/
def zmean (nr nt w i : Nat) : Prop := (w < 4 ∧ i < nr) ∨ (4 ≤ w ∧ w < 6 ∧ i < nt) ∨ (6 ≤ w ∧ w < 10 ∧ i = 0)
def zloB (w : Nat) : Int := if w = 5 ∨ w = 8 then 1 else if w = 6 then 2 else 0
def zhiB (w : Nat) : Int := if w = 0 then 99 else if w = 1 then 15 else if w = 5 ∨ w = 8 then 60 else if w = 6 then 16 else if w = 9 then 12 else 9
def HallC (σ : zS) (nr nt : Nat) (N : Nat → Nat → Int) : Prop := (gi σ 1 1).toInt = nr ∧ (gi σ 1 2).toInt = nt ∧ ∀ w i, zmean nr nt w i → (gi σ 2 (8 * w + i)).toInt = N w i
def HallR (nr nt : Nat) (N : Nat → Nat → Int) : Prop := nr ≤ 6 ∧ nt ≤ 8 ∧ ∀ w i, zmean nr nt w i → zloB w ≤ N w i ∧ N w i ≤ zhiB w
def HallM (σ : zS) (nr nt : Nat) (N : Nat → Nat → Int) : Prop := (gi σ 66 1).toInt = nr ∧ (gi σ 66 6).toInt = nt ∧ (∀ i, i < nr → (gi σ 67 i).toInt = N 0 i ∧ (gi σ 68 i).toInt = N 1 i ∧ (gi σ 69 i).toInt = N 2 i ∧ (gi σ 70 i).toInt = N 3 i) ∧ (∀ i, i < nt → (gi σ 71 i).toInt = N 4 i ∧ (gi σ 72 i).toInt = N 5 i) ∧ (gi σ 66 9).toInt = N 6 0 ∧ (gi σ 66 10).toInt = N 7 0 ∧ (gi σ 66 11).toInt = N 8 0 ∧ (gi σ 66 12).toInt = N 9 0
theorem HallR.long {nr nt : Nat} {N : Nat → Nat → Int} (h : HallR nr nt N) : 2 ≤ N 6 0 ∧ N 6 0 ≤ 16 := h.2.2 6 0 (Or.inr (Or.inr (by omega)))
theorem HallR.warm {nr nt : Nat} {N : Nat → Nat → Int} (h : HallR nr nt N) : 0 ≤ N 7 0 ∧ N 7 0 ≤ 9 := h.2.2 7 0 (Or.inr (Or.inr (by omega)))
theorem HallR.rest {nr nt : Nat} {N : Nat → Nat → Int} (h : HallR nr nt N) : 1 ≤ N 8 0 ∧ N 8 0 ≤ 60 := h.2.2 8 0 (Or.inr (Or.inr (by omega)))
theorem HallR.hiss {nr nt : Nat} {N : Nat → Nat → Int} (h : HallR nr nt N) : 0 ≤ N 9 0 ∧ N 9 0 ≤ 12 := h.2.2 9 0 (Or.inr (Or.inr (by omega)))
theorem HallR.lasts {nr nt : Nat} {N : Nat → Nat → Int} (h : HallR nr nt N) {t : Nat} (ht : t < nt) : 1 ≤ N 5 t ∧ N 5 t ≤ 60 := h.2.2 5 t (Or.inr (Or.inl (by omega)))
theorem HallC.fr {σ τ : zS} {nr nt : Nat} {N : Nat → Nat → Int} (h : HallC σ nr nt N) (h1 : τ.1 1 = σ.1 1) (h2 : τ.1 2 = σ.1 2) : HallC τ nr nt N := by
  unfold HallC gi at *
  rw [h1, h2]; exact h
theorem HallC.long {σ : zS} {nr nt : Nat} {N : Nat → Nat → Int} (h : HallC σ nr nt N) : (gi σ 2 48).toInt = N 6 0 := h.2.2 6 0 (Or.inr (Or.inr (by omega)))
theorem HallC.warm {σ : zS} {nr nt : Nat} {N : Nat → Nat → Int} (h : HallC σ nr nt N) : (gi σ 2 56).toInt = N 7 0 := h.2.2 7 0 (Or.inr (Or.inr (by omega)))
theorem HallC.rest {σ : zS} {nr nt : Nat} {N : Nat → Nat → Int} (h : HallC σ nr nt N) : (gi σ 2 64).toInt = N 8 0 := h.2.2 8 0 (Or.inr (Or.inr (by omega)))
theorem HallC.hiss {σ : zS} {nr nt : Nat} {N : Nat → Nat → Int} (h : HallC σ nr nt N) : (gi σ 2 72).toInt = N 9 0 := h.2.2 9 0 (Or.inr (Or.inr (by omega)))
