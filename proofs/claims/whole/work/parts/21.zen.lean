/-! The run's heap: 99 cells of known shapes, their numbers by a state: ints and longs by cell and place. -/
abbrev zS : Type := (Nat → Nat → Int32) × (Nat → Nat → Int64)
abbrev zSp : Type := (Nat × List (Option Nat)) ⊕ (Nat × Nat × List Nat)
def zshL : List zSp := [.inl (11, [some 1, some 3, some 7, some 13, some 17, some 24, some 28, some 41, some 45, some 63]), .inl (5, [some 2, none, none, none]), .inr (0, 80, []), .inl (6, [some 4, some 5, some 6, none, none]), .inr (0, 121, []), .inr (0, 121, []), .inr (0, 121, []), .inl (9, [some 8, some 9, none, none]), .inr (0, 120, []), .inl (6, [some 10, some 11, some 12, none, none]), .inr (0, 121, []), .inr (0, 121, []), .inr (0, 121, []), .inl (0, [some 1, some 3, some 14, some 15, some 16, none, none]), .inr (0, 6, []), .inr (0, 128, []), .inr (0, 128, []), .inl (4, [some 18, some 20, some 21, some 23, none]), .inl (2, [some 19]), .inr (0, 16, []), .inr (0, 5, []), .inl (2, [some 22]), .inr (0, 16, []), .inr (0, 5, []), .inl (3, [some 25, some 26, some 27, none, none]), .inr (0, 40, []), .inr (0, 40, []), .inr (0, 40, []), .inr (4, 6, [29, 31, 33, 35, 37, 39]), .inl (8, [some 30, none, none, none, none]), .inr (1, 60, []), .inl (8, [some 32, none, none, none, none]), .inr (1, 60, []), .inl (8, [some 34, none, none, none, none]), .inr (1, 60, []), .inl (8, [some 36, none, none, none, none]), .inr (1, 60, []), .inl (8, [some 38, none, none, none, none]), .inr (1, 60, []), .inl (8, [some 40, none, none, none, none]), .inr (1, 60, []), .inl (10, [some 1, some 13, some 18, some 42, none, none, some 43]), .inr (0, 20, []), .inl (2, [some 44]), .inr (0, 16, []), .inl (7, [some 1, some 13, some 18, some 46, some 47, some 48]), .inr (5, 7, [49, 51, 53, 55, 57, 59, 61]), .inr (0, 6, []), .inr (0, 6, []), .inl (2, [some 50]), .inr (0, 16, []), .inl (2, [some 52]), .inr (0, 16, []), .inl (2, [some 54]), .inr (0, 16, []), .inl (2, [some 56]), .inr (0, 16, []), .inl (2, [some 58]), .inr (0, 16, []), .inl (2, [some 60]), .inr (0, 16, []), .inl (2, [some 62]), .inr (0, 16, []), .inl (1, [some 64, some 65, none, none, none, none]), .inr (0, 50, []), .inr (0, 24, []), .inl (12, [none, none, some 67, some 68, some 69, some 70, none, some 71, some 72, none, none, none, none, none, none, some 73, some 74, some 75, some 76, some 77, none, none, none, none, none, some 78, some 79, some 80, some 81, some 82, some 83, some 84, none, some 85, some 86, some 87, none, none, some 88, none, some 89, none, none, none, none, some 90, none, some 91, some 92, none, some 93, none, some 94, some 95, some 96, some 97, some 98]), .inr (0, 6, []), .inr (0, 6, []), .inr (0, 6, []), .inr (0, 6, []), .inr (0, 8, []), .inr (0, 8, []), .inr (0, 40, []), .inr (0, 40, []), .inr (0, 40, []), .inr (0, 40, []), .inr (2, 120, []), .inr (2, 260, []), .inr (0, 260, []), .inr (0, 2, []), .inr (3, 122, []), .inr (3, 122, []), .inr (0, 6, []), .inr (0, 130, []), .inr (0, 16, []), .inr (0, 16, []), .inr (0, 16, []), .inr (0, 21, []), .inr (0, 8, []), .inr (0, 5, []), .inr (0, 16, []), .inr (0, 5, []), .inr (0, 50, []), .inr (0, 24, []), .inr (0, 6, []), .inr (0, 6, []), .inr (1, 360, []), .inr (1, 60, [])]
def zshp (k : Nat) : zSp := zshL.getD k (.inr (0, 0, []))
def zN : Nat := 99
def gi (σ : zS) (k j : Nat) : Int32 := σ.1 k j
def gl (σ : zS) (k j : Nat) : Int64 := σ.2 k j
/-- a cell's ints anew; its longs -/
def sA (σ : zS) (k : Nat) (f : Nat → Int32) : zS := (fun q => if q = k then f else σ.1 q, σ.2)
def sL (σ : zS) (k : Nat) (f : Nat → Int64) : zS := (σ.1, fun q => if q = k then f else σ.2 q)
def si (σ : zS) (k j : Nat) (v : Int32) : zS := sA σ k (upd (σ.1 k) j v)
def sl (σ : zS) (k j : Nat) (v : Int64) : zS := sL σ k (vp_updL (σ.2 k) j v)
def zfl (f : Nat → Int32) (j : Nat) (fs : List (Option Nat)) : List Value := match fs with
  | [] => []
  | some r :: fs => .ref r :: zfl f (j + 1) fs
  | none :: fs => .int (f j) :: zfl f (j + 1) fs
def zmk (p : zSp) (f : Nat → Int32) (g : Nat → Int64) : zE := match p with
  | .inl q => .inr (q.1, zfl f 0 q.2)
  | .inr q => .inl (q.1, q.2.1, if q.1 = 1 then .inr (.inl g) else if q.1 = 4 ∨ q.1 = 5 then .inr (.inr (.inr (.inr (fun j => q.2.2[j]?)))) else .inl f)
def zcell (σ : zS) (k : Nat) : zE := zmk (zshp k) (σ.1 k) (σ.2 k)
def zen (σ : zS) : zH := (List.range zN).map (zcell σ)
theorem zen_at (σ : zS) {k : Nat} (hk : k < zN) : (zen σ)[k]? = some (zcell σ k) := by
  unfold zen
  rw [List.getElem?_map, List.getElem?_range hk]
  rfl
theorem zen_set {σ σ' : zS} {k : Nat} (hk : k < zN) (he : ∀ j, j ≠ k → σ'.1 j = σ.1 j ∧ σ'.2 j = σ.2 j) : (zen σ).set k (zcell σ' k) = zen σ' := by
  apply List.ext_getElem?
  intro i
  by_cases hi : i < zN
  · by_cases hik : k = i
    · subst hik
      rw [List.getElem?_set_self (by unfold zen; simp; exact hk), zen_at σ' hk]
    · rw [List.getElem?_set_ne hik, zen_at σ hi, zen_at σ' hi]
      unfold zcell
      obtain ⟨e1, e2⟩ := he i (fun q => hik q.symm)
      rw [e1, e2]
  · rw [List.getElem?_eq_none (by simp [zen]; omega), List.getElem?_eq_none (by simp [zen]; omega)]
theorem zen_len (σ : zS) : (zen σ).length = zN := by unfold zen; simp
theorem zfl_at (f : Nat → Int32) : ∀ (fs : List (Option Nat)) (j k : Nat), (zfl f j fs)[k]? = match fs[k]? with
    | some (some r) => some (.ref r)
    | some none => some (.int (f (j + k)))
    | none => none := by
  intro fs
  induction fs with
  | nil => intro j k; rfl
  | cons x r ih =>
    intro j k
    cases k with
    | zero => cases x <;> rfl
    | succ k =>
      have e : j + (k + 1) = j + 1 + k := by omega
      cases x with
      | none => show (zfl f (j + 1) r)[k]? = _; rw [ih, List.getElem?_cons_succ, e]
      | some y => show (zfl f (j + 1) r)[k]? = _; rw [ih, List.getElem?_cons_succ, e]
theorem zfl_len (f : Nat → Int32) : ∀ (fs : List (Option Nat)) (j : Nat), (zfl f j fs).length = fs.length := by
  intro fs
  induction fs with
  | nil => intro j; rfl
  | cons x r ih =>
    intro j
    cases x with
    | none => show (zfl f (j + 1) r).length + 1 = _; rw [ih]; rfl
    | some y => show (zfl f (j + 1) r).length + 1 = _; rw [ih]; rfl
theorem zN_lt {k : Nat} (hk : k < zN) : k < 1000 := by unfold zN at hk; omega
theorem z_rf {σ : zS} {k c j : Nat} {fs : List (Option Nat)} (hk : k < zN) (hs : zshp k = .inl (c, fs)) (hc : c ≠ 100) : zrf (zen σ) c j k = match fs[j]? with
    | some (some r) => some (.ref r)
    | some none => some (.int (gi σ k j))
    | none => none := by
  unfold zrf
  rw [if_neg hc, if_pos (zN_lt hk), zen_at σ hk]
  unfold zcell zmk
  rw [hs]
  dsimp only
  rw [if_pos rfl, zfl_at, Nat.zero_add]
  rfl
theorem z_rfi {σ : zS} {k c j : Nat} {fs : List (Option Nat)} (hk : k < zN) (hs : zshp k = .inl (c, fs)) (hc : c ≠ 100) (hj : fs[j]? = some none) : zrf (zen σ) c j k = some (.int (gi σ k j)) := by rw [z_rf hk hs hc, hj]
theorem z_rfr {σ : zS} {k c j r : Nat} {fs : List (Option Nat)} (hk : k < zN) (hs : zshp k = .inl (c, fs)) (hc : c ≠ 100) (hj : fs[j]? = some (some r)) : zrf (zen σ) c j k = some (.ref r) := by rw [z_rf hk hs hc, hj]
theorem si_1 (σ : zS) (k j : Nat) (v : Int32) : (si σ k j v).1 k = upd (σ.1 k) j v := by
  show (if k = k then _ else _) = _
  rw [if_pos rfl]
theorem sA_1 (σ : zS) (k : Nat) (f : Nat → Int32) : (sA σ k f).1 k = f := by
  show (if k = k then _ else _) = _
  rw [if_pos rfl]
theorem sA_n (σ : zS) (k : Nat) (f : Nat → Int32) : ∀ j, j ≠ k → (sA σ k f).1 j = σ.1 j ∧ (sA σ k f).2 j = σ.2 j := fun j hj => by
  refine ⟨?_, rfl⟩
  show (if j = k then _ else _) = _
  rw [if_neg hj]
theorem sL_n (σ : zS) (k : Nat) (f : Nat → Int64) : ∀ j, j ≠ k → (sL σ k f).1 j = σ.1 j ∧ (sL σ k f).2 j = σ.2 j := fun j hj => by
  refine ⟨rfl, ?_⟩
  show (if j = k then _ else _) = _
  rw [if_neg hj]
theorem zfl_set (f : Nat → Int32) (v : Int32) : ∀ (fs : List (Option Nat)) (b j : Nat), fs[j]? = some none → (zfl f b fs).set j (.int v) = zfl (upd f (b + j) v) b fs := by
  intro fs
  induction fs with
  | nil => intro b j h; simp at h
  | cons x r ih =>
    intro b j h
    have tl : ∀ (b' : Nat) (i : Nat), i < b' → zfl (upd f i v) b' r = zfl f b' r := by
      intro b' i hi
      clear ih h
      induction r generalizing b' with
      | nil => rfl
      | cons y r ih2 =>
        cases y with
        | none =>
          show Value.int (upd f i v b') :: zfl (upd f i v) (b' + 1) r = Value.int (f b') :: zfl f (b' + 1) r
          rw [ih2 (b' + 1) (by omega)]
          unfold upd
          rw [if_neg (by omega)]
        | some z =>
          show Value.ref z :: zfl (upd f i v) (b' + 1) r = Value.ref z :: zfl f (b' + 1) r
          rw [ih2 (b' + 1) (by omega)]
    cases j with
    | zero =>
      cases h
      show Value.int v :: zfl f (b + 1) r = Value.int (upd f b v b) :: zfl (upd f b v) (b + 1) r
      rw [tl (b + 1) b (by omega)]
      unfold upd
      rw [if_pos rfl]
    | succ j =>
      rw [List.getElem?_cons_succ] at h
      have e : b + (j + 1) = b + 1 + j := by omega
      rw [e]
      cases x with
      | none =>
        show Value.int (f b) :: (zfl f (b + 1) r).set j (.int v) = Value.int (upd f (b + 1 + j) v b) :: zfl (upd f (b + 1 + j) v) (b + 1) r
        rw [ih (b + 1) j h]
        unfold upd
        rw [if_neg (by omega)]
      | some y =>
        show Value.ref y :: (zfl f (b + 1) r).set j (.int v) = Value.ref y :: zfl (upd f (b + 1 + j) v) (b + 1) r
        rw [ih (b + 1) j h]
theorem z_pf {σ : zS} {k c j : Nat} {fs : List (Option Nat)} {v : Int32} (hk : k < zN) (hs : zshp k = .inl (c, fs)) (hj : fs[j]? = some none) : zpf (zen σ) c j k (.int v) = some (zen (si σ k j v)) := by
  unfold zpf
  rw [if_pos (zN_lt hk), zen_at σ hk]
  have e : zcell σ k = .inr (c, zfl (σ.1 k) 0 fs) := by unfold zcell; rw [hs]; rfl
  rw [e]
  dsimp only
  rw [if_pos ⟨rfl, by rw [zfl_len]; exact (List.getElem?_eq_some_iff.mp hj).1⟩, zfl_set _ _ _ _ _ hj, Nat.zero_add]
  have e2 : zcell (si σ k j v) k = .inr (c, zfl (upd (σ.1 k) j v) 0 fs) := by unfold zcell; rw [hs, si_1]; rfl
  rw [← e2, zen_set (σ' := si σ k j v) hk (sA_n σ k _)]
theorem z_ia {X : zX} {σ : zS} {k t n : Nat} {rs : List Nat} (hk : k < zN) (hs : zshp k = .inr (t, n, rs)) (ht : t ≠ 1 ∧ t ≠ 4 ∧ t ≠ 5) : zia X (zen σ) t k = some (n, σ.1 k) := by
  unfold zia
  have e : zcell σ k = .inl (t, n, .inl (σ.1 k)) := by
    unfold zcell; rw [hs]
    show Sum.inl (t, n, if t = 1 then _ else if t = 4 ∨ t = 5 then _ else _) = _
    rw [if_neg ht.1, if_neg (fun q => q.elim ht.2.1 ht.2.2)]
  rw [if_pos (zN_lt hk), zen_at σ hk, e]
  dsimp only
  rw [if_pos rfl]
theorem z_pi {σ : zS} {k t n j : Nat} {v : Int32} {rs : List Nat} (hk : k < zN) (hs : zshp k = .inr (t, n, rs)) (ht : t ≠ 1 ∧ t ≠ 4 ∧ t ≠ 5) : zpi (zen σ) t k j v = some (zen (si σ k j v)) := by
  unfold zpi
  have e : ∀ τ : zS, zcell τ k = .inl (t, n, .inl (τ.1 k)) := by
    intro τ
    unfold zcell; rw [hs]
    show Sum.inl (t, n, if t = 1 then _ else if t = 4 ∨ t = 5 then _ else _) = _
    rw [if_neg ht.1, if_neg (fun q => q.elim ht.2.1 ht.2.2)]
  rw [if_pos (zN_lt hk), zen_at σ hk, e]
  dsimp only
  rw [if_pos rfl, ← si_1, ← e, zen_set (σ' := si σ k j v) hk (sA_n σ k _)]
theorem z_la {σ : zS} {k n : Nat} {rs : List Nat} (hk : k < zN) (hs : zshp k = .inr (1, n, rs)) : zla (zen σ) k = some (n, σ.2 k) := by
  unfold zla
  have e : zcell σ k = .inl (1, n, .inr (.inl (σ.2 k))) := by unfold zcell; rw [hs]; rfl
  rw [if_pos (zN_lt hk), zen_at σ hk, e]
  rfl
theorem sl_1 (σ : zS) (k j : Nat) (v : Int64) : (sl σ k j v).2 k = vp_updL (σ.2 k) j v := by
  show (if k = k then _ else _) = _
  rw [if_pos rfl]
theorem z_pl {σ : zS} {k n j : Nat} {v : Int64} {rs : List Nat} (hk : k < zN) (hs : zshp k = .inr (1, n, rs)) : zpl (zen σ) k j v = some (zen (sl σ k j v)) := by
  unfold zpl
  have e : ∀ τ : zS, zcell τ k = .inl (1, n, .inr (.inl (τ.2 k))) := by intro τ; unfold zcell; rw [hs]; rfl
  rw [if_pos (zN_lt hk), zen_at σ hk, e]
  dsimp only
  rw [if_pos rfl, ← sl_1, ← e, zen_set (σ' := sl σ k j v) hk (sL_n σ k _)]
theorem z_ra {σ : zS} {k t n : Nat} {rs : List Nat} (hk : k < zN) (hs : zshp k = .inr (t, n, rs)) (ht : t = 4 ∨ t = 5) : zra (zen σ) k = some (t, n, fun j => rs[j]?) := by
  unfold zra
  have e : zcell σ k = .inl (t, n, .inr (.inr (.inr (.inr (fun j => rs[j]?))))) := by
    unfold zcell; rw [hs]
    show Sum.inl (t, n, if t = 1 then _ else if t = 4 ∨ t = 5 then _ else _) = _
    rw [if_neg (by omega), if_pos ht]
  rw [if_pos (zN_lt hk), zen_at σ hk, e]
  dsimp only
  rw [if_pos ht]
theorem z_len {X : zX} {σ : zS} {k t n : Nat} {rs : List Nat} (hk : k < zN) (hs : zshp k = .inr (t, n, rs)) (ht : t < 6) : zlen X (zen σ) k = some n := by
  unfold zlen
  have e : ∃ z, zcell σ k = .inl (t, n, z) := by unfold zcell; rw [hs]; exact ⟨_, rfl⟩
  obtain ⟨z, e⟩ := e
  rw [if_pos (zN_lt hk), zen_at σ hk, e]
  dsimp only
  rw [if_pos ht]
theorem z_cpyi {σ : zS} {k n : Nat} {f : Nat → Int32} {rs : List Nat} (hk : k < zN) (hs : zshp k = .inr (0, n, rs)) : (zen σ).set k (.inl (0, n, .inl f)) = zen (sA σ k f) := by
  have e : zcell (sA σ k f) k = .inl (0, n, .inl f) := by unfold zcell; rw [hs, sA_1]; rfl
  rw [← e, zen_set hk (sA_n σ k _)]
theorem z_cpyl {σ : zS} {k n : Nat} {f : Nat → Int64} {rs : List Nat} (hk : k < zN) (hs : zshp k = .inr (1, n, rs)) : (zen σ).set k (.inl (1, n, .inr (.inl f))) = zen (sL σ k f) := by
  have e : zcell (sL σ k f) k = .inl (1, n, .inr (.inl f)) := by
    unfold zcell; rw [hs]
    show Sum.inl (1, n, Sum.inr (Sum.inl (if k = k then f else _))) = _
    rw [if_pos rfl]
  rw [← e, zen_set hk (sL_n σ k _)]
/-- the bridges, the shelves, the laws -/
def zisB (r : Nat) : Bool := decide (zshp r = .inl (2, [some (r + 1)])) && decide (zshp (r + 1) = .inr (0, 16, [])) && decide (r + 1 < zN)
def zisS (r : Nat) : Bool := decide (zshp r = .inl (8, [some (r + 1), none, none, none, none])) && decide (zshp (r + 1) = .inr (1, 60, [])) && decide (r + 1 < zN)
def zisL (r : Nat) : Bool := decide (zshp r = .inl (6, [some (r + 1), some (r + 2), some (r + 3), none, none])) && decide (zshp (r + 1) = .inr (0, 121, [])) && decide (zshp (r + 2) = .inr (0, 121, [])) && decide (zshp (r + 3) = .inr (0, 121, [])) && decide (r + 3 < zN)
theorem zB_1 {r : Nat} (h : zisB r = true) : zshp r = .inl (2, [some (r + 1)]) ∧ zshp (r + 1) = .inr (0, 16, []) ∧ r < zN ∧ r + 1 < zN := by
  unfold zisB at h
  simp only [Bool.and_eq_true, decide_eq_true_eq] at h
  exact ⟨h.1.1, h.1.2, by omega, h.2⟩
theorem zS_1 {r : Nat} (h : zisS r = true) : zshp r = .inl (8, [some (r + 1), none, none, none, none]) ∧ zshp (r + 1) = .inr (1, 60, []) ∧ r < zN ∧ r + 1 < zN := by
  unfold zisS at h
  simp only [Bool.and_eq_true, decide_eq_true_eq] at h
  exact ⟨h.1.1, h.1.2, by omega, h.2⟩
theorem zL_1 {r : Nat} (h : zisL r = true) : zshp r = .inl (6, [some (r + 1), some (r + 2), some (r + 3), none, none]) ∧ zshp (r + 1) = .inr (0, 121, []) ∧ zshp (r + 2) = .inr (0, 121, []) ∧ zshp (r + 3) = .inr (0, 121, []) ∧ r < zN ∧ r + 1 < zN ∧ r + 2 < zN ∧ r + 3 < zN := by
  unfold zisL at h
  simp only [Bool.and_eq_true, decide_eq_true_eq] at h
  exact ⟨h.1.1.1.1, h.1.1.1.2, h.1.1.2, h.1.2, by omega, by omega, by omega, h.2⟩
theorem zB_all : ∀ k, k < 7 → zisB (49 + 2 * k) = true := by decide +kernel
theorem zS_all : ∀ k, k < 6 → zisS (29 + 2 * k) = true := by decide +kernel
