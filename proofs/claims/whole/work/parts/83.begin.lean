/-! the heap of the beginning -/
def zext0 (h : zH) : zS := (fun k j => match h[k]? with
    | some (.inl (_, _, .inl f)) => f j
    | some (.inr (_, fs)) => (match fs[j]? with
      | some (.int v) => v
      | _ => 0)
    | _ => 0, fun k j => match h[k]? with
    | some (.inl (_, _, .inr (.inl g))) => g j
    | _ => 0)
def isI (v : Value) : Bool := match v with
  | .int _ => true
  | _ => false
def shF : List (Option Nat) → List Value → Bool
  | [], [] => true
  | some r :: fs, v :: vs => decide (v = .ref r) && shF fs vs
  | none :: fs, v :: vs => isI v && shF fs vs
  | _, _ => false
def shE (p : zSp) (e : zE) : Bool := match p, e with
  | .inl q, .inr r => decide (q.1 = r.1) && shF q.2 r.2
  | .inr q, .inl r => decide (q.1 = r.1) && decide (q.2.1 = r.2.1) && (match r.2.2 with
    | .inl _ => decide (¬ q.1 = 1) && decide (¬ (q.1 = 4 ∨ q.1 = 5))
    | .inr (.inl _) => decide (q.1 = 1)
    | .inr (.inr (.inr (.inr f))) => decide (¬ q.1 = 1) && decide (q.1 = 4 ∨ q.1 = 5) && decide (q.2.2.length = q.2.1) && (List.range q.2.1).all (fun j => decide (f j = q.2.2[j]?))
    | _ => false)
  | _, _ => false
def shp (h : zH) : Bool := decide (h.length = zN) && (List.range zN).all (fun k => match h[k]? with
  | some e => shE (zshp k) e
  | none => false)
theorem shF_fl (vs0 : List Value) : ∀ (fs : List (Option Nat)) (vs pre : List Value), shF fs vs = true → vs0 = pre ++ vs → zfl (fun j => match vs0[j]? with
    | some (.int v) => v
    | _ => 0) pre.length fs = vs := by
  intro fs
  induction fs with
  | nil =>
    intro vs pre h _
    cases vs with
    | nil => rfl
    | cons v vs => cases h
  | cons x fs ih =>
    intro vs pre h hp
    cases vs with
    | nil => cases x <;> cases h
    | cons v vs =>
      have hl : (pre ++ [v]).length = pre.length + 1 := by rw [List.length_append, List.length_singleton]
      have e1 : vs0 = (pre ++ [v]) ++ vs := by rw [hp, List.append_assoc]; rfl
      have at0 : vs0[pre.length]? = some v := by rw [hp, List.getElem?_append_right (Nat.le_refl _), Nat.sub_self]; rfl
      cases x with
      | some r =>
        have h2 : (decide (v = .ref r) && shF fs vs) = true := h
        rw [Bool.and_eq_true] at h2
        have hv := of_decide_eq_true h2.1
        have := ih vs (pre ++ [v]) h2.2 e1
        rw [hl] at this
        show Value.ref r :: zfl _ (pre.length + 1) fs = v :: vs
        rw [this, hv]
      | none =>
        have h2 : (isI v && shF fs vs) = true := h
        rw [Bool.and_eq_true] at h2
        have := ih vs (pre ++ [v]) h2.2 e1
        rw [hl] at this
        show Value.int (match vs0[pre.length]? with
          | some (.int v) => v
          | _ => 0) :: zfl _ (pre.length + 1) fs = v :: vs
        rw [this, at0]
        cases v <;> first | rfl | (exact absurd h2.1 (by intro y; cases y))
theorem shE_mk {h : zH} {k : Nat} {e : zE} (hk : h[k]? = some e) (ho : okE e) (hs : shE (zshp k) e = true) : zcell (zext0 h) k = e := by
  unfold zcell
  have e1 : (zext0 h).1 k = fun j => match some e with
    | some (.inl (_, _, .inl f)) => f j
    | some (.inr (_, fs)) => (match fs[j]? with
      | some (.int v) => v
      | _ => 0)
    | _ => 0 := by rw [← hk]; rfl
  have e2 : (zext0 h).2 k = fun j => match some e with
    | some (.inl (_, _, .inr (.inl g))) => g j
    | _ => 0 := by rw [← hk]; rfl
  rw [e1, e2]
  generalize zshp k = p at hs
  cases p with
  | inl q =>
    cases e with
    | inl r => cases hs
    | inr r =>
      obtain ⟨c, fs⟩ := r
      have h2 : (decide (q.1 = c) && shF q.2 fs) = true := hs
      rw [Bool.and_eq_true] at h2
      have hc := of_decide_eq_true h2.1
      have := shF_fl fs q.2 fs [] h2.2 rfl
      show Sum.inr (q.1, zfl _ 0 q.2) = Sum.inr (c, fs)
      rw [hc]
      exact congrArg (fun y => Sum.inr (c, y)) this
  | inr q =>
    cases e with
    | inr r => cases hs
    | inl r =>
      obtain ⟨t, n, A⟩ := r
      have h2 : (decide (q.1 = t) && decide (q.2.1 = n) && (match A with
        | .inl _ => decide (¬ q.1 = 1) && decide (¬ (q.1 = 4 ∨ q.1 = 5))
        | .inr (.inl _) => decide (q.1 = 1)
        | .inr (.inr (.inr (.inr f))) => decide (¬ q.1 = 1) && decide (q.1 = 4 ∨ q.1 = 5) && decide (q.2.2.length = q.2.1) && (List.range q.2.1).all (fun j => decide (f j = q.2.2[j]?))
        | _ => false)) = true := hs
      rw [Bool.and_eq_true, Bool.and_eq_true] at h2
      obtain ⟨⟨h3, h4⟩, h5⟩ := h2
      have h3 := of_decide_eq_true h3
      have h4 := of_decide_eq_true h4
      rcases A with f | g | x | x | f
      · have h6 : (decide (¬ q.1 = 1) && decide (¬ (q.1 = 4 ∨ q.1 = 5))) = true := h5
        rw [Bool.and_eq_true] at h6
        have a1 := of_decide_eq_true h6.1
        have a2 := of_decide_eq_true h6.2
        show Sum.inl (q.1, q.2.1, if q.1 = 1 then _ else if q.1 = 4 ∨ q.1 = 5 then _ else Sum.inl f) = _
        rw [if_neg a1, if_neg a2, h3, h4]
      · have a1 := of_decide_eq_true (show decide (q.1 = 1) = true from h5)
        show Sum.inl (q.1, q.2.1, if q.1 = 1 then Sum.inr (Sum.inl g) else _) = _
        rw [if_pos a1, h3, h4]
      · cases h5
      · cases h5
      · have h6 : (decide (¬ q.1 = 1) && decide (q.1 = 4 ∨ q.1 = 5) && decide (q.2.2.length = q.2.1) && (List.range q.2.1).all (fun j => decide (f j = q.2.2[j]?))) = true := h5
        rw [Bool.and_eq_true, Bool.and_eq_true, Bool.and_eq_true] at h6
        obtain ⟨⟨⟨b1, b2⟩, b3⟩, b4⟩ := h6
        have a1 := of_decide_eq_true b1
        have a2 := of_decide_eq_true b2
        have a3 := of_decide_eq_true b3
        rw [List.all_eq_true] at b4
        have ef : (fun j => q.2.2[j]?) = f := funext fun j => by
          by_cases c : j < q.2.1
          · exact (of_decide_eq_true (b4 j (List.mem_range.mpr c))).symm
          · rw [List.getElem?_eq_none (by omega)]
            exact (ho j (by omega)).symm
        show Sum.inl (q.1, q.2.1, if q.1 = 1 then _ else if q.1 = 4 ∨ q.1 = 5 then Sum.inr (Sum.inr (Sum.inr (Sum.inr (fun j => q.2.2[j]?)))) else _) = _
        rw [if_neg a1, if_pos a2, ef, h3, h4]
theorem shp_zen {h : zH} (hs : shp h = true) (ho : okH h) : h = zen (zext0 h) := by
  unfold shp at hs
  rw [Bool.and_eq_true, List.all_eq_true] at hs
  have hl := of_decide_eq_true hs.1
  apply List.ext_getElem?
  intro i
  by_cases hi : i < zN
  · have h2 := hs.2 i (List.mem_range.mpr hi)
    rw [zen_at _ hi]
    cases he : h[i]? with
    | none => rw [he] at h2; cases h2
    | some e =>
      rw [he] at h2
      rw [shE_mk he (ho i e he) h2]
  · rw [List.getElem?_eq_none (by omega), List.getElem?_eq_none (by rw [zen_len]; omega)]
/-- what holds of the numbers there -/
def relB (σ : zS) : Bool :=
  decide (gi σ 1 1 = 0) && decide (gi σ 1 2 = 0) && decide (gi σ 66 1 = 0) && decide (gi σ 66 6 = 0) && decide (gi σ 66 9 = gi σ 2 48) && decide (gi σ 66 10 = gi σ 2 56) && decide (gi σ 66 11 = gi σ 2 64) && decide (gi σ 66 12 = gi σ 2 72) &&
  decide (2 ≤ (gi σ 2 48).toInt ∧ (gi σ 2 48).toInt ≤ 16) && decide (0 ≤ (gi σ 2 56).toInt ∧ (gi σ 2 56).toInt ≤ 9) && decide (1 ≤ (gi σ 2 64).toInt ∧ (gi σ 2 64).toInt ≤ 60) && decide (0 ≤ (gi σ 2 72).toInt ∧ (gi σ 2 72).toInt ≤ 12) &&
  decide (gi σ 3 3 = 0) && decide (gi σ 3 4 = 0) && decide (gi σ 66 32 = 0) && decide (-1 ≤ (gi σ 13 5).toInt ∧ (gi σ 13 5).toInt ≤ 0) && decide ((gi σ 13 6).toInt = -1) && decide ((gi σ 1 3).toInt = 0) && decide ((gi σ 66 36).toInt = -1) &&
  (List.range 16).all (fun p => decide ((gi σ 19 p).toInt = 0 ∧ (gi σ 85 p).toInt = 0 ∧ (gi σ 22 p).toInt = 0 ∧ (gi σ 91 p).toInt = 0)) && decide (gi σ 17 4 = gi σ 66 46) && (List.range 5).all (fun j => decide (gi σ 20 j = gi σ 90 j ∧ gi σ 23 j = gi σ 92 j)) &&
  decide ((gi σ 24 3).toInt = 0 ∧ (gi σ 24 4).toInt = 0 ∧ (gi σ 66 13).toInt = 0 ∧ (gi σ 66 14).toInt = 0) && decide ((gi σ 7 2).toInt = 0 ∧ (gi σ 66 20).toInt = 0) &&
  (List.range 6).all (fun s => decide ((gi σ (29 + 2 * s) 4).toInt = 0) && decide (gi σ 96 s = gi σ (29 + 2 * s) 4) && decide (gi σ (29 + 2 * s) 1 = 0) && decide ((gi σ 95 s).toInt = -1) && (List.range 60).all (fun j => decide (gl σ (29 + 2 * s + 1) j = gl σ 97 (60 * s + j)))) &&
  decide ((gi σ 63 2).toInt = 0 ∧ (gi σ 66 49).toInt = 0 ∧ (gi σ 63 3).toInt = 0 ∧ (gi σ 66 51).toInt = 0)
theorem relB_rel {σ : zS} (h : relB σ = true) : Rel 0 σ := by
  have e0 := l0
  unfold relB at h
  simp only [Bool.and_eq_true, List.all_eq_true, List.mem_range, decide_eq_true_eq] at h
  obtain ⟨⟨⟨⟨⟨⟨⟨⟨⟨⟨⟨⟨⟨⟨⟨⟨⟨⟨⟨⟨⟨⟨⟨⟨⟨h1, h2⟩, h3⟩, h4⟩, h5⟩, h6⟩, h7⟩, h8⟩, h9⟩, h10⟩, h11⟩, h12⟩, h13⟩, h14⟩, h15⟩, h16⟩, h17⟩, h18⟩, h19⟩, h20⟩, h21⟩, h22⟩, h23⟩, h24⟩, h25⟩, h26⟩ := h
  have nm : ∀ w i, zmean 0 0 w i → (6 ≤ w ∧ w < 10) ∧ i = 0 := fun w i hz => by
    rcases hz with q | q | q <;> omega
  refine ⟨0, 0, fun w i => (gi σ 2 (8 * w + i)).toInt, none, fun _ => 0, ⟨⟨by rw [h1, e0]; rfl, by rw [h2, e0]; rfl, fun w i _ => rfl⟩, ⟨by rw [h3, e0]; rfl, by rw [h4, e0]; rfl, fun i hi => absurd hi (Nat.not_lt_zero i), fun i hi => absurd hi (Nat.not_lt_zero i), by rw [h5], by rw [h6], by rw [h7], by rw [h8]⟩, by omega, by omega, fun w i hz => ?_⟩, ⟨⟨h13, h14⟩, h15⟩, ⟨⟨h16.1, by rw [h18]; exact h16.2, h17, fun _ t ht => absurd ht (Nat.not_lt_zero t)⟩, by rw [h18]; decide, by rw [h18]; decide, h19⟩, ⟨fun p hp => (h20 p hp).1, fun p hp => (h20 p hp).2.1, fun p _ => ⟨by show (0 : Int) ≤ 0; decide, by show (0 : Int) ≤ 999; decide⟩, fun _ p _ => rfl⟩, ⟨⟨fun _ => 0, fun p hp => (h20 p hp).2.2.1, fun p hp => (h20 p hp).2.2.2, fun p _ => ⟨by show (0 : Int) ≤ 0; decide, by show (0 : Int) ≤ 999; decide⟩, fun _ p _ => rfl⟩, h21, fun j hj => h22 j hj⟩, ⟨0, 0, by omega, h23.1, h23.2.1, h23.2.2.1, h23.2.2.2, fun j hj => absurd hj (Nat.not_lt_zero j)⟩, ⟨0, by omega, h24.1, h24.2, fun j hj => absurd hj (Nat.not_lt_zero j)⟩, fun s hs => ?_, ⟨0, 0, by omega, h26.1, h26.2.1, fun j hj => absurd hj (Nat.not_lt_zero j), by omega, h26.2.2.1, h26.2.2.2, fun j hj => absurd hj (Nat.not_lt_zero j)⟩⟩
  · obtain ⟨hw, hi⟩ := nm w i hz
    rw [hi]
    have c : w = 6 ∨ w = 7 ∨ w = 8 ∨ w = 9 := by omega
    rcases c with c | c | c | c
    · rw [c]; exact h9
    · rw [c]; exact h10
    · rw [c]; exact h11
    · rw [c]; exact h12
  · obtain ⟨⟨⟨⟨s1, s2⟩, s3⟩, s4⟩, s5⟩ := h25 s hs
    exact ⟨by rw [s1]; decide, by rw [s1]; decide, s2, fun j hj => s5 j hj, Or.inl ⟨s3, s4⟩⟩
