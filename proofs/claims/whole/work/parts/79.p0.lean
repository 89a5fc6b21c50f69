/-! the text of a law: what it is read as -/
abbrev pR : Type := Nat × Option (List Int)
def nmI (b : Int) : Int := if b = 103 then 0 else if b = 104 then 1 else if b = 116 then 2 else if b = 101 then 3 else if b = 100 then 4 else if b = 105 then 5 else -1
def jnI (b : Int) : Int := if b = 124 then 0 else if b = 38 then 1 else if b = 60 then 2 else if b = 61 then 3 else if b = 62 then 4 else if b = 43 then 5 else if b = 45 then 6 else if b = 42 then 7 else if b = 47 then 8 else if b = 37 then 9 else -1
def lvI (j : Int) : Int := if j = 0 then 0 else if j = 1 then 1 else if j ≤ 4 then 2 else if j ≤ 6 then 3 else 4
theorem nmI_c (b : Int) : nmI b = -1 ∨ (b = 103 ∧ nmI b = 0) ∨ (b = 104 ∧ nmI b = 1) ∨ (b = 116 ∧ nmI b = 2) ∨ (b = 101 ∧ nmI b = 3) ∨ (b = 100 ∧ nmI b = 4) ∨ (b = 105 ∧ nmI b = 5) := by
  unfold nmI
  by_cases h0 : b = 103
  · rw [if_pos h0]; exact Or.inr (Or.inl ⟨h0, rfl⟩)
  · skip
    by_cases h1 : b = 104
    · rw [if_neg h0, if_pos h1]; exact Or.inr (Or.inr (Or.inl ⟨h1, rfl⟩))
    · skip
      by_cases h2 : b = 116
      · rw [if_neg h0, if_neg h1, if_pos h2]; exact Or.inr (Or.inr (Or.inr (Or.inl ⟨h2, rfl⟩)))
      · skip
        by_cases h3 : b = 101
        · rw [if_neg h0, if_neg h1, if_neg h2, if_pos h3]; exact Or.inr (Or.inr (Or.inr (Or.inr (Or.inl ⟨h3, rfl⟩))))
        · skip
          by_cases h4 : b = 100
          · rw [if_neg h0, if_neg h1, if_neg h2, if_neg h3, if_pos h4]; exact Or.inr (Or.inr (Or.inr (Or.inr (Or.inr (Or.inl ⟨h4, rfl⟩)))))
          · skip
            by_cases h5 : b = 105
            · rw [if_neg h0, if_neg h1, if_neg h2, if_neg h3, if_neg h4, if_pos h5]; exact Or.inr (Or.inr (Or.inr (Or.inr (Or.inr (Or.inr (⟨h5, rfl⟩))))))
            · rw [if_neg h0, if_neg h1, if_neg h2, if_neg h3, if_neg h4, if_neg h5]; exact Or.inl rfl
theorem jnI_c (b : Int) : jnI b = -1 ∨ (b = 124 ∧ jnI b = 0) ∨ (b = 38 ∧ jnI b = 1) ∨ (b = 60 ∧ jnI b = 2) ∨ (b = 61 ∧ jnI b = 3) ∨ (b = 62 ∧ jnI b = 4) ∨ (b = 43 ∧ jnI b = 5) ∨ (b = 45 ∧ jnI b = 6) ∨ (b = 42 ∧ jnI b = 7) ∨ (b = 47 ∧ jnI b = 8) ∨ (b = 37 ∧ jnI b = 9) := by
  unfold jnI
  by_cases h0 : b = 124
  · rw [if_pos h0]; exact Or.inr (Or.inl ⟨h0, rfl⟩)
  · skip
    by_cases h1 : b = 38
    · rw [if_neg h0, if_pos h1]; exact Or.inr (Or.inr (Or.inl ⟨h1, rfl⟩))
    · skip
      by_cases h2 : b = 60
      · rw [if_neg h0, if_neg h1, if_pos h2]; exact Or.inr (Or.inr (Or.inr (Or.inl ⟨h2, rfl⟩)))
      · skip
        by_cases h3 : b = 61
        · rw [if_neg h0, if_neg h1, if_neg h2, if_pos h3]; exact Or.inr (Or.inr (Or.inr (Or.inr (Or.inl ⟨h3, rfl⟩))))
        · skip
          by_cases h4 : b = 62
          · rw [if_neg h0, if_neg h1, if_neg h2, if_neg h3, if_pos h4]; exact Or.inr (Or.inr (Or.inr (Or.inr (Or.inr (Or.inl ⟨h4, rfl⟩)))))
          · skip
            by_cases h5 : b = 43
            · rw [if_neg h0, if_neg h1, if_neg h2, if_neg h3, if_neg h4, if_pos h5]; exact Or.inr (Or.inr (Or.inr (Or.inr (Or.inr (Or.inr (Or.inl ⟨h5, rfl⟩))))))
            · skip
              by_cases h6 : b = 45
              · rw [if_neg h0, if_neg h1, if_neg h2, if_neg h3, if_neg h4, if_neg h5, if_pos h6]; exact Or.inr (Or.inr (Or.inr (Or.inr (Or.inr (Or.inr (Or.inr (Or.inl ⟨h6, rfl⟩)))))))
              · skip
                by_cases h7 : b = 42
                · rw [if_neg h0, if_neg h1, if_neg h2, if_neg h3, if_neg h4, if_neg h5, if_neg h6, if_pos h7]; exact Or.inr (Or.inr (Or.inr (Or.inr (Or.inr (Or.inr (Or.inr (Or.inr (Or.inl ⟨h7, rfl⟩))))))))
                · skip
                  by_cases h8 : b = 47
                  · rw [if_neg h0, if_neg h1, if_neg h2, if_neg h3, if_neg h4, if_neg h5, if_neg h6, if_neg h7, if_pos h8]; exact Or.inr (Or.inr (Or.inr (Or.inr (Or.inr (Or.inr (Or.inr (Or.inr (Or.inr (Or.inl ⟨h8, rfl⟩)))))))))
                  · skip
                    by_cases h9 : b = 37
                    · rw [if_neg h0, if_neg h1, if_neg h2, if_neg h3, if_neg h4, if_neg h5, if_neg h6, if_neg h7, if_neg h8, if_pos h9]; exact Or.inr (Or.inr (Or.inr (Or.inr (Or.inr (Or.inr (Or.inr (Or.inr (Or.inr (Or.inr (⟨h9, rfl⟩))))))))))
                    · rw [if_neg h0, if_neg h1, if_neg h2, if_neg h3, if_neg h4, if_neg h5, if_neg h6, if_neg h7, if_neg h8, if_neg h9]; exact Or.inl rfl
theorem nmI_b (b : Int) : (nmI b = -1 ∨ (0 ≤ nmI b ∧ nmI b < 6 ∧ 100 ≤ b ∧ b ≤ 116)) := by
  rcases nmI_c b with h | h | h | h | h | h | h
  · exact Or.inl h
  · exact Or.inr ⟨by rw [h.2]; decide, by rw [h.2]; decide, by rw [h.1]; decide, by rw [h.1]; decide⟩
  · exact Or.inr ⟨by rw [h.2]; decide, by rw [h.2]; decide, by rw [h.1]; decide, by rw [h.1]; decide⟩
  · exact Or.inr ⟨by rw [h.2]; decide, by rw [h.2]; decide, by rw [h.1]; decide, by rw [h.1]; decide⟩
  · exact Or.inr ⟨by rw [h.2]; decide, by rw [h.2]; decide, by rw [h.1]; decide, by rw [h.1]; decide⟩
  · exact Or.inr ⟨by rw [h.2]; decide, by rw [h.2]; decide, by rw [h.1]; decide, by rw [h.1]; decide⟩
  · exact Or.inr ⟨by rw [h.2]; decide, by rw [h.2]; decide, by rw [h.1]; decide, by rw [h.1]; decide⟩
theorem jnI_b (b : Int) : (jnI b = -1 ∨ (0 ≤ jnI b ∧ jnI b < 10 ∧ 37 ≤ b ∧ b ≤ 124 ∧ (b < 48 ∨ 57 < b) ∧ b ≠ 41 ∧ b ≠ 59 ∧ b ≠ 63)) := by
  rcases jnI_c b with h | h | h | h | h | h | h | h | h | h | h
  · exact Or.inl h
  · exact Or.inr ⟨by rw [h.2]; decide, by rw [h.2]; decide, by rw [h.1]; decide, by rw [h.1]; decide, by rw [h.1]; decide, by rw [h.1]; decide, by rw [h.1]; decide, by rw [h.1]; decide⟩
  · exact Or.inr ⟨by rw [h.2]; decide, by rw [h.2]; decide, by rw [h.1]; decide, by rw [h.1]; decide, by rw [h.1]; decide, by rw [h.1]; decide, by rw [h.1]; decide, by rw [h.1]; decide⟩
  · exact Or.inr ⟨by rw [h.2]; decide, by rw [h.2]; decide, by rw [h.1]; decide, by rw [h.1]; decide, by rw [h.1]; decide, by rw [h.1]; decide, by rw [h.1]; decide, by rw [h.1]; decide⟩
  · exact Or.inr ⟨by rw [h.2]; decide, by rw [h.2]; decide, by rw [h.1]; decide, by rw [h.1]; decide, by rw [h.1]; decide, by rw [h.1]; decide, by rw [h.1]; decide, by rw [h.1]; decide⟩
  · exact Or.inr ⟨by rw [h.2]; decide, by rw [h.2]; decide, by rw [h.1]; decide, by rw [h.1]; decide, by rw [h.1]; decide, by rw [h.1]; decide, by rw [h.1]; decide, by rw [h.1]; decide⟩
  · exact Or.inr ⟨by rw [h.2]; decide, by rw [h.2]; decide, by rw [h.1]; decide, by rw [h.1]; decide, by rw [h.1]; decide, by rw [h.1]; decide, by rw [h.1]; decide, by rw [h.1]; decide⟩
  · exact Or.inr ⟨by rw [h.2]; decide, by rw [h.2]; decide, by rw [h.1]; decide, by rw [h.1]; decide, by rw [h.1]; decide, by rw [h.1]; decide, by rw [h.1]; decide, by rw [h.1]; decide⟩
  · exact Or.inr ⟨by rw [h.2]; decide, by rw [h.2]; decide, by rw [h.1]; decide, by rw [h.1]; decide, by rw [h.1]; decide, by rw [h.1]; decide, by rw [h.1]; decide, by rw [h.1]; decide⟩
  · exact Or.inr ⟨by rw [h.2]; decide, by rw [h.2]; decide, by rw [h.1]; decide, by rw [h.1]; decide, by rw [h.1]; decide, by rw [h.1]; decide, by rw [h.1]; decide, by rw [h.1]; decide⟩
  · exact Or.inr ⟨by rw [h.2]; decide, by rw [h.2]; decide, by rw [h.1]; decide, by rw [h.1]; decide, by rw [h.1]; decide, by rw [h.1]; decide, by rw [h.1]; decide, by rw [h.1]; decide⟩
def numP (B : Nat → Int) : Nat → Nat → Int → Int × Nat
  | 0, p, a => (a, p)
  | k + 1, p, a => if 48 ≤ B p ∧ B p ≤ 57 then numP B k (p + 1) (a * 10 + B p - 48) else (a, p)
def figP (B : Nat → Int) (p : Nat) : pR := if (numP B 4 p 0).2 = p then (p, none) else if 48 ≤ B (numP B 4 p 0).2 ∧ B (numP B 4 p 0).2 ≤ 57 then ((numP B 4 p 0).2, none) else ((numP B 4 p 0).2, some [(numP B 4 p 0).1])
def chP (B : Nat → Int) (sub : Nat → pR) (l : Int) : Nat → Nat → List Int → pR
  | 0, p, c => (p, some c)
  | f + 1, p, c => if 0 ≤ jnI (B p) ∧ lvI (jnI (B p)) = l then (match sub (p + 1) with
    | (q, none) => (q, none)
    | (q, some c2) => chP B sub l f q (c ++ c2 ++ [10006 + jnI (B p)])) else (p, some c)
def lvP (B : Nat → Int) (n : Nat) (sub : Nat → pR) : Nat → Nat → pR
  | 0, p => sub p
  | m + 1, p => match lvP B n sub m p with
    | (q, none) => (q, none)
    | (q, some c) => chP B (lvP B n sub m) (4 - (m : Int)) (if m = 2 then 1 else n) q c
def unP (b : Int) (r : pR) : pR := match r with
  | (q, none) => (q, none)
  | (q, some c) => (q, some (c ++ [if b = 33 then 10016 else 10017]))
def clP (B : Nat → Int) (r : pR) : pR := match r with
  | (q, none) => (q, none)
  | (q, some c) => if B q = 41 then (q + 1, some c) else (q, none)
def opP (B : Nat → Int) (n : Nat) : Nat → Nat → pR
  | 0 => fun p => if 0 ≤ nmI (B p) then (p + 1, some [10000 + nmI (B p)]) else if B p = 33 ∨ B p = 45 ∨ B p = 40 then (p, none) else figP B p
  | k + 1 => fun p => if 0 ≤ nmI (B p) then (p + 1, some [10000 + nmI (B p)]) else if B p = 33 ∨ B p = 45 then unP (B p) (opP B n k (p + 1)) else if B p = 40 then clP B (lvP B n (opP B n k) 5 (p + 1)) else figP B p
/-- bytes: none behind the end -/
def bOk (B : Nat → Int) (n : Nat) : Prop := (∀ j, n ≤ j → B j = -1) ∧ ∀ j, j < n → 0 ≤ B j ∧ B j ≤ 255
theorem bOk.lt {B : Nat → Int} {n p : Nat} (h : bOk B n) (hp : 0 ≤ B p) : p < n := by
  rcases Nat.lt_or_ge p n with q | q
  · exact q
  · have := h.1 p q; omega
def WfR (p n : Nat) (r : pR) : Prop := p ≤ r.1 ∧ r.1 ≤ n ∧ ∀ c, r.2 = some c → p + c.length ≤ r.1 ∧ 0 < c.length ∧ isE c
theorem numP_b {B : Nat → Int} {n : Nat} (h : bOk B n) : ∀ (k p : Nat) (a : Int), p ≤ n → 0 ≤ a → p ≤ (numP B k p a).2 ∧ (numP B k p a).2 ≤ n ∧ 0 ≤ (numP B k p a).1 ∧ (numP B k p a).1 < (a + 1) * 10 ^ k := by
  intro k
  induction k with
  | zero => intro p a hp ha; unfold numP; refine ⟨Nat.le_refl _, hp, ha, ?_⟩; show a < (a + 1) * 1; omega
  | succ k ih =>
    intro p a hp ha
    unfold numP
    by_cases c : 48 ≤ B p ∧ B p ≤ 57
    · rw [if_pos c]
      have hlt := h.lt (p := p) (by omega)
      have H := ih (p + 1) (a * 10 + B p - 48) (by omega) (by omega)
      generalize numP B k (p + 1) (a * 10 + B p - 48) = r at H ⊢
      generalize B p = x at c H
      refine ⟨by omega, H.2.1, H.2.2.1, Int.lt_of_lt_of_le H.2.2.2 ?_⟩
      have e : (a + 1) * 10 ^ (k + 1) = ((a + 1) * 10) * 10 ^ k := by rw [Int.pow_succ, Int.mul_comm ((10 : Int) ^ k) 10, Int.mul_assoc]
      rw [e]
      exact Int.mul_le_mul_of_nonneg_right (show a * 10 + x - 48 + 1 ≤ (a + 1) * 10 by clear H e; omega) (Int.le_of_lt (Int.pow_pos (by decide)))
    · rw [if_neg c]
      refine ⟨Nat.le_refl _, hp, ha, ?_⟩
      have h1 : (1 : Int) ≤ 10 ^ (k + 1) := Int.pow_pos (n := 10) (m := k + 1) (by decide)
      have h2 : (a + 1) * 1 ≤ (a + 1) * 10 ^ (k + 1) := Int.mul_le_mul_of_nonneg_left h1 (show 0 ≤ a + 1 by clear h1; omega)
      show a < (a + 1) * 10 ^ (k + 1)
      generalize (a + 1) * 10 ^ (k + 1) = y at h2 ⊢
      clear h1
      omega
theorem figP_w {B : Nat → Int} {n p : Nat} (h : bOk B n) (hp : p ≤ n) : WfR p n (figP B p) := by
  have H := numP_b h 4 p 0 hp (by decide)
  have e4 : ((0 : Int) + 1) * 10 ^ 4 = 10000 := by decide
  rw [e4] at H
  unfold figP
  generalize numP B 4 p 0 = r at H ⊢
  obtain ⟨v, q⟩ := r
  dsimp only at H ⊢
  by_cases c1 : q = p
  · rw [if_pos c1]; exact ⟨Nat.le_refl _, hp, fun c hc => by cases hc⟩
  · rw [if_neg c1]
    by_cases c2 : 48 ≤ B q ∧ B q ≤ 57
    · rw [if_pos c2]; exact ⟨H.1, H.2.1, fun c hc => by cases hc⟩
    · rw [if_neg c2]
      refine ⟨H.1, H.2.1, fun c hc => ?_⟩
      cases hc
      exact ⟨by show p + 1 ≤ q; omega, Nat.one_pos, isE.num ⟨H.2.2.1, H.2.2.2⟩⟩
theorem chP_w {B : Nat → Int} {n : Nat} {sub : Nat → pR} {l : Int} (h : bOk B n) (hs : ∀ p, p ≤ n → WfR p n (sub p)) (p0 : Nat) : ∀ (f p : Nat) (c : List Int), p0 ≤ p → p ≤ n → p0 + c.length ≤ p → 0 < c.length → isE c → WfR p0 n (chP B sub l f p c) := by
  intro f
  induction f with
  | zero =>
    intro p c h0 hp h1 h2 h3
    refine ⟨h0, hp, fun c' hc => ?_⟩
    cases hc
    exact ⟨h1, h2, h3⟩
  | succ f ih =>
    intro p c h0 hp h1 h2 h3
    unfold chP
    by_cases cc : 0 ≤ jnI (B p) ∧ lvI (jnI (B p)) = l
    · rw [if_pos cc]
      have jb := jnI_b (B p)
      generalize jnI (B p) = jn at jb cc ⊢
      have hlt := h.lt (p := p) (by omega)
      have S := hs (p + 1) (by omega)
      generalize sub (p + 1) = r at S ⊢
      obtain ⟨q, o⟩ := r
      cases o with
      | none => exact ⟨by have := S.1; show p0 ≤ q; dsimp only at this; omega, S.2.1, fun c' hc => by cases hc⟩
      | some c2 =>
        have S3 := S.2.2 c2 rfl
        have S1 := S.1
        dsimp only at S3 S1 ⊢
        refine ih q _ (by omega) S.2.1 (by rw [List.length_append, List.length_append, List.length_singleton]; omega) (by rw [List.length_append, List.length_singleton]; omega) (isE.join h3 S3.2.2 (by omega))
    · rw [if_neg cc]
      refine ⟨h0, hp, fun c' hc => ?_⟩
      cases hc
      exact ⟨h1, h2, h3⟩
theorem lvP_w {B : Nat → Int} {n : Nat} {sub : Nat → pR} (h : bOk B n) (hs : ∀ p, p ≤ n → WfR p n (sub p)) : ∀ (m p : Nat), p ≤ n → WfR p n (lvP B n sub m p) := by
  intro m
  induction m with
  | zero => intro p hp; exact hs p hp
  | succ m ih =>
    intro p hp
    have S := ih p hp
    unfold lvP
    generalize lvP B n sub m p = r at S ⊢
    obtain ⟨q, o⟩ := r
    cases o with
    | none => exact ⟨S.1, S.2.1, fun c' hc => by cases hc⟩
    | some c =>
      have S3 := S.2.2 c rfl
      exact chP_w h ih p _ q c S.1 S.2.1 S3.1 S3.2.1 S3.2.2
theorem opP_w {B : Nat → Int} {n : Nat} (h : bOk B n) : ∀ (k p : Nat), p ≤ n → WfR p n (opP B n k p) := by
  intro k
  induction k with
  | zero =>
    intro p hp
    unfold opP
    have nb := nmI_b (B p)
    generalize nmI (B p) = nm at nb ⊢
    by_cases c1 : 0 ≤ nm
    · rw [if_pos c1]
      have hlt := h.lt (p := p) (by omega)
      refine ⟨by show p ≤ p + 1; omega, hlt, fun c hc => ?_⟩
      cases hc
      exact ⟨Nat.le_refl _, Nat.one_pos, isE.name (by omega)⟩
    · rw [if_neg c1]
      by_cases c2 : B p = 33 ∨ B p = 45 ∨ B p = 40
      · rw [if_pos c2]; exact ⟨Nat.le_refl _, hp, fun c hc => by cases hc⟩
      · rw [if_neg c2]; exact figP_w h hp
  | succ k ih =>
    intro p hp
    unfold opP
    have nb := nmI_b (B p)
    generalize nmI (B p) = nm at nb ⊢
    by_cases c1 : 0 ≤ nm
    · rw [if_pos c1]
      have hlt := h.lt (p := p) (by omega)
      refine ⟨by show p ≤ p + 1; omega, hlt, fun c hc => ?_⟩
      cases hc
      exact ⟨Nat.le_refl _, Nat.one_pos, isE.name (by omega)⟩
    · rw [if_neg c1]
      by_cases c2 : B p = 33 ∨ B p = 45
      · rw [if_pos c2]
        have hlt := h.lt (p := p) (by omega)
        have S := ih (p + 1) (by omega)
        generalize opP B n k (p + 1) = r at S ⊢
        obtain ⟨q, o⟩ := r
        cases o with
        | none => exact ⟨by have := S.1; show p ≤ q; dsimp only at this; omega, S.2.1, fun c' hc => by cases hc⟩
        | some c =>
          have S3 := S.2.2 c rfl
          have S1 := S.1
          dsimp only at S3 S1
          refine ⟨by show p ≤ q; omega, S.2.1, fun c' hc => ?_⟩
          cases hc
          refine ⟨by show p + (c ++ [if B p = 33 then 10016 else 10017]).length ≤ q; rw [List.length_append, List.length_singleton]; omega, by rw [List.length_append, List.length_singleton]; omega, ?_⟩
          by_cases c3 : B p = 33
          · rw [if_pos c3]; exact S3.2.2.not
          · rw [if_neg c3]; exact S3.2.2.neg
      · rw [if_neg c2]
        by_cases c3 : B p = 40
        · rw [if_pos c3]
          have hlt := h.lt (p := p) (by omega)
          have S := lvP_w h ih 5 (p + 1) (by omega)
          generalize lvP B n (opP B n k) 5 (p + 1) = r at S ⊢
          obtain ⟨q, o⟩ := r
          cases o with
          | none => exact ⟨by have := S.1; show p ≤ q; dsimp only at this; omega, S.2.1, fun c' hc => by cases hc⟩
          | some c =>
            have S3 := S.2.2 c rfl
            have S1 := S.1
            dsimp only at S3 S1
            show WfR p n (if B q = 41 then (q + 1, some c) else (q, none))
            by_cases c4 : B q = 41
            · rw [if_pos c4]
              have hq := h.lt (p := q) (by omega)
              refine ⟨by show p ≤ q + 1; omega, hq, fun c' hc => ?_⟩
              cases hc
              exact ⟨by show p + c.length ≤ q + 1; omega, S3.2.1, S3.2.2⟩
            · rw [if_neg c4]; exact ⟨by show p ≤ q; omega, S.2.1, fun c' hc => by cases hc⟩
        · rw [if_neg c3]; exact figP_w h hp
