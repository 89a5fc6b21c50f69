/-! taken -/
def uC (c : Int32) : Nat → Int32 → Int32
  | 0, x => if x = c then 1 else 0
  | n + 1, x => if x < 0 then (if x = c then 1 else 0) else if x = c then 1 else uC c n (zK3 (ix x))
theorem k3_t : ∀ K, K < 8 → (zK3 (ix (aK K))).toInt < 8 := by decide
theorem uC_eq : ∀ K, K < 8 → ∀ C, C < 8 → ∀ σ, f_X12_isUnder σ (aK K) (aK C) = uC (aK C) 8 (aK K) := by
  intro K hK C hC σ
  unfold f_X12_isUnder
  revert K C; decide +kernel
theorem uC_01 (c : Int32) : ∀ n x, uC c n x = 0 ∨ uC c n x = 1 := by
  intro n
  induction n with
  | zero => intro x; unfold uC; split
            · exact Or.inr rfl
            · exact Or.inl rfl
  | succ n ih =>
    intro x
    unfold uC
    split
    · split
      · exact Or.inr rfl
      · exact Or.inl rfl
    · split
      · exact Or.inr rfl
      · exact ih _
theorem lp_under {X : zX} {d : Nat} {Q : Option Value → zH → Prop} {σ : zS} (a c : Int32) : ∀ (n : Nat) (x p : Int32), x.toInt < 8 → 0 ≤ p.toInt → p.toInt + n = 8 → Q (some (.int (uC c n x))) (zen σ) → zwp X d MX1_isUnder 4 [.int a, .int c, .int x, .int p] [] (zen σ) Q := by
  intro n
  have e1 := l1
  have e8 := l8
  have e0 := l0
  induction n with
  | zero =>
    intro x p hx h0 hp hQ
    rw [b_X1_isUnder_4, if_pos (ile.mpr (by omega))]
    unfold uC at hQ
    by_cases y : x = c
    · rw [if_neg (fun z => z y)]; rw [if_pos y] at hQ; exact hQ
    · rw [if_pos y]; rw [if_neg y] at hQ; exact hQ
  | succ n ih =>
    intro x p hx h0 hp hQ
    have ep : (p + 1).toInt = p.toInt + 1 := by rw [t_add (by omega), e1]
    rw [b_X1_isUnder_4, if_neg (fun q => by have := ile.mp q; omega)]
    unfold uC at hQ
    by_cases y1 : x < 0
    · rw [if_pos y1]
      rw [if_pos y1] at hQ
      by_cases y : x = c
      · rw [if_neg (fun z => z y)]; rw [if_pos y] at hQ; exact hQ
      · rw [if_pos y]; rw [if_neg y] at hQ; exact hQ
    · have z1 := nil_ y1
      rw [if_neg y1]
      rw [if_neg y1] at hQ
      by_cases y : x = c
      · rw [if_pos y, if_neg (fun z => z y)]; rw [if_pos y] at hQ; exact hQ
      · rw [if_neg y]
        rw [if_neg y] at hQ
        have hK : x = aK x.toInt.toNat := (aK_of (by omega)).symm
        have h3 := k3_t x.toInt.toNat (by omega)
        rw [← hK] at h3
        exact ⟨zin_of (by omega) (by omega), ih _ _ h3 (by omega) (by omega) hQ⟩
section TAKEN
variable {X : zX} {d : Nat} {σ : zS} {k : Nat}
theorem o_taken (hd : 20 ≤ d) (h : Rel k σ) (a b : Int32) : zOp k σ X d MX11_taken MX12_taken [.ref 0, .int a, .int b, .null] [.ref 66, .int a, .int b] := by
  have hn : Rel (k + 1) σ := by obtain ⟨nr, nt, N, V, I, h⟩ := h; exact h.next
  obtain ⟨nr, nt, N, V, I, h⟩ := h
  have hS := h.2.2.2.2.2.2.2.1
  obtain ⟨nb, ran, b1, b2, b3, b4, b5, b6, b7, b8⟩ := h.2.2.2.2.2.2.2.2
  have e0 := l0
  have e7 := l7
  have e8 := l8
  have em1 := lm1
  have z10 : ¬ (1 : Int32) = 0 := by decide
  have same : ∀ x : Int32, (∀ Q : Option Value → zH → Prop, Q (some (.int x)) (zen σ) → zwp X d MX11_taken 0 [.ref 0, .int a, .int b, .null] [] (zen σ) Q) → (p_X12_taken σ a b ∧ f_X12_taken σ a b = x) → zOp k σ X d MX11_taken MX12_taken [.ref 0, .int a, .int b, .null] [.ref 66, .int a, .int b] := fun x h1 h2 => by
    refine h1 _ ⟨x, σ, rfl, rfl, ?_⟩
    rw [s_X12_taken (hd := by omega), h2.2]
    exact ⟨h2.1, rfl, σ, rfl, hn⟩
  by_cases ca : a.toInt < 0 ∨ 6 ≤ a.toInt
  · refine same (-1) (fun Q hQ => by rw [b_X11_taken_0 (hd := by omega), t_isShelf, if_pos ca, if_pos rfl]; exact hQ) ?_
    unfold p_X12_taken f_X12_taken
    rw [t_isShelfM, if_pos ca, if_pos rfl, if_pos rfl]; exact ⟨trivial, rfl⟩
  · by_cases cb : b.toInt < 0 ∨ 8 ≤ b.toInt
    · refine same (-1) (fun Q hQ => ?_) ?_
      · rw [b_X11_taken_0 (hd := by omega), t_isShelf, if_neg ca, if_neg z10]
        by_cases x : b < 0
        · rw [if_pos x]; exact hQ
        · have := nil_ x
          rw [if_neg x, if_neg (fun q => by have := il.mp q; omega)]; exact hQ
      · unfold p_X12_taken f_X12_taken
        rw [t_isShelfM, if_neg ca, if_neg z10, if_neg z10, t_in0 (by omega), if_neg (fun y => y rfl), if_neg (fun y => y rfl)]; exact ⟨trivial, rfl⟩
    · have hia := ix_t a
      have za : zin a 6 = true := zin_of (by omega) (by omega)
      have S := (hS (ix a) (by omega)).2.2.2.2
      have x1 : ¬ b < 0 := fun q => by have := il.mp q; omega
      have x2 : b < 8 := il.mpr (by omega)
      have ci : f_X12_in σ b 0 7 = 1 := t_in1 (by omega)
      have C : ∀ Q : Option Value → zH → Prop, zwp X d MX11_taken 0 [.ref 0, .int a, .int b, .null] [] (zen σ) Q = (zin a 6 = true ∧ (if ¬ (gi σ (29 + 2 * ix a) 1) = 0 then (if ¬ (gi σ (29 + 2 * ix a) 1) = 1 then Q (some (.int (-12))) (zen σ) else (zin (gi σ (29 + 2 * ix a) 2) 50 = true ∧ zwp X (d - 1) MX1_isUnder 0 [.int (gi σ 64 (ix (gi σ (29 + 2 * ix a) 2))), .int b, .null, .null] [] (zen σ) (fun v h' => zwp X d MX11_taken 60 [.ref 0, .int a, .int b, .ref (29 + 2 * ix a)] (zpsh v []) h' Q))) else Q (some (.int (-11))) (zen σ))) := fun Q => by
        rw [b_X11_taken_0 (hd := by omega), t_isShelf, if_neg ca, if_neg z10, if_neg x1, if_pos x2]
      have P : p_X12_taken σ a b ↔ (zin a 6 = true ∧ (if ¬ (gi σ 95 (ix a)) = (-1) then (zin a 6 = true ∧ (if (gi σ 95 (ix a)) < 0 then True else (zin a 6 = true ∧ (zin (gi σ 95 (ix a)) 50 = true ∧ (if (f_X12_isUnder σ (gi σ 93 (ix (gi σ 95 (ix a)))) b) = 0 then True else (zin a 6 = true ∧ zin (gi σ 95 (ix a)) 50 = true)))))) else True)) := by
        unfold p_X12_taken
        rw [t_isShelfM, if_neg ca, if_neg z10, ci, if_pos z10]
      have F : f_X12_taken σ a b = (if ¬ (gi σ 95 (ix a)) = (-1) then (if (gi σ 95 (ix a)) < 0 then (-12) else (if (f_X12_isUnder σ (gi σ 93 (ix (gi σ 95 (ix a)))) b) = 0 then (-12) else (gi σ 93 (ix (gi σ 95 (ix a)))))) else (-11)) := by
        unfold f_X12_taken
        rw [t_isShelfM, if_neg ca, if_neg z10, ci, if_pos z10]
      rcases S with q | q | q
      · have y : ¬ ¬ gi σ 95 (ix a) = -1 := fun y => y (ieq.mpr (by rw [q.2]; rfl))
        refine same (-11) (fun Q hQ => by rw [C, q.1, if_neg (fun y => y rfl)]; exact ⟨za, hQ⟩) ⟨?_, ?_⟩
        · rw [P, if_neg y]; exact ⟨za, trivial⟩
        · rw [F, if_neg y]
      · have y : ¬ gi σ 95 (ix a) = -1 := fun y => by rw [← q.2.1, y] at q; have := q.2.2.1; omega
        have y2 : ¬ gi σ 95 (ix a) < 0 := fun y => by have := il.mp y; have := q.2.2.1; rw [← q.2.1] at this; omega
        have h0 := q.2.2.1
        have h1 := q.2.2.2
        rw [← q.2.1] at h0 h1
        have hj := ix_t (gi σ 95 (ix a))
        have zj : zin (gi σ 95 (ix a)) 50 = true := zin_of (by omega) (by omega)
        have K := b4 (ix (gi σ 95 (ix a))) (by omega)
        have eK : gi σ 64 (ix (gi σ 95 (ix a))) = aK (gi σ 64 (ix (gi σ 95 (ix a)))).toInt.toNat := (aK_of (by omega)).symm
        have eB : b = aK b.toInt.toNat := (aK_of (by omega)).symm
        have U := uC_eq (gi σ 64 (ix (gi σ 95 (ix a)))).toInt.toNat (by omega) b.toInt.toNat (by omega) σ
        rw [← eK, ← eB, K.1] at U
        have D : ∀ Q : Option Value → zH → Prop, Q (some (.int (if ¬ uC b 8 (gi σ 93 (ix (gi σ 95 (ix a)))) = 0 then gi σ 93 (ix (gi σ 95 (ix a))) else -12))) (zen σ) → zwp X d MX11_taken 0 [.ref 0, .int a, .int b, .null] [] (zen σ) Q := fun Q hQ => by
          rw [C, q.1, if_pos z10, if_neg (fun y => y rfl), ← q.2.1, K.1, b_X1_isUnder_0]
          refine ⟨za, zj, lp_under _ _ 8 _ 0 (by rw [← K.1]; omega) (by rw [e0]; omega) (by rw [e0]; omega) ?_⟩
          show zwp X d MX11_taken 60 _ [.int _] (zen σ) _
          rw [b_X11_taken_60 (hl3 := zS_all (ix a) (by omega)), ← q.2.1, K.1]
          by_cases z : uC b 8 (gi σ 93 (ix (gi σ 95 (ix a)))) = 0
          · rw [if_neg (fun y => y z)]; rw [if_neg (fun y => y z)] at hQ; exact hQ
          · rw [if_pos z]; rw [if_pos z] at hQ; exact ⟨zj, hQ⟩
        refine same _ D ⟨?_, ?_⟩
        · rw [P, if_pos y, if_neg y2]
          refine ⟨za, za, za, zj, ?_⟩
          split
          · trivial
          · exact ⟨za, zj⟩
        · rw [F, if_pos y, if_neg y2, U]
          by_cases z : uC b 8 (gi σ 93 (ix (gi σ 95 (ix a)))) = 0
          · rw [if_pos z, if_neg (fun y => y z)]
          · rw [if_neg z, if_pos z]
      · have h95 := q.2.2.2.1
        have y : ¬ gi σ 95 (ix a) = -1 := fun y => by rw [y] at h95; have := q.2.1; omega
        have y2 : gi σ 95 (ix a) < 0 := il.mpr (by have := q.2.1; omega)
        refine same (-12) (fun Q hQ => by rw [C, q.1, if_pos (by decide), if_pos (by decide)]; exact ⟨za, hQ⟩) ⟨?_, ?_⟩
        · rw [P, if_pos y, if_pos y2]; exact ⟨za, za, trivial⟩
        · rw [F, if_pos y, if_pos y2]
end TAKEN
