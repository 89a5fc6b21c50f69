/-! worked -/
section WRK
variable {X : zX} {d : Nat} {Q : Option Value → zH → Prop}
theorem lp_wrk (hd : 1 ≤ d) {σ : zS} (a2 e3 : Int32) (en : Nat) (he : e3.toInt = en) (hen : en ≤ 130) : ∀ (c : List Int) (k : Nat) (st st' : List Int32) (g : Nat → Int32) (n5 k5 : Int32) (w6 : Value), k5.toInt = k → n5.toInt = (st.length : Int) → LAt (σ.1 78) (c.map opcI) k → LAt (σ.1 79) (c.map argI) k → k + c.length ≤ en → (∀ s, s ∈ c → okS s) → runL (σ.1 83) c st = some st' → SKf g st → st.length + c.length ≤ 130 →
    (∀ (g' : Nat → Int32) (n5' k5' : Int32) (w6 : Value), SKf g' st' → n5'.toInt = (st'.length : Int) → k5'.toInt = (k + c.length : Nat) → zwp X d MX12_worked 12 [.ref 66, .int 0, .int a2, .int e3, .int n5', .int k5', w6] [] (zen (sA σ 84 g')) Q) →
    zwp X d MX12_worked 12 [.ref 66, .int 0, .int a2, .int e3, .int n5, .int k5, w6] [] (zen (sA σ 84 g)) Q := by
  intro c
  have e0 := l0
  have e1 := l1
  have e2 := l2
  have e3' := l3
  have e4 := l4
  have em1 := lm1
  have ez : ((130 : Int32) * 0 + e3) = e3 := by rw [show (130 : Int32) * 0 = 0 from rfl, Int32.zero_add]
  induction c with
  | nil =>
    intro k st st' g n5 k5 w6 hk5 hn5 hL hA hk hok hr hg hst hQ
    have : st = st' := Option.some.inj hr
    subst this
    exact hQ g n5 k5 w6 hg hn5 hk5
  | cons s c ih =>
    intro k st st' g n5 k5 w6 hk5 hn5 hL hA hk hok hr hg hst hQ
    rw [List.length_cons] at hk hst
    rw [List.map_cons] at hL hA
    obtain ⟨hS, hL2⟩ := hL.hd
    obtain ⟨hG, hA2⟩ := hA.hd
    have hs := hok s (List.mem_cons_self)
    have hok2 : ∀ x, x ∈ c → okS x := fun x hx => hok x (List.mem_cons_of_mem _ hx)
    have ek1 : (k5 + 1).toInt = (k + 1 : Nat) := by rw [t_add (by omega), e1]; omega
    have en1 : (n5 + 1).toInt = (st.length : Int) + 1 := by rw [t_add (by omega), e1]; omega
    have ik : ix k5 = k := by rw [ix_t]; omega
    have i5 : ix n5 = st.length := by rw [ix_t]; omega
    have zk : zin k5 260 = true := zin_of (by omega) (by omega)
    have z5 : zin n5 130 = true := zin_of (by omega) (by omega)
    have c78 : gi (sA σ 84 g) 78 k = gi σ 78 k := gi_sA_ne (by decide)
    have c79 : gi (sA σ 84 g) 79 k = gi σ 79 k := gi_sA_ne (by decide)
    have hSk : (gi σ 78 k).toInt = opcI s := hS
    have hGk : (gi σ 79 k).toInt = argI s := hG
    have hr2 : (match stpL (σ.1 83) s st with
      | some st1 => runL (σ.1 83) c st1
      | none => none) = some st' := hr
    unfold okS at hs
    unfold stpL at hr2
    unfold opcI at hSk
    unfold argI at hGk
    have len2 : (k + (s :: c).length : Nat) = (k + 1 + c.length : Nat) := by rw [List.length_cons]; omega
    rw [len2] at hQ
    by_cases c1 : s < 10000
    · rw [if_pos c1] at hr2 hSk hGk
      dsimp only at hr2
      have hv : gi σ 78 k = 1 := ieq.mpr hSk
      rw [b_X12_worked_12 (hd := hd), ez, if_neg (fun y => by have := ile.mp y; omega), ztrue_and zk, ik, c78, hv, if_pos rfl, if_neg (fun y => y rfl), ztrue_and zk, ztrue_and z5, c79, si_sA, i5, of_t hGk]
      exact ih (k + 1) _ st' _ (n5 + 1) (k5 + 1) _ ek1 (by rw [List.length_cons]; omega) hL2 hA2 (by omega) hok2 hr2 hg.push (by rw [List.length_cons]; omega) hQ
    · rw [if_neg c1] at hr2 hSk hGk
      by_cases c2 : s ≤ 10005
      · rw [if_pos c2] at hr2 hSk hGk
        dsimp only at hr2
        have hv : gi σ 78 k = 2 := ieq.mpr hSk
        have i0 : ix (gi σ 79 k) = (s - 10000).toNat := by rw [ix_t, hGk]
        have z6 : zin (gi σ 79 k) 6 = true := zin_of (by omega) (by omega)
        have c83 : gi (sA σ 84 g) 83 (s - 10000).toNat = σ.1 83 (s - 10000).toNat := gi_sA_ne (by decide)
        rw [b_X12_worked_12 (hd := hd), ez, if_neg (fun y => by have := ile.mp y; omega), ztrue_and zk, ik, c78, hv, if_neg (show ¬ (2 : Int32) = 1 by decide), if_neg (fun y => y rfl), if_pos (show ¬ (2 : Int32) = 1 by decide), ztrue_and zk, c79, ztrue_and z6, ztrue_and z5, i0, c83, si_sA, i5]
        exact ih (k + 1) _ st' _ (n5 + 1) (k5 + 1) _ ek1 (by rw [List.length_cons]; omega) hL2 hA2 (by omega) hok2 hr2 hg.push (by rw [List.length_cons]; omega) hQ
      · rw [if_neg c2] at hr2 hSk hGk
        by_cases c5 : s = 10016
        · rw [if_pos c5] at hr2 hSk
          have hv : gi σ 78 k = 3 := ieq.mpr hSk
          cases st with
          | nil => exact absurd hr2 (by intro q; cases q)
          | cons a r =>
            rw [List.length_cons] at hn5 hst
            dsimp only at hr2
            have en0 : (n5 - 1).toInt = r.length := by rw [t_sub (by omega), e1]; omega
            have i2 : ix (n5 - 1) = r.length := by rw [ix_t]; omega
            have z2 : zin (n5 - 1) 130 = true := zin_of (by omega) (by omega)
            have c6 : gi (sA σ 84 g) 84 r.length = a := by rw [gi_sA]; exact hg.1
            rw [b_X12_worked_12 (hd := hd), ez, if_neg (fun y => by have := ile.mp y; omega), ztrue_and zk, ik, c78, hv, if_neg (show ¬ (3 : Int32) = 1 by decide), if_pos (show ¬ (3 : Int32) = 2 by decide), if_neg (fun y => y rfl), ztrue_and z2, i2, c6]
            by_cases ca : a = 0
            · rw [if_neg (fun y => y ca), ztrue_and z2, si_sA]
              rw [if_neg (fun y => y ca)] at hr2
              exact ih (k + 1) _ st' _ n5 (k5 + 1) _ ek1 (by rw [List.length_cons]; omega) hL2 hA2 (by omega) hok2 hr2 hg.2.push (by rw [List.length_cons]; omega) hQ
            · rw [if_pos ca, ztrue_and z2, si_sA]
              rw [if_pos ca] at hr2
              exact ih (k + 1) _ st' _ n5 (k5 + 1) _ ek1 (by rw [List.length_cons]; omega) hL2 hA2 (by omega) hok2 hr2 hg.2.push (by rw [List.length_cons]; omega) hQ
        · rw [if_neg c5] at hr2 hSk
          by_cases c6' : s = 10017
          · rw [if_pos c6'] at hr2 hSk
            have hv : gi σ 78 k = 4 := ieq.mpr hSk
            cases st with
            | nil => exact absurd hr2 (by intro q; cases q)
            | cons a r =>
              rw [List.length_cons] at hn5 hst
              dsimp only at hr2
              have en0 : (n5 - 1).toInt = r.length := by rw [t_sub (by omega), e1]; omega
              have i2 : ix (n5 - 1) = r.length := by rw [ix_t]; omega
              have z2 : zin (n5 - 1) 130 = true := zin_of (by omega) (by omega)
              have c6 : gi (sA σ 84 g) 84 r.length = a := by rw [gi_sA]; exact hg.1
              rw [b_X12_worked_12 (hd := hd), ez, if_neg (fun y => by have := ile.mp y; omega), ztrue_and zk, ik, c78, hv, if_neg (show ¬ (4 : Int32) = 1 by decide), if_pos (show ¬ (4 : Int32) = 2 by decide), if_pos (show ¬ (4 : Int32) = 3 by decide), if_neg (fun y => y rfl), ztrue_and z2, ztrue_and z2, i2, c6, si_sA]
              exact ih (k + 1) _ st' _ n5 (k5 + 1) _ ek1 (by rw [List.length_cons]; omega) hL2 hA2 (by omega) hok2 hr2 hg.2.push (by rw [List.length_cons]; omega) hQ
          · rw [if_neg c6'] at hr2 hSk
            have hs10 : 10006 ≤ s ∧ s ≤ 10015 := by clear hSk hGk hS hG; omega
            have sb := sgI_b hs10
            clear hS hG hGk
            obtain ⟨w0, hw0⟩ : ∃ w0, w0 = sgI s := ⟨_, rfl⟩
            have W := fun (g : Nat → Int32) (a b : Int32) => two_ok (σ := sA σ 84 g) (w := gi σ 78 k) (a := a) (b := b) hs10 hSk
            rw [← hw0] at hSk sb
            clear hw0
            cases st with
            | nil => exact absurd hr2 (by intro q; cases q)
            | cons b r =>
              cases r with
              | nil => exact absurd hr2 (by intro q; cases q)
              | cons a r =>
                rw [List.length_cons, List.length_cons] at hn5 hst
                dsimp only at hr2
                clear en1 i5 z5
                have cB : gi (sA σ 84 g) 84 (r.length + 1) = b := by rw [gi_sA]; exact hg.1
                have cA : gi (sA σ 84 g) 84 r.length = a := by rw [gi_sA]; exact hg.2.1
                have W := W g a b
                have n1 : ¬ gi σ 78 k = 1 := fun y => by have := congrArg Int32.toInt y; omega
                have n2 : ¬ gi σ 78 k = 2 := fun y => by have := congrArg Int32.toInt y; omega
                have n3 : ¬ gi σ 78 k = 3 := fun y => by have := congrArg Int32.toInt y; omega
                have n4 : ¬ gi σ 78 k = 4 := fun y => by have := congrArg Int32.toInt y; omega
                have en0 : (n5 + (-1)).toInt = (r.length : Int) + 1 := by rw [t_add (by omega), em1]; omega
                rw [b_X12_worked_12 (hd := hd), ez, if_neg (fun y => by have := ile.mp y; omega), ztrue_and zk, ik, c78, if_neg n1, if_pos n2, if_pos n3, if_pos n4]
                generalize n5 + (-1) = m1 at en0 ⊢
                have en00 : (m1 - 1).toInt = (r.length : Int) := by rw [t_sub (by omega), e1]; omega
                generalize m1 - 1 = m2 at en00 ⊢
                have i2 : ix m1 = r.length + 1 := by rw [ix_t]; omega
                have i3 : ix m2 = r.length := by rw [ix_t]; omega
                have z2 : zin m1 130 = true := zin_of (by omega) (by omega)
                have z3 : zin m2 130 = true := zin_of (by omega) (by omega)
                rw [ztrue_and z3, ztrue_and z2, i2, i3, cA, cB, ztrue_and W.1, ztrue_and z3, W.2, si_sA]
                exact ih (k + 1) _ st' _ m1 (k5 + 1) _ ek1 (by rw [List.length_cons]; omega) hL2 hA2 (by omega) hok2 hr2 hg.2.2.push (by rw [List.length_cons]; omega) hQ
end WRK
