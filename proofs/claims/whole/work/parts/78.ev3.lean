/-! a law worked out: the reference -/
theorem div_m1 (a : Int32) : a / (-1) = -a := by
  apply Int32.toInt_inj.mp
  have em1 := lm1
  rw [Int32.toInt_div, Int32.toInt_neg, em1, Int.tdiv_neg, Int.tdiv_one]
def sgI (s : Int) : Int := if s = 10006 then 124 else if s = 10007 then 38 else if s = 10008 then 60 else if s = 10009 then 61 else if s = 10010 then 62 else if s = 10011 then 43 else if s = 10012 then 45 else if s = 10013 then 42 else if s = 10014 then 47 else 37
def opcI (s : Int) : Int := if s < 10000 then 1 else if s ≤ 10005 then 2 else if s = 10016 then 3 else if s = 10017 then 4 else sgI s
def argI (s : Int) : Int := if s < 10000 then s else if s ≤ 10005 then s - 10000 else 0
theorem two_ok {σ : zS} {w a b : Int32} {s : Int} (hs : 10006 ≤ s ∧ s ≤ 10015) (hw : w.toInt = sgI s) : p_X12_twoOf σ w a b ∧ f_X12_twoOf σ w a b = opv s a b := by
  rcases opv_10 s hs with q | q | q | q | q | q | q | q | q | q
  · subst q
    have e : w = 124 := ieq.mpr (by rw [hw]; rfl)
    subst e
    unfold p_X12_twoOf f_X12_twoOf
    rw [opv_10006, if_neg (show ¬ (124 : Int32) = 37 by decide), if_neg (show ¬ (124 : Int32) = 38 by decide), if_neg (show ¬ (124 : Int32) = 42 by decide), if_neg (show ¬ (124 : Int32) = 43 by decide), if_neg (show ¬ (124 : Int32) = 45 by decide), if_neg (show ¬ (124 : Int32) = 47 by decide), if_neg (show ¬ (124 : Int32) = 37 by decide), if_neg (show ¬ (124 : Int32) = 38 by decide), if_neg (show ¬ (124 : Int32) = 42 by decide), if_neg (show ¬ (124 : Int32) = 43 by decide), if_neg (show ¬ (124 : Int32) = 45 by decide), if_neg (show ¬ (124 : Int32) = 47 by decide), if_neg (show ¬ (124 : Int32) = 60 by decide), if_neg (show ¬ (124 : Int32) = 61 by decide), if_neg (show ¬ (124 : Int32) = 62 by decide)]
    exact ⟨trivial, rfl⟩
  · subst q
    have e : w = 38 := ieq.mpr (by rw [hw]; rfl)
    subst e
    unfold p_X12_twoOf f_X12_twoOf
    rw [opv_10007, if_neg (show ¬ (38 : Int32) = 37 by decide), if_pos (show (38 : Int32) = 38 from rfl), if_neg (show ¬ (38 : Int32) = 37 by decide), if_pos (show (38 : Int32) = 38 from rfl)]
    exact ⟨trivial, rfl⟩
  · subst q
    have e : w = 60 := ieq.mpr (by rw [hw]; rfl)
    subst e
    unfold p_X12_twoOf f_X12_twoOf
    rw [opv_10008, if_neg (show ¬ (60 : Int32) = 37 by decide), if_neg (show ¬ (60 : Int32) = 38 by decide), if_neg (show ¬ (60 : Int32) = 42 by decide), if_neg (show ¬ (60 : Int32) = 43 by decide), if_neg (show ¬ (60 : Int32) = 45 by decide), if_neg (show ¬ (60 : Int32) = 47 by decide), if_neg (show ¬ (60 : Int32) = 37 by decide), if_neg (show ¬ (60 : Int32) = 38 by decide), if_neg (show ¬ (60 : Int32) = 42 by decide), if_neg (show ¬ (60 : Int32) = 43 by decide), if_neg (show ¬ (60 : Int32) = 45 by decide), if_neg (show ¬ (60 : Int32) = 47 by decide), if_pos (show (60 : Int32) = 60 from rfl)]
    exact ⟨trivial, rfl⟩
  · subst q
    have e : w = 61 := ieq.mpr (by rw [hw]; rfl)
    subst e
    unfold p_X12_twoOf f_X12_twoOf
    rw [opv_10009, if_neg (show ¬ (61 : Int32) = 37 by decide), if_neg (show ¬ (61 : Int32) = 38 by decide), if_neg (show ¬ (61 : Int32) = 42 by decide), if_neg (show ¬ (61 : Int32) = 43 by decide), if_neg (show ¬ (61 : Int32) = 45 by decide), if_neg (show ¬ (61 : Int32) = 47 by decide), if_neg (show ¬ (61 : Int32) = 37 by decide), if_neg (show ¬ (61 : Int32) = 38 by decide), if_neg (show ¬ (61 : Int32) = 42 by decide), if_neg (show ¬ (61 : Int32) = 43 by decide), if_neg (show ¬ (61 : Int32) = 45 by decide), if_neg (show ¬ (61 : Int32) = 47 by decide), if_neg (show ¬ (61 : Int32) = 60 by decide), if_pos (show (61 : Int32) = 61 from rfl)]
    exact ⟨trivial, rfl⟩
  · subst q
    have e : w = 62 := ieq.mpr (by rw [hw]; rfl)
    subst e
    unfold p_X12_twoOf f_X12_twoOf
    rw [opv_10010, if_neg (show ¬ (62 : Int32) = 37 by decide), if_neg (show ¬ (62 : Int32) = 38 by decide), if_neg (show ¬ (62 : Int32) = 42 by decide), if_neg (show ¬ (62 : Int32) = 43 by decide), if_neg (show ¬ (62 : Int32) = 45 by decide), if_neg (show ¬ (62 : Int32) = 47 by decide), if_neg (show ¬ (62 : Int32) = 37 by decide), if_neg (show ¬ (62 : Int32) = 38 by decide), if_neg (show ¬ (62 : Int32) = 42 by decide), if_neg (show ¬ (62 : Int32) = 43 by decide), if_neg (show ¬ (62 : Int32) = 45 by decide), if_neg (show ¬ (62 : Int32) = 47 by decide), if_neg (show ¬ (62 : Int32) = 60 by decide), if_neg (show ¬ (62 : Int32) = 61 by decide), if_pos (show (62 : Int32) = 62 from rfl)]
    exact ⟨trivial, rfl⟩
  · subst q
    have e : w = 43 := ieq.mpr (by rw [hw]; rfl)
    subst e
    unfold p_X12_twoOf f_X12_twoOf
    rw [opv_10011, if_neg (show ¬ (43 : Int32) = 37 by decide), if_neg (show ¬ (43 : Int32) = 38 by decide), if_neg (show ¬ (43 : Int32) = 42 by decide), if_pos (show (43 : Int32) = 43 from rfl), if_neg (show ¬ (43 : Int32) = 37 by decide), if_neg (show ¬ (43 : Int32) = 38 by decide), if_neg (show ¬ (43 : Int32) = 42 by decide), if_pos (show (43 : Int32) = 43 from rfl)]
    exact ⟨trivial, rfl⟩
  · subst q
    have e : w = 45 := ieq.mpr (by rw [hw]; rfl)
    subst e
    unfold p_X12_twoOf f_X12_twoOf
    rw [opv_10012, if_neg (show ¬ (45 : Int32) = 37 by decide), if_neg (show ¬ (45 : Int32) = 38 by decide), if_neg (show ¬ (45 : Int32) = 42 by decide), if_neg (show ¬ (45 : Int32) = 43 by decide), if_pos (show (45 : Int32) = 45 from rfl), if_neg (show ¬ (45 : Int32) = 37 by decide), if_neg (show ¬ (45 : Int32) = 38 by decide), if_neg (show ¬ (45 : Int32) = 42 by decide), if_neg (show ¬ (45 : Int32) = 43 by decide), if_pos (show (45 : Int32) = 45 from rfl)]
    exact ⟨trivial, rfl⟩
  · subst q
    have e : w = 42 := ieq.mpr (by rw [hw]; rfl)
    subst e
    unfold p_X12_twoOf f_X12_twoOf
    rw [opv_10013, if_neg (show ¬ (42 : Int32) = 37 by decide), if_neg (show ¬ (42 : Int32) = 38 by decide), if_pos (show (42 : Int32) = 42 from rfl), if_neg (show ¬ (42 : Int32) = 37 by decide), if_neg (show ¬ (42 : Int32) = 38 by decide), if_pos (show (42 : Int32) = 42 from rfl)]
    exact ⟨trivial, rfl⟩
  · subst q
    have e : w = 47 := ieq.mpr (by rw [hw]; rfl)
    subst e
    unfold p_X12_twoOf f_X12_twoOf
    rw [opv_10014, if_neg (show ¬ (47 : Int32) = 37 by decide), if_neg (show ¬ (47 : Int32) = 38 by decide), if_neg (show ¬ (47 : Int32) = 42 by decide), if_neg (show ¬ (47 : Int32) = 43 by decide), if_neg (show ¬ (47 : Int32) = 45 by decide), if_pos (show (47 : Int32) = 47 from rfl), if_neg (show ¬ (47 : Int32) = 37 by decide), if_neg (show ¬ (47 : Int32) = 38 by decide), if_neg (show ¬ (47 : Int32) = 42 by decide), if_neg (show ¬ (47 : Int32) = 43 by decide), if_neg (show ¬ (47 : Int32) = 45 by decide), if_pos (show (47 : Int32) = 47 from rfl)]
    by_cases cb : b = 0
    · rw [if_neg (fun y => y cb), if_neg (fun y => y cb), if_neg (fun y => y cb)]; exact ⟨trivial, rfl⟩
    · rw [if_pos cb, if_pos cb, if_pos cb]
      by_cases c1 : b = -1
      · rw [if_neg (fun y => y c1), if_neg (fun y => y c1), c1, div_m1]; exact ⟨trivial, rfl⟩
      · rw [if_pos c1, if_pos c1]; exact ⟨by rw [decide_eq_true_eq]; exact cb, rfl⟩
  · subst q
    have e : w = 37 := ieq.mpr (by rw [hw]; rfl)
    subst e
    unfold p_X12_twoOf f_X12_twoOf
    rw [opv_10015, if_pos (show (37 : Int32) = 37 from rfl), if_pos (show (37 : Int32) = 37 from rfl)]
    by_cases cb : b = 0
    · rw [if_pos cb, if_pos cb, if_neg (fun y => y cb)]; exact ⟨trivial, rfl⟩
    · rw [if_neg cb, if_neg cb, if_pos cb]
      by_cases c1 : b = -1
      · rw [if_neg (fun y => y c1), if_neg (fun y => y c1), c1, div_m1, Int32.neg_mul_neg, Int32.mul_one, Int32.sub_self]; exact ⟨trivial, rfl⟩
      · rw [if_pos c1, if_pos c1]; exact ⟨by rw [decide_eq_true_eq]; exact cb, rfl⟩
theorem sgI_b {s : Int} (hs : 10006 ≤ s ∧ s ≤ 10015) : 5 ≤ sgI s ∧ sgI s ≤ 127 := by
  rcases opv_10 s hs with q | q | q | q | q | q | q | q | q | q <;> (subst q; exact ⟨by decide, by decide⟩)
section WRK
variable {X : zX} {d : Nat} {Q : Option Value → zH → Prop}
theorem lp_wrk (hd : 1 ≤ d) {σ : zS} (a2 e3 : Int32) (en : Nat) (he : e3.toInt = en) (hen : en ≤ 130) : ∀ (c : List Int) (k : Nat) (st st' : List Int32) (g : Nat → Int32) (n5 k5 : Int32) (w6 : Value), k5.toInt = k → n5.toInt = (st.length : Int) → LAt (σ.1 78) (c.map opcI) k → LAt (σ.1 79) (c.map argI) k → k + c.length ≤ en → (∀ s, s ∈ c → okS s) → runL (σ.1 83) c st = some st' → SKf g st → st.length + c.length ≤ 130 →
    (∀ (g' : Nat → Int32) (n5' k5' : Int32) (w6 : Value), SKf g' st' → n5'.toInt = (st'.length : Int) → k5'.toInt = (k + c.length : Nat) → zwp X d MX12_worked 12 [.ref 66, .int 0, .int a2, .int e3, .int n5', .int k5', w6] [] (zen (sA σ 84 g')) Q) →
    zwp X d MX12_worked 12 [.ref 66, .int 0, .int a2, .int e3, .int n5, .int k5, w6] [] (zen (sA σ 84 g)) Q := by
  intro c
  have e0 := l0
  have e1 := l1
  have e2 := l2
  have e3' := l3
  have e4 := l4
  have em1 := lm1
  have ez : ((130 : Int32) * 0 + e3) = e3 := by rw [show (130 : Int32) * 0 = 0 from rfl, Int32.zero_add]
  induction c with
  | nil =>
    intro k st st' g n5 k5 w6 hk5 hn5 hL hA hk hok hr hg hst hQ
    have : st = st' := Option.some.inj hr
    subst this
    exact hQ g n5 k5 w6 hg hn5 hk5
  | cons s c ih =>
    intro k st st' g n5 k5 w6 hk5 hn5 hL hA hk hok hr hg hst hQ
    rw [List.length_cons] at hk hst
    rw [List.map_cons] at hL hA
    obtain ⟨hS, hL2⟩ := hL.hd
    obtain ⟨hG, hA2⟩ := hA.hd
    have hs := hok s (List.mem_cons_self)
    have hok2 : ∀ x, x ∈ c → okS x := fun x hx => hok x (List.mem_cons_of_mem _ hx)
    have ek1 : (k5 + 1).toInt = (k + 1 : Nat) := by rw [t_add (by omega), e1]; omega
    have en1 : (n5 + 1).toInt = (st.length : Int) + 1 := by rw [t_add (by omega), e1]; omega
    have ik : ix k5 = k := by rw [ix_t]; omega
    have i5 : ix n5 = st.length := by rw [ix_t]; omega
    have zk : zin k5 260 = true := zin_of (by omega) (by omega)
    have z5 : zin n5 130 = true := zin_of (by omega) (by omega)
    have c78 : gi (sA σ 84 g) 78 k = gi σ 78 k := gi_sA_ne (by decide)
    have c79 : gi (sA σ 84 g) 79 k = gi σ 79 k := gi_sA_ne (by decide)
    have hSk : (gi σ 78 k).toInt = opcI s := hS
    have hGk : (gi σ 79 k).toInt = argI s := hG
    have hr2 : (match stpL (σ.1 83) s st with
      | some st1 => runL (σ.1 83) c st1
      | none => none) = some st' := hr
    unfold okS at hs
    unfold stpL at hr2
    unfold opcI at hSk
    unfold argI at hGk
    have len2 : (k + (s :: c).length : Nat) = (k + 1 + c.length : Nat) := by rw [List.length_cons]; omega
    rw [len2] at hQ
    by_cases c1 : s < 10000
    · rw [if_pos c1] at hr2 hSk hGk
      dsimp only at hr2
      have hv : gi σ 78 k = 1 := ieq.mpr hSk
      rw [b_X12_worked_12 (hd := hd), ez, if_neg (fun y => by have := ile.mp y; omega), ztrue_and zk, ik, c78, hv, if_pos rfl, if_neg (fun y => y rfl), ztrue_and zk, ztrue_and z5, c79, si_sA, i5, of_t hGk]
      exact ih (k + 1) _ st' _ (n5 + 1) (k5 + 1) _ ek1 (by rw [List.length_cons]; omega) hL2 hA2 (by omega) hok2 hr2 hg.push (by rw [List.length_cons]; omega) hQ
    · rw [if_neg c1] at hr2 hSk hGk
      by_cases c2 : s ≤ 10005
      · rw [if_pos c2] at hr2 hSk hGk
        dsimp only at hr2
        have hv : gi σ 78 k = 2 := ieq.mpr hSk
        have i0 : ix (gi σ 79 k) = (s - 10000).toNat := by rw [ix_t, hGk]
        have z6 : zin (gi σ 79 k) 6 = true := zin_of (by omega) (by omega)
        have c83 : gi (sA σ 84 g) 83 (s - 10000).toNat = σ.1 83 (s - 10000).toNat := gi_sA_ne (by decide)
        rw [b_X12_worked_12 (hd := hd), ez, if_neg (fun y => by have := ile.mp y; omega), ztrue_and zk, ik, c78, hv, if_neg (show ¬ (2 : Int32) = 1 by decide), if_neg (fun y => y rfl), if_pos (show ¬ (2 : Int32) = 1 by decide), ztrue_and zk, c79, ztrue_and z6, ztrue_and z5, i0, c83, si_sA, i5]
        exact ih (k + 1) _ st' _ (n5 + 1) (k5 + 1) _ ek1 (by rw [List.length_cons]; omega) hL2 hA2 (by omega) hok2 hr2 hg.push (by rw [List.length_cons]; omega) hQ
      · rw [if_neg c2] at hr2 hSk hGk
        by_cases c5 : s = 10016
        · rw [if_pos c5] at hr2 hSk
          have hv : gi σ 78 k = 3 := ieq.mpr hSk
          cases st with
          | nil => exact absurd hr2 (by intro q; cases q)
          | cons a r =>
            rw [List.length_cons] at hn5 hst
            dsimp only at hr2
            have en0 : (n5 - 1).toInt = r.length := by rw [t_sub (by omega), e1]; omega
            have i2 : ix (n5 - 1) = r.length := by rw [ix_t]; omega
            have z2 : zin (n5 - 1) 130 = true := zin_of (by omega) (by omega)
            have c6 : gi (sA σ 84 g) 84 r.length = a := by rw [gi_sA]; exact hg.1
            rw [b_X12_worked_12 (hd := hd), ez, if_neg (fun y => by have := ile.mp y; omega), ztrue_and zk, ik, c78, hv, if_neg (show ¬ (3 : Int32) = 1 by decide), if_pos (show ¬ (3 : Int32) = 2 by decide), if_neg (fun y => y rfl), ztrue_and z2, i2, c6]
            by_cases ca : a = 0
            · rw [if_neg (fun y => y ca), ztrue_and z2, si_sA]
              rw [if_neg (fun y => y ca)] at hr2
              exact ih (k + 1) _ st' _ n5 (k5 + 1) _ ek1 (by rw [List.length_cons]; omega) hL2 hA2 (by omega) hok2 hr2 hg.2.push (by rw [List.length_cons]; omega) hQ
            · rw [if_pos ca, ztrue_and z2, si_sA]
              rw [if_pos ca] at hr2
              exact ih (k + 1) _ st' _ n5 (k5 + 1) _ ek1 (by rw [List.length_cons]; omega) hL2 hA2 (by omega) hok2 hr2 hg.2.push (by rw [List.length_cons]; omega) hQ
        · rw [if_neg c5] at hr2 hSk
          by_cases c6' : s = 10017
          · rw [if_pos c6'] at hr2 hSk
            have hv : gi σ 78 k = 4 := ieq.mpr hSk
            cases st with
            | nil => exact absurd hr2 (by intro q; cases q)
            | cons a r =>
              rw [List.length_cons] at hn5 hst
              dsimp only at hr2
              have en0 : (n5 - 1).toInt = r.length := by rw [t_sub (by omega), e1]; omega
              have i2 : ix (n5 - 1) = r.length := by rw [ix_t]; omega
              have z2 : zin (n5 - 1) 130 = true := zin_of (by omega) (by omega)
              have c6 : gi (sA σ 84 g) 84 r.length = a := by rw [gi_sA]; exact hg.1
              rw [b_X12_worked_12 (hd := hd), ez, if_neg (fun y => by have := ile.mp y; omega), ztrue_and zk, ik, c78, hv, if_neg (show ¬ (4 : Int32) = 1 by decide), if_pos (show ¬ (4 : Int32) = 2 by decide), if_pos (show ¬ (4 : Int32) = 3 by decide), if_neg (fun y => y rfl), ztrue_and z2, ztrue_and z2, i2, c6, si_sA]
              exact ih (k + 1) _ st' _ n5 (k5 + 1) _ ek1 (by rw [List.length_cons]; omega) hL2 hA2 (by omega) hok2 hr2 hg.2.push (by rw [List.length_cons]; omega) hQ
          · rw [if_neg c6'] at hr2 hSk
            have hs10 : 10006 ≤ s ∧ s ≤ 10015 := by omega
            have sb := sgI_b hs10
            cases st with
            | nil => exact absurd hr2 (by intro q; cases q)
            | cons b r =>
              cases r with
              | nil => exact absurd hr2 (by intro q; cases q)
              | cons a r =>
                rw [List.length_cons, List.length_cons] at hn5 hst
                dsimp only at hr2
                have en0 : (n5 + (-1)).toInt = (r.length : Int) + 1 := by rw [t_add (by omega), em1]; omega
                have en00 : (n5 + (-1) - 1).toInt = (r.length : Int) := by rw [t_sub (by omega), e1]; omega
                have i2 : ix (n5 + (-1)) = r.length + 1 := by rw [ix_t]; omega
                have i3 : ix (n5 + (-1) - 1) = r.length := by rw [ix_t]; omega
                have z2 : zin (n5 + (-1)) 130 = true := zin_of (by omega) (by omega)
                have z3 : zin (n5 + (-1) - 1) 130 = true := zin_of (by omega) (by omega)
                have cB : gi (sA σ 84 g) 84 (r.length + 1) = b := by rw [gi_sA]; exact hg.1
                have cA : gi (sA σ 84 g) 84 r.length = a := by rw [gi_sA]; exact hg.2.1
                have W := two_ok (σ := sA σ 84 g) (w := gi σ 78 k) (a := a) (b := b) hs10 hSk
                have n1 : ¬ gi σ 78 k = 1 := fun y => by have := congrArg Int32.toInt y; omega
                have n2 : ¬ gi σ 78 k = 2 := fun y => by have := congrArg Int32.toInt y; omega
                have n3 : ¬ gi σ 78 k = 3 := fun y => by have := congrArg Int32.toInt y; omega
                have n4 : ¬ gi σ 78 k = 4 := fun y => by have := congrArg Int32.toInt y; omega
                rw [b_X12_worked_12 (hd := hd), ez, if_neg (fun y => by have := ile.mp y; omega), ztrue_and zk, ik, c78, if_neg n1, if_pos n2, if_pos n3, if_pos n4, ztrue_and z3, ztrue_and z2, i2, i3, cA, cB, ztrue_and W.1, ztrue_and z3, W.2, si_sA]
                exact ih (k + 1) _ st' _ (n5 + (-1)) (k5 + 1) _ ek1 (by rw [List.length_cons]; omega) hL2 hA2 (by omega) hok2 hr2 hg.2.2.push (by rw [List.length_cons]; omega) hQ
theorem w_worked (hd : 1 ≤ d) {σ : zS} {c : List Int} {a2 e3 : Int32} {k en : Nat} (hc : isE c) (ha : a2.toInt = k) (he : e3.toInt = en) (hk : k + c.length = en) (hen : en ≤ 130) (hL : LAt (σ.1 78) (c.map opcI) k) (hA : LAt (σ.1 79) (c.map argI) k) (g : Nat → Int32) (hQ : ∀ g', Q (some (.int (evE (σ.1 83) c))) (zen (sA σ 84 g'))) : zwp X d MX12_worked 0 [.ref 66, .int 0, .int a2, .int e3, .null, .null, .null] [] (zen (sA σ 84 g)) Q := by
  have ez : ((130 : Int32) * 0 + e3) = e3 := by rw [show (130 : Int32) * 0 = 0 from rfl, Int32.zero_add]
  have ez2 : ((130 : Int32) * 0 + a2) = a2 := by rw [show (130 : Int32) * 0 = 0 from rfl, Int32.zero_add]
  rw [b_X12_worked_0, ez2]
  refine lp_wrk hd a2 e3 en he hen c k [] _ g 0 a2 _ ha l0 hL hA (by omega) hc.1 (hc.ev (σ.1 83) []) trivial (by simp; omega) (fun g' n5' k5' w6 s1 s2 s3 => ?_)
  have c6 : gi (sA σ 84 g') 84 (ix 0) = evE (σ.1 83) c := by rw [gi_sA]; exact s1.1
  rw [b_X12_worked_12 (hd := hd), ez, if_pos (ile.mpr (by omega)), c6]
  exact hQ g'
def TMl (f78 f79 f81 f82 : Nat → Int32) : Nat → Nat → List (List Int × List Int) → Prop
  | _, _, [] => True
  | k, i, l :: r => LAt f78 ((l.1 ++ l.2).map opcI) k ∧ LAt f79 ((l.1 ++ l.2).map argI) k ∧ (f81 i).toInt = (k : Int) + l.1.length ∧ (f82 i).toInt = (k : Int) + l.1.length + l.2.length ∧ TMl f78 f79 f81 f82 (k + l.1.length + l.2.length) (i + 1) r
def lenM : List (List Int × List Int) → Nat
  | [] => 0
  | l :: r => l.1.length + l.2.length + lenM r
theorem lp_givesT (hd : 2 ≤ d) {σ : zS} {tot cnt : Nat} (htot : tot ≤ 130) (hcnt : (gi σ 80 0).toInt = cnt) (hc61 : cnt ≤ 61) : ∀ (T : List (List Int × List Int)) (k i : Nat) (g : Nat → Int32) (k2 i3 : Int32), k2.toInt = k → i3.toInt = i → TMl (σ.1 78) (σ.1 79) (σ.1 81) (σ.1 82) k i T → k + lenM T = tot → i + T.length = cnt → (∀ l, l ∈ T → okT2 l) → (∀ g', Q (some (.int (evT (σ.1 83) T))) (zen (sA σ 84 g'))) → zwp X d MX12_givesText 7 [.ref 66, .int 0, .int k2, .int i3] [] (zen (sA σ 84 g)) Q := by
  intro T
  have e0 := l0
  have e1 := l1
  have z00 : zin 0 2 = true := by decide
  have ix0 : ix 0 = 0 := rfl
  have e61 : ∀ x : Int32, ((61 : Int32) * 0 + x) = x := fun x => by rw [show (61 : Int32) * 0 = 0 from rfl, Int32.zero_add]
  induction T with
  | nil =>
    intro k i g k2 i3 hk2 hi3 hT hk hi hok hQ
    rw [List.length_nil] at hi
    have c80 : gi (sA σ 84 g) 80 0 = gi σ 80 0 := gi_sA_ne (by decide)
    rw [b_X12_givesText_7 (hd := by omega), ztrue_and z00, e61, ix0, c80, if_pos (ile.mpr (by omega))]
    exact hQ g
  | cons l r ih =>
    intro k i g k2 i3 hk2 hi3 hT hk hi hok hQ
    rw [List.length_cons] at hi
    obtain ⟨t1, t2, t3, t4, t5⟩ := hT
    have hk' : k + (l.1.length + l.2.length + lenM r) = tot := hk
    have hl := hok l List.mem_cons_self
    have hQ' : ∀ g', Q (some (.int (if l.1 = [] then evE (σ.1 83) l.2 else if evE (σ.1 83) l.1 = 0 then evT (σ.1 83) r else evE (σ.1 83) l.2))) (zen (sA σ 84 g')) := hQ
    rw [List.map_append] at t1 t2
    obtain ⟨a1, a2⟩ := t1.app
    obtain ⟨b1, b2⟩ := t2.app
    rw [List.length_map] at a2 b2
    have c80 : gi (sA σ 84 g) 80 0 = gi σ 80 0 := gi_sA_ne (by decide)
    have c81 : ∀ g, gi (sA σ 84 g) 81 i = gi σ 81 i := fun g => gi_sA_ne (by decide)
    have c82 : ∀ g, gi (sA σ 84 g) 82 i = gi σ 82 i := fun g => gi_sA_ne (by decide)
    have h81 : (gi σ 81 i).toInt = (k : Int) + l.1.length := t3
    have h82 : (gi σ 82 i).toInt = (k : Int) + l.1.length + l.2.length := t4
    have ii : ix i3 = i := by rw [ix_t]; omega
    have z3 : zin i3 122 = true := zin_of (by omega) (by omega)
    have ei1 : (i3 + 1).toInt = (i + 1 : Nat) := by rw [t_add (by omega), e1]; omega
    have body : ∀ g, (∀ g', Q (some (.int (evE (σ.1 83) l.2))) (zen (sA σ 84 g'))) → zwp X (d - 1) MX12_worked 0 [.ref 66, .int 0, .int (gi σ 81 i), .int (gi σ 82 i), .null, .null, .null] [] (zen (sA σ 84 g)) (fun v h' => zwp X d MX12_givesText 64 [.ref 66, .int 0, .int k2, .int i3] (zpsh v []) h' Q) := fun g hq =>
      w_worked (by omega) hl.2 (k := k + l.1.length) (en := k + l.1.length + l.2.length) (by rw [h81]; omega) (by rw [h82]; omega) rfl (by omega) a2 b2 g (fun g' => by
        show zwp X d MX12_givesText 64 _ [.int (evE (σ.1 83) l.2)] _ Q
        rw [b_X12_givesText_64]
        exact hq g')
    rw [b_X12_givesText_7 (hd := by omega), ztrue_and z00, e61, ix0, c80, if_neg (fun y => by have := ile.mp y; omega), ztrue_and z3, ii, c81, c82]
    by_cases ce : l.1 = []
    · rw [if_pos ce] at hQ'
      have hl0 : l.1.length = 0 := by rw [ce]; rfl
      rw [if_pos (ieq.mpr (by omega)), ztrue_and z3, ztrue_and z3]
      exact body g hQ'
    · rw [if_neg ce] at hQ'
      have hl0 : 0 < l.1.length := List.length_pos_iff.mpr ce
      have hE1 : isE l.1 := hl.1.resolve_left ce
      rw [if_neg (fun y => by have := congrArg Int32.toInt y; omega), ztrue_and z3]
      refine w_worked (by omega) hE1 (k := k) (en := k + l.1.length) hk2 (by rw [h81]; omega) rfl (by omega) a1 b1 g (fun g' => ?_)
      show zwp X d MX12_givesText 44 _ [.int (evE (σ.1 83) l.1)] _ Q
      rw [b_X12_givesText_44 (hd := by omega), ii, c81, c82]
      by_cases cv : evE (σ.1 83) l.1 = 0
      · rw [if_pos cv] at hQ'
        rw [if_pos cv, ztrue_and z3]
        exact ih (k + l.1.length + l.2.length) (i + 1) g' _ _ (by rw [h82]; omega) ei1 t5 (by omega) (by omega) (fun x hx => hok x (List.mem_cons_of_mem _ hx)) hQ'
      · rw [if_neg cv] at hQ'
        rw [if_neg cv, ztrue_and z3, ztrue_and z3]
        exact body g' hQ'
theorem w_givesText {σ : zS} {T : List (List Int × List Int)} (htot : lenM T ≤ 130) (hcnt : (gi σ 80 0).toInt = T.length) (hc61 : T.length ≤ 61) (hT : TMl (σ.1 78) (σ.1 79) (σ.1 81) (σ.1 82) 0 0 T) (hok : ∀ l, l ∈ T → okT2 l) : zLawMV σ (fun f => evT f T) := by
  intro τ h78 h79 h80 h81 h82 X d Q hd hQ
  have g80 : gi τ 80 0 = gi σ 80 0 := by show τ.1 80 0 = _; rw [h80]; rfl
  have e61 : ((61 : Int32) * 0) = 0 := rfl
  rw [b_X12_givesText_0, e61]
  have := lp_givesT (X := X) (d := d) (Q := Q) (by omega) (σ := τ) htot (cnt := T.length) (by rw [g80]; exact hcnt) hc61 T 0 0 (τ.1 84) 0 0 l0 l0 (by rw [h78, h79, h81, h82]; exact hT) (by omega) (by omega) hok hQ
  rw [sA_self] at this
  exact this
end WRK
