/-! a law worked out: the class, line by line -/
theorem LAt.app {f : Nat → Int32} {a b : List Int} {k : Nat} (h : LAt f (a ++ b) k) : LAt f a k ∧ LAt f b (k + a.length) := by
  refine ⟨fun j hj => ?_, fun j hj => ?_⟩
  · have := h j (by rw [List.length_append]; omega)
    rw [List.getElem_append_left hj] at this
    exact this
  · have := h (a.length + j) (by rw [List.length_append]; omega)
    rw [List.getElem_append_right (by omega)] at this
    rw [show k + a.length + j = k + (a.length + j) by omega, this]
    congr 1
    omega
theorem LAt.one {f : Nat → Int32} {s : Int} {k : Nat} (h : LAt f [s] k) : (f k).toInt = s := h 0 (by simp)
theorem LAt.hd {f : Nat → Int32} {s : Int} {c : List Int} {k : Nat} (h : LAt f (s :: c) k) : (f k).toInt = s ∧ LAt f c (k + 1) := by
  have := LAt.app (a := [s]) (b := c) h
  exact ⟨this.1.one, this.2⟩
section VAL
variable {X : zX} {d : Nat} {Q : Option Value → zH → Prop}
theorem lp_val {σ : zS} {len : Nat} (hlen : (gi σ 3 3).toInt = len) (h242 : len ≤ 121) : ∀ (c : List Int) (k : Nat) (st st' : List Int32) (g : Nat → Int32) (l2 l3 : Int32) (w4 w5 w6 w7 : Value), l3.toInt = k → l2.toInt = (st.length : Int) - 1 → LAt (σ.1 4) c k → k + c.length ≤ len → (∀ s, s ∈ c → okS s) → runL (σ.1 14) c st = some st' → SKf g st → st.length + c.length ≤ 121 →
    (∀ (g' : Nat → Int32) (l2' l3' : Int32) (w4 w5 w6 w7 : Value), SKf g' st' → l2'.toInt = (st'.length : Int) - 1 → l3'.toInt = (k + c.length : Nat) → zwp X d MX6_value 4 [.ref 3, .ref 14, .int l2', .int l3', w4, w5, w6, w7] [] (zen (sA σ 6 g')) Q) →
    zwp X d MX6_value 4 [.ref 3, .ref 14, .int l2, .int l3, w4, w5, w6, w7] [] (zen (sA σ 6 g)) Q := by
  intro c
  have e1 := l1
  have em1 := lm1
  have e10000 : (10000 : Int32).toInt = 10000 := rfl
  have e10005 : (10005 : Int32).toInt = 10005 := rfl
  induction c with
  | nil =>
    intro k st st' g l2 l3 w4 w5 w6 w7 h3 h2 hL hk hok hr hg hst hQ
    have : st = st' := Option.some.inj hr
    subst this
    exact hQ g l2 l3 w4 w5 w6 w7 hg h2 h3
  | cons s c ih =>
    intro k st st' g l2 l3 w4 w5 w6 w7 h3 h2 hL hk hok hr hg hst hQ
    rw [List.length_cons] at hk hst
    obtain ⟨hS, hL2⟩ := hL.hd
    have hs := hok s (List.mem_cons_self)
    have hok2 : ∀ x, x ∈ c → okS x := fun x hx => hok x (List.mem_cons_of_mem _ hx)
    have e31 : (l3 + 1).toInt = (k + 1 : Nat) := by rw [t_add (by omega), e1]; omega
    have e21 : (l2 + 1).toInt = (st.length : Int) := by rw [t_add (by omega), e1]; omega
    have i3 : ix l3 = k := by rw [ix_t]; omega
    have i21 : ix (l2 + 1) = st.length := by rw [ix_t]; omega
    have z3 : zin l3 121 = true := zin_of (by omega) (by omega)
    have z21 : zin (l2 + 1) 121 = true := zin_of (by omega) (by omega)
    have c3 : gi (sA σ 6 g) 3 3 = gi σ 3 3 := gi_sA_ne (by decide)
    have c4 : gi (sA σ 6 g) 4 k = gi σ 4 k := gi_sA_ne (by decide)
    have hSk : (gi σ 4 k).toInt = s := hS
    have hr2 : (match stpL (σ.1 14) s st with
      | some st1 => runL (σ.1 14) c st1
      | none => none) = some st' := hr
    unfold okS at hs
    unfold stpL at hr2
    have len2 : (k + (s :: c).length : Nat) = (k + 1 + c.length : Nat) := by rw [List.length_cons]; omega
    rw [len2] at hQ
    by_cases c1 : s < 10000
    · rw [if_pos c1] at hr2
      dsimp only at hr2
      refine val_step h3 (by omega) (by omega) hSk h2 (by omega) (by omega) (fun l5 => ?_)
      rw [b_X6_value_65, if_neg (fun y => by have := ile.mp y; omega), ztrue_and z21, si_sA, i21, of_t hSk]
      exact ih (k + 1) _ st' _ (l2 + 1) (l3 + 1) _ _ _ _ e31 (by rw [List.length_cons]; omega) hL2 (by omega) hok2 hr2 hg.push (by rw [List.length_cons]; omega) hQ
    · rw [if_neg c1] at hr2
      by_cases c2 : s ≤ 10005
      · rw [if_pos c2] at hr2
        dsimp only at hr2
        have e0 : (gi σ 4 k - 10000).toInt = s - 10000 := by rw [t_sub (by omega), hSk, e10000]
        have i0 : ix (gi σ 4 k - 10000) = (s - 10000).toNat := by rw [ix_t, e0]
        have z6 : zin (gi σ 4 k - 10000) 6 = true := zin_of (by omega) (by omega)
        have c14 : gi (sA σ 6 g) 14 (s - 10000).toNat = σ.1 14 (s - 10000).toNat := gi_sA_ne (by decide)
        refine val_step h3 (by omega) (by omega) hSk h2 (by omega) (by omega) (fun l5 => ?_)
        rw [b_X6_value_65, if_pos (ile.mpr (by omega)), if_neg (fun y => by have := il.mp y; omega), ztrue_and z6, ztrue_and z21, i0, c14, si_sA, i21]
        exact ih (k + 1) _ st' _ (l2 + 1) (l3 + 1) _ _ _ _ e31 (by rw [List.length_cons]; omega) hL2 (by omega) hok2 hr2 hg.push (by rw [List.length_cons]; omega) hQ
      · rw [if_neg c2] at hr2
        by_cases c5 : s = 10016
        · rw [if_pos c5] at hr2
          have hv : gi σ 4 k = 10016 := ieq.mpr (by rw [hSk, c5]; rfl)
          cases st with
          | nil => exact absurd hr2 (by intro q; cases q)
          | cons a r =>
            rw [List.length_cons] at h2 hst
            dsimp only at hr2
            have i2 : ix l2 = r.length := by rw [ix_t]; omega
            have z2 : zin l2 121 = true := zin_of (by omega) (by omega)
            have c6 : gi (sA σ 6 g) 6 r.length = a := by rw [gi_sA]; exact hg.1
            refine val_step h3 (by omega) (by omega) hSk h2 (by omega) (by omega) (fun l5 => ?_)
            rw [b_X6_value_65, hv, if_pos (by decide), if_pos (by decide), if_pos (by decide), if_pos (by decide), if_neg (fun y => y rfl), ztrue_and z2, i2, c6]
            by_cases ca : a = 0
            · rw [if_neg (fun y => y ca), ztrue_and z2, si_sA]
              rw [if_neg (fun y => y ca)] at hr2
              exact ih (k + 1) _ st' _ l2 (l3 + 1) _ _ _ _ e31 (by rw [List.length_cons]; omega) hL2 (by omega) hok2 hr2 hg.2.push (by rw [List.length_cons]; omega) hQ
            · rw [if_pos ca, ztrue_and z2, si_sA]
              rw [if_pos ca] at hr2
              exact ih (k + 1) _ st' _ l2 (l3 + 1) _ _ _ _ e31 (by rw [List.length_cons]; omega) hL2 (by omega) hok2 hr2 hg.2.push (by rw [List.length_cons]; omega) hQ
        · rw [if_neg c5] at hr2
          by_cases c6' : s = 10017
          · rw [if_pos c6'] at hr2
            have hv : gi σ 4 k = 10017 := ieq.mpr (by rw [hSk, c6']; rfl)
            cases st with
            | nil => exact absurd hr2 (by intro q; cases q)
            | cons a r =>
              rw [List.length_cons] at h2 hst
              dsimp only at hr2
              have i2 : ix l2 = r.length := by rw [ix_t]; omega
              have z2 : zin l2 121 = true := zin_of (by omega) (by omega)
              have c6 : gi (sA σ 6 g) 6 r.length = a := by rw [gi_sA]; exact hg.1
              refine val_step h3 (by omega) (by omega) hSk h2 (by omega) (by omega) (fun l5 => ?_)
              rw [b_X6_value_65, hv, if_pos (by decide), if_pos (by decide), if_pos (by decide), if_pos (by decide), if_pos (by decide), if_neg (fun y => y rfl), ztrue_and z2, ztrue_and z2, i2, c6, si_sA]
              exact ih (k + 1) _ st' _ l2 (l3 + 1) _ _ _ _ e31 (by rw [List.length_cons]; omega) hL2 (by omega) hok2 hr2 hg.2.push (by rw [List.length_cons]; omega) hQ
          · rw [if_neg c6'] at hr2
            cases st with
            | nil => exact absurd hr2 (by intro q; cases q)
            | cons b r =>
              cases r with
              | nil => exact absurd hr2 (by intro q; cases q)
              | cons a r =>
                rw [List.length_cons, List.length_cons] at h2 hst
                dsimp only at hr2
                refine val_step h3 (by omega) (by omega) hSk h2 (by omega) (by omega) (fun l5 => ?_)
                refine val_join (s := s) (a := a) (b := b) (m := r.length) (by omega) hSk (by omega) (by omega) hg.2.1 hg.1 (fun w4 w5 w6 w7 => ?_)
                exact ih (k + 1) _ st' _ (l2 + (-1)) (l3 + 1) _ _ _ _ e31 (by rw [t_add (by omega), em1, List.length_cons]; omega) hL2 (by omega) hok2 hr2 hg.2.2.push (by rw [List.length_cons]; omega) hQ
def lineC (l : List Int × List Int) : List Int := if l.1 = [] then l.2 ++ [10019] else l.1 ++ ([10018] ++ (l.2 ++ [10019]))
def TCl (f10 f11 : Nat → Int32) : Nat → List (List Int × List Int) → Prop
  | _, [] => True
  | k, l :: r => LAt f10 (lineC l) k ∧ (l.1 ≠ [] → (f11 (k + l.1.length)).toInt = (k : Int) + (lineC l).length - 1) ∧ TCl f10 f11 (k + (lineC l).length) r
def lenT : List (List Int × List Int) → Nat
  | [] => 0
  | l :: r => (lineC l).length + lenT r
def evT (f : Nat → Int32) : List (List Int × List Int) → Int32
  | [] => 0
  | l :: r => if l.1 = [] then evE f l.2 else if evE f l.1 = 0 then evT f r else evE f l.2
def okT2 (l : List Int × List Int) : Prop := (l.1 = [] ∨ isE l.1) ∧ isE l.2
/-- a body and the end of its line -/
theorem lp_body {σ : zS} {len : Nat} (hlen : (gi σ 3 3).toInt = len) (h242 : len ≤ 121) {c : List Int} (hc : isE c) {k : Nat} {g : Nat → Int32} {l2 l3 : Int32} {w4 w5 w6 w7 : Value} (h3 : l3.toInt = k) (h2 : l2.toInt = -1) (hL : LAt (σ.1 4) (c ++ [10019]) k) (hk : k + c.length < len) (hQ : ∀ g', Q (some (.int (evE (σ.1 14) c))) (zen (sA σ 6 g'))) : zwp X d MX6_value 4 [.ref 3, .ref 14, .int l2, .int l3, w4, w5, w6, w7] [] (zen (sA σ 6 g)) Q := by
  obtain ⟨hL1, hL2⟩ := hL.app
  refine lp_val hlen h242 c k [] _ g l2 l3 w4 w5 w6 w7 h3 (by rw [h2]; rfl) hL1 (by omega) hc.1 (hc.ev (σ.1 14) []) trivial (by simp; omega) (fun g' l2' l3' w4 w5 w6 w7 s1 s2 s3 => ?_)
  have hv : gi σ 4 (k + c.length) = 10019 := ieq.mpr hL2.one
  have i3 : ix l3' = k + c.length := by rw [ix_t]; omega
  have z3 : zin l3' 121 = true := zin_of (by omega) (by omega)
  have s2' : l2'.toInt = 0 := s2
  have i2 : ix l2' = 0 := by rw [ix_t]; omega
  have z2 : zin l2' 121 = true := zin_of (by omega) (by omega)
  have c3 : gi (sA σ 6 g') 3 3 = gi σ 3 3 := gi_sA_ne (by decide)
  have c4 : gi (sA σ 6 g') 4 (k + c.length) = gi σ 4 (k + c.length) := gi_sA_ne (by decide)
  have c6 : gi (sA σ 6 g') 6 0 = evE (σ.1 14) c := by rw [gi_sA]; exact s1.1
  refine val_step (n := 1) s3 (by omega) (by omega) hL2.one (by omega) (by omega) (by omega) (fun l5 => ?_)
  rw [b_X6_value_65, hv, if_pos (by decide), if_pos (by decide), if_neg (fun y => y rfl), ztrue_and z2, i2, c6]
  exact hQ g'
theorem lp_valT {σ : zS} {len : Nat} (hlen : (gi σ 3 3).toInt = len) (h242 : len ≤ 121) : ∀ (T : List (List Int × List Int)) (k : Nat) (g : Nat → Int32) (l2 l3 : Int32) (w4 w5 w6 w7 : Value), l3.toInt = k → l2.toInt = -1 → TCl (σ.1 4) (σ.1 5) k T → k + lenT T = len → (∀ l, l ∈ T → okT2 l) → (∀ g', Q (some (.int (evT (σ.1 14) T))) (zen (sA σ 6 g'))) → zwp X d MX6_value 4 [.ref 3, .ref 14, .int l2, .int l3, w4, w5, w6, w7] [] (zen (sA σ 6 g)) Q := by
  intro T
  have e1 := l1
  have em1 := lm1
  induction T with
  | nil =>
    intro k g l2 l3 w4 w5 w6 w7 h3 h2 hT hk hok hQ
    have c3 : gi (sA σ 6 g) 3 3 = gi σ 3 3 := gi_sA_ne (by decide)
    have hk' : k + 0 = len := hk
    rw [b_X6_value_4, c3, if_pos (ile.mpr (by omega))]
    exact hQ g
  | cons l r ih =>
    intro k g l2 l3 w4 w5 w6 w7 h3 h2 hT hk hok hQ
    obtain ⟨t1, t2, t3⟩ := hT
    have hk' : k + ((lineC l).length + lenT r) = len := hk
    have hl := hok l List.mem_cons_self
    have hQ' : ∀ g', Q (some (.int (if l.1 = [] then evE (σ.1 14) l.2 else if evE (σ.1 14) l.1 = 0 then evT (σ.1 14) r else evE (σ.1 14) l.2))) (zen (sA σ 6 g')) := hQ
    by_cases ce : l.1 = []
    · rw [if_pos ce] at hQ'
      have eC : lineC l = l.2 ++ [10019] := by unfold lineC; rw [if_pos ce]
      rw [eC] at t1 hk'
      rw [List.length_append, List.length_singleton] at hk'
      exact lp_body hlen h242 hl.2 h3 h2 t1 (by omega) hQ'
    · rw [if_neg ce] at hQ'
      have eC : lineC l = l.1 ++ ([10018] ++ (l.2 ++ [10019])) := by unfold lineC; rw [if_neg ce]
      have hcl : (lineC l).length = l.1.length + (1 + (l.2.length + 1)) := by rw [eC, List.length_append, List.length_append, List.length_append, List.length_singleton, List.length_singleton]
      have hE1 : isE l.1 := hl.1.resolve_left ce
      have tw := t2 ce
      rw [eC] at t1
      obtain ⟨a1, a2⟩ := t1.app
      obtain ⟨a3, a4⟩ := a2.app
      rw [List.length_singleton] at a4
      refine lp_val hlen h242 l.1 k [] _ g l2 l3 w4 w5 w6 w7 h3 (by rw [h2]; rfl) a1 (by omega) hE1.1 (hE1.ev (σ.1 14) []) trivial (by simp; omega) (fun g' l2' l3' w4 w5 w6 w7 s1 s2 s3 => ?_)
      have hv : gi σ 4 (k + l.1.length) = 10018 := ieq.mpr a3.one
      have i3 : ix l3' = k + l.1.length := by rw [ix_t]; omega
      have z3 : zin l3' 121 = true := zin_of (by omega) (by omega)
      have s2' : l2'.toInt = 0 := s2
      have i2 : ix l2' = 0 := by rw [ix_t]; omega
      have z2 : zin l2' 121 = true := zin_of (by omega) (by omega)
      have c3 : gi (sA σ 6 g') 3 3 = gi σ 3 3 := gi_sA_ne (by decide)
      have c4 : gi (sA σ 6 g') 4 (k + l.1.length) = gi σ 4 (k + l.1.length) := gi_sA_ne (by decide)
      have c5 : gi (sA σ 6 g') 5 (k + l.1.length) = gi σ 5 (k + l.1.length) := gi_sA_ne (by decide)
      have c6 : gi (sA σ 6 g') 6 0 = evE (σ.1 14) l.1 := by rw [gi_sA]; exact s1.1
      have h5 : (gi σ 5 (k + l.1.length)).toInt = (k : Int) + (lineC l).length - 1 := tw
      have e31 : (l3' + 1).toInt = (k + l.1.length + 1 : Nat) := by rw [t_add (by omega), e1]; omega
      have e21 : (l2' + (-1)).toInt = -1 := by rw [t_add (by omega), em1]; omega
      refine val_step (n := 1) s3 (by omega) (by omega) a3.one (by omega) (by omega) (by omega) (fun l5 => ?_)
      rw [b_X6_value_65, i3, hv, if_pos (by decide), if_pos (by decide), if_pos (by decide), if_neg (fun y => y rfl), ztrue_and z2, i2, c6]
      by_cases cv : evE (σ.1 14) l.1 = 0
      · rw [if_pos cv] at hQ'
        have e5 : (gi σ 5 (k + l.1.length) + 1).toInt = (k + (lineC l).length : Nat) := by rw [t_add (by omega), e1]; omega
        rw [if_neg (fun y => y cv), ztrue_and z3, c5, if_neg (fun y => by have := ile.mp y; omega), ztrue_and z3]
        exact ih (k + (lineC l).length) g' _ _ _ _ _ _ e5 e21 t3 (by omega) (fun x hx => hok x (List.mem_cons_of_mem _ hx)) hQ'
      · rw [if_neg cv] at hQ'
        rw [if_pos cv]
        exact lp_body hlen h242 hl.2 e31 e21 a4 (by omega) hQ'
theorem w_value {σ : zS} {T : List (List Int × List Int)} (hlen : (gi σ 3 3).toInt = lenT T) (h242 : lenT T ≤ 121) (hT : TCl (σ.1 4) (σ.1 5) 0 T) (hok : ∀ l, l ∈ T → okT2 l) : zLawV σ (fun f => evT f T) := by
  intro τ h3 h4 h5 X d Q hQ
  have g3 : gi τ 3 3 = gi σ 3 3 := by show τ.1 3 3 = _; rw [h3]; rfl
  rw [b_X6_value_0]
  have := lp_valT (X := X) (d := d) (Q := Q) (σ := τ) (len := lenT T) (by rw [g3]; exact hlen) h242 T 0 (τ.1 6) (-1) 0 .null .null .null .null l0 lm1 (by rw [h4, h5]; exact hT) (by omega) hok hQ
  rw [sA_self] at this
  exact this
end VAL
