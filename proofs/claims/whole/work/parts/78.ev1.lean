/-! a law worked out: in lists; the class -/
def opv (s : Int) (a b : Int32) : Int32 :=
  if s = 10006 then (if ¬ a = 0 then 1 else if b = 0 then 0 else 1)
  else if s = 10007 then (if a = 0 then 0 else if b = 0 then 0 else 1)
  else if s = 10008 then (if b ≤ a then 0 else 1)
  else if s = 10009 then (if ¬ a = b then 0 else 1)
  else if s = 10010 then (if a ≤ b then 0 else 1)
  else if s = 10011 then a + b
  else if s = 10012 then a - b
  else if s = 10013 then a * b
  else if s = 10014 then (if ¬ b = 0 then a / b else 0)
  else (if ¬ b = 0 then a - a / b * b else 0)
def stpL (f : Nat → Int32) (s : Int) (st : List Int32) : Option (List Int32) :=
  if s < 10000 then some (Int32.ofInt s :: st)
  else if s ≤ 10005 then some (f (s - 10000).toNat :: st)
  else if s = 10016 then (match st with
    | a :: r => some ((if ¬ a = 0 then 0 else 1) :: r)
    | [] => none)
  else if s = 10017 then (match st with
    | a :: r => some ((-a) :: r)
    | [] => none)
  else (match st with
    | b :: a :: r => some (opv s a b :: r)
    | _ => none)
def runL (f : Nat → Int32) : List Int → List Int32 → Option (List Int32)
  | [], st => some st
  | s :: c, st => match stpL f s st with
    | some st' => runL f c st'
    | none => none
theorem runL_app (f : Nat → Int32) : ∀ (c1 c2 : List Int) (st : List Int32), runL f (c1 ++ c2) st = match runL f c1 st with
    | some st' => runL f c2 st'
    | none => none := by
  intro c1
  induction c1 with
  | nil => intro c2 st; rfl
  | cons s c ih =>
    intro c2 st
    show (match stpL f s st with
      | some st' => runL f (c ++ c2) st'
      | none => none) = match (match stpL f s st with
        | some st' => runL f c st'
        | none => none) with
      | some st' => runL f c2 st'
      | none => none
    cases stpL f s st with
    | none => rfl
    | some st' => exact ih c2 st'
def okS (s : Int) : Prop := 0 ≤ s ∧ s ≤ 10017
def isE (c : List Int) : Prop := (∀ s, s ∈ c → okS s) ∧ ∀ f, ∃ v, ∀ st, runL f c st = some (v :: st)
def evE (f : Nat → Int32) (c : List Int) : Int32 := match runL f c [] with
  | some (v :: _) => v
  | _ => 0
theorem isE.ev {c : List Int} (h : isE c) (f : Nat → Int32) (st : List Int32) : runL f c st = some (evE f c :: st) := by
  obtain ⟨v, hv⟩ := h.2 f
  have : evE f c = v := by unfold evE; rw [hv []]
  rw [this]; exact hv st
theorem isE.num {v : Int} (h : 0 ≤ v ∧ v < 10000) : isE [v] := by
  refine ⟨fun s hs => ?_, fun f => ⟨Int32.ofInt v, fun st => ?_⟩⟩
  · rw [List.mem_singleton.mp hs]; exact ⟨by omega, by omega⟩
  · show (match stpL f v st with
      | some st' => some st'
      | none => none) = _
    unfold stpL
    rw [if_pos (by omega)]
theorem isE.name {v : Int} (h : 0 ≤ v ∧ v < 6) : isE [10000 + v] := by
  refine ⟨fun s hs => ?_, fun f => ⟨f (10000 + v - 10000).toNat, fun st => ?_⟩⟩
  · rw [List.mem_singleton.mp hs]; exact ⟨by omega, by omega⟩
  · show (match stpL f (10000 + v) st with
      | some st' => some st'
      | none => none) = _
    unfold stpL
    rw [if_neg (by omega), if_pos (by omega)]
theorem isE.not {c : List Int} (h : isE c) : isE (c ++ [10016]) := by
  refine ⟨fun s hs => ?_, fun f => ?_⟩
  · rcases List.mem_append.mp hs with q | q
    · exact h.1 s q
    · rw [List.mem_singleton.mp q]; exact ⟨by omega, by omega⟩
  · obtain ⟨v, hv⟩ := h.2 f
    refine ⟨if ¬ v = 0 then 0 else 1, fun st => ?_⟩
    rw [runL_app, hv]; rfl
theorem isE.neg {c : List Int} (h : isE c) : isE (c ++ [10017]) := by
  refine ⟨fun s hs => ?_, fun f => ?_⟩
  · rcases List.mem_append.mp hs with q | q
    · exact h.1 s q
    · rw [List.mem_singleton.mp q]; exact ⟨by omega, by omega⟩
  · obtain ⟨v, hv⟩ := h.2 f
    refine ⟨-v, fun st => ?_⟩
    rw [runL_app, hv]; rfl
theorem isE.join {c1 c2 : List Int} {j : Int} (h1 : isE c1) (h2 : isE c2) (hj : 0 ≤ j ∧ j < 10) : isE (c1 ++ c2 ++ [10006 + j]) := by
  refine ⟨fun s hs => ?_, fun f => ?_⟩
  · rcases List.mem_append.mp hs with q | q
    · rcases List.mem_append.mp q with q | q
      · exact h1.1 s q
      · exact h2.1 s q
    · rw [List.mem_singleton.mp q]; exact ⟨by omega, by omega⟩
  · obtain ⟨v, hv⟩ := h1.2 f
    obtain ⟨w, hw⟩ := h2.2 f
    refine ⟨opv (10006 + j) v w, fun st => ?_⟩
    rw [runL_app, runL_app, hv]
    dsimp only
    rw [hw]
    show (match stpL f (10006 + j) (w :: v :: st) with
      | some st' => some st'
      | none => none) = _
    unfold stpL
    rw [if_neg (by omega), if_neg (by omega), if_neg (by omega), if_neg (by omega)]
/-- the stack of an array -/
def SKf (g : Nat → Int32) : List Int32 → Prop
  | [] => True
  | a :: r => g r.length = a ∧ SKf g r
theorem SKf.up2 {g : Nat → Int32} {n : Nat} {a : Int32} : ∀ (st : List Int32), SKf g st → st.length ≤ n → SKf (upd g n a) st := by
  intro st
  induction st with
  | nil => intro _ _; exact trivial
  | cons b r ih =>
    intro h hn
    rw [List.length_cons] at hn
    exact ⟨by rw [upd_ne _ _ (by omega)]; exact h.1, ih h.2 (by omega)⟩
theorem SKf.push {g : Nat → Int32} {a : Int32} {st : List Int32} (h : SKf g st) : SKf (upd g st.length a) (a :: st) := ⟨upd_at _ _ _, h.up2 st (Nat.le_refl _)⟩
theorem opv_10006 (a b : Int32) : opv 10006 a b = (if ¬ a = 0 then 1 else if b = 0 then 0 else 1) := by
  unfold opv
  rw [if_pos rfl]
theorem opv_10007 (a b : Int32) : opv 10007 a b = (if a = 0 then 0 else if b = 0 then 0 else 1) := by
  unfold opv
  rw [if_neg (show ¬ (10007 : Int) = 10006 by decide), if_pos rfl]
theorem opv_10008 (a b : Int32) : opv 10008 a b = (if b ≤ a then 0 else 1) := by
  unfold opv
  rw [if_neg (show ¬ (10008 : Int) = 10006 by decide), if_neg (show ¬ (10008 : Int) = 10007 by decide), if_pos rfl]
theorem opv_10009 (a b : Int32) : opv 10009 a b = (if ¬ a = b then 0 else 1) := by
  unfold opv
  rw [if_neg (show ¬ (10009 : Int) = 10006 by decide), if_neg (show ¬ (10009 : Int) = 10007 by decide), if_neg (show ¬ (10009 : Int) = 10008 by decide), if_pos rfl]
theorem opv_10010 (a b : Int32) : opv 10010 a b = (if a ≤ b then 0 else 1) := by
  unfold opv
  rw [if_neg (show ¬ (10010 : Int) = 10006 by decide), if_neg (show ¬ (10010 : Int) = 10007 by decide), if_neg (show ¬ (10010 : Int) = 10008 by decide), if_neg (show ¬ (10010 : Int) = 10009 by decide), if_pos rfl]
theorem opv_10011 (a b : Int32) : opv 10011 a b = a + b := by
  unfold opv
  rw [if_neg (show ¬ (10011 : Int) = 10006 by decide), if_neg (show ¬ (10011 : Int) = 10007 by decide), if_neg (show ¬ (10011 : Int) = 10008 by decide), if_neg (show ¬ (10011 : Int) = 10009 by decide), if_neg (show ¬ (10011 : Int) = 10010 by decide), if_pos rfl]
theorem opv_10012 (a b : Int32) : opv 10012 a b = a - b := by
  unfold opv
  rw [if_neg (show ¬ (10012 : Int) = 10006 by decide), if_neg (show ¬ (10012 : Int) = 10007 by decide), if_neg (show ¬ (10012 : Int) = 10008 by decide), if_neg (show ¬ (10012 : Int) = 10009 by decide), if_neg (show ¬ (10012 : Int) = 10010 by decide), if_neg (show ¬ (10012 : Int) = 10011 by decide), if_pos rfl]
theorem opv_10013 (a b : Int32) : opv 10013 a b = a * b := by
  unfold opv
  rw [if_neg (show ¬ (10013 : Int) = 10006 by decide), if_neg (show ¬ (10013 : Int) = 10007 by decide), if_neg (show ¬ (10013 : Int) = 10008 by decide), if_neg (show ¬ (10013 : Int) = 10009 by decide), if_neg (show ¬ (10013 : Int) = 10010 by decide), if_neg (show ¬ (10013 : Int) = 10011 by decide), if_neg (show ¬ (10013 : Int) = 10012 by decide), if_pos rfl]
theorem opv_10014 (a b : Int32) : opv 10014 a b = (if ¬ b = 0 then a / b else 0) := by
  unfold opv
  rw [if_neg (show ¬ (10014 : Int) = 10006 by decide), if_neg (show ¬ (10014 : Int) = 10007 by decide), if_neg (show ¬ (10014 : Int) = 10008 by decide), if_neg (show ¬ (10014 : Int) = 10009 by decide), if_neg (show ¬ (10014 : Int) = 10010 by decide), if_neg (show ¬ (10014 : Int) = 10011 by decide), if_neg (show ¬ (10014 : Int) = 10012 by decide), if_neg (show ¬ (10014 : Int) = 10013 by decide), if_pos rfl]
theorem opv_10015 (a b : Int32) : opv 10015 a b = (if ¬ b = 0 then a - a / b * b else 0) := by
  unfold opv
  rw [if_neg (show ¬ (10015 : Int) = 10006 by decide), if_neg (show ¬ (10015 : Int) = 10007 by decide), if_neg (show ¬ (10015 : Int) = 10008 by decide), if_neg (show ¬ (10015 : Int) = 10009 by decide), if_neg (show ¬ (10015 : Int) = 10010 by decide), if_neg (show ¬ (10015 : Int) = 10011 by decide), if_neg (show ¬ (10015 : Int) = 10012 by decide), if_neg (show ¬ (10015 : Int) = 10013 by decide), if_neg (show ¬ (10015 : Int) = 10014 by decide)]
theorem opv_10 (s : Int) (h : 10006 ≤ s ∧ s ≤ 10015) : s = 10006 ∨ s = 10007 ∨ s = 10008 ∨ s = 10009 ∨ s = 10010 ∨ s = 10011 ∨ s = 10012 ∨ s = 10013 ∨ s = 10014 ∨ s = 10015 := by omega
/-- one step's look at the stack: the class -/
theorem val_step {X : zX} {d : Nat} {Q : Option Value → zH → Prop} {σ : zS} {g : Nat → Int32} {l2 l3 : Int32} {w4 w5 w6 w7 : Value} {s : Int} {k n : Nat} (h3 : l3.toInt = k) (hk : (k : Int) < (gi σ 3 3).toInt) (hk1 : k < 121) (hS : (gi σ 4 k).toInt = s) (hl2 : l2.toInt = (n : Int) - 1) (hn : n < 121) (hs : s ≤ 10005 ∨ (1 ≤ n ∧ (10016 ≤ s ∨ 2 ≤ n)))
    (hQ : ∀ l5 : Int32, zwp X d MX6_value 65 [.ref 3, .ref 14, .int l2, .int l3, .int (gi σ 4 k), .int l5, w6, w7] [] (zen (sA σ 6 g)) Q) : zwp X d MX6_value 4 [.ref 3, .ref 14, .int l2, .int l3, w4, w5, w6, w7] [] (zen (sA σ 6 g)) Q := by
  have e1 := l1
  have e21 : (l2 + 1).toInt = n := by rw [t_add (by omega), e1]; omega
  have i3 : ix l3 = k := by rw [ix_t]; omega
  have z3 : zin l3 121 = true := zin_of (by omega) (by omega)
  have c3 : gi (sA σ 6 g) 3 3 = gi σ 3 3 := gi_sA_ne (by decide)
  have c4 : gi (sA σ 6 g) 4 k = gi σ 4 k := gi_sA_ne (by decide)
  have t0 : (0 : Int32).toInt = 0 := rfl
  have t1 : (1 : Int32).toInt = 1 := rfl
  have t2 : (2 : Int32).toInt = 2 := rfl
  have t121 : (121 : Int32).toInt = 121 := rfl
  have t5 : (10005 : Int32).toInt = 10005 := rfl
  have t16 : (10016 : Int32).toInt = 10016 := rfl
  have h121 : l2 + 1 < 121 := il.mpr (by omega)
  rw [b_X6_value_4, c3, if_neg (fun y => by have := ile.mp y; omega), ztrue_and z3, i3, c4]
  by_cases c : 10005 < gi σ 4 k
  · have := il.mp c
    rw [if_pos c]
    by_cases c2 : 10016 ≤ gi σ 4 k
    · rw [if_pos c2, if_neg (fun y => by have := il.mp y; omega), if_pos h121]
      exact hQ 1
    · have := nile c2
      rw [if_neg c2, if_neg (fun y => by have := il.mp y; omega), if_pos h121]
      exact hQ 2
  · rw [if_neg c, if_neg (fun y => by have := il.mp y; omega), if_pos h121]
    exact hQ 0
/-- one join: the class -/
theorem val_join {X : zX} {d : Nat} {Q : Option Value → zH → Prop} {σ : zS} {g : Nat → Int32} {l2 l3 l4 l5 : Int32} {w6 w7 : Value} {s : Int} {a b : Int32} {m : Nat} (hs : 10006 ≤ s ∧ s ≤ 10015) (hS : l4.toInt = s) (hl2 : l2.toInt = (m : Int) + 1) (hm : m + 1 < 121) (ha : g m = a) (hb : g (m + 1) = b)
    (hQ : ∀ w4 w5 w6 w7, zwp X d MX6_value 4 [.ref 3, .ref 14, .int (l2 + (-1)), .int (l3 + 1), w4, w5, w6, w7] [] (zen (sA σ 6 (upd g m (opv s a b)))) Q) : zwp X d MX6_value 65 [.ref 3, .ref 14, .int l2, .int l3, .int l4, .int l5, w6, w7] [] (zen (sA σ 6 g)) Q := by
  have em1 := lm1
  have e21 : (l2 + (-1)).toInt = m := by rw [t_add (by omega), em1]; omega
  have i2 : ix l2 = m + 1 := by rw [ix_t]; omega
  have i21 : ix (l2 + (-1)) = m := by rw [ix_t]; omega
  have z2 : zin l2 121 = true := zin_of (by omega) (by omega)
  have z21 : zin (l2 + (-1)) 121 = true := zin_of (by omega) (by omega)
  have cA : gi (sA σ 6 g) 6 (ix (l2 + (-1))) = a := by rw [gi_sA, i21]; exact ha
  have cB : gi (sA σ 6 g) 6 (ix l2) = b := by rw [gi_sA, i2]; exact hb
  have go : ∀ (v : Int32) (w4 w5 w6 w7 : Value), opv s a b = v → zin (l2 + (-1)) 121 = true ∧ zwp X d MX6_value 4 [.ref 3, .ref 14, .int (l2 + (-1)), .int (l3 + 1), w4, w5, w6, w7] [] (zen (si (sA σ 6 g) 6 (ix (l2 + (-1))) v)) Q := fun v w4 w5 w6 w7 e => by
    rw [si_sA, i21, ← e]; exact ⟨z21, hQ w4 w5 w6 w7⟩
  rw [b_X6_value_65]
  rcases opv_10 s hs with q | q | q | q | q | q | q | q | q | q
  · subst q
    have hv : l4 = 10006 := ieq.mpr hS
    have o := opv_10006 a b
    rw [hv, if_pos (show (10000 : Int32) ≤ 10006 by decide), if_pos (show (10005 : Int32) < 10006 by decide), if_pos (show ¬ (10006 : Int32) = 10019 by decide), if_pos (show ¬ (10006 : Int32) = 10018 by decide), if_pos (show ¬ (10006 : Int32) = 10016 by decide), if_pos (show ¬ (10006 : Int32) = 10017 by decide), ztrue_and z2, ztrue_and z21, cA, cB]
    rw [if_pos (show (10006 : Int32) = 10006 from rfl)]
    by_cases ca : a = 0
    · rw [if_neg (fun y => y ca)]
      by_cases cb : b = 0
      · rw [if_pos cb]; exact go _ _ _ _ _ (by rw [o, if_neg (fun y => y ca), if_pos cb])
      · rw [if_neg cb]; exact go _ _ _ _ _ (by rw [o, if_neg (fun y => y ca), if_neg cb])
    · rw [if_pos ca]; exact go _ _ _ _ _ (by rw [o, if_pos ca])
  · subst q
    have hv : l4 = 10007 := ieq.mpr hS
    have o := opv_10007 a b
    rw [hv, if_pos (show (10000 : Int32) ≤ 10007 by decide), if_pos (show (10005 : Int32) < 10007 by decide), if_pos (show ¬ (10007 : Int32) = 10019 by decide), if_pos (show ¬ (10007 : Int32) = 10018 by decide), if_pos (show ¬ (10007 : Int32) = 10016 by decide), if_pos (show ¬ (10007 : Int32) = 10017 by decide), ztrue_and z2, ztrue_and z21, cA, cB]
    rw [if_neg (show ¬ (10007 : Int32) = 10006 by decide), if_pos (show (10007 : Int32) = 10007 from rfl)]
    by_cases ca : a = 0
    · rw [if_pos ca]; exact go _ _ _ _ _ (by rw [o, if_pos ca])
    · rw [if_neg ca]
      by_cases cb : b = 0
      · rw [if_pos cb]; exact go _ _ _ _ _ (by rw [o, if_neg ca, if_pos cb])
      · rw [if_neg cb]; exact go _ _ _ _ _ (by rw [o, if_neg ca, if_neg cb])
  · subst q
    have hv : l4 = 10008 := ieq.mpr hS
    have o := opv_10008 a b
    rw [hv, if_pos (show (10000 : Int32) ≤ 10008 by decide), if_pos (show (10005 : Int32) < 10008 by decide), if_pos (show ¬ (10008 : Int32) = 10019 by decide), if_pos (show ¬ (10008 : Int32) = 10018 by decide), if_pos (show ¬ (10008 : Int32) = 10016 by decide), if_pos (show ¬ (10008 : Int32) = 10017 by decide), ztrue_and z2, ztrue_and z21, cA, cB]
    rw [if_neg (show ¬ (10008 : Int32) = 10006 by decide), if_neg (show ¬ (10008 : Int32) = 10007 by decide), if_pos (show (10008 : Int32) = 10008 from rfl)]
    by_cases ca : b ≤ a
    · rw [if_pos ca]; exact go _ _ _ _ _ (by rw [o, if_pos ca])
    · rw [if_neg ca]; exact go _ _ _ _ _ (by rw [o, if_neg ca])
  · subst q
    have hv : l4 = 10009 := ieq.mpr hS
    have o := opv_10009 a b
    rw [hv, if_pos (show (10000 : Int32) ≤ 10009 by decide), if_pos (show (10005 : Int32) < 10009 by decide), if_pos (show ¬ (10009 : Int32) = 10019 by decide), if_pos (show ¬ (10009 : Int32) = 10018 by decide), if_pos (show ¬ (10009 : Int32) = 10016 by decide), if_pos (show ¬ (10009 : Int32) = 10017 by decide), ztrue_and z2, ztrue_and z21, cA, cB]
    rw [if_neg (show ¬ (10009 : Int32) = 10006 by decide), if_neg (show ¬ (10009 : Int32) = 10007 by decide), if_neg (show ¬ (10009 : Int32) = 10008 by decide), if_pos (show (10009 : Int32) = 10009 from rfl)]
    by_cases ca : a = b
    · rw [if_neg (fun y => y ca)]; exact go _ _ _ _ _ (by rw [o, if_neg (fun y => y ca)])
    · rw [if_pos ca]; exact go _ _ _ _ _ (by rw [o, if_pos ca])
  · subst q
    have hv : l4 = 10010 := ieq.mpr hS
    have o := opv_10010 a b
    rw [hv, if_pos (show (10000 : Int32) ≤ 10010 by decide), if_pos (show (10005 : Int32) < 10010 by decide), if_pos (show ¬ (10010 : Int32) = 10019 by decide), if_pos (show ¬ (10010 : Int32) = 10018 by decide), if_pos (show ¬ (10010 : Int32) = 10016 by decide), if_pos (show ¬ (10010 : Int32) = 10017 by decide), ztrue_and z2, ztrue_and z21, cA, cB]
    rw [if_neg (show ¬ (10010 : Int32) = 10006 by decide), if_neg (show ¬ (10010 : Int32) = 10007 by decide), if_neg (show ¬ (10010 : Int32) = 10008 by decide), if_neg (show ¬ (10010 : Int32) = 10009 by decide), if_pos (show (10010 : Int32) = 10010 from rfl)]
    by_cases ca : a ≤ b
    · rw [if_pos ca]; exact go _ _ _ _ _ (by rw [o, if_pos ca])
    · rw [if_neg ca]; exact go _ _ _ _ _ (by rw [o, if_neg ca])
  · subst q
    have hv : l4 = 10011 := ieq.mpr hS
    have o := opv_10011 a b
    rw [hv, if_pos (show (10000 : Int32) ≤ 10011 by decide), if_pos (show (10005 : Int32) < 10011 by decide), if_pos (show ¬ (10011 : Int32) = 10019 by decide), if_pos (show ¬ (10011 : Int32) = 10018 by decide), if_pos (show ¬ (10011 : Int32) = 10016 by decide), if_pos (show ¬ (10011 : Int32) = 10017 by decide), ztrue_and z2, ztrue_and z21, cA, cB]
    rw [if_neg (show ¬ (10011 : Int32) = 10006 by decide), if_neg (show ¬ (10011 : Int32) = 10007 by decide), if_neg (show ¬ (10011 : Int32) = 10008 by decide), if_neg (show ¬ (10011 : Int32) = 10009 by decide), if_neg (show ¬ (10011 : Int32) = 10010 by decide), if_pos (show (10011 : Int32) = 10011 from rfl)]
    exact go _ _ _ _ _ o
  · subst q
    have hv : l4 = 10012 := ieq.mpr hS
    have o := opv_10012 a b
    rw [hv, if_pos (show (10000 : Int32) ≤ 10012 by decide), if_pos (show (10005 : Int32) < 10012 by decide), if_pos (show ¬ (10012 : Int32) = 10019 by decide), if_pos (show ¬ (10012 : Int32) = 10018 by decide), if_pos (show ¬ (10012 : Int32) = 10016 by decide), if_pos (show ¬ (10012 : Int32) = 10017 by decide), ztrue_and z2, ztrue_and z21, cA, cB]
    rw [if_neg (show ¬ (10012 : Int32) = 10006 by decide), if_neg (show ¬ (10012 : Int32) = 10007 by decide), if_neg (show ¬ (10012 : Int32) = 10008 by decide), if_neg (show ¬ (10012 : Int32) = 10009 by decide), if_neg (show ¬ (10012 : Int32) = 10010 by decide), if_neg (show ¬ (10012 : Int32) = 10011 by decide), if_pos (show (10012 : Int32) = 10012 from rfl)]
    exact go _ _ _ _ _ o
  · subst q
    have hv : l4 = 10013 := ieq.mpr hS
    have o := opv_10013 a b
    rw [hv, if_pos (show (10000 : Int32) ≤ 10013 by decide), if_pos (show (10005 : Int32) < 10013 by decide), if_pos (show ¬ (10013 : Int32) = 10019 by decide), if_pos (show ¬ (10013 : Int32) = 10018 by decide), if_pos (show ¬ (10013 : Int32) = 10016 by decide), if_pos (show ¬ (10013 : Int32) = 10017 by decide), ztrue_and z2, ztrue_and z21, cA, cB]
    rw [if_neg (show ¬ (10013 : Int32) = 10006 by decide), if_neg (show ¬ (10013 : Int32) = 10007 by decide), if_neg (show ¬ (10013 : Int32) = 10008 by decide), if_neg (show ¬ (10013 : Int32) = 10009 by decide), if_neg (show ¬ (10013 : Int32) = 10010 by decide), if_neg (show ¬ (10013 : Int32) = 10011 by decide), if_neg (show ¬ (10013 : Int32) = 10012 by decide), if_pos (show (10013 : Int32) = 10013 from rfl)]
    exact go _ _ _ _ _ o
  · subst q
    have hv : l4 = 10014 := ieq.mpr hS
    have o := opv_10014 a b
    rw [hv, if_pos (show (10000 : Int32) ≤ 10014 by decide), if_pos (show (10005 : Int32) < 10014 by decide), if_pos (show ¬ (10014 : Int32) = 10019 by decide), if_pos (show ¬ (10014 : Int32) = 10018 by decide), if_pos (show ¬ (10014 : Int32) = 10016 by decide), if_pos (show ¬ (10014 : Int32) = 10017 by decide), ztrue_and z2, ztrue_and z21, cA, cB]
    rw [if_neg (show ¬ (10014 : Int32) = 10006 by decide), if_neg (show ¬ (10014 : Int32) = 10007 by decide), if_neg (show ¬ (10014 : Int32) = 10008 by decide), if_neg (show ¬ (10014 : Int32) = 10009 by decide), if_neg (show ¬ (10014 : Int32) = 10010 by decide), if_neg (show ¬ (10014 : Int32) = 10011 by decide), if_neg (show ¬ (10014 : Int32) = 10012 by decide), if_neg (show ¬ (10014 : Int32) = 10013 by decide), if_pos (show (10014 : Int32) = 10014 from rfl)]
    by_cases ca : b = 0
    · rw [if_neg (fun y => y ca)]; exact go _ _ _ _ _ (by rw [o, if_neg (fun y => y ca)])
    · rw [if_pos ca, ztrue_and (show decide (¬ b = 0) = true by rw [decide_eq_true_eq]; exact ca)]; exact go _ _ _ _ _ (by rw [o, if_pos ca])
  · subst q
    have hv : l4 = 10015 := ieq.mpr hS
    have o := opv_10015 a b
    rw [hv, if_pos (show (10000 : Int32) ≤ 10015 by decide), if_pos (show (10005 : Int32) < 10015 by decide), if_pos (show ¬ (10015 : Int32) = 10019 by decide), if_pos (show ¬ (10015 : Int32) = 10018 by decide), if_pos (show ¬ (10015 : Int32) = 10016 by decide), if_pos (show ¬ (10015 : Int32) = 10017 by decide), ztrue_and z2, ztrue_and z21, cA, cB]
    rw [if_neg (show ¬ (10015 : Int32) = 10006 by decide), if_neg (show ¬ (10015 : Int32) = 10007 by decide), if_neg (show ¬ (10015 : Int32) = 10008 by decide), if_neg (show ¬ (10015 : Int32) = 10009 by decide), if_neg (show ¬ (10015 : Int32) = 10010 by decide), if_neg (show ¬ (10015 : Int32) = 10011 by decide), if_neg (show ¬ (10015 : Int32) = 10012 by decide), if_neg (show ¬ (10015 : Int32) = 10013 by decide), if_neg (show ¬ (10015 : Int32) = 10014 by decide)]
    by_cases ca : b = 0
    · rw [if_neg (fun y => y ca)]; exact go _ _ _ _ _ (by rw [o, if_neg (fun y => y ca)])
    · rw [if_pos ca, ztrue_and (show decide (¬ b = 0) = true by rw [decide_eq_true_eq]; exact ca)]; exact go _ _ _ _ _ (by rw [o, if_pos ca])
