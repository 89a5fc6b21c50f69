/-! givesText -/
section WRK
variable {X : zX} {d : Nat} {Q : Option Value → zH → Prop}
theorem w_worked (hd : 1 ≤ d) {σ : zS} {c : List Int} {a2 e3 : Int32} {k en : Nat} (hc : isE c) (ha : a2.toInt = k) (he : e3.toInt = en) (hk : k + c.length = en) (hen : en ≤ 130) (hL : LAt (σ.1 78) (c.map opcI) k) (hA : LAt (σ.1 79) (c.map argI) k) (g : Nat → Int32) (hQ : ∀ g', Q (some (.int (evE (σ.1 83) c))) (zen (sA σ 84 g'))) : zwp X d MX12_worked 0 [.ref 66, .int 0, .int a2, .int e3, .null, .null, .null] [] (zen (sA σ 84 g)) Q := by
  have ez : ((130 : Int32) * 0 + e3) = e3 := by rw [show (130 : Int32) * 0 = 0 from rfl, Int32.zero_add]
  have ez2 : ((130 : Int32) * 0 + a2) = a2 := by rw [show (130 : Int32) * 0 = 0 from rfl, Int32.zero_add]
  rw [b_X12_worked_0, ez2]
  refine lp_wrk hd a2 e3 en he hen c k [] _ g 0 a2 _ ha l0 hL hA (by omega) hc.1 (hc.ev (σ.1 83) []) trivial (by simp; omega) (fun g' n5' k5' w6 s1 s2 s3 => ?_)
  have c6 : gi (sA σ 84 g') 84 (ix 0) = evE (σ.1 83) c := by rw [gi_sA]; exact s1.1
  rw [b_X12_worked_12 (hd := hd), ez, if_pos (ile.mpr (by omega)), c6]
  exact hQ g'
def TMl (f78 f79 f81 f82 : Nat → Int32) : Nat → Nat → List (List Int × List Int) → Prop
  | _, _, [] => True
  | k, i, l :: r => LAt f78 ((l.1 ++ l.2).map opcI) k ∧ LAt f79 ((l.1 ++ l.2).map argI) k ∧ (f81 i).toInt = (k : Int) + l.1.length ∧ (f82 i).toInt = (k : Int) + l.1.length + l.2.length ∧ TMl f78 f79 f81 f82 (k + l.1.length + l.2.length) (i + 1) r
def lenM : List (List Int × List Int) → Nat
  | [] => 0
  | l :: r => l.1.length + l.2.length + lenM r
theorem lp_givesT (hd : 2 ≤ d) {σ : zS} {tot cnt : Nat} (htot : tot ≤ 130) (hcnt : (gi σ 80 0).toInt = cnt) (hc61 : cnt ≤ 61) : ∀ (T : List (List Int × List Int)) (k i : Nat) (g : Nat → Int32) (k2 i3 : Int32), k2.toInt = k → i3.toInt = i → TMl (σ.1 78) (σ.1 79) (σ.1 81) (σ.1 82) k i T → k + lenM T = tot → i + T.length = cnt → (∀ l, l ∈ T → okT2 l) → (∀ g', Q (some (.int (evT (σ.1 83) T))) (zen (sA σ 84 g'))) → zwp X d MX12_givesText 7 [.ref 66, .int 0, .int k2, .int i3] [] (zen (sA σ 84 g)) Q := by
  intro T
  have e0 := l0
  have e1 := l1
  have z00 : zin 0 2 = true := by decide
  have ix0 : ix 0 = 0 := rfl
  have e61 : ∀ x : Int32, ((61 : Int32) * 0 + x) = x := fun x => by rw [show (61 : Int32) * 0 = 0 from rfl, Int32.zero_add]
  induction T with
  | nil =>
    intro k i g k2 i3 hk2 hi3 hT hk hi hok hQ
    rw [List.length_nil] at hi
    have c80 : gi (sA σ 84 g) 80 0 = gi σ 80 0 := gi_sA_ne (by decide)
    rw [b_X12_givesText_7 (hd := by omega), ztrue_and z00, e61, ix0, c80, if_pos (ile.mpr (by omega))]
    exact hQ g
  | cons l r ih =>
    intro k i g k2 i3 hk2 hi3 hT hk hi hok hQ
    rw [List.length_cons] at hi
    obtain ⟨t1, t2, t3, t4, t5⟩ := hT
    have hk' : k + (l.1.length + l.2.length + lenM r) = tot := hk
    have hl := hok l List.mem_cons_self
    have hQ' : ∀ g', Q (some (.int (if l.1 = [] then evE (σ.1 83) l.2 else if evE (σ.1 83) l.1 = 0 then evT (σ.1 83) r else evE (σ.1 83) l.2))) (zen (sA σ 84 g')) := hQ
    rw [List.map_append] at t1 t2
    obtain ⟨a1, a2⟩ := t1.app
    obtain ⟨b1, b2⟩ := t2.app
    rw [List.length_map] at a2 b2
    have c80 : gi (sA σ 84 g) 80 0 = gi σ 80 0 := gi_sA_ne (by decide)
    have c81 : ∀ g, gi (sA σ 84 g) 81 i = gi σ 81 i := fun g => gi_sA_ne (by decide)
    have c82 : ∀ g, gi (sA σ 84 g) 82 i = gi σ 82 i := fun g => gi_sA_ne (by decide)
    have h81 : (gi σ 81 i).toInt = (k : Int) + l.1.length := t3
    have h82 : (gi σ 82 i).toInt = (k : Int) + l.1.length + l.2.length := t4
    have ii : ix i3 = i := by rw [ix_t]; omega
    have z3 : zin i3 122 = true := zin_of (by omega) (by omega)
    have ei1 : (i3 + 1).toInt = (i + 1 : Nat) := by rw [t_add (by omega), e1]; omega
    have body : ∀ g, (∀ g', Q (some (.int (evE (σ.1 83) l.2))) (zen (sA σ 84 g'))) → zwp X (d - 1) MX12_worked 0 [.ref 66, .int 0, .int (gi σ 81 i), .int (gi σ 82 i), .null, .null, .null] [] (zen (sA σ 84 g)) (fun v h' => zwp X d MX12_givesText 64 [.ref 66, .int 0, .int k2, .int i3] (zpsh v []) h' Q) := fun g hq =>
      w_worked (by omega) hl.2 (k := k + l.1.length) (en := k + l.1.length + l.2.length) (by rw [h81]; omega) (by rw [h82]; omega) rfl (by omega) a2 b2 g (fun g' => by
        show zwp X d MX12_givesText 64 _ [.int (evE (σ.1 83) l.2)] _ Q
        rw [b_X12_givesText_64]
        exact hq g')
    rw [b_X12_givesText_7 (hd := by omega), ztrue_and z00, e61, ix0, c80, if_neg (fun y => by have := ile.mp y; omega), ztrue_and z3, ii, c81, c82]
    by_cases ce : l.1 = []
    · rw [if_pos ce] at hQ'
      have hl0 : l.1.length = 0 := by rw [ce]; rfl
      rw [if_pos (ieq.mpr (by omega)), ztrue_and z3, ztrue_and z3]
      exact body g hQ'
    · rw [if_neg ce] at hQ'
      have hl0 : 0 < l.1.length := List.length_pos_iff.mpr ce
      have hE1 : isE l.1 := hl.1.resolve_left ce
      rw [if_neg (fun y => by have := congrArg Int32.toInt y; omega), ztrue_and z3]
      refine w_worked (by omega) hE1 (k := k) (en := k + l.1.length) hk2 (by rw [h81]; omega) rfl (by omega) a1 b1 g (fun g' => ?_)
      show zwp X d MX12_givesText 44 _ [.int (evE (σ.1 83) l.1)] _ Q
      rw [b_X12_givesText_44 (hd := by omega), ii, c81, c82]
      by_cases cv : evE (σ.1 83) l.1 = 0
      · rw [if_pos cv] at hQ'
        rw [if_pos cv, ztrue_and z3]
        exact ih (k + l.1.length + l.2.length) (i + 1) g' _ _ (by rw [h82]; omega) ei1 t5 (by omega) (by omega) (fun x hx => hok x (List.mem_cons_of_mem _ hx)) hQ'
      · rw [if_neg cv] at hQ'
        rw [if_neg cv, ztrue_and z3, ztrue_and z3]
        exact body g' hQ'
theorem TMl.eq {f78 f79 f81 f82 g78 g79 g81 g82 : Nat → Int32} : ∀ (T : List (List Int × List Int)) (k i : Nat), TMl f78 f79 f81 f82 k i T → (∀ j, j < k + lenM T → g78 j = f78 j ∧ g79 j = f79 j) → (∀ j, j < i + T.length → g81 j = f81 j ∧ g82 j = f82 j) → TMl g78 g79 g81 g82 k i T := by
  intro T
  induction T with
  | nil => intro k i _ _ _; exact trivial
  | cons l r ih =>
    intro k i h h1 h2
    obtain ⟨t1, t2, t3, t4, t5⟩ := h
    have e1 : lenM (l :: r) = l.1.length + l.2.length + lenM r := rfl
    rw [e1] at h1
    rw [List.length_cons] at h2
    have hl : (l.1 ++ l.2).length = l.1.length + l.2.length := List.length_append
    have cp : ∀ (f g : Nat → Int32) (c : List Int) (k : Nat), LAt f c k → (∀ j, k ≤ j → j < k + c.length → g j = f j) → LAt g c k := fun f g c k h he j hj => by
      rw [he (k + j) (by omega) (by omega)]; exact h j hj
    refine ⟨cp _ _ _ _ t1 (fun j a b => ?_), cp _ _ _ _ t2 (fun j a b => ?_), ?_, ?_, ih _ _ t5 (fun j hj => h1 j (by omega)) (fun j hj => h2 j (by omega))⟩
    · rw [List.length_map] at b
      exact (h1 j (by omega)).1
    · rw [List.length_map] at b
      exact (h1 j (by omega)).2
    · rw [(h2 i (by omega)).1]; exact t3
    · rw [(h2 i (by omega)).2]; exact t4
theorem w_givesText {σ : zS} {T : List (List Int × List Int)} (htot : lenM T ≤ 130) (hcnt : (gi σ 80 0).toInt = T.length) (hc61 : T.length ≤ 61) (hT : TMl (σ.1 78) (σ.1 79) (σ.1 81) (σ.1 82) 0 0 T) (hok : ∀ l, l ∈ T → okT2 l) : zLawMV σ (fun f => evT f T) := by
  intro τ h78 h79 h80 h81 h82 X d Q hd hQ
  have g80 : gi τ 80 0 = gi σ 80 0 := h80
  have hT2 : TMl (τ.1 78) (τ.1 79) (τ.1 81) (τ.1 82) 0 0 T := TMl.eq T 0 0 hT (fun j hj => ⟨h78 j (by omega), h79 j (by omega)⟩) (fun j hj => ⟨h81 j (by omega), h82 j (by omega)⟩)
  have e61 : ((61 : Int32) * 0) = 0 := rfl
  rw [b_X12_givesText_0, e61]
  have := lp_givesT (X := X) (d := d) (Q := Q) (by omega) (σ := τ) htot (cnt := T.length) (by rw [g80]; exact hcnt) hc61 T 0 0 (τ.1 84) 0 0 l0 l0 hT2 (by omega) (by omega) hok hQ
  rw [sA_self] at this
  exact this
end WRK
