/-- the reference's act -/
def MR (p : Prop) (f : Int32) (g : zS) (σ : zS) (r : List Nat × Int32) : Prop := p ∧ f = r.2 ∧ g = noteM σ r.1
theorem pM {σ : zS} {c : Int32} (h : 0 ≤ (gi σ 66 51).toInt) : p_X12_ran σ c := by
  unfold p_X12_ran
  by_cases q : 24 ≤ gi σ 66 51
  · rw [if_pos q]; trivial
  · have := nile q
    rw [l24] at this
    rw [if_neg q]; exact zin_of (by omega) (by omega)
theorem cM {σ : zS} {l : List Nat} {u : Nat} (h : 0 ≤ (gi σ 66 51).toInt ∧ (gi σ 66 51).toInt + u ≤ 1000) (hl : l.length ≤ u) : 0 ≤ (gi (noteM σ l) 66 51).toInt ∧ (gi (noteM σ l) 66 51).toInt + (u - l.length : Nat) ≤ 1000 := by
  rw [noteM_n h.1 (by omega)]; omega
theorem kM {σ : zS} {l : List Nat} {j : Nat} : gi (noteM σ l) 93 j = gi σ 93 j := noteM_fr.1 93 (by decide) j (by simp)
theorem mC {σ : zS} {c : Nat} {l : List Nat} : noteM (g_X12_ran σ (aK c)) l = noteM σ (c :: l) := rfl
def mBear (K : Nat) (b n : Int32) : List Nat × Int32 := if K = 1 ∨ K = 4 then ([20, 1], n + b + 3) else if K = 7 then ([81, 70, 1], (n + b) * 2 - 1) else if K = 6 then ([70, 1], (n + b) * 2) else ([1], n + b)
def mPlainClaps (K : Nat) (b n : Int32) : List Nat × Int32 := (10 :: (mBear K b n).1, (mBear K b n).2 * 2)
def mThaw (K : Nat) (b n : Int32) : List Nat × Int32 := if K = 5 then (60 :: ([40, 11] ++ (mBear K b 2).1), (n ^^^ b) * 3 - (mBear K b 2).2) else if K = 3 then ([40, 11], (n ^^^ b) * 3) else ([11], n ^^^ b)
def mClap (K : Nat) (b n : Int32) : List Nat × Int32 := if K = 3 ∨ K = 5 then (41 :: 30 :: (mPlainClaps K b (n + 1)).1, -(mPlainClaps K b (n + 1)).2) else if K = 7 then (80 :: ((mPlainClaps K b n).1 ++ (mThaw K b 2).1), (mPlainClaps K b n).2 + (mThaw K b 2).2) else if K = 2 then (30 :: (mPlainClaps K b n).1, -(mPlainClaps K b n).2) else mPlainClaps K b n
def mPlainTells (K : Nat) (b n : Int32) : List Nat × Int32 := (2 :: ((mClap K b n).1 ++ (mThaw K b 1).1), (mClap K b n).2 - (mThaw K b 1).2)
def mTell (K : Nat) (b n : Int32) : List Nat × Int32 := if K = 4 then (50 :: (mPlainTells K b n).1, (mPlainTells K b n).2 ^^^ 5) else if K = 5 then (61 :: (mPlainTells K b n).1, (mPlainTells K b n).2 + 1) else mPlainTells K b n
theorem lB : ∀ K, K < 8 → ∀ b n, (mBear K b n).1.length ≤ 3 := by
  intro K hK b n
  unfold mBear
  split
  · exact Nat.le_of_ble_eq_true rfl
  · split
    · exact Nat.le_of_ble_eq_true rfl
    · split <;> exact Nat.le_of_ble_eq_true rfl
theorem lT : ∀ K, K < 8 → ∀ b n, (mThaw K b n).1.length ≤ 6 := by
  intro K hK b n
  unfold mThaw
  have := lB K hK b 2
  split
  · rw [List.length_cons, List.length_append]; show 2 + _ + 1 ≤ 6; omega
  · split
    · exact Nat.le_of_ble_eq_true rfl
    · exact Nat.le_of_ble_eq_true rfl
theorem lP : ∀ K, K < 8 → ∀ b n, (mPlainClaps K b n).1.length ≤ 4 := by
  intro K hK b n
  have := lB K hK b n
  unfold mPlainClaps
  rw [List.length_cons]; omega
theorem lC : ∀ K, K < 8 → ∀ b n, (mClap K b n).1.length ≤ 11 := by
  intro K hK b n
  unfold mClap
  have h1 := lP K hK b n
  have h2 := lP K hK b (n + 1)
  have h3 := lT K hK b 2
  split
  · rw [List.length_cons, List.length_cons]; omega
  · split
    · rw [List.length_cons, List.length_append]; omega
    · split
      · rw [List.length_cons]; omega
      · omega
theorem iu1 : ∀ K, K < 8 → ∀ σ, f_X12_isUnder σ (aK K) 1 = if K = 1 ∨ K = 4 then 1 else 0 := by
  intro K hK σ
  unfold f_X12_isUnder
  revert K; decide
theorem iu3 : ∀ K, K < 8 → ∀ σ, f_X12_isUnder σ (aK K) 3 = if K = 3 ∨ K = 5 then 1 else 0 := by
  intro K hK σ
  unfold f_X12_isUnder
  revert K; decide
theorem aK_eq : ∀ K, K < 8 → ∀ j, j < 8 → (aK K = aK j ↔ K = j) := by decide
section MODEL
variable {σ : zS} {K : Nat} {b : Int32}
theorem n1M {c : Nat} (h : 0 ≤ (gi σ 66 51).toInt ∧ (gi σ 66 51).toInt ≤ 900) : 0 ≤ (gi (g_X12_ran σ (aK c)) 66 51).toInt ∧ (gi (g_X12_ran σ (aK c)) 66 51).toInt = (gi σ 66 51).toInt + 1 := by
  have : (gi (g_X12_ran σ (aK c)) 66 51).toInt = (gi σ 66 51).toInt + 1 := by rw [gM_n, t_add (by rw [l1]; omega), l1]
  omega
theorem k1M {c : Nat} {j : Nat} : gi (g_X12_ran σ (aK c)) 93 j = gi σ 93 j := gM_fr.1 93 (by decide) j (by simp)
theorem r_pbear (hn : 0 ≤ (gi σ 66 51).toInt) (n : Int32) : MR (p_X12_plainBears σ b n) (f_X12_plainBears σ b n) (g_X12_plainBears σ b n) σ ([1], n + b) := ⟨pM hn, rfl, rfl⟩
theorem r_hbear (hn : 0 ≤ (gi σ 66 51).toInt ∧ (gi σ 66 51).toInt ≤ 900) (n : Int32) : MR (p_X12_hissBears σ b n) (f_X12_hissBears σ b n) (g_X12_hissBears σ b n) σ ([70, 1], (n + b) * 2) := by
  unfold p_X12_hissBears f_X12_hissBears g_X12_hissBears
  rw [show g_X12_ran σ 70 = g_X12_ran σ (aK 70) from rfl]
  have q1 := n1M (c := 70) hn
  have B := r_pbear (σ := g_X12_ran σ (aK 70)) (b := b) q1.1 n
  exact ⟨⟨pM hn.1, B.1⟩, by rw [B.2.1], B.2.2.trans mC⟩
theorem r_bear (hK : K < 8) (hb : zin b 50 = true) (hk : gi σ 93 (ix b) = aK K) (hn : 0 ≤ (gi σ 66 51).toInt ∧ (gi σ 66 51).toInt ≤ 890) (n : Int32) : MR (p_X12_bearing σ b n) (f_X12_bearing σ b n) (g_X12_bearing σ b n) σ (mBear K b n) := by
  unfold p_X12_bearing f_X12_bearing g_X12_bearing mBear
  have z10 : ¬ (1 : Int32) = 0 := by decide
  rw [hk, iu1 K hK, show g_X12_ran σ 20 = g_X12_ran σ (aK 20) from rfl, show g_X12_ran σ 81 = g_X12_ran σ (aK 81) from rfl]
  by_cases c : K = 1 ∨ K = 4
  · rw [if_pos c, if_neg z10, if_neg z10, if_neg z10, if_pos c]
    have q1 := n1M (c := 20) (σ := σ) (by omega)
    have B := r_pbear (σ := g_X12_ran σ (aK 20)) (b := b) q1.1 n
    exact ⟨⟨hb, pM hn.1, B.1⟩, by rw [B.2.1], B.2.2.trans mC⟩
  · rw [if_neg c, if_pos rfl, if_pos rfl, if_pos rfl, if_neg c]
    by_cases c7 : K = 7
    · have h1 : ¬ ¬ aK K = 7 := fun y => y (by rw [c7]; rfl)
      rw [if_neg h1, if_neg h1, if_neg h1, if_pos c7]
      have q1 := n1M (c := 81) (σ := σ) (by omega)
      have B := r_hbear (σ := g_X12_ran σ (aK 81)) (b := b) (by omega) n
      exact ⟨⟨hb, hb, pM hn.1, B.1⟩, by rw [B.2.1], B.2.2.trans mC⟩
    · have h1 : ¬ aK K = 7 := fun y => c7 ((aK_eq K hK 7 (by decide)).mp y)
      rw [if_pos h1, if_pos h1, if_pos h1, if_neg c7]
      by_cases c6 : K = 6
      · have h1 : ¬ ¬ aK K = 6 := fun y => y (by rw [c6]; rfl)
        rw [if_neg h1, if_neg h1, if_neg h1, if_pos c6]
        have B := r_hbear (σ := σ) (b := b) (by omega) n
        exact ⟨⟨hb, hb, hb, B.1⟩, B.2.1, B.2.2⟩
      · have h1 : ¬ aK K = 6 := fun y => c6 ((aK_eq K hK 6 (by decide)).mp y)
        rw [if_pos h1, if_pos h1, if_pos h1, if_neg c6]
        have B := r_pbear (σ := σ) (b := b) hn.1 n
        exact ⟨⟨hb, hb, hb, B.1⟩, B.2.1, B.2.2⟩
theorem r_pclap (hK : K < 8) (hb : zin b 50 = true) (hk : gi σ 93 (ix b) = aK K) (hn : 0 ≤ (gi σ 66 51).toInt ∧ (gi σ 66 51).toInt ≤ 800) (n : Int32) : MR (p_X12_plainClaps σ b n) (f_X12_plainClaps σ b n) (g_X12_plainClaps σ b n) σ (mPlainClaps K b n) := by
  have q1 := n1M (c := 10) (σ := σ) (by omega)
  have B := r_bear (σ := g_X12_ran σ (aK 10)) hK hb (by rw [k1M]; exact hk) (by omega) n
  unfold p_X12_plainClaps f_X12_plainClaps g_X12_plainClaps mPlainClaps
  rw [show g_X12_ran σ 10 = g_X12_ran σ (aK 10) from rfl]
  exact ⟨⟨pM hn.1, B.1⟩, by rw [B.2.1], B.2.2.trans mC⟩
theorem r_pthaw (hn : 0 ≤ (gi σ 66 51).toInt) (n : Int32) : MR (p_X12_plainThaws σ b n) (f_X12_plainThaws σ b n) (g_X12_plainThaws σ b n) σ ([11], n ^^^ b) := ⟨pM hn, rfl, rfl⟩
theorem r_ethaw (hn : 0 ≤ (gi σ 66 51).toInt ∧ (gi σ 66 51).toInt ≤ 900) (n : Int32) : MR (p_X12_encoreThaws σ b n) (f_X12_encoreThaws σ b n) (g_X12_encoreThaws σ b n) σ ([40, 11], (n ^^^ b) * 3) := by
  unfold p_X12_encoreThaws f_X12_encoreThaws g_X12_encoreThaws
  rw [show g_X12_ran σ 40 = g_X12_ran σ (aK 40) from rfl]
  have q1 := n1M (c := 40) hn
  have B := r_pthaw (σ := g_X12_ran σ (aK 40)) (b := b) q1.1 n
  exact ⟨⟨pM hn.1, B.1⟩, by rw [B.2.1], B.2.2.trans mC⟩
theorem r_thaw (hK : K < 8) (hb : zin b 50 = true) (hk : gi σ 93 (ix b) = aK K) (hn : 0 ≤ (gi σ 66 51).toInt ∧ (gi σ 66 51).toInt ≤ 800) (n : Int32) : MR (p_X12_thawing σ b n) (f_X12_thawing σ b n) (g_X12_thawing σ b n) σ (mThaw K b n) := by
  unfold p_X12_thawing f_X12_thawing g_X12_thawing mThaw
  rw [hk, show g_X12_ran σ 60 = g_X12_ran σ (aK 60) from rfl]
  by_cases c5 : K = 5
  · have h1 : ¬ ¬ aK K = 5 := fun y => y (by rw [c5]; rfl)
    rw [if_neg h1, if_neg h1, if_neg h1, if_pos c5]
    have q1 := n1M (c := 60) (σ := σ) (by omega)
    have B := r_ethaw (σ := g_X12_ran σ (aK 60)) (b := b) (by omega) n
    have q2 := noteM_n (σ := g_X12_ran σ (aK 60)) (l := [40, 11]) (by omega) (by show _ + ((2 : Nat) : Int) ≤ _; omega)
    have q3 : (([40, 11] : List Nat).length : Int) = 2 := rfl
    rw [q3] at q2
    have T := r_bear (σ := noteM (g_X12_ran σ (aK 60)) [40, 11]) hK hb (by rw [kM, k1M]; exact hk) (by omega) 2
    rw [B.2.2]
    exact ⟨⟨hb, pM hn.1, B.1, T.1⟩, by rw [B.2.1, T.2.1], T.2.2.trans (noteM_app.trans mC)⟩
  · have h1 : ¬ aK K = 5 := fun y => c5 ((aK_eq K hK 5 (by decide)).mp y)
    rw [if_pos h1, if_pos h1, if_pos h1, if_neg c5]
    by_cases c3 : K = 3
    · have h1 : ¬ ¬ aK K = 3 := fun y => y (by rw [c3]; rfl)
      rw [if_neg h1, if_neg h1, if_neg h1, if_pos c3]
      have B := r_ethaw (σ := σ) (b := b) (by omega) n
      exact ⟨⟨hb, hb, B.1⟩, B.2.1, B.2.2⟩
    · have h1 : ¬ aK K = 3 := fun y => c3 ((aK_eq K hK 3 (by decide)).mp y)
      rw [if_pos h1, if_pos h1, if_pos h1, if_neg c3]
      have B := r_pthaw (σ := σ) (b := b) hn.1 n
      exact ⟨⟨hb, hb, B.1⟩, B.2.1, B.2.2⟩
theorem r_oclap (hK : K < 8) (hb : zin b 50 = true) (hk : gi σ 93 (ix b) = aK K) (hn : 0 ≤ (gi σ 66 51).toInt ∧ (gi σ 66 51).toInt ≤ 790) (n : Int32) : MR (p_X12_ovationClaps σ b n) (f_X12_ovationClaps σ b n) (g_X12_ovationClaps σ b n) σ (30 :: (mPlainClaps K b n).1, -(mPlainClaps K b n).2) := by
  have q1 := n1M (c := 30) (σ := σ) (by omega)
  have B := r_pclap (σ := g_X12_ran σ (aK 30)) hK hb (by rw [k1M]; exact hk) (by omega) n
  unfold p_X12_ovationClaps f_X12_ovationClaps g_X12_ovationClaps
  rw [show g_X12_ran σ 30 = g_X12_ran σ (aK 30) from rfl]
  exact ⟨⟨pM hn.1, B.1⟩, by rw [B.2.1], B.2.2.trans mC⟩
theorem r_clap (hK : K < 8) (hb : zin b 50 = true) (hk : gi σ 93 (ix b) = aK K) (hn : 0 ≤ (gi σ 66 51).toInt ∧ (gi σ 66 51).toInt ≤ 700) (n : Int32) : MR (p_X12_clapping σ b n) (f_X12_clapping σ b n) (g_X12_clapping σ b n) σ (mClap K b n) := by
  unfold p_X12_clapping f_X12_clapping g_X12_clapping mClap
  have z10 : ¬ (1 : Int32) = 0 := by decide
  rw [hk, iu3 K hK, show g_X12_ran σ 41 = g_X12_ran σ (aK 41) from rfl, show g_X12_ran σ 80 = g_X12_ran σ (aK 80) from rfl]
  by_cases c : K = 3 ∨ K = 5
  · rw [if_pos c, if_neg z10, if_neg z10, if_neg z10, if_pos c]
    have q1 := n1M (c := 41) (σ := σ) (by omega)
    have B := r_oclap (σ := g_X12_ran σ (aK 41)) hK hb (by rw [k1M]; exact hk) (by omega) (n + 1)
    exact ⟨⟨hb, pM hn.1, B.1⟩, by rw [B.2.1], B.2.2.trans mC⟩
  · rw [if_neg c, if_pos rfl, if_pos rfl, if_pos rfl, if_neg c]
    by_cases c7 : K = 7
    · have h1 : ¬ ¬ aK K = 7 := fun y => y (by rw [c7]; rfl)
      rw [if_neg h1, if_neg h1, if_neg h1, if_pos c7]
      have q1 := n1M (c := 80) (σ := σ) (by omega)
      have B := r_pclap (σ := g_X12_ran σ (aK 80)) hK hb (by rw [k1M]; exact hk) (by omega) n
      have hl := lP K hK b n
      have q2 := noteM_n (σ := g_X12_ran σ (aK 80)) (l := (mPlainClaps K b n).1) (by omega) (by omega)
      have T := r_thaw (σ := noteM (g_X12_ran σ (aK 80)) (mPlainClaps K b n).1) hK hb (by rw [kM, k1M]; exact hk) (by omega) 2
      rw [B.2.2]
      exact ⟨⟨hb, hb, pM hn.1, B.1, T.1⟩, by rw [B.2.1, T.2.1], T.2.2.trans (noteM_app.trans mC)⟩
    · have h1 : ¬ aK K = 7 := fun y => c7 ((aK_eq K hK 7 (by decide)).mp y)
      rw [if_pos h1, if_pos h1, if_pos h1, if_neg c7]
      by_cases c2 : K = 2
      · have h1 : ¬ ¬ aK K = 2 := fun y => y (by rw [c2]; rfl)
        rw [if_neg h1, if_neg h1, if_neg h1, if_pos c2]
        have B := r_oclap hK hb hk (by omega) n
        exact ⟨⟨hb, hb, hb, B.1⟩, B.2.1, B.2.2⟩
      · have h1 : ¬ aK K = 2 := fun y => c2 ((aK_eq K hK 2 (by decide)).mp y)
        rw [if_pos h1, if_pos h1, if_pos h1, if_neg c2]
        have B := r_pclap hK hb hk (by omega) n
        exact ⟨⟨hb, hb, hb, B.1⟩, B.2.1, B.2.2⟩
theorem r_ptell (hK : K < 8) (hb : zin b 50 = true) (hk : gi σ 93 (ix b) = aK K) (hn : 0 ≤ (gi σ 66 51).toInt ∧ (gi σ 66 51).toInt ≤ 600) (n : Int32) : MR (p_X12_plainTells σ b n) (f_X12_plainTells σ b n) (g_X12_plainTells σ b n) σ (mPlainTells K b n) := by
  unfold p_X12_plainTells f_X12_plainTells g_X12_plainTells mPlainTells
  rw [show g_X12_ran σ 2 = g_X12_ran σ (aK 2) from rfl]
  have q1 := n1M (c := 2) (σ := σ) (by omega)
  have B := r_clap (σ := g_X12_ran σ (aK 2)) hK hb (by rw [k1M]; exact hk) (by omega) n
  have hl := lC K hK b n
  have q2 := noteM_n (σ := g_X12_ran σ (aK 2)) (l := (mClap K b n).1) (by omega) (by omega)
  have T := r_thaw (σ := noteM (g_X12_ran σ (aK 2)) (mClap K b n).1) hK hb (by rw [kM, k1M]; exact hk) (by omega) 1
  rw [B.2.2]
  exact ⟨⟨pM hn.1, B.1, T.1⟩, by rw [B.2.1, T.2.1], T.2.2.trans (noteM_app.trans mC)⟩
theorem r_tell (hK : K < 8) (hb : zin b 50 = true) (hk : gi σ 93 (ix b) = aK K) (hn : 0 ≤ (gi σ 66 51).toInt ∧ (gi σ 66 51).toInt ≤ 500) (n : Int32) : MR (p_X12_telling σ b n) (f_X12_telling σ b n) (g_X12_telling σ b n) σ (mTell K b n) := by
  unfold p_X12_telling f_X12_telling g_X12_telling mTell
  rw [hk, show g_X12_ran σ 50 = g_X12_ran σ (aK 50) from rfl, show g_X12_ran σ 61 = g_X12_ran σ (aK 61) from rfl]
  by_cases c4 : K = 4
  · have h1 : ¬ ¬ aK K = 4 := fun y => y (by rw [c4]; rfl)
    rw [if_neg h1, if_neg h1, if_neg h1, if_pos c4]
    have q1 := n1M (c := 50) (σ := σ) (by omega)
    have B := r_ptell (σ := g_X12_ran σ (aK 50)) hK hb (by rw [k1M]; exact hk) (by omega) n
    exact ⟨⟨hb, pM hn.1, B.1⟩, by rw [B.2.1], B.2.2.trans mC⟩
  · have h1 : ¬ aK K = 4 := fun y => c4 ((aK_eq K hK 4 (by decide)).mp y)
    rw [if_pos h1, if_pos h1, if_pos h1, if_neg c4]
    by_cases c5 : K = 5
    · have h1 : ¬ ¬ aK K = 5 := fun y => y (by rw [c5]; rfl)
      rw [if_neg h1, if_neg h1, if_neg h1, if_pos c5]
      have q1 := n1M (c := 61) (σ := σ) (by omega)
      have B := r_ptell (σ := g_X12_ran σ (aK 61)) hK hb (by rw [k1M]; exact hk) (by omega) n
      exact ⟨⟨hb, hb, pM hn.1, B.1⟩, by rw [B.2.1], B.2.2.trans mC⟩
    · have h1 : ¬ aK K = 5 := fun y => c5 ((aK_eq K hK 5 (by decide)).mp y)
      rw [if_pos h1, if_pos h1, if_pos h1, if_neg c5]
      have B := r_ptell hK hb hk (by omega) n
      exact ⟨⟨hb, hb, B.1⟩, B.2.1, B.2.2⟩
end MODEL
def mAct (K m : Nat) (b n : Int32) : List Nat × Int32 := if m = 0 then mBear K b n else if m = 1 then mClap K b n else if m = 2 then mThaw K b n else mTell K b n
theorem aOk12 : ∀ K, K < 8 → ∀ m, m < 4 → aOk 12 K K m = true := by decide +kernel
theorem lA : ∀ K, K < 8 → ∀ m b n, (mAct K m b n).1.length ≤ 30 := by
  intro K hK m b n
  have h1 := lB K hK b n
  have h2 := lC K hK b n
  have h3 := lT K hK b n
  have h4 := lT K hK b 1
  unfold mAct
  split
  · omega
  · split
    · omega
    · split
      · omega
      · unfold mTell mPlainTells
        split
        · rw [List.length_cons, List.length_cons, List.length_append]; omega
        · split
          · rw [List.length_cons, List.length_cons, List.length_append]; omega
          · rw [List.length_cons, List.length_append]; omega
