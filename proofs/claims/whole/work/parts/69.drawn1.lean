/-! drawn -/
theorem zU_nn (z : Int32) : 0 ≤ ((Int32.toUInt32 z >>> (Int32.toUInt32 8 &&& Int32.toUInt32 31)).toInt32).toInt := by
  have e : (Int32.toUInt32 8 &&& Int32.toUInt32 31) = 8 := rfl
  rw [e]
  have h : (Int32.toUInt32 z >>> (8 : UInt32)).toNat < 2 ^ 24 := by
    rw [UInt32.toNat_shiftRight]
    have : (Int32.toUInt32 z).toNat < 2 ^ 32 := UInt32.toNat_lt _
    rw [show (8 : UInt32).toNat % 32 = 8 from rfl, Nat.shiftRight_eq_div_pow]
    omega
  show 0 ≤ (Int32.toUInt32 z >>> (8 : UInt32)).toBitVec.toInt
  have h2 : (Int32.toUInt32 z >>> (8 : UInt32)).toBitVec.toNat < 2 ^ 24 := h
  rw [BitVec.toInt_eq_toNat_of_lt (by omega)]
  omega
def znx (z : Int32) : Int32 := z * 1103515245 + 12345
def ztn (nt : Nat) (z : Int32) : Int := ((Int32.toUInt32 z >>> (Int32.toUInt32 8 &&& Int32.toUInt32 31)).toInt32).toInt % nt
def zhs (z : Int32) : Int32 := (Int32.toUInt32 z >>> (Int32.toUInt32 16 &&& Int32.toUInt32 31)).toInt32 - (Int32.toUInt32 z >>> (Int32.toUInt32 16 &&& Int32.toUInt32 31)).toInt32 / 12 * 12
def drawI (N : Nat → Nat → Int) (G : Nat → Nat → Int → Int) (nt : Nat) : Nat → Int32 → (Nat → Int) → Int32 × (Nat → Int)
  | 0, z, J => (z, J)
  | n + 1, z, J => drawI N G nt n (znx z) (if N 9 0 ≤ (zhs (znx z)).toInt then stepI N G (ztn nt (znx z)) J else thawI (N 6 0) (N 5 (ztn nt (znx z)).toNat * N 7 0) J)
def evI (N : Nat → Nat → Int) (G : Nat → Nat → Int → Int) (nt m : Nat) (I : Nat → Int) : Nat → Int32 → Int → Int → Int × Int
  | 0, _, s, c => (s, c)
  | n + 1, z, s, c => evI N G nt m I n (drawI N G nt m z I).1 (s + carries (N 6 0) 0 (drawI N G nt m z I).2) (c + if carries (N 6 0) 0 (drawI N G nt m z I).2 < 100 then 0 else 1)
theorem ztn_b {nt : Nat} (h : 0 < nt) (z : Int32) : 0 ≤ ztn nt z ∧ ztn nt z < nt := by
  unfold ztn
  exact ⟨Int.emod_nonneg _ (by omega), Int.emod_lt_of_pos _ (by omega)⟩
theorem drawI_R {nr nt : Nat} {N : Nat → Nat → Int} {G : Nat → Nat → Int → Int} (hR : HallR nr nt N) (h0 : 0 < nt) : ∀ (n : Nat) (z : Int32) (J : Nat → Int), IceR J → IceR (drawI N G nt n z J).2 := by
  intro n
  induction n with
  | zero => intro z J h; exact h
  | succ n ih =>
    intro z J h
    unfold drawI
    have b := ztn_b h0 (znx z)
    refine ih _ _ ?_
    split
    · exact stepI_R hR (Or.inr b) h
    · exact thawI_R (mulb (by have := hR.lasts (t := (ztn nt (znx z)).toNat) (by omega); omega) (hR.lasts (t := (ztn nt (znx z)).toNat) (by omega)).2 hR.warm.1 hR.warm.2).1 h
theorem evI_0 {N : Nat → Nat → Int} {G : Nat → Nat → Int → Int} {nt : Nat} {I : Nat → Int} (hI : ∀ p, p < 16 → I p = 0) (hl : 2 ≤ N 6 0 ∧ N 6 0 ≤ 16) : ∀ (n : Nat) (z : Int32) (s c : Int), evI N G nt 0 I n z s c = (s, c) := by
  have hc : carries (N 6 0) 0 I = 0 := by
    have h1 := carries_nn (N 6 0) 0 I
    have h2 : ¬ 1 ≤ carries (N 6 0) 0 I := fun q => by
      have h3 : 1 ≤ carI I 0 (N 6 0).toNat := by unfold carries at q; omega
      have := ((carI_le _).mp h3).2 0 (by omega)
      have := hI 0 (by omega)
      omega
    omega
  intro n
  induction n with
  | zero => intro z s c; rfl
  | succ n ih =>
    intro z s c
    unfold evI drawI
    dsimp only
    rw [hc, if_pos (by omega), ih, Int.add_zero, Int.add_zero]
