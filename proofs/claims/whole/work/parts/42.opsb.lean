/-! waits, first -/
def hldI (J : Nat → Int) (W w pc k : Int) : Nat → Nat → Bool
  | 0, _ => true
  | n + 1, p => decide (w ≤ max 0 (J p - (k + p * pc) * W)) && hldI J W w pc k n (p + 1)
def loopW (f : Int → Bool) : Nat → Int → Int → Int
  | 0, _, m => m
  | n + 1, k, m => if f k = true then loopW f n (k + 1) k else m
def mwI (J : Nat → Int) (W w pc : Int) : Nat → Int
  | 0 => 999
  | n + 1 => min (mwI J W w pc n) ((J n - w) / W - pc * n)
theorem hldI_iff {J : Nat → Int} {W w pc k : Int} : ∀ (n p : Nat), hldI J W w pc k n p = true ↔ ∀ q : Nat, p ≤ q → q < p + n → w ≤ max 0 (J q - (k + q * pc) * W) := by
  intro n
  induction n with
  | zero => intro p; exact ⟨fun _ q h1 h2 => absurd h2 (by omega), fun _ => rfl⟩
  | succ n ih =>
    intro p
    unfold hldI
    rw [Bool.and_eq_true, decide_eq_true_eq, ih]
    constructor
    · intro h q h1 h2
      by_cases e : q = p
      · subst e; exact h.1
      · exact h.2 q (by omega) (by omega)
    · intro h
      exact ⟨h p (by omega) (by omega), fun q h1 h2 => h q (by omega) (by omega)⟩
theorem loopW_eq {f : Int → Bool} {M : Int} (hM : M ≤ 999) (hf : ∀ k, 0 ≤ k → k ≤ 999 → (f k = true ↔ k ≤ M)) : ∀ (n : Nat) (k m : Int), 0 ≤ k → k + n = 1000 → loopW f n k m = if k ≤ M then M else m := by
  intro n
  induction n with
  | zero =>
    intro k m h0 hn
    unfold loopW
    rw [if_neg (by omega)]
  | succ n ih =>
    intro k m h0 hn
    unfold loopW
    by_cases hc : k ≤ M
    · rw [if_pos ((hf k h0 (by omega)).mpr hc), ih (k + 1) k (by omega) (by omega), if_pos hc]
      split
      · rfl
      · omega
    · rw [if_neg (fun q => hc ((hf k h0 (by omega)).mp q)), if_neg hc]
theorem mwI_le {J : Nat → Int} {W w pc k : Int} : ∀ n : Nat, k ≤ mwI J W w pc n ↔ k ≤ 999 ∧ ∀ q : Nat, q < n → k ≤ (J q - w) / W - pc * q := by
  intro n
  induction n with
  | zero => exact ⟨fun h => ⟨h, fun q hq => absurd hq (by omega)⟩, fun h => h.1⟩
  | succ n ih =>
    unfold mwI
    constructor
    · intro h
      have h1 := ih.mp (by omega)
      refine ⟨h1.1, fun q hq => ?_⟩
      by_cases e : q = n
      · subst e; omega
      · exact h1.2 q (by omega)
    · intro h
      have h1 := ih.mpr ⟨h.1, fun q hq => h.2 q (by omega)⟩
      have h2 := h.2 n (by omega)
      omega
theorem falls_iff {J : Nat → Int} {l w : Int} : ∀ (n p : Nat), fallI J l w n p = -2 ↔ ∀ q : Nat, p ≤ q → q < p + n → w ≤ max 0 (J q - l * q) := by
  intro n
  induction n with
  | zero => intro p; exact ⟨fun _ q h1 h2 => absurd h2 (by omega), fun _ => rfl⟩
  | succ n ih =>
    intro p
    unfold fallI
    split
    · next c =>
      constructor
      · intro h; omega
      · intro h; have := h p (by omega) (by omega); omega
    · next c =>
      rw [ih]
      constructor
      · intro h q h1 h2
        by_cases e : q = p
        · subst e; omega
        · exact h q (by omega) (by omega)
      · intro h q h1 h2; exact h q (by omega) (by omega)
def waitV (long W w pc : Int) (J : Nat → Int) : Int := loopW (fun k => hldI J W w pc k long.toNat 0) 1000 0 (-2)
theorem mulW (q : Nat) (k pc W : Int) : (k + q * pc) * W = k * W + pc * W * q := by
  rw [Int.add_mul]
  congr 1
  rw [Int.mul_comm (q : Int) pc, Int.mul_assoc, Int.mul_comm (q : Int) W, ← Int.mul_assoc]
theorem waitV_no {long W w pc : Int} {J : Nat → Int} (h : ¬ falls long (pc * W) w J = -2) : waitV long W w pc J = -2 := by
  unfold waitV loopW
  rw [if_neg]
  intro q
  rw [hldI_iff] at q
  apply h
  unfold falls
  rw [falls_iff]
  intro p h1 h2
  have := q p h1 h2
  rw [mulW] at this
  omega
theorem waitV_all {long W w pc : Int} {J : Nat → Int} (h : falls long (pc * W) w J = -2) (hw : w = 0 ∨ W = 0) : waitV long W w pc J = 999 := by
  unfold falls at h
  rw [falls_iff] at h
  unfold waitV
  rw [loopW_eq (M := 999) (by omega) (fun k h0 h1 => ⟨fun _ => h1, fun _ => ?_⟩) 1000 0 (-2) (by omega) (by omega), if_pos (by omega)]
  rw [hldI_iff]
  intro q h2 h3
  have := h q h2 h3
  rcases hw with e | e
  · omega
  · rw [mulW]; rw [e] at this ⊢; rw [Int.mul_zero, Int.mul_zero] at *; omega
theorem waitV_min {long W w pc : Int} {J : Nat → Int} (h : falls long (pc * W) w J = -2) (hw : 0 < w) (hW : 0 < W) : waitV long W w pc J = mwI J W w pc long.toNat := by
  unfold falls at h
  rw [falls_iff] at h
  have cond : ∀ (k : Int) (q : Nat), (w ≤ max 0 (J q - (k + q * pc) * W)) ↔ k ≤ (J q - w) / W - pc * q := by
    intro k q
    have e1 : (k + pc * q ≤ (J q - w) / W) ↔ (k + pc * q) * W ≤ J q - w := Int.le_ediv_iff_mul_le hW
    rw [Int.mul_comm pc (q : Int)] at e1 ⊢
    constructor
    · intro h1
      have := e1.mpr (by omega)
      omega
    · intro h1
      have := e1.mp (by omega)
      omega
  have h0 : 0 ≤ mwI J W w pc long.toNat := by
    rw [mwI_le]
    refine ⟨by omega, fun q hq => (cond 0 q).mp ?_⟩
    have := h q (by omega) (by omega)
    rw [mulW]
    omega
  unfold waitV
  rw [loopW_eq (M := mwI J W w pc long.toNat) (((mwI_le long.toNat).mp (Int.le_refl _)).1) (fun k h1 h2 => ?_) 1000 0 (-2) (by omega) (by omega), if_pos h0]
  rw [hldI_iff, mwI_le]
  constructor
  · intro h3; exact ⟨h2, fun q hq => (cond k q).mp (h3 q (by omega) (by omega))⟩
  · intro h3 q h4 h5; exact (cond k q).mpr (h3.2 q (by omega))
theorem lp_X2_longestWait {X : zX} {d : Nat} {Q : Option Value → zH → Prop} {σ : zS} {J : Nat → Int} (r : Nat) (h : zisB r = true) (w a W planks : Int32) (hI : IceAt (σ.1 (r + 1)) J) (hI2 : IceR J) (hp : planks.toInt ≤ 16) (hw : 0 ≤ w.toInt ∧ w.toInt ≤ 999) (ha : 0 ≤ a.toInt ∧ a.toInt ≤ 9) (hW : 0 < W.toInt ∧ W.toInt ≤ 9) (hge : ∀ q : Nat, (q : Int) < planks.toInt → w.toInt ≤ J q) : ∀ (n : Nat) (p acc : Int32), 0 ≤ p.toInt → p.toInt + n = planks.toInt → acc.toInt = mwI J W.toInt w.toInt a.toInt p.toInt.toNat → (∀ v : Int32, v.toInt = mwI J W.toInt w.toInt a.toInt planks.toInt.toNat → Q (some (.int v)) (zen σ)) → zwp X d MX2_longestWait 49 [.ref r, .int w, .int a, .ref 1, .int W, .int planks, .int acc, .int p] [] (zen σ) Q := by
  intro n
  induction n with
  | zero =>
    intro p acc h0 hn hacc hQ
    rw [b_X2_longestWait_49 (hl0 := h), if_pos (ile.mpr (by omega))]
    exact hQ _ (by rw [hacc, show planks.toInt.toNat = p.toInt.toNat by omega])
  | succ n ih =>
    intro p acc h0 hn hacc hQ
    have hz : zin p 16 = true := zin_of h0 (by omega)
    have e0 : (0 : Int32).toInt = 0 := rfl
    have hnz : decide (¬ W = 0) = true := by rw [decide_eq_true_eq]; intro q; rw [q] at hW; omega
    rw [b_X2_longestWait_49 (hl0 := h), if_neg (fun q => by have := ile.mp q; omega), ztrue_and hz, ztrue_and hnz]
    have es : (p + 1).toInt = p.toInt + 1 := t_succ (by omega)
    refine ih (p + 1) _ (by omega) (by omega) ?_ hQ
    have b1 : (gi σ (r + 1) (ix p)).toInt = J p.toInt.toNat := hI p.toInt.toNat (by omega)
    have b2 := hI2 p.toInt.toNat (by omega)
    have b3 := hge p.toInt.toNat (by omega)
    have e2 : (p.toInt.toNat : Int) = p.toInt := by omega
    have e1 : (gi σ (r + 1) (ix p) - w).toInt = J p.toInt.toNat - w.toInt := by rw [t_sub (by rw [b1]; omega), b1]
    have e4 : ((gi σ (r + 1) (ix p) - w) / W).toInt = (J p.toInt.toNat - w.toInt) / W.toInt := by rw [t_div (by rw [e1]; omega) hW.1, e1]
    have bm := mulb ha.1 ha.2 (b := p.toInt) (B := 16) h0 (by omega)
    have e5 : (a * p).toInt = a.toInt * p.toInt := t_mul (by omega)
    have bd : 0 ≤ (J p.toInt.toNat - w.toInt) / W.toInt ∧ (J p.toInt.toNat - w.toInt) / W.toInt ≤ 999 := by
      refine ⟨Int.ediv_nonneg (by omega) (by omega), Int.le_trans (Int.ediv_le_self _ (by omega)) (by omega)⟩
    rw [t_zmn, hacc, t_sub (by rw [e4, e5]; omega), e4, e5, es, show (p.toInt + 1).toNat = p.toInt.toNat + 1 by omega]
    show _ = min _ (_ - a.toInt * (p.toInt.toNat : Int))
    rw [e2]
theorem w_X2_longestWait {X : zX} {d : Nat} {Q : Option Value → zH → Prop} (hd : 2 ≤ d) {σ : zS} {nr nt : Nat} {N : Nat → Nat → Int} {J : Nat → Int} {r : Nat} {w a : Int32} (h : zisB r = true) (hH : HallC σ nr nt N) (hR : HallR nr nt N) (hI : IceAt (σ.1 (r + 1)) J) (hI2 : IceR J) (hw : 0 ≤ w.toInt ∧ w.toInt ≤ 999) (ha : 0 ≤ a.toInt ∧ a.toInt ≤ 9)
    (hQ : ∀ v : Int32, v.toInt = waitV (N 6 0) (N 7 0) w.toInt a.toInt J → Q (some (.int v)) (zen σ)) : zwp X d MX2_longestWait 0 [.ref r, .int w, .int a, .ref 1, .null, .null, .null, .null] [] (zen σ) Q := by
  have hl := hR.long
  have hW := hR.warm
  have e0 : (0 : Int32).toInt = 0 := rfl
  have e1 : (1 : Int32).toInt = 1 := rfl
  have em2 : (-2 : Int32).toInt = -2 := rfl
  have eW : (1 * gi σ 2 56).toInt = N 7 0 := by rw [t_mul (by rw [e1, hH.warm]; omega), e1, hH.warm]; omega
  rw [b_X2_longestWait_0 (hd := by omega) (h1 := h)]
  refine w_X2_fallsOn (by omega) h hH hR hI hI2 ha (fun f hf => ?_)
  show zwp X d MX2_longestWait 7 _ [.int f] (zen σ) Q
  rw [b_X2_longestWait_7 (hd := by omega) (hl0 := h), f_thawOf, f_planks]
  by_cases hc : f = -2
  · have hf2 : falls (N 6 0) (a.toInt * N 7 0) w.toInt J = -2 := by rw [← hf, hc]; rfl
    rw [if_pos hc]
    by_cases hw0 : w = 0
    · rw [if_pos hw0]
      refine hQ _ ?_
      rw [waitV_all hf2 (Or.inl (by rw [hw0]; rfl))]; rfl
    · rw [if_neg hw0]
      have hw1 : ¬ w.toInt = 0 := fun q => hw0 (ieq.mpr (by rw [q, e0]))
      by_cases hW0 : 1 * gi σ 2 56 = 0
      · have : N 7 0 = 0 := by rw [← eW, hW0]; rfl
        rw [if_neg (fun q => q hW0)]
        refine hQ _ ?_
        rw [waitV_all hf2 (Or.inr this)]; rfl
      · have : ¬ N 7 0 = 0 := fun q => hW0 (ieq.mpr (by rw [eW, q, e0]))
        rw [if_pos hW0]
        have hge : ∀ q : Nat, (q : Int) < (gi σ 2 48).toInt → w.toInt ≤ J q := by
          intro q hq
          unfold falls at hf2
          rw [falls_iff] at hf2
          rw [hH.long] at hq
          have h1 := hf2 q (by omega) (by omega)
          have h2 := mulb ha.1 ha.2 hW.1 hW.2
          have h3 := Int.mul_nonneg h2.1 (show (0 : Int) ≤ (q : Int) by omega)
          omega
        have hl2 := hH.long
        refine lp_X2_longestWait r h w a _ _ hI hI2 (by omega) hw ha (by rw [eW]; omega) hge (N 6 0).toNat 0 999 (by omega) (by omega) rfl (fun v hv => hQ v ?_)
        rw [hv, eW, hl2, waitV_min hf2 (by omega) (by omega)]
  · have hf2 : ¬ falls (N 6 0) (a.toInt * N 7 0) w.toInt J = -2 := fun q => hc (ieq.mpr (by rw [hf, q, em2]))
    rw [if_neg hc]
    refine hQ _ ?_
    rw [waitV_no hf2]; rfl
theorem lp_X12_holdsBehind {X : zX} {d : Nat} {Q : Option Value → zH → Prop} (hd : 1 ≤ d) {σ : zS} {nr nt : Nat} {N : Nat → Nat → Int} {J : Nat → Int} (hR : HallR nr nt N) (hH : HallM σ nr nt N) (w a k : Int32) (ha : 0 ≤ a.toInt ∧ a.toInt ≤ 9) (hk : 0 ≤ k.toInt ∧ k.toInt ≤ 999) (hI : IceAt (σ.1 86) J) (hI2 : IceR J) : ∀ (n : Nat) (p : Int32), 0 ≤ p.toInt → p.toInt + n = N 6 0 → (∀ v : Int32, (v = 0 ∧ hldI J (N 7 0) w.toInt a.toInt k.toInt n p.toInt.toNat = false) ∨ (v = 1 ∧ hldI J (N 7 0) w.toInt a.toInt k.toInt n p.toInt.toNat = true) → Q (some (.int v)) (zen σ)) → zwp X d MX12_holdsBehind 3 [.ref 66, .int w, .int a, .int k, .int p] [] (zen σ) Q := by
  have hl := hR.long
  have h9 := hH.2.2.2.2.1
  intro n
  induction n with
  | zero =>
    intro p h0 hn hQ
    rw [b_X12_holdsBehind_3 (hd := hd), if_pos (ile.mpr (by omega))]
    exact hQ _ (Or.inr ⟨rfl, rfl⟩)
  | succ n ih =>
    intro p h0 hn hQ
    have hix := ix_t p
    have es : (p + 1).toInt = p.toInt + 1 := t_succ (by omega)
    have bm := mulb h0 (A := 16) (by omega) ha.1 ha.2
    have em : (p * a).toInt = p.toInt * a.toInt := t_mul (by omega)
    have ek : (k + p * a).toInt = k.toInt + p.toInt * a.toInt := by rw [t_add (by rw [em]; omega), em]
    have T := t_thawed hH hR (q := ix p) (p := p) (m := k + p * a) (I := J) (by omega) (by omega) (by rw [ek]; omega) (hI _ (by omega)) (hI2 _ (by omega))
    rw [ek] at T
    rw [b_X12_holdsBehind_3 (hd := hd), if_neg (fun q => by have := ile.mp q; omega), ztrue_and T.1]
    have e2 : (p.toInt.toNat : Int) = p.toInt := by omega
    unfold hldI at hQ
    rw [e2] at hQ
    by_cases hc : w ≤ f_X12_thawed σ p (k + p * a)
    · have h1 := ile.mp hc
      rw [T.2, hix] at h1
      rw [if_pos hc]
      refine ih (p + 1) (by omega) (by omega) (fun v hv => hQ v ?_)
      rw [es, show (p.toInt + 1).toNat = p.toInt.toNat + 1 by omega] at hv
      rw [decide_eq_true h1, Bool.true_and]
      exact hv
    · have h1 := nile hc
      rw [T.2, hix] at h1
      rw [if_neg hc]
      refine hQ 0 (Or.inl ⟨rfl, ?_⟩)
      rw [decide_eq_false (by omega), Bool.false_and]
theorem lp_X12_waits {X : zX} {d : Nat} {Q : Option Value → zH → Prop} (hd : 3 ≤ d) {σ : zS} {nr nt : Nat} {N : Nat → Nat → Int} {J : Nat → Int} (hR : HallR nr nt N) (hH : HallM σ nr nt N) (s wp t : Int32) (hw : 0 ≤ wp.toInt) (hI : IceAt (σ.1 86) J) (hI2 : IceR J) : ∀ (n : Nat) (k m : Int32), 0 ≤ k.toInt → k.toInt + n = 1000 → (∀ v : Int32, v.toInt = loopW (fun k => hldI J (N 7 0) (wp.toInt / 10) (wp.toInt % 10) k (N 6 0).toNat 0) n k.toInt m.toInt → Q (some (.int v)) (zen σ)) → zwp X d MX12_waits 39 [.ref 66, .int s, .int wp, .int t, .int m, .int k] [] (zen σ) Q := by
  have ed : (wp / 10).toInt = wp.toInt / 10 := t_div (x := wp) (y := 10) (by omega) (by decide)
  have em : (wp - wp / 10 * 10).toInt = wp.toInt % 10 := t_mod (x := wp) (y := 10) (by omega) (by decide)
  have hl := hR.long
  have e9 : (999 : Int32).toInt = 999 := rfl
  have e0 : (0 : Int32).toInt = 0 := rfl
  intro n
  induction n with
  | zero =>
    intro k m h0 hn hQ
    rw [b_X12_waits_39 (hd := by omega), if_pos (il.mpr (by omega))]
    exact hQ _ rfl
  | succ n ih =>
    intro k m h0 hn hQ
    have es : (k + 1).toInt = k.toInt + 1 := t_succ (by omega)
    rw [b_X12_waits_39 (hd := by omega), if_neg (fun q => by have := il.mp q; omega), b_X12_holdsBehind_0]
    refine lp_X12_holdsBehind (by omega) hR hH _ _ k (by omega) (by omega) hI hI2 (N 6 0).toNat 0 (by omega) (by omega) (fun v hv => ?_)
    rw [ed, em, e0] at hv
    show zwp X d MX12_waits 61 _ [.int v] (zen σ) Q
    rw [b_X12_waits_61]
    unfold loopW at hQ
    rcases hv with ⟨hv, hh⟩ | ⟨hv, hh⟩
    · rw [if_pos hv]
      refine hQ m ?_
      rw [if_neg]
      rw [show (0 : Int).toNat = 0 from rfl] at hh
      rw [hh]; decide
    · rw [if_neg (by rw [hv]; decide)]
      refine ih (k + 1) k (by omega) (by omega) (fun x hx => hQ x ?_)
      rw [show (0 : Int).toNat = 0 from rfl] at hh
      rw [if_pos hh, hx, es]
def firstI (N : Nat → Nat → Int) (G : Nat → Nat → Int → Int) (l w : Int) : List Int → Nat → (Nat → Int) → Int
  | [], k, I => if falls (N 6 0) l w I = -2 then k else -2
  | b :: r, k, I => if falls (N 6 0) l w I = -2 then k else firstI N G l w r (k + 1) (stepI N G b I)
theorem lp_X10_bytesUntil {X : zX} {d : Nat} {Q : Option Value → zH → Prop} (hd : 6 ≤ d) {nr nt : Nat} {N : Nat → Nat → Int} {V : zV} {lo : Int} {I0 : Nat → Int} {L : List Int} (hR : HallR nr nt N) (w a : Int32) (ha : 0 ≤ a.toInt ∧ a.toInt ≤ 9) : ∀ (R : List Int) (σ : zS) (k : Int32) (I : Nat → Int), ThC σ nr nt N V lo I0 L → IceAt (σ.1 44) I → IceR I → (∀ b, b ∈ R → okB nt b) → 0 ≤ k.toInt → k.toInt + R.length = (gi σ 41 4).toInt → LAt (σ.1 42) R k.toInt.toNat → (∀ (v : Int32) (τ : zS), zFr [6, 14, 15, 16, 44] [(13, 5), (41, 5)] σ τ → ThC τ nr nt N V lo I0 L → v.toInt = firstI N (gG V N lo nr) (a.toInt * N 7 0) w.toInt R k.toInt.toNat I → Q (some (.int v)) (zen τ)) → zwp X d MX10_bytesUntil 6 [.ref 41, .int w, .int a, .int k] [] (zen σ) Q := by
  have em2 : (-2 : Int32).toInt = -2 := rfl
  intro R
  induction R with
  | nil =>
    intro σ k I hT hI hI2 hb h0 hk hP hQ
    rw [List.length_nil] at hk
    rw [b_X10_bytesUntil_6 (hd := by omega), if_pos (ile.mpr (by omega))]
    refine w_X2_fallsOn (by omega) zB_43 hT.1 hR hI hI2 ha (fun v hv => ?_)
    show zwp X d MX10_bytesUntil 71 _ [.int v] (zen σ) Q
    rw [b_X10_bytesUntil_71]
    unfold firstI at hQ
    by_cases hc : v = -2
    · rw [if_neg (fun q => q hc)]
      refine hQ _ σ zFr.rf hT ?_
      rw [if_pos (by rw [← hv, hc]; rfl)]; omega
    · rw [if_pos hc]
      refine hQ _ σ zFr.rf hT ?_
      rw [if_neg (fun q => hc (ieq.mpr (by rw [hv, q, em2])))]; rfl
  | cons b R ih =>
    intro σ k I hT hI hI2 hb h0 hk hP hQ
    rw [List.length_cons] at hk
    have hp20 := hT.2.2.2.2.2.1
    have hp1 := hT.2.2.2.2.1
    have es : (k + 1).toInt = k.toInt + 1 := t_succ (by omega)
    have er : (k + 1).toInt.toNat = k.toInt.toNat + 1 := by omega
    rw [b_X10_bytesUntil_6 (hd := by omega), if_neg (fun q => by have := ile.mp q; omega)]
    refine w_X2_fallsOn (by omega) zB_43 hT.1 hR hI hI2 ha (fun v hv => ?_)
    show zwp X d MX10_bytesUntil 27 _ [.int v] (zen σ) Q
    rw [b_X10_bytesUntil_27 (hd := by omega)]
    unfold firstI at hQ
    by_cases hc : v = -2
    · rw [if_neg (fun q => q hc)]
      refine hQ _ σ zFr.rf hT ?_
      rw [if_pos (by rw [← hv, hc]; rfl)]; omega
    · have hz : zin k 20 = true := zin_of h0 (by omega)
      have hbk : (gi σ 42 (ix k)).toInt = b := hP 0 (by rw [List.length_cons]; omega)
      rw [if_pos hc, ztrue_and hz]
      rw [if_neg (fun q => hc (ieq.mpr (by rw [hv, q, em2])))] at hQ
      refine w_X0_step (by omega) (V := V) (lo := lo) hR zB_43 hT.1 hT.2.1 hT.2.2.1 hI hI2 (by rw [hbk]; exact hb b List.mem_cons_self) (fun x τ hF hC hic _ => ?_)
      rw [hbk] at hic
      show zwp X d MX10_bytesUntil 51 _ [.int x] (zen τ) Q
      rw [b_X10_bytesUntil_51]
      have hF1 : zFr [6, 14, 15, 16, 44] [(13, 5), (41, 5)] σ τ := hF.sub (fun _ q => q) (by simp)
      have hT1 := hT.zfr hF1 hC
      refine ih τ (k + 1) _ hT1 hic (stepI_R hR (hb b List.mem_cons_self) hI2) (fun c hc => hb c (List.mem_cons_of_mem _ hc)) (by omega) ?_ ?_ (fun y ρ hF2 hT2 hy => hQ y ρ (hF1.tr hF2) hT2 ?_)
      · rw [hF1.1 41 (by decide) 4 (by simp)]; omega
      · rw [er, hF1.c (by decide) (by simp)]; exact hP.tl (fun _ _ => rfl)
      · rw [er] at hy; exact hy
theorem play_snoc (N : Nat → Nat → Int) (G : Nat → Nat → Int → Int) (L : List Int) (b : Int) (I : Nat → Int) : play N G (L ++ [b]) I = stepI N G b (play N G L I) := by unfold play; rw [List.foldl_append]; rfl
theorem lp_X12_first {X : zX} {d : Nat} {Q : Option Value → zH → Prop} (hd : 12 ≤ d) {nr nt : Nat} {N : Nat → Nat → Int} {V : zV} {lo : Int} {I : Nat → Int} {L : List Int} (hR : HallR nr nt N) (hI2 : IceR I) (s wp t : Int32) (hw : 0 ≤ wp.toInt) : ∀ (R P : List Int) (σ : zS) (k : Int32), P ++ R = L → ThM σ nr nt N V lo I L → k.toInt = P.length → (∀ (v : Int32) (τ : zS), zFr [83, 84, 86, 87] [(66, 37)] σ τ → ThM τ nr nt N V lo I L → v.toInt = firstI N (gG V N lo nr) (wp.toInt % 10 * N 7 0) (wp.toInt / 10) R P.length (play N (gG V N lo nr) P I) → Q (some (.int v)) (zen τ)) → zwp X d MX12_first 31 [.ref 66, .int s, .int wp, .int t, .int k] [] (zen σ) Q := by
  have ed : (wp / 10).toInt = wp.toInt / 10 := t_div (x := wp) (y := 10) (by omega) (by decide)
  have em : (wp - wp / 10 * 10).toInt = wp.toInt % 10 := t_mod (x := wp) (y := 10) (by omega) (by decide)
  have em2 : (-2 : Int32).toInt = -2 := rfl
  have em1 : (-1 : Int32).toInt = -1 := rfl
  have e0 : (0 : Int32).toInt = 0 := rfl
  intro R
  induction R with
  | nil =>
    intro P σ k hPL hT hk hQ
    have hp := hT.2.2.2.2
    rw [List.append_nil] at hPL
    subst hPL
    rw [b_X12_first_31 (hd := by omega), if_neg (fun q => by have := il.mp q; have := hp.1; omega)]
    refine w_X12_goProgramme (by omega) (V := V) (lo := lo) (L := P) hR hk hp.2.1 hT.1 hT.2.1 hT.2.2.1 hT.2.2.2.1 hI2 hp.2.2.1 hp.2.2.2.zero (fun τ hF hic _ => ?_)
    rw [em1, skipL_neg] at hic
    show zwp X d MX12_first 47 _ [] (zen τ) Q
    have hT2 := hT.zfr hF
    rw [b_X12_first_47 (hd := by omega)]
    refine w_X12_fallsOn (by omega) hR hT2.1 (by omega) hic (play_R hR _ _ hp.2.2.1 hI2) (fun v hv => ?_)
    rw [ed, em] at hv
    show zwp X d MX12_first 59 _ [.int v] (zen τ) Q
    rw [b_X12_first_59]
    unfold firstI at hQ
    by_cases hc : v = -2
    · rw [if_neg (fun q => q hc)]
      refine hQ _ τ hF hT2 ?_
      rw [if_pos (by rw [← hv, hc]; rfl)]; exact hk
    · rw [if_pos hc]
      have es : (k + 1).toInt = k.toInt + 1 := t_succ (by have := hp.2.1; omega)
      have hp2 := hT2.2.2.2.2
      rw [b_X12_first_31 (hd := by omega), if_pos (il.mpr (by rw [hp2.1]; omega))]
      refine hQ _ τ hF hT2 ?_
      rw [if_neg (fun q => hc (ieq.mpr (by rw [hv, q, em2])))]; rfl
  | cons b R ih =>
    intro P σ k hPL hT hk hQ
    have hp := hT.2.2.2.2
    have hlen : L.length = P.length + (R.length + 1) := by rw [← hPL, List.length_append, List.length_cons]
    have hokP : ∀ c, c ∈ P → okB nt c := fun c hc => hp.2.2.1 c (by rw [← hPL]; exact List.mem_append_left _ hc)
    have hokb : okB nt b := hp.2.2.1 b (by rw [← hPL]; exact List.mem_append_right _ List.mem_cons_self)
    rw [b_X12_first_31 (hd := by omega), if_neg (fun q => by have := il.mp q; have := hp.1; omega)]
    refine w_X12_goProgramme (by omega) (V := V) (lo := lo) (L := P) hR hk (by have := hp.2.1; omega) hT.1 hT.2.1 hT.2.2.1 hT.2.2.2.1 hI2 hokP ?_ (fun τ hF hic _ => ?_)
    · intro j hj
      have := hp.2.2.2.zero j (by omega)
      show (σ.1 88 j).toInt = _
      rw [this]
      subst hPL
      rw [List.getElem_append_left hj]
    rw [em1, skipL_neg] at hic
    show zwp X d MX12_first 47 _ [] (zen τ) Q
    have hT2 := hT.zfr hF
    rw [b_X12_first_47 (hd := by omega)]
    refine w_X12_fallsOn (by omega) hR hT2.1 (by omega) hic (play_R hR _ _ hokP hI2) (fun v hv => ?_)
    rw [ed, em] at hv
    show zwp X d MX12_first 59 _ [.int v] (zen τ) Q
    rw [b_X12_first_59]
    unfold firstI at hQ
    by_cases hc : v = -2
    · rw [if_neg (fun q => q hc)]
      refine hQ _ τ hF hT2 ?_
      rw [if_pos (by rw [← hv, hc]; rfl)]; exact hk
    · rw [if_pos hc]
      rw [if_neg (fun q => hc (ieq.mpr (by rw [hv, q, em2])))] at hQ
      have es : (k + 1).toInt = k.toInt + 1 := t_succ (by have := hp.2.1; omega)
      refine ih (P ++ [b]) τ (k + 1) (by rw [List.append_assoc]; exact hPL) hT2 (by rw [es, List.length_append, hk]; rfl) (fun y ρ hF2 hT3 hy => hQ y ρ (hF.tr hF2) hT3 ?_)
      rw [hy, play_snoc, List.length_append]
      rfl
section OPSB
variable {X : zX} {d : Nat} {Q : Option Value → zH → Prop} {b : Int} {σ τ : zS} {nr nt : Nat} {N : Nat → Nat → Int} {V : zV} {I : Nat → Int} {a : Int32}
def v_waits (σ : zS) (nr nt : Nat) (N : Nat → Nat → Int) (V : zV) (I : Nat → Int) (x w : Int) : Int := if w < 0 ∨ 9999 < w then -1 else if ¬ refI σ x 0 = 0 then refI σ x 0 else waitV (N 6 0) (N 7 0) (w / 10) (w % 10) (jS σ nr nt N V I x)
theorem c_waits (hd : 10 ≤ d) (h : RelP b σ nr nt N V I) (w : Int32) (hQ : ∀ (x : Int32) (τ : zS), Cpost σ nr nt N V τ → x.toInt = v_waits σ nr nt N V I a.toInt w.toInt → Q (some (.int x)) (zen τ)) : zwp X d MX11_waits 0 [.ref 0, .int a, .int w, .null] [] (zen σ) Q := by
  have hR := h.1.2.2
  have hI := h.2.2.2.1.2.2.1
  unfold v_waits at hQ
  rw [b_X11_waits_0 (hd := by omega), b_X11_readProgrammeFor_0 (hd := by omega), t_wp]
  by_cases hw : w.toInt < 0 ∨ 9999 < w.toInt
  · rw [if_pos hw, if_pos rfl]
    show zwp X d MX11_waits 6 _ [.int (-1)] (zen σ) Q
    rw [b_X11_waits_6 (hd := by omega), if_neg (by decide)]
    exact hQ _ σ (Cpost.rf h) (by rw [if_pos hw]; rfl)
  · rw [if_neg hw, if_neg (by decide)]
    rw [if_neg hw] at hQ
    by_cases hr : refI σ a.toInt 0 = 0
    · refine c_readO (by omega) h hr (fun τ hF hT => ?_)
      show zwp X (d - 1) MX11_readProgrammeFor 12 _ [.int 0] (zen τ) _
      rw [b_X11_readProgrammeFor_12]
      show zwp X d MX11_waits 6 _ [.int 0] (zen τ) Q
      rw [b_X11_waits_6 (hd := by omega), if_pos rfl]
      refine c_all (by omega) hR hI hT (fun v ρ hF2 hT2 hic _ _ => ?_)
      show zwp X d MX11_waits 21 _ [.int v] (zen ρ) Q
      rw [b_X11_waits_21 (hd := by omega)]
      have ed : (w / 10).toInt = w.toInt / 10 := t_div (x := w) (y := 10) (by omega) (by decide)
      have em : (w - w / 10 * 10).toInt = w.toInt % 10 := t_mod (x := w) (y := 10) (by omega) (by decide)
      refine w_X2_longestWait (by omega) zB_43 hT2.1 hR hic (play_R hR _ _ hT.2.2.2.2.2.2.1 hI) (by omega) (by omega) (fun x hx => ?_)
      show zwp X d MX11_waits 44 _ [.int x] (zen ρ) Q
      rw [b_X11_waits_44]
      rw [if_neg (fun q => q hr)] at hQ
      rw [ed, em] at hx
      exact hQ x ρ (Cpost.of ((fr42 hF).tr (fr44 hF2)) hT2.2.2.1 ((hF2.1 1 (by decide) 3 (by decide)).trans (hF.1 1 (by decide) 3 (by decide)))) hx
    · refine c_readB (by omega) h hr (fun v τ hv hv2 hC => ?_)
      show zwp X (d - 1) MX11_readProgrammeFor 12 _ [.int v] (zen τ) _
      rw [b_X11_readProgrammeFor_12]
      show zwp X d MX11_waits 6 _ [.int v] (zen τ) Q
      rw [b_X11_waits_6 (hd := by omega), if_neg hv]
      exact hQ v τ hC (by rw [if_pos hr]; exact hv2)
theorem m_waits (hd : 12 ≤ d) (h : RelP b σ nr nt N V I) (w : Int32) (hQ : ∀ (x : Int32) (τ : zS), Mpost σ τ → x.toInt = v_waits σ nr nt N V I a.toInt w.toInt → Q (some (.int x)) (zen τ)) : zwp X d MX12_waits 0 [.ref 66, .int a, .int w, .null, .null, .null] [] (zen σ) Q := by
  have hR := h.1.2.2
  have hI := h.2.2.2.1.2.2.1
  unfold v_waits at hQ
  rw [b_X12_waits_0 (hd := by omega), t_isShelfM, t_wpM]
  by_cases ha : a.toInt < 0 ∨ 6 ≤ a.toInt
  · rw [if_pos ha, if_pos rfl]
    refine hQ _ σ (Mpost.rf h) ?_
    rw [refI_bad ha]
    split
    · rfl
    · rw [if_pos (by omega)]; rfl
  · rw [if_neg ha, if_neg (by decide)]
    by_cases hw : w.toInt < 0 ∨ 9999 < w.toInt
    · rw [if_pos hw, if_neg (by decide)]
      exact hQ _ σ (Mpost.rf h) (by rw [if_pos hw]; rfl)
    · rw [if_neg hw, if_pos (by decide)]
      rw [if_neg hw] at hQ
      by_cases hr : refI σ a.toInt 0 = 0
      · refine m_layO (by omega) h (by omega) hr (fun τ hF hT => ?_)
        show zwp X d MX12_waits 21 _ [.int 0] (zen τ) Q
        rw [b_X12_waits_21 (hd := by omega), if_pos (by decide)]
        refine w_X12_goAll (by omega) hR hT hI (fun ρ hF2 hT2 hic _ => ?_)
        show zwp X d MX12_waits 32 _ [] (zen ρ) Q
        rw [b_X12_waits_32]
        have e0 : (0 : Int32).toInt = 0 := rfl
        refine lp_X12_waits (by omega) hR hT2.1 a w 0 (by omega) hic (play_R hR _ _ hT.2.2.2.2.2.2.1 hI) 1000 0 (-2) (by omega) (by omega) (fun x hx => ?_)
        rw [if_neg (fun q => q hr)] at hQ
        exact hQ x ρ ⟨(fr88 hF).tr (fr86 hF2), hT2.2.2.1⟩ hx
      · refine m_layB (by omega) h (by omega) hr (fun v τ hv hv2 hM => ?_)
        show zwp X d MX12_waits 21 _ [.int v] (zen τ) Q
        have e0 : (0 : Int32).toInt = 0 := rfl
        rw [b_X12_waits_21 (hd := by omega), if_neg (fun q => by have := ile.mp q; omega)]
        exact hQ v τ hM (by rw [if_pos hr]; exact hv2)
theorem v_waits_fr (hF : zFr SC1 FC1 σ τ) (x w : Int) : v_waits τ nr nt N V I x w = v_waits σ nr nt N V I x w := by unfold v_waits jS; rw [refI_fr hF, progS_fr hF]
theorem o_waits (hd : 20 ≤ d) {k : Nat} (h : Rel k σ) (a w : Int32) : zOp k σ X d MX11_waits MX12_waits [.ref 0, .int a, .int w, .null] [.ref 66, .int a, .int w, .null, .null, .null] := by
  obtain ⟨nr, nt, N, V, I, h⟩ := h
  exact zOp.think h (fun Q hQ => c_waits (by omega) h w hQ) (fun τ h2 hF Q hQ => m_waits (by omega) h2 w (fun x ρ hM hx => hQ x ρ hM (by rw [hx, v_waits_fr hF])))
def v_first (σ : zS) (nr nt : Nat) (N : Nat → Nat → Int) (V : zV) (I : Nat → Int) (x w : Int) : Int := if w < 0 ∨ 9999 < w then -1 else if ¬ refI σ x 0 = 0 then refI σ x 0 else firstI N (gG V N (-1) nr) (w % 10 * N 7 0) (w / 10) (progS σ nt x) 0 I
theorem c_first (hd : 10 ≤ d) (h : RelP b σ nr nt N V I) (w : Int32) (hQ : ∀ (x : Int32) (τ : zS), Cpost σ nr nt N V τ → x.toInt = v_first σ nr nt N V I a.toInt w.toInt → Q (some (.int x)) (zen τ)) : zwp X d MX11_first 0 [.ref 0, .int a, .int w, .null] [] (zen σ) Q := by
  have hR := h.1.2.2
  have hI := h.2.2.2.1.2.2.1
  have e0 : (0 : Int32).toInt = 0 := rfl
  unfold v_first at hQ
  rw [b_X11_first_0 (hd := by omega), b_X11_readProgrammeFor_0 (hd := by omega), t_wp]
  by_cases hw : w.toInt < 0 ∨ 9999 < w.toInt
  · rw [if_pos hw, if_pos rfl]
    show zwp X d MX11_first 6 _ [.int (-1)] (zen σ) Q
    rw [b_X11_first_6 (hd := by omega), if_neg (by decide)]
    exact hQ _ σ (Cpost.rf h) (by rw [if_pos hw]; rfl)
  · rw [if_neg hw, if_neg (by decide)]
    rw [if_neg hw] at hQ
    by_cases hr : refI σ a.toInt 0 = 0
    · refine c_readO (by omega) h hr (fun τ hF hT => ?_)
      show zwp X (d - 1) MX11_readProgrammeFor 12 _ [.int 0] (zen τ) _
      rw [b_X11_readProgrammeFor_12]
      show zwp X d MX11_first 6 _ [.int 0] (zen τ) Q
      rw [b_X11_first_6 (hd := by omega), if_pos rfl, b_X10_bytesUntil_0 (hd := by omega)]
      have ed : (w / 10).toInt = w.toInt / 10 := t_div (x := w) (y := 10) (by omega) (by decide)
      have em : (w - w / 10 * 10).toInt = w.toInt % 10 := t_mod (x := w) (y := 10) (by omega) (by decide)
      have hT1 := begin_th hT
      have hp := hT1.2.2.2.2
      refine lp_X10_bytesUntil (by omega) hR _ _ (by omega) (progS σ nt a.toInt) _ 0 I hT1 (begin_ice hT.2.2.2.1) hI hp.2.2.1 (by omega) (by rw [hp.1]; omega) hp.2.2.2 (fun x ρ hF2 hT2 hx => ?_)
      show zwp X d MX11_first 30 _ [.int x] (zen ρ) Q
      rw [b_X11_first_30]
      rw [if_neg (fun q => q hr)] at hQ
      rw [ed, em, e0] at hx
      have hF3 := (begin_fr τ).tr hF2
      exact hQ x ρ (Cpost.of ((fr42 hF).tr (fr44 hF3)) hT2.2.2.1 ((hF3.1 1 (by decide) 3 (by decide)).trans (hF.1 1 (by decide) 3 (by decide)))) hx
    · refine c_readB (by omega) h hr (fun v τ hv hv2 hC => ?_)
      show zwp X (d - 1) MX11_readProgrammeFor 12 _ [.int v] (zen τ) _
      rw [b_X11_readProgrammeFor_12]
      show zwp X d MX11_first 6 _ [.int v] (zen τ) Q
      rw [b_X11_first_6 (hd := by omega), if_neg hv]
      exact hQ v τ hC (by rw [if_pos hr]; exact hv2)
theorem m_first (hd : 14 ≤ d) (h : RelP b σ nr nt N V I) (w : Int32) (hQ : ∀ (x : Int32) (τ : zS), Mpost σ τ → x.toInt = v_first σ nr nt N V I a.toInt w.toInt → Q (some (.int x)) (zen τ)) : zwp X d MX12_first 0 [.ref 66, .int a, .int w, .null, .null] [] (zen σ) Q := by
  have hR := h.1.2.2
  have hI := h.2.2.2.1.2.2.1
  have e0 : (0 : Int32).toInt = 0 := rfl
  unfold v_first at hQ
  rw [b_X12_first_0 (hd := by omega), t_isShelfM, t_wpM]
  by_cases ha : a.toInt < 0 ∨ 6 ≤ a.toInt
  · rw [if_pos ha, if_pos rfl]
    refine hQ _ σ (Mpost.rf h) ?_
    rw [refI_bad ha]
    split
    · rfl
    · rw [if_pos (by omega)]; rfl
  · rw [if_neg ha, if_neg (by decide)]
    by_cases hw : w.toInt < 0 ∨ 9999 < w.toInt
    · rw [if_pos hw, if_neg (by decide)]
      exact hQ _ σ (Mpost.rf h) (by rw [if_pos hw]; rfl)
    · rw [if_neg hw, if_pos (by decide)]
      rw [if_neg hw] at hQ
      by_cases hr : refI σ a.toInt 0 = 0
      · refine m_layO (by omega) h (by omega) hr (fun τ hF hT => ?_)
        show zwp X d MX12_first 21 _ [.int 0] (zen τ) Q
        rw [b_X12_first_21, if_pos (by decide)]
        refine lp_X12_first (by omega) hR hI a w 0 (by omega) (progS σ nt a.toInt) [] τ 0 rfl hT rfl (fun x ρ hF2 hT2 hx => ?_)
        rw [if_neg (fun q => q hr)] at hQ
        exact hQ x ρ ⟨(fr88 hF).tr (fr86 hF2), hT2.2.2.1⟩ hx
      · refine m_layB (by omega) h (by omega) hr (fun v τ hv hv2 hM => ?_)
        show zwp X d MX12_first 21 _ [.int v] (zen τ) Q
        rw [b_X12_first_21, if_neg (fun q => by have := ile.mp q; omega)]
        exact hQ v τ hM (by rw [if_pos hr]; exact hv2)
theorem v_first_fr (hF : zFr SC1 FC1 σ τ) (x w : Int) : v_first τ nr nt N V I x w = v_first σ nr nt N V I x w := by unfold v_first; rw [refI_fr hF, progS_fr hF]
theorem o_first (hd : 20 ≤ d) {k : Nat} (h : Rel k σ) (a w : Int32) : zOp k σ X d MX11_first MX12_first [.ref 0, .int a, .int w, .null] [.ref 66, .int a, .int w, .null, .null] := by
  obtain ⟨nr, nt, N, V, I, h⟩ := h
  exact zOp.think h (fun Q hQ => c_first (by omega) h w hQ) (fun τ h2 hF Q hQ => m_first (by omega) h2 w (fun x ρ hM hx => hQ x ρ hM (by rw [hx, v_first_fr hF])))
end OPSB
