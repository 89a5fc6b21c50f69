/-! ice: the reference -/
theorem HallM.fr {σ τ : zS} {nr nt : Nat} {N : Nat → Nat → Int} (h : HallM σ nr nt N) (hc : ∀ k, 67 ≤ k → k ≤ 72 → τ.1 k = σ.1 k) (hf : ∀ j, j = 1 ∨ j = 6 ∨ j = 9 ∨ j = 10 ∨ j = 11 ∨ j = 12 → gi τ 66 j = gi σ 66 j) : HallM τ nr nt N := by
  unfold HallM at *
  rw [hf 1 (by omega), hf 6 (by omega), hf 9 (by omega), hf 10 (by omega), hf 11 (by omega), hf 12 (by omega)]
  unfold gi at *
  rw [hc 67 (by omega) (by omega), hc 68 (by omega) (by omega), hc 69 (by omega) (by omega), hc 70 (by omega) (by omega), hc 71 (by omega) (by omega), hc 72 (by omega) (by omega)]
  exact h
theorem HallM.zfr {σ τ : zS} {nr nt : Nat} {N : Nat → Nat → Int} {S : List Nat} {F : List (Nat × Nat)} (h : HallM σ nr nt N) (hF : zFr S F σ τ) (hS : ∀ k, k ∈ S → k < 66 ∨ 72 < k) (hF2 : ∀ q, q ∈ F → (q.1 < 66 ∨ 72 < q.1) ∨ (q.1 = 66 ∧ q.2 ≠ 1 ∧ q.2 ≠ 6 ∧ q.2 ≠ 9 ∧ q.2 ≠ 10 ∧ q.2 ≠ 11 ∧ q.2 ≠ 12)) : HallM τ nr nt N := by
  refine h.fr (fun k h1 h2 => hF.c (fun q => by have := hS k q; omega) (fun q hq => by have := hF2 q hq; omega)) (fun j hj => hF.1 66 (fun q => by have := hS 66 q; omega) j (fun q => by have := hF2 _ q; simp at this; omega))
def zLawMV (σ : zS) (v : (Nat → Int32) → Int32) : Prop := ∀ τ : zS, (∀ j, j < 130 → gi τ 78 j = gi σ 78 j) → (∀ j, j < 130 → gi τ 79 j = gi σ 79 j) → gi τ 80 0 = gi σ 80 0 → (∀ j, j < 61 → gi τ 81 j = gi σ 81 j) → (∀ j, j < 61 → gi τ 82 j = gi σ 82 j) → ∀ (X : zX) (d : Nat) (Q : Option Value → zH → Prop), 3 ≤ d → (∀ f, Q (some (.int (v (τ.1 83)))) (zen (sA τ 84 f))) → zwp X d MX12_givesText 0 [.ref 66, .int 0, .null, .null] [] (zen τ) Q
def LawM (σ : zS) (V : zV) : Prop := match V with
  | none => gi σ 66 32 = 0
  | some v => ¬ gi σ 66 32 = 0 ∧ zLawMV σ v ∧ zext6 v
theorem LawM.fr {σ τ : zS} {V : zV} (h : LawM σ V) (hc : ∀ k, 78 ≤ k → k ≤ 82 → τ.1 k = σ.1 k) (h32 : gi τ 66 32 = gi σ 66 32) : LawM τ V := by
  cases V with
  | none => unfold LawM at *; rw [h32]; exact h
  | some v =>
    unfold LawM at *
    rw [h32]
    have hg : ∀ k j, 78 ≤ k → k ≤ 82 → gi τ k j = gi σ k j := fun k j h1 h2 => by show τ.1 k j = _; rw [hc k h1 h2]; rfl
    exact ⟨h.1, fun ρ e1 e2 e3 e4 e5 => h.2.1 ρ (fun j hj => (e1 j hj).trans (hg 78 j (by omega) (by omega))) (fun j hj => (e2 j hj).trans (hg 79 j (by omega) (by omega))) (e3.trans (hg 80 0 (by omega) (by omega))) (fun j hj => (e4 j hj).trans (hg 81 j (by omega) (by omega))) (fun j hj => (e5 j hj).trans (hg 82 j (by omega) (by omega))), h.2.2⟩
theorem LawM.zfr {σ τ : zS} {V : zV} {S : List Nat} {F : List (Nat × Nat)} (h : LawM σ V) (hF : zFr S F σ τ) (hS : ∀ k, k ∈ S → (k < 78 ∧ k ≠ 66) ∨ 82 < k) (hF2 : ∀ q, q ∈ F → (q.1 < 78 ∧ q.1 ≠ 66) ∨ 82 < q.1 ∨ (q.1 = 66 ∧ q.2 ≠ 32)) : LawM τ V :=
  h.fr (fun k h1 h2 => hF.c (fun q => by have := hS k q; omega) (fun q hq => by have := hF2 q hq; omega)) (hF.1 66 (fun q => by have := hS 66 q; omega) 32 (fun q => by have := hF2 _ q; simp at this))
theorem LawM.ext {σ : zS} {V : zV} (h : LawM σ V) {f g : Nat → Int32} (e : ∀ j, j < 6 → f j = g j) : rowV V f = rowV V g := by
  cases V with
  | none => unfold rowV; dsimp only; rw [e 0 (by omega), e 1 (by omega), e 3 (by omega), e 4 (by omega)]
  | some v => exact h.2.2 f g e
theorem t_apart {σ : zS} {a b : Int32} (h : -1000 ≤ a.toInt ∧ a.toInt ≤ 1000) (h2 : -1000 ≤ b.toInt ∧ b.toInt ≤ 1000) : (f_X12_apart σ a b).toInt = if 0 ≤ a.toInt - b.toInt then a.toInt - b.toInt else -(a.toInt - b.toInt) := by
  unfold f_X12_apart
  split
  · next h0 =>
    have := ile.mp h0
    rw [if_pos (by omega), t_sub (by omega)]
  · next h0 =>
    have := nile h0
    rw [if_neg (by omega), t_sub (by omega)]; omega
theorem w_X12_givesBy {X : zX} {d : Nat} {Q : Option Value → zH → Prop} (hd : 4 ≤ d) {σ : zS} {nr nt : Nat} {N : Nat → Nat → Int} {V : zV} (hR : HallR nr nt N) (hH : HallM σ nr nt N) (hL : LawM σ V) {r t p : Nat} {i : Int} {ar at_ ap ai : Int32} (hr : r < nr) (ht : t < nt) (hp : p < 16) (er : ar.toInt = r) (et : at_.toInt = t) (ep : ap.toInt = p) (ei : ai.toInt = i) (hi : 0 ≤ i ∧ i ≤ 999)
    (hQ : ∀ (v : Int32) (τ : zS), zFr [83, 84] [] σ τ → v.toInt = rowG V N r t p i → Q (some (.int v)) (zen τ)) : zwp X d MX12_givesBy 0 [.ref 66, .int ar, .int at_, .int ap, .int ai, .null, .null] [] (zen σ) Q := by
  have h6 := hR.1
  have h8 := hR.2.1
  have zr : zin ar 6 = true := zin_of (by omega) (by omega)
  have zt : zin at_ 8 = true := zin_of (by omega) (by omega)
  have ir : ix ar = r := by rw [ix_t]; omega
  have it : ix at_ = t := by rw [ix_t]; omega
  have H := hH.2.2.1 r hr
  have HT := hH.2.2.2.1 t ht
  have b0 := hR.2.2 0 r (Or.inl (by omega))
  have b1 := hR.2.2 1 r (Or.inl (by omega))
  have b3 := hR.2.2 3 r (Or.inl (by omega))
  have b4 := hR.2.2 4 t (Or.inr (Or.inl (by omega)))
  rw [show zhiB 0 = 99 from rfl, show zloB 0 = 0 from rfl] at b0
  rw [show zhiB 1 = 15 from rfl, show zloB 1 = 0 from rfl] at b1
  rw [show zhiB 3 = 9 from rfl, show zloB 3 = 0 from rfl] at b3
  rw [show zhiB 4 = 9 from rfl, show zloB 4 = 0 from rfl] at b4
  have ed : (f_X12_apart σ (gi σ 68 (ix ar)) ap).toInt = if 0 ≤ N 1 r - p then N 1 r - p else -(N 1 r - p) := by
    rw [ir, t_apart (by rw [H.2.1]; omega) (by omega), H.2.1, ep]
  have e1 : (1 : Int32).toInt = 1 := rfl
  have e0 : (0 : Int32).toInt = 0 := rfl
  have hnz : decide (¬ (f_X12_apart σ (gi σ 68 (ix ar)) ap + 1) = 0) = true := by
    rw [decide_eq_true_eq]
    intro q
    have := congrArg Int32.toInt q
    rw [t_add (by rw [ed, e1]; split <;> omega), ed, e1, e0] at this
    split at this <;> omega
  rw [b_X12_givesBy_0 (hd := by omega), ztrue_and zr, ztrue_and zt, ztrue_and zr, ztrue_and zr, ztrue_and hnz]
  have fin : ∀ (x : Int32) (τ : zS), zFr [83, 84] [] σ τ → x = rowV V (factsI N r t p i) → (if (-99) ≤ x then (if x ≤ 99 then Q (some (.int x)) (zen τ) else Q (some (.int 99)) (zen τ)) else Q (some (.int (-99))) (zen τ)) := by
    intro x τ hF hx
    have em : (-99 : Int32).toInt = -99 := rfl
    have ep : (99 : Int32).toInt = 99 := rfl
    have eg : rowG V N r t p i = max (-99) (min 99 x.toInt) := by unfold rowG; rw [hx]
    split
    · next c1 =>
      have := ile.mp c1
      split
      · next c2 =>
        have := ile.mp c2
        exact hQ _ _ hF (by rw [eg]; omega)
      · next c2 =>
        have := nile c2
        exact hQ _ _ hF (by rw [eg]; omega)
    · next c1 =>
      have := nile c1
      exact hQ _ _ hF (by rw [eg]; omega)
  have a0 : gi σ 71 (ix at_) = Int32.ofInt (N 4 t) := by rw [it]; exact of_t HT.1
  have a1 : gi σ 67 (ix ar) = Int32.ofInt (N 0 r) := by rw [ir]; exact of_t H.1
  have a2 : gi σ 69 (ix ar) = Int32.ofInt (N 2 r) := by rw [ir]; exact of_t H.2.2.1
  have a3 : gi σ 70 (ix ar) = Int32.ofInt (N 3 r) := by rw [ir]; exact of_t H.2.2.2
  have a4 := of_t ed
  have a5 : ai = Int32.ofInt i := of_t ei
  cases V with
  | none =>
    rw [if_pos (show gi σ 66 32 = 0 from hL)]
    refine fin _ σ zFr.rf ?_
    rw [a0, a1, a3, a4]
    rfl
  | some v =>
    rw [if_neg hL.1, ztrue_and zt, ztrue_and zr, ztrue_and zr, ztrue_and zr]
    generalize hnm : upd (upd (upd (upd (upd (upd (σ.1 83) 0 (gi σ 71 (ix at_))) 1 (gi σ 67 (ix ar))) 2 (gi σ 69 (ix ar))) 3 (gi σ 70 (ix ar))) 4 (f_X12_apart σ (gi σ 68 (ix ar)) ap)) 5 ai = nm
    have eS : si (si (si (si (si (si σ 83 (ix 0) (gi σ 71 (ix at_))) 83 (ix 1) (gi σ 67 (ix ar))) 83 (ix 2) (gi σ 69 (ix ar))) 83 (ix 3) (gi σ 70 (ix ar))) 83 (ix 4) (f_X12_apart σ (gi σ 68 (ix ar)) ap)) 83 (ix 5) ai = sA σ 83 nm := by
      rw [si_eq σ, si_sA, si_sA, si_sA, si_sA, si_sA]; rw [← hnm]; rfl
    rw [eS]
    have hF : zFr [83, 84] [] σ (sA σ 83 nm) := zFr.rf.wA (by decide)
    refine hL.2.1 (sA σ 83 nm) (fun _ _ => gi_sA_ne (by decide)) (fun _ _ => gi_sA_ne (by decide)) (gi_sA_ne (by decide)) (fun _ _ => gi_sA_ne (by decide)) (fun _ _ => gi_sA_ne (by decide)) X (d - 1) _ (by omega) (fun f => ?_)
    show zwp X d MX12_givesBy 117 _ [.int (v ((sA σ 83 nm).1 83))] _ Q
    rw [b_X12_givesBy_117]
    refine fin _ _ (hF.wA (by decide)) ?_
    rw [sA_1]
    refine hL.2.2 _ _ (fun j hj => ?_)
    rw [← hnm]
    unfold factsI
    match j, hj with
    | 0, _ => exact a0
    | 1, _ => exact a1
    | 2, _ => exact a2
    | 3, _ => exact a3
    | 4, _ => exact a4
    | 5, _ => exact a5
theorem lp_X12_beginIce {X : zX} {d : Nat} {Q : Option Value → zH → Prop} : ∀ (n : Nat) (σ : zS) (f : Nat → Int32) (p : Int32), 0 ≤ p.toInt → p.toInt + n = 16 → Q none (zen (si (sA σ 86 (fun q => if p.toInt ≤ (q : Int) ∧ (q : Int) < 16 then σ.1 85 q else f q)) 66 37 0)) → zwp X d MX12_beginIce 2 [.ref 66, .int p] [] (zen (sA σ 86 f)) Q := by
  intro n
  induction n with
  | zero =>
    intro σ f p h0 hn hQ
    rw [b_X12_beginIce_2, if_pos (ile.mpr (by show (16 : Int) ≤ _; omega))]
    have e : (fun q : Nat => if p.toInt ≤ (q : Int) ∧ (q : Int) < 16 then σ.1 85 q else f q) = f := by funext q; rw [if_neg (by omega)]
    rw [e] at hQ
    exact hQ
  | succ n ih =>
    intro σ f p h0 hn hQ
    have hz : zin p 16 = true := zin_of h0 (by omega)
    have es : (p + 1).toInt = p.toInt + 1 := t_succ (by omega)
    rw [b_X12_beginIce_2, if_neg (fun q => by have := ile.mp q; have e : (16 : Int32).toInt = 16 := rfl; omega), ztrue_and hz, ztrue_and hz, si_sA]
    refine ih σ _ (p + 1) (by omega) (by omega) ?_
    have e : (fun q : Nat => if (p + 1).toInt ≤ (q : Int) ∧ (q : Int) < 16 then σ.1 85 q else upd f (ix p) (gi (sA σ 86 f) 85 (ix p)) q) = (fun q : Nat => if p.toInt ≤ (q : Int) ∧ (q : Int) < 16 then σ.1 85 q else f q) := by
      funext q
      have hix := ix_t p
      by_cases hq : q = ix p
      · rw [if_neg (by omega), if_pos (by omega), hq, upd_at]; rfl
      · rw [upd_ne _ _ hq]
        by_cases h2 : p.toInt ≤ (q : Int) ∧ (q : Int) < 16
        · rw [if_pos h2, if_pos (by omega)]
        · rw [if_neg h2, if_neg (by omega)]
    rw [e]
    exact hQ
theorem w_X12_beginIce {X : zX} {d : Nat} {Q : Option Value → zH → Prop} {σ : zS} {I : Nat → Int} (hI : IceAt (σ.1 85) I) (hQ : ∀ f, IceAt f I → Q none (zen (si (sA σ 86 f) 66 37 0))) : zwp X d MX12_beginIce 0 [.ref 66, .null] [] (zen σ) Q := by
  have e0 : (0 : Int32).toInt = 0 := rfl
  rw [b_X12_beginIce_0]
  have := lp_X12_beginIce (X := X) (d := d) (Q := Q) 16 σ (σ.1 86) 0 (by omega) (by omega)
  rw [sA_self] at this
  refine this (hQ _ (fun p hp => ?_))
  rw [if_pos (by omega)]; exact hI p hp
theorem t_thawed {σ : zS} {nr nt : Nat} {N : Nat → Nat → Int} {I : Nat → Int} (hH : HallM σ nr nt N) (hR : HallR nr nt N) {q : Nat} {p m : Int32} (hp : p.toInt = q) (hq : q < 16) (hm : 0 ≤ m.toInt ∧ m.toInt ≤ 100000) (hI : (gi σ 86 q).toInt = I q) (hI2 : 0 ≤ I q ∧ I q ≤ 999) : p_X12_thawed σ p m ∧ (f_X12_thawed σ p m).toInt = max 0 (I q - m.toInt * N 7 0) := by
  have hz : zin p 16 = true := zin_of (by omega) (by omega)
  have ip : ix p = q := by rw [ix_t]; omega
  have hw := hH.2.2.2.2.2.1
  have bw := hR.warm
  have bm := mulb hm.1 hm.2 bw.1 bw.2
  have e1 : (gi σ 66 10 * m).toInt = m.toInt * N 7 0 := by rw [t_mul (by rw [hw, Int.mul_comm]; omega), hw, Int.mul_comm]
  have e0 : (0 : Int32).toInt = 0 := rfl
  constructor
  · unfold p_X12_thawed
    refine ⟨hz, ?_⟩
    split
    · exact trivial
    · exact hz
  · unfold f_X12_thawed
    rw [ip]
    split
    · next c => have := ile.mp c; rw [hI, e1] at this; rw [e0]; omega
    · next c => have := nile c; rw [hI, e1] at this; rw [t_sub (by rw [hI, e1]; omega), hI, e1]; omega
theorem lp_X12_thaw {X : zX} {d : Nat} {Q : Option Value → zH → Prop} (hd : 1 ≤ d) {nr nt : Nat} {N : Nat → Nat → Int} {I : Nat → Int} (hR : HallR nr nt N) (hI2 : IceR I) (m : Int32) (hm : 0 ≤ m.toInt ∧ m.toInt ≤ 100000) : ∀ (n : Nat) (σ : zS) (p : Int32), HallM σ nr nt N → 0 ≤ p.toInt → p.toInt + n = N 6 0 → (∀ q : Nat, p.toInt ≤ q → q < 16 → (gi σ 86 q).toInt = I q) → (∀ f : Nat → Int32, (∀ q : Nat, q < 16 → (f q).toInt = if p.toInt ≤ q ∧ (q : Int) < N 6 0 then max 0 (I q - m.toInt * N 7 0) else (gi σ 86 q).toInt) → Q none (zen (si (sA σ 86 f) 66 37 (gi σ 66 37 + m)))) → zwp X d MX12_thaw 2 [.ref 66, .int m, .int p] [] (zen σ) Q := by
  have hl := hR.long
  intro n
  induction n with
  | zero =>
    intro σ p hH h0 hn hI hQ
    have h9 := hH.2.2.2.2.1
    rw [b_X12_thaw_2 (hd := hd), if_pos (ile.mpr (by omega))]
    have := hQ (σ.1 86) (fun q hq => by rw [if_neg (by omega)]; rfl)
    rw [sA_self] at this
    exact this
  | succ n ih =>
    intro σ p hH h0 hn hI hQ
    have h9 := hH.2.2.2.2.1
    have hz : zin p 16 = true := zin_of h0 (by omega)
    have hix := ix_t p
    have es : (p + 1).toInt = p.toInt + 1 := t_succ (by omega)
    have T := t_thawed hH hR (q := ix p) (p := p) (m := m) (I := I) (by omega) (by omega) hm (hI _ (by omega) (by omega)) (hI2 _ (by omega))
    rw [b_X12_thaw_2 (hd := hd), if_neg (fun q => by have := ile.mp q; omega), ztrue_and T.1, ztrue_and hz, si_eq]
    refine ih _ (p + 1) (hH.fr (fun k h1 h2 => c_sA_ne (by omega)) (fun j _ => rfl)) (by omega) (by omega) ?_ ?_
    · intro q h1 h2
      rw [gi_sA, upd_ne _ _ (by omega)]
      exact hI q (by omega) h2
    · intro f hf
      rw [sA_sA]
      refine hQ f (fun q hq => ?_)
      rw [hf q hq]
      by_cases hqp : q = ix p
      · rw [if_neg (by omega), if_pos (by omega), hqp, gi_sA, upd_at, T.2]
      · rw [gi_sA, upd_ne _ _ hqp]
        by_cases hc : p.toInt ≤ q ∧ (q : Int) < N 6 0
        · rw [if_pos (by omega), if_pos hc]
        · rw [if_neg (by omega), if_neg hc]; rfl
theorem w_X12_thaw {X : zX} {d : Nat} {Q : Option Value → zH → Prop} (hd : 1 ≤ d) {σ : zS} {nr nt : Nat} {N : Nat → Nat → Int} {I : Nat → Int} {m : Int32} (hR : HallR nr nt N) (hH : HallM σ nr nt N) (hI : IceAt (σ.1 86) I) (hI2 : IceR I) (hm : 0 ≤ m.toInt ∧ m.toInt ≤ 100000)
    (hQ : ∀ f, IceAt f (thawI (N 6 0) (m.toInt * N 7 0) I) → Q none (zen (si (sA σ 86 f) 66 37 (gi σ 66 37 + m)))) : zwp X d MX12_thaw 0 [.ref 66, .int m, .null] [] (zen σ) Q := by
  have e0 : (0 : Int32).toInt = 0 := rfl
  have hl := hR.long
  rw [b_X12_thaw_0]
  refine lp_X12_thaw hd hR hI2 m hm (N 6 0).toNat σ 0 hH (by omega) (by omega) (fun q _ hq => hI q hq) (fun f hf => hQ f (fun p hp => ?_))
  rw [hf p hp]
  unfold thawI
  by_cases hc : (p : Int) < N 6 0
  · rw [if_pos (by omega), if_pos hc]
  · rw [if_neg (by omega), if_neg hc]; exact hI p hp
