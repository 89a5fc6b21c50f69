/-! order, orders: the class -/
abbrev SO : List Nat := [6, 14, 15, 16, 47, 48, 50, 52, 54, 56, 58, 60, 62]
abbrev FO : List (Nat × Nat) := [(13, 5)]
theorem ThB.zfo {σ τ : zS} {nr nt : Nat} {N : Nat → Nat → Int} {V : zV} {I : Nat → Int} (h : ThB σ nr nt N V I) (hF : zFr SO FO σ τ) (hC : CacheC τ nr nt N V (-1)) : ThB τ nr nt N V I := by
  refine ⟨h.1.fr (hF.c (by decide) (by decide)) (hF.c (by decide) (by decide)), h.2.1.fr (hF.c (by decide) (by decide)) (hF.c (by decide) (by decide)) (hF.c (by decide) (by decide)), hC, ?_⟩
  rw [hF.c (by decide) (by decide)]; exact h.2.2.2
theorem ThB.ws {σ : zS} {nr nt : Nat} {N : Nat → Nat → Int} {V : zV} {I : Nat → Int} {k : Nat} {f : Nat → Int32} (h : ThB σ nr nt N V I) (hk : k ∈ [47, 48, 50, 52, 54, 56, 58, 60, 62]) : ThB (sA σ k f) nr nt N V I := by
  have hk2 : k ∈ SO := by simp at hk ⊢; omega
  have h13 : k ≠ 13 ∧ k ≠ 15 ∧ k ≠ 16 ∧ k ≠ 1 := by simp at hk; omega
  exact h.zfo (zFr.rf.wA hk2) (h.2.2.1.fr (c_sA_ne (fun q => h13.1 q.symm)) (c_sA_ne (fun q => h13.2.1 q.symm)) (c_sA_ne (fun q => h13.2.2.1 q.symm)) (gi_sA_ne (fun q => h13.2.2.2 q.symm)))
/-- what lies behind each length -/
def BH (σ : zS) (N : Nat → Nat → Int) (G : Nat → Nat → Int → Int) (I : Nat → Int) (L : List Int) (k : Nat) : Prop := ∀ q, q ≤ k → IceAt (σ.1 (50 + 2 * q)) (play N G (L.take q) I)
theorem become_ice {σ : zS} {a b : Nat} {I : Nat → Int} (hI : IceAt (σ.1 (b + 1)) I) : IceAt ((g_X2_become σ a b).1 (a + 1)) I := by
  intro p hp
  have e0 : ix 0 = 0 := rfl
  have e16 : ix 16 = 16 := rfl
  have : (g_X2_become σ a b).1 (a + 1) p = σ.1 (b + 1) p := by
    unfold g_X2_become
    rw [sA_1]
    unfold va_cpy
    rw [e0, e16, if_pos (by omega)]
    rw [show 0 + (p - 0) = p by omega]
  rw [this]; exact hI p hp
theorem mem50 {q : Nat} (h : q < 7) : 49 + 2 * q + 1 ∈ [47, 48, 50, 52, 54, 56, 58, 60, 62] := by
  simp; omega
theorem play_okR {nr nt : Nat} {N : Nat → Nat → Int} {G : Nat → Nat → Int → Int} {I : Nat → Int} (hR : HallR nr nt N) (hI : IceR I) {L : List Int} {k : Nat} (hb : ∀ b, b ∈ L.take k → okB nt b) : IceR (play N G (L.take k) I) := play_R hR (G := G) _ I hb hI
theorem lp_playFrom {X : zX} {d : Nat} {Q : Option Value → zH → Prop} (hd : 6 ≤ d) {nr nt : Nat} {N : Nat → Nat → Int} {V : zV} {I : Nat → Int} {L : List Int} (hR : HallR nr nt N) (hI : IceR I) (c m : Int32) (mm : Nat) (hm : m.toInt = mm) (hm6 : mm ≤ 6) (hb : ∀ b, b ∈ L.take mm → 0 ≤ b ∧ b < nt) : ∀ (n : Nat) (σ : zS) (k : Int32) (kk : Nat), k.toInt = kk → kk + n = mm → ThB σ nr nt N V I → PLf (σ.1 47) L → BH σ N (gG V N (-1) nr) I L kk →
    (∀ τ : zS, zFr [6, 14, 15, 16, 50, 52, 54, 56, 58, 60, 62] [(13, 5)] σ τ → ThB τ nr nt N V I → BH τ N (gG V N (-1) nr) I L mm → Q none (zen τ)) →
    zwp X d MX7_playFrom 2 [.ref 45, .int c, .int m, .int k] [] (zen σ) Q := by
  intro n
  have e1 := l1
  induction n with
  | zero =>
    intro σ k kk hk hn hT hL hB hQ
    rw [b_X7_playFrom_2 (hd := by omega), if_pos (ile.mpr (by omega))]
    have : kk = mm := by omega
    exact hQ σ zFr.rf hT (this ▸ hB)
  | succ n ih =>
    intro σ k kk hk hn hT hL hB hQ
    have ek : (k + 1).toInt = (kk + 1 : Nat) := by rw [t_add (by omega), e1, hk]; omega
    have ik : ix k = kk := by rw [ix_t]; omega
    have ik1 : ix (k + 1) = kk + 1 := by rw [ix_t, ek]; omega
    have z1 : zin (k + 1) 7 = true := zin_of (by omega) (by omega)
    have z2 : zin k 7 = true := zin_of (by omega) (by omega)
    have z3 : zin k 6 = true := zin_of (by omega) (by omega)
    have hB1 : zisB (49 + 2 * (kk + 1)) = true := zB_all _ (by omega)
    rw [b_X7_playFrom_2 (hd := by omega), if_neg (fun y => by have := ile.mp y; omega), ztrue_and z1, ztrue_and z2, ztrue_and z3, ztrue_and z1, ik, ik1]
    have eS : g_X2_become σ (49 + 2 * (kk + 1)) (49 + 2 * kk) = sA σ (49 + 2 * (kk + 1) + 1) (va_cpy (σ.1 (49 + 2 * kk + 1)) (σ.1 (49 + 2 * (kk + 1) + 1)) (ix 0) (ix 0) (ix 16)) := rfl
    have hice : IceAt ((g_X2_become σ (49 + 2 * (kk + 1)) (49 + 2 * kk)).1 (49 + 2 * (kk + 1) + 1)) (play N (gG V N (-1) nr) (L.take kk) I) := become_ice (by
      have := hB kk (Nat.le_refl _)
      rw [show 49 + 2 * kk + 1 = 50 + 2 * kk by omega]; exact this)
    have hT1 : ThB (g_X2_become σ (49 + 2 * (kk + 1)) (49 + 2 * kk)) nr nt N V I := by rw [eS]; exact hT.ws (mem50 (by omega))
    have c47 : (g_X2_become σ (49 + 2 * (kk + 1)) (49 + 2 * kk)).1 47 = σ.1 47 := by rw [eS]; exact c_sA_ne (by omega)
    have hg : (gi (g_X2_become σ (49 + 2 * (kk + 1)) (49 + 2 * kk)) 47 kk).toInt = gd L kk := by
      show ((g_X2_become σ (49 + 2 * (kk + 1)) (49 + 2 * kk)).1 47 kk).toInt = _
      rw [c47]; exact hL.2 kk (by omega)
    have hlen := hL.1
    have ts := take_s (L := L) (k := kk) (by omega)
    have hbk : 0 ≤ gd L kk ∧ gd L kk < nt := by
      refine hb _ ?_
      have h1 : gd L kk ∈ L.take (kk + 1) := by rw [ts]; exact List.mem_append_right _ (List.mem_singleton.mpr rfl)
      exact List.take_subset_take_left L (by omega) h1
    have hJ : IceR (play N (gG V N (-1) nr) (L.take kk) I) := play_okR hR hI (fun b q => Or.inr (hb b (List.take_subset_take_left L (by omega) q)))
    refine w_X0_step (by omega) (V := V) (lo := -1) hR hB1 hT1.1 hT1.2.1 hT1.2.2.1 hice hJ (Or.inr (by rw [hg]; exact hbk)) (fun v τ hF hC hic _ => ?_)
    show zwp X d MX7_playFrom 45 _ [.int v] (zen τ) Q
    rw [hg] at hic
    have hFa : zFr [6, 14, 15, 16, 50, 52, 54, 56, 58, 60, 62] [(13, 5)] σ (g_X2_become σ (49 + 2 * (kk + 1)) (49 + 2 * kk)) := by
      rw [eS]; exact zFr.rf.wA (by simp; omega)
    have hFb : zFr [6, 14, 15, 16, 50, 52, 54, 56, 58, 60, 62] [(13, 5)] (g_X2_become σ (49 + 2 * (kk + 1)) (49 + 2 * kk)) τ := hF.sub (fun q hq => by simp at hq ⊢; omega) (fun q hq => Or.inl hq)
    have hF1 := hFa.tr hFb
    have hT2 : ThB τ nr nt N V I := hT1.zfo (hFb.sub (fun q hq => by simp at hq ⊢; omega) (fun q hq => Or.inl hq)) hC
    rw [b_X7_playFrom_45]
    refine ih τ (k + 1) (kk + 1) ek (by omega) hT2 ?_ (fun q hq => ?_) (fun ρ f1 f2 f3 => hQ ρ (hF1.tr f1) f2 f3)
    · rw [hF1.c (by simp) (by simp)]; exact hL
    · by_cases e : q = kk + 1
      · rw [e, ts, play_snoc, show 50 + 2 * (kk + 1) = 49 + 2 * (kk + 1) + 1 by omega]
        exact hic
      · have h2 : τ.1 (50 + 2 * q) = σ.1 (50 + 2 * q) := by
          rw [hF.c (by simp; omega) (by simp; omega), eS, c_sA_ne (by omega)]
        rw [h2]; exact hB q (by omega)
theorem w_X7_playFrom {X : zX} {d : Nat} {Q : Option Value → zH → Prop} (hd : 6 ≤ d) {σ : zS} {nr nt : Nat} {N : Nat → Nat → Int} {V : zV} {I : Nat → Int} {L : List Int} {c m : Int32} {cc mm : Nat} (hR : HallR nr nt N) (hI : IceR I) (hc : c.toInt = cc) (hm : m.toInt = mm) (hcm : cc ≤ mm) (hm6 : mm ≤ 6) (hb : ∀ b, b ∈ L.take mm → 0 ≤ b ∧ b < nt) (hT : ThB σ nr nt N V I) (hL : PLf (σ.1 47) L) (hB : BH σ N (gG V N (-1) nr) I L cc) (hQ : ∀ τ : zS, zFr [6, 14, 15, 16, 50, 52, 54, 56, 58, 60, 62] [(13, 5)] σ τ → ThB τ nr nt N V I → BH τ N (gG V N (-1) nr) I L mm → Q none (zen τ)) : zwp X d MX7_playFrom 0 [.ref 45, .int c, .int m, .null] [] (zen σ) Q := by
  rw [b_X7_playFrom_0]
  exact lp_playFrom hd hR hI c m mm hm hm6 hb (mm - cc) σ c cc hc (by omega) hT hL hB hQ
theorem lp_beginOrders {X : zX} {d : Nat} {Q : Option Value → zH → Prop} (σ : zS) : ∀ (n : Nat) (f : Nat → Int32) (i : Int32), 0 ≤ i.toInt → i.toInt + n = 6 → (∀ j : Nat, (j : Int) < i.toInt → (f j).toInt = j) → (∀ g : Nat → Int32, PLf g [0, 1, 2, 3, 4, 5] → Q (some (.int 0)) (zen (sA σ 47 g))) → zwp X d MX7_beginOrders 15 [.ref 45, .int i] [] (zen (sA σ 47 f)) Q := by
  intro n
  have e1 := l1
  induction n with
  | zero =>
    intro f i h0 hn hf hQ
    rw [b_X7_beginOrders_15, if_pos (ile.mpr (by show (6 : Int) ≤ _; omega))]
    refine hQ f ⟨rfl, fun j hj => ?_⟩
    rw [hf j (by omega)]
    match j, hj with
    | 0, _ => rfl
    | 1, _ => rfl
    | 2, _ => rfl
    | 3, _ => rfl
    | 4, _ => rfl
    | 5, _ => rfl
  | succ n ih =>
    intro f i h0 hn hf hQ
    have e6 := l6
    have ei : (i + 1).toInt = i.toInt + 1 := by rw [t_add (by omega), e1]
    have iz : zin i 6 = true := zin_of h0 (by omega)
    have ii := ix_t i
    rw [b_X7_beginOrders_15, if_neg (fun y => by have := ile.mp y; omega), ztrue_and iz, si_sA]
    refine ih _ (i + 1) (by omega) (by omega) (fun j hj => ?_) hQ
    by_cases e : j = ix i
    · rw [e, upd_at]; omega
    · rw [upd_ne _ _ e]; exact hf j (by omega)
theorem w_X7_beginOrders {X : zX} {d : Nat} {Q : Option Value → zH → Prop} (hd : 1 ≤ d) {σ : zS} {nr nt : Nat} {N : Nat → Nat → Int} {V : zV} {I : Nat → Int} (hT : ThB σ nr nt N V I) (hQ : ∀ τ : zS, zFr SO FO σ τ → ThB τ nr nt N V I → PLf (τ.1 47) [0, 1, 2, 3, 4, 5] → BH τ N (gG V N (-1) nr) I [0, 1, 2, 3, 4, 5] 0 → τ.1 48 = σ.1 48 → Q (some (.int 0)) (zen τ)) : zwp X d MX7_beginOrders 0 [.ref 45, .null] [] (zen σ) Q := by
  have e0 : ix 0 = 0 := rfl
  rw [b_X7_beginOrders_0 (hd := by omega), e0]
  have eS : g_X2_become σ (49 + 2 * 0) 18 = sA σ 50 (va_cpy (σ.1 19) (σ.1 50) (ix 0) (ix 0) (ix 16)) := rfl
  have hT1 : ThB (g_X2_become σ (49 + 2 * 0) 18) nr nt N V I := by rw [eS]; exact hT.ws (by decide)
  have hice : IceAt ((g_X2_become σ (49 + 2 * 0) 18).1 50) I := become_ice (a := 49) (b := 18) hT.2.2.2
  have hF : zFr SO FO σ (g_X2_become σ (49 + 2 * 0) 18) := by rw [eS]; exact zFr.rf.wA (by decide)
  have h48 : (g_X2_become σ (49 + 2 * 0) 18).1 48 = σ.1 48 := by rw [eS]; exact c_sA_ne (by decide)
  generalize g_X2_become σ (49 + 2 * 0) 18 = σ1 at hT1 hice hF h48 ⊢
  have := lp_beginOrders (X := X) (d := d) (Q := Q) σ1 6 (σ1.1 47) 0 (by decide) (by decide) (fun j hj => by have := l0; omega)
  rw [sA_self] at this
  refine this (fun g hg => hQ _ (hF.tr (zFr.rf.wA (by decide))) (hT1.ws (by decide)) (by rw [sA_1]; exact hg) (fun q hq => ?_) (by rw [c_sA_ne (by decide)]; exact h48))
  have q0 : q = 0 := by omega
  subst q0
  rw [c_sA_ne (by decide)]
  exact hice
theorem BH.c {σ τ : zS} {N : Nat → Nat → Int} {G : Nat → Nat → Int → Int} {I : Nat → Int} {L L' : List Int} {k q : Nat} (h : BH σ N G I L k) (hq : q ≤ k) (hk : k ≤ 6) (hL : L'.take q = L.take q) (hc : ∀ j, 50 ≤ j → j ≤ 62 → τ.1 j = σ.1 j) : BH τ N G I L' q := by
  intro x hx
  rw [hc _ (by omega) (by omega)]
  have e : L'.take x = L.take x := by
    have h1 := congrArg (List.take x) hL
    rw [List.take_take, List.take_take, Nat.min_eq_left hx] at h1
    exact h1
  rw [e]
  exact h x (by omega)
theorem chkO_s {n : Nat} {L p : List Int} {r : List (List Int)} (h : chkO n L (p :: r) = true) : L.take n = p ∧ (∀ b, b ∈ p → 0 ≤ b ∧ b < n) ∧ (nxtL n L = none → r = []) ∧ (∀ q L', nxtL n L = some (q, L') → q < n ∧ L'.take q = L.take q ∧ chkO n L' r = true) := by
  unfold chkO at h
  rw [Bool.and_eq_true, Bool.and_eq_true, Bool.and_eq_true] at h
  obtain ⟨⟨⟨h1, h2⟩, h3⟩, h4⟩ := h
  refine ⟨of_decide_eq_true h2, fun b hb => ?_, fun e => ?_, fun q L' e => ?_⟩
  · have := List.all_eq_true.mp h3 b hb
    rw [Bool.and_eq_true] at this
    exact ⟨of_decide_eq_true this.1, of_decide_eq_true this.2⟩
  · rw [e] at h4
    exact List.isEmpty_iff.mp h4
  · rw [e] at h4
    dsimp only at h4
    rw [Bool.and_eq_true, Bool.and_eq_true] at h4
    exact ⟨of_decide_eq_true h4.1.1, of_decide_eq_true h4.1.2, h4.2⟩
theorem chkO_ne {n : Nat} {L : List Int} {r : List (List Int)} (h : chkO n L r = true) : r ≠ [] := by
  intro e
  rw [e] at h
  unfold chkO at h
  exact absurd h (by decide)
/-- the heaviest behind an order -/
abbrev cOrd (N : Nat → Nat → Int) (V : zV) (nr : Nat) (I : Nat → Int) : List Int → Int := fun p => carries (N 6 0) 0 (play N (gG V N (-1) nr) p I)
abbrev uOrd (N : Nat → Nat → Int) (V : zV) (nr : Nat) (I : Nat → Int) (e : Nat → Int) (z : Int) : List Int → Int := fun p => unl e z (N 6 0) (play N (gG V N (-1) nr) p I)
theorem lp_best {X : zX} {d : Nat} {Q : Option Value → zH → Prop} (hd : 8 ≤ d) {nr nt : Nat} {N : Nat → Nat → Int} {V : zV} {I : Nat → Int} (hR : HallR nr nt N) (hI : IceR I) (hn6 : nt ≤ 6) (n : Int32) (hn : n.toInt = nt) : ∀ (r : List (List Int)) (σ : zS) (L w : List Int) (b c t : Int32) (w5 : Value), ThB σ nr nt N V I → PLf (σ.1 47) L → ((r = [] ∧ c.toInt < 0) ∨ (chkO nt L r = true ∧ ∃ cc : Nat, c.toInt = cc ∧ cc ≤ nt ∧ BH σ N (gG V N (-1) nr) I L cc)) → 0 ≤ t.toInt → t.toInt + r.length ≤ 720 → (∀ j, j < nt → (gi σ 48 j).toInt = gd w j) →
    (∀ (v : Int32) (τ : zS), zFr SO FO σ τ → ThB τ nr nt N V I → v.toInt = (bestF (cOrd N V nr I) r b.toInt w).1 → (∀ j, j < nt → (gi τ 48 j).toInt = gd (bestF (cOrd N V nr I) r b.toInt w).2 j) → Q (some (.int v)) (zen τ)) →
    zwp X d MX7_bestOrder 18 [.ref 45, .int n, .int b, .int c, .int t, w5] [] (zen σ) Q := by
  intro r
  have e0 := l0
  have e1 := l1
  have e720 : (720 : Int32).toInt = 720 := rfl
  induction r with
  | nil =>
    intro σ L w b c t w5 hT hL hr ht0 ht hw hQ
    have hc : c.toInt < 0 := by
      rcases hr with q | q
      · exact q.2
      · exact absurd rfl (chkO_ne q.1)
    rw [b_X7_bestOrder_18 (hd := by omega)]
    by_cases c1 : 720 ≤ t
    · rw [if_pos c1]; exact hQ b σ zFr.rf hT rfl hw
    · rw [if_neg c1, if_pos (il.mpr (by omega))]; exact hQ b σ zFr.rf hT rfl hw
  | cons p r ih =>
    intro σ L w b c t w5 hT hL hr ht0 ht hw hQ
    rw [List.length_cons] at ht
    have hr2 : chkO nt L (p :: r) = true ∧ ∃ cc : Nat, c.toInt = cc ∧ cc ≤ nt ∧ BH σ N (gG V N (-1) nr) I L cc := by
      rcases hr with q | q
      · exact absurd q.1 (by simp)
      · exact q
    obtain ⟨hk, cc, hcc, hcn, hB⟩ := hr2
    obtain ⟨k1, k2, k3, k4⟩ := chkO_s hk
    have et : (t + 1).toInt = t.toInt + 1 := by rw [t_add (by omega), e1]
    rw [b_X7_bestOrder_18 (hd := by omega), if_neg (fun y => by have := ile.mp y; omega), if_neg (fun y => by have := il.mp y; omega)]
    refine w_X7_playFrom (by omega) hR hI hcc hn hcn hn6 (by rw [k1]; exact k2) hT hL hB (fun τ hF hT2 hB2 => ?_)
    show zwp X d MX7_bestOrder 36 _ [] (zen τ) Q
    have hF1 : zFr SO FO σ τ := hF.sub (fun q hq => by simp at hq ⊢; omega) (fun q hq => Or.inl hq)
    have hL2 : PLf (τ.1 47) L := by rw [hF.c (by decide) (by decide)]; exact hL
    have c48 : τ.1 48 = σ.1 48 := hF.c (by decide) (by decide)
    have i7 : zin n 7 = true := zin_of (by omega) (by omega)
    have inx : ix n = nt := by rw [ix_t]; omega
    have hBn := hB2 nt (Nat.le_refl _)
    rw [k1] at hBn
    have hJ : IceR (play N (gG V N (-1) nr) p I) := play_R hR p I (fun b hb => Or.inr (k2 b hb)) hI
    rw [b_X7_bestOrder_36 (hd := by omega), ztrue_and i7, inx]
    refine w_X2_carries (by omega) (zB_all nt (by omega)) hT2.1 hR (by rw [show 49 + 2 * nt + 1 = 50 + 2 * nt by omega]; exact hBn) hJ (by rw [e0]; omega) (fun v hv => ?_)
    rw [e0, Int.zero_mul] at hv
    have hv' : v.toInt = cOrd N V nr I p := hv
    show zwp X d MX7_bestOrder 50 _ [.int v] (zen τ) Q
    rw [b_X7_bestOrder_50 (hd := by omega)]
    have next : ∀ (ρ : zS) (b' : Int32) (w' : List Int), zFr SO FO σ ρ → ThB ρ nr nt N V I → ρ.1 47 = τ.1 47 → (∀ j, 50 ≤ j → j ≤ 62 → ρ.1 j = τ.1 j) → (∀ j, j < nt → (gi ρ 48 j).toInt = gd w' j) → bestF (cOrd N V nr I) (p :: r) b.toInt w = bestF (cOrd N V nr I) r b'.toInt w' → zwp X (d - 1) MX7_nextOrder 0 [.ref 45, .int n, .null, .null, .null, .null] [] (zen ρ) (fun u h' => zwp X d MX7_bestOrder 70 [.ref 45, .int n, .int b', .int c, .int t, .int v] (zpsh u []) h' Q) := by
      intro ρ b' w' f1 f2 f3 f4 f5 f6
      refine w_X7_nextOrder (by omega) (L := L) (by rw [f3]; exact hL2) hn hn6 (fun hno => ?_) (fun q L' hso u g hu hg => ?_)
      · show zwp X d MX7_bestOrder 70 _ [.int (-1)] (zen ρ) Q
        rw [b_X7_bestOrder_70]
        refine ih ρ L w' b' (-1) (t + 1) _ f2 (by rw [f3]; exact hL2) (Or.inl ⟨k3 hno, by decide⟩) (by omega) (by omega) f5 (fun x ζ z1 z2 z3 z4 => hQ x ζ (f1.tr z1) z2 (by rw [f6]; exact z3) (by rw [f6]; exact z4))
      · show zwp X d MX7_bestOrder 70 _ [.int u] (zen (sA ρ 47 g)) Q
        rw [b_X7_bestOrder_70]
        obtain ⟨y1, y2, y3⟩ := k4 q L' hso
        refine ih (sA ρ 47 g) L' w' b' u (t + 1) _ (f2.ws (by decide)) (by rw [sA_1]; exact hg) (Or.inr ⟨y3, q, hu, by omega, hB2.c (by omega) hn6 y2 (fun j h1 h2 => by rw [c_sA_ne (by omega)]; exact f4 j h1 h2)⟩) (by omega) (by omega) (fun j hj => by rw [gi_sA_ne (by decide)]; exact f5 j hj) (fun x ζ z1 z2 z3 z4 => hQ x ζ ((f1.tr (zFr.rf.wA (by decide))).tr z1) z2 (by rw [f6]; exact z3) (by rw [f6]; exact z4))
    by_cases cv : v ≤ b
    · have := ile.mp cv
      rw [if_pos cv]
      refine next τ b w hF1 hT2 rfl (fun _ _ _ => rfl) (fun j hj => ?_) ?_
      · show (τ.1 48 j).toInt = _
        rw [c48]; exact hw j hj
      · show (if b.toInt < cOrd N V nr I p then _ else _) = _
        rw [if_neg (by omega)]
    · have := nile cv
      rw [if_neg cv]
      have eS : g_X7_choose τ = sA τ 48 (va_cpy (τ.1 47) (τ.1 48) (ix 0) (ix 0) (ix 6)) := rfl
      refine next (g_X7_choose τ) v p (hF1.tr (by rw [eS]; exact zFr.rf.wA (by decide))) (by rw [eS]; exact hT2.ws (by decide)) (by rw [eS]; exact c_sA_ne (by decide)) (fun j h1 h2 => by rw [eS]; exact c_sA_ne (by omega)) (fun j hj => ?_) ?_
      · rw [eS, gi_sA]
        have z0 : ix 0 = 0 := rfl
        have z6 : ix 6 = 6 := rfl
        unfold va_cpy
        rw [z0, z6, if_pos (by omega), show 0 + (j - 0) = j by omega, hL2.2 j (by omega), ← k1, gd_take hj]
      · show (if b.toInt < cOrd N V nr I p then _ else _) = _
        rw [if_pos (by omega), ← hv']
