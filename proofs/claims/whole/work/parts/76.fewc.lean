/-! fewest: picks; the class -/
def npkL (nt : Nat) : List Int → Nat → Option Nat × List Int
  | L, 0 => (none, L)
  | L, k + 1 => if (nt : Int) ≤ gd L k + 1 then npkL nt (L.set k 0) k else (some k, L.set k (gd L k + 1))
def pkT (f : List Int → List (List Int)) (pre : List Int) : Nat → Nat → List (List Int)
  | 0, _ => []
  | m + 1, t => f (pre ++ [(t : Int)]) ++ pkT f pre m (t + 1)
def pkL (nt : Nat) : Nat → List Int → List (List Int)
  | 0, pre => [pre]
  | k + 1, pre => pkT (pkL nt k) pre nt 0
def flL (nt : Nat) : Nat → Nat → List (Nat × List Int)
  | 0, _ => []
  | j + 1, m => (pkL nt m []).map (fun p => (m, p)) ++ flL nt j (m + 1)
def chkF (nt lg : Nat) : Nat → List Int → List (Nat × List Int) → Bool
  | _, _, [] => false
  | m, L, q :: r => decide (m = q.1) && decide (m ≤ lg) && okL L && decide (L.take m = q.2) && okP nt q.2 && (match npkL nt L m with
    | (some c, L') => decide (c < m) && decide (L'.take c = L.take c) && chkF nt lg m L' r
    | (none, L') => if lg < m + 1 then r.isEmpty else chkF nt lg (m + 1) L' r)
def lgF (nt : Nat) : Nat := if nt = 0 then 0 else 5
theorem chkF_all : ∀ nt, nt < 6 → chkF nt (lgF nt) 0 [0, 0, 0, 0, 0, 0] (flL nt 6 0) = true ∧ (flL nt 6 0).length ≤ 3906 := by decide +kernel
def fndF (c : List Int → Int) (w : Int) : List (Nat × List Int) → Option (Nat × List Int)
  | [] => none
  | q :: r => if w ≤ c q.2 then some q else fndF c w r
theorem chkF_s {nt lg m : Nat} {L : List Int} {q : Nat × List Int} {r : List (Nat × List Int)} (h : chkF nt lg m L (q :: r) = true) : m = q.1 ∧ m ≤ lg ∧ L.length = 6 ∧ L.take m = q.2 ∧ (∀ b, b ∈ q.2 → 0 ≤ b ∧ b < nt) ∧ (∀ c L', npkL nt L m = (some c, L') → c < m ∧ L'.take c = L.take c ∧ chkF nt lg m L' r = true) ∧ (∀ L', npkL nt L m = (none, L') → (lg < m + 1 ∧ r = []) ∨ (m + 1 ≤ lg ∧ chkF nt lg (m + 1) L' r = true)) := by
  unfold chkF at h
  rw [Bool.and_eq_true, Bool.and_eq_true, Bool.and_eq_true, Bool.and_eq_true, Bool.and_eq_true] at h
  obtain ⟨⟨⟨⟨⟨h1, h2⟩, h3⟩, h4⟩, h5⟩, h6⟩ := h
  refine ⟨of_decide_eq_true h1, of_decide_eq_true h2, ?_, of_decide_eq_true h4, fun b hb => ?_, fun c L' e => ?_, fun L' e => ?_⟩
  · unfold okL at h3
    rw [Bool.and_eq_true] at h3
    exact of_decide_eq_true h3.1
  · have := List.all_eq_true.mp h5 b hb
    rw [Bool.and_eq_true] at this
    exact ⟨of_decide_eq_true this.1, of_decide_eq_true this.2⟩
  · rw [e] at h6
    dsimp only at h6
    rw [Bool.and_eq_true, Bool.and_eq_true] at h6
    exact ⟨of_decide_eq_true h6.1.1, of_decide_eq_true h6.1.2, h6.2⟩
  · rw [e] at h6
    dsimp only at h6
    by_cases c : lg < m + 1
    · rw [if_pos c] at h6
      exact Or.inl ⟨c, List.isEmpty_iff.mp h6⟩
    · rw [if_neg c] at h6
      exact Or.inr ⟨by omega, h6⟩
theorem chkF_ne {nt lg m : Nat} {L : List Int} {r : List (Nat × List Int)} (h : chkF nt lg m L r = true) : r ≠ [] := by
  intro e
  rw [e] at h
  unfold chkF at h
  exact absurd h (by decide)
theorem PLf.set {f : Nat → Int32} {L : List Int} {k : Nat} {v : Int32} {x : Int} (h : PLf f L) (hk : k < 6) (hv : v.toInt = x) : PLf (upd f k v) (L.set k x) := by
  refine ⟨by rw [List.length_set]; exact h.1, fun j hj => ?_⟩
  rw [gd_set (by rw [h.1]; exact hk)]
  by_cases e : j = k
  · rw [e, upd_at, if_pos rfl]; exact hv
  · rw [upd_ne _ _ e, if_neg e]; exact h.2 j hj
theorem lp_nextPick {X : zX} {d : Nat} {Q : Option Value → zH → Prop} (σ : zS) (nt : Nat) (hnt : (gi σ 1 2).toInt = nt) (h8 : nt ≤ 8) (m : Int32) : ∀ (k : Nat) (f : Nat → Int32) (L : List Int) (p : Int32), PLf f L → (∀ j, j < k → 0 ≤ gd L j ∧ gd L j ≤ 100) → p.toInt = (k : Int) - 1 → k ≤ 6 → (∀ g L', npkL nt L k = (none, L') → PLf g L' → Q (some (.int (-1))) (zen (sA σ 47 g))) → (∀ c L' (v : Int32) g, npkL nt L k = (some c, L') → v.toInt = c → PLf g L' → Q (some (.int v)) (zen (sA σ 47 g))) → zwp X d MX7_nextPick 4 [.ref 45, .int m, .int p] [] (zen (sA σ 47 f)) Q := by
  intro k
  have e0 := l0
  have e1 := l1
  have em1 := lm1
  induction k with
  | zero =>
    intro f L p hL hb hp hk hQ1 hQ2
    rw [b_X7_nextPick_4, if_pos (il.mpr (by omega))]
    exact hQ1 f L rfl hL
  | succ k ih =>
    intro f L p hL hb hp hk hQ1 hQ2
    have ip : ix p = k := by rw [ix_t]; omega
    have zp : zin p 6 = true := zin_of (by omega) (by omega)
    have hf := hL.2 k (by omega)
    have hbk := hb k (by omega)
    have ef : (f k + 1).toInt = gd L k + 1 := by rw [t_add (by omega), e1, hf]
    unfold npkL at hQ1 hQ2
    rw [b_X7_nextPick_4, if_neg (fun y => by have := il.mp y; omega), ztrue_and zp, ztrue_and zp, ztrue_and zp, ip, gi_sA, si_sA, gi_sA, upd_at, gi_sA_ne (by decide), si_sA]
    by_cases c : gi σ 1 2 ≤ f k + 1
    · have := ile.mp c
      rw [if_pos (by omega)] at hQ1 hQ2
      rw [if_pos c, ztrue_and zp]
      have hu : upd (upd f k (f k + 1)) k 0 = upd f k 0 := by
        funext j
        by_cases e : j = k
        · rw [e, upd_at, upd_at]
        · rw [upd_ne _ _ e, upd_ne _ _ e, upd_ne _ _ e]
      rw [hu]
      refine ih _ (L.set k 0) (p + (-1)) (hL.set (by omega) e0) (fun j hj => ?_) (by rw [t_add (by omega), em1]; omega) (by omega) hQ1 hQ2
      rw [gd_set (by rw [hL.1]; omega), if_neg (by omega)]
      exact hb j (by omega)
    · have := nile c
      rw [if_neg (by omega)] at hQ2
      rw [if_neg c]
      exact hQ2 k _ p _ rfl (by omega) (hL.set (by omega) ef)
theorem lp_fill47 {X : zX} {d : Nat} {Q : Option Value → zH → Prop} (σ : zS) : ∀ (n : Nat) (f : Nat → Int32) (i : Int32), 0 ≤ i.toInt → i.toInt + n = 6 → (∀ j : Nat, (j : Int) < i.toInt → f j = 0) → (∀ g : Nat → Int32, PLf g [0, 0, 0, 0, 0, 0] → Q none (zen (sA σ 47 g))) → zwp X d MJ7_fill_53178 5 [.ref 47, .int 0, .int i, .int 6] [] (zen (sA σ 47 f)) Q := by
  intro n
  have e1 := l1
  have e6 := l6
  induction n with
  | zero =>
    intro f i h0 hn hf hQ
    rw [b_J7_fill_53178_47_5, if_pos (ile.mpr (by omega))]
    refine hQ f ⟨rfl, fun j hj => ?_⟩
    rw [hf j (by omega)]
    match j, hj with
    | 0, _ => rfl
    | 1, _ => rfl
    | 2, _ => rfl
    | 3, _ => rfl
    | 4, _ => rfl
    | 5, _ => rfl
  | succ n ih =>
    intro f i h0 hn hf hQ
    have ei : (i + 1).toInt = i.toInt + 1 := by rw [t_add (by omega), e1]
    have iz : zin i 6 = true := zin_of h0 (by omega)
    have ii := ix_t i
    rw [b_J7_fill_53178_47_5, if_neg (fun y => by have := ile.mp y; omega), ztrue_and iz, si_sA]
    refine ih _ (i + 1) (by omega) (by omega) (fun j hj => ?_) hQ
    by_cases e : j = ix i
    · rw [e, upd_at]
    · rw [upd_ne _ _ e]; exact hf j (by omega)
theorem okL_b {nt lg m : Nat} {L : List Int} {q : Nat × List Int} {r : List (Nat × List Int)} (h : chkF nt lg m L (q :: r) = true) : ∀ j, j < 6 → 0 ≤ gd L j ∧ gd L j ≤ 100 := by
  unfold chkF at h
  rw [Bool.and_eq_true, Bool.and_eq_true, Bool.and_eq_true, Bool.and_eq_true, Bool.and_eq_true] at h
  have h3 := h.1.1.1.2
  unfold okL at h3
  rw [Bool.and_eq_true] at h3
  have hl := of_decide_eq_true h3.1
  intro j hj
  have hm : gd L j ∈ L := by rw [← gd_get (show j < L.length by omega)]; exact List.getElem_mem _
  have := List.all_eq_true.mp h3.2 _ hm
  rw [Bool.and_eq_true] at this
  have a1 := of_decide_eq_true this.1
  have a2 := of_decide_eq_true this.2
  omega
theorem lp_fewC {X : zX} {d : Nat} {Q : Option Value → zH → Prop} (hd : 8 ≤ d) {nr nt lg : Nat} {N : Nat → Nat → Int} {V : zV} {I : Nat → Int} (hR : HallR nr nt N) (hI : IceR I) (wt lgi : Int32) (hlg : lgi.toInt = lg) (hlg5 : lg ≤ 5) : ∀ (r : List (Nat × List Int)) (σ : zS) (L : List Int) (m c t : Int32) (mm : Nat), ThB σ nr nt N V I → PLf (σ.1 47) L → m.toInt = mm → ((r = [] ∧ lg < mm) ∨ (chkF nt lg mm L r = true ∧ ∃ cc : Nat, c.toInt = cc ∧ cc ≤ mm ∧ BH σ N (gG V N (-1) nr) I L cc)) → mm ≤ 6 → 0 ≤ t.toInt → t.toInt + r.length ≤ 3906 →
    (fndF (cOrd N V nr I) wt.toInt r = none → ∀ τ : zS, zFr SO FO σ τ → ThB τ nr nt N V I → Q (some (.int (-2))) (zen τ)) → (∀ q, fndF (cOrd N V nr I) wt.toInt r = some q → ∀ (v : Int32) (τ : zS), zFr SO FO σ τ → ThB τ nr nt N V I → q.1 ≤ 5 → v.toInt = q.1 → (∀ j, j < q.1 → (gi τ 48 j).toInt = gd q.2 j) → Q (some (.int v)) (zen τ)) →
    zwp X d MX7_fewestFor 45 [.ref 45, .int wt, .int lgi, .int m, .int c, .int t] [] (zen σ) Q := by
  intro r
  have e0 := l0
  have e1 := l1
  have e3906 : (3906 : Int32).toInt = 3906 := rfl
  induction r with
  | nil =>
    intro σ L m c t mm hT hL hm hr hm6 ht0 ht hQ1 hQ2
    have hc : lg < mm := by
      rcases hr with q | q
      · exact q.2
      · exact absurd rfl (chkF_ne q.1)
    rw [b_X7_fewestFor_45 (hd := by omega)]
    by_cases c1 : 3906 ≤ t
    · rw [if_pos c1]; exact hQ1 rfl σ zFr.rf hT
    · rw [if_neg c1, if_pos (il.mpr (by omega))]; exact hQ1 rfl σ zFr.rf hT
  | cons p r ih =>
    intro σ L m c t mm hT hL hm hr hm6 ht0 ht hQ1 hQ2
    rw [List.length_cons] at ht
    have hr2 : chkF nt lg mm L (p :: r) = true ∧ ∃ cc : Nat, c.toInt = cc ∧ cc ≤ mm ∧ BH σ N (gG V N (-1) nr) I L cc := by
      rcases hr with q | q
      · exact absurd q.1 (by simp)
      · exact q
    obtain ⟨hk, cc, hcc, hcn, hB⟩ := hr2
    obtain ⟨k1, k2, k3, k4, k5, k6, k7⟩ := chkF_s hk
    have kb := okL_b hk
    have et : (t + 1).toInt = t.toInt + 1 := by rw [t_add (by omega), e1]
    have em : (m + 1).toInt = (mm + 1 : Nat) := by rw [t_add (by omega), e1]; omega
    rw [b_X7_fewestFor_45 (hd := by omega), if_neg (fun y => by have := ile.mp y; omega), if_neg (fun y => by have := il.mp y; omega)]
    refine w_X7_playFrom (by omega) hR hI hcc hm hcn (by omega) (by rw [k4]; exact k5) hT hL hB (fun τ hF hT2 hB2 => ?_)
    show zwp X d MX7_fewestFor 65 _ [] (zen τ) Q
    have hF1 : zFr SO FO σ τ := hF.sub (fun q hq => by simp at hq ⊢; omega) (fun q hq => Or.inl hq)
    have hL2 : PLf (τ.1 47) L := by rw [hF.c (by decide) (by decide)]; exact hL
    have i7 : zin m 7 = true := zin_of (by omega) (by omega)
    have inx : ix m = mm := by rw [ix_t]; omega
    have hBn := hB2 mm (Nat.le_refl _)
    rw [k4] at hBn
    have hJ : IceR (play N (gG V N (-1) nr) p.2 I) := play_R hR p.2 I (fun b hb => Or.inr (k5 b hb)) hI
    rw [b_X7_fewestFor_65 (hd := by omega), ztrue_and i7, inx]
    refine w_X2_carries (by omega) (zB_all mm (by omega)) hT2.1 hR (by rw [show 49 + 2 * mm + 1 = 50 + 2 * mm by omega]; exact hBn) hJ (by rw [e0]; omega) (fun v hv => ?_)
    rw [e0, Int.zero_mul] at hv
    have hv' : v.toInt = cOrd N V nr I p.2 := hv
    show zwp X d MX7_fewestFor 79 _ [.int v] (zen τ) Q
    rw [b_X7_fewestFor_79 (hd := by omega)]
    unfold fndF at hQ1 hQ2
    by_cases cv : v < wt
    · have := il.mp cv
      rw [if_neg (show ¬ wt.toInt ≤ cOrd N V nr I p.2 by omega)] at hQ1 hQ2
      rw [if_pos cv, b_X7_nextPick_0]
      have hnt := hT2.1.2.1
      have np := lp_nextPick (X := X) (d := d - 1) (Q := fun u h' => zwp X d MX7_fewestFor 94 [.ref 45, .int wt, .int lgi, .int m, .int c, .int t] (zpsh u []) h' Q) τ nt hnt hR.2.1 m mm (τ.1 47) L (m - 1) hL2 (fun j hj => kb j (by omega)) (by rw [t_sub (by omega), e1]; omega) (by omega)
      rw [sA_self] at np
      have hFg : ∀ g, zFr SO FO τ (sA τ 47 g) := fun g => zFr.rf.wA (by decide)
      refine np (fun g L' e hg => ?_) (fun q L' u g e hu hg => ?_)
      · show zwp X d MX7_fewestFor 94 _ [.int (-1)] (zen (sA τ 47 g)) Q
        rw [b_X7_fewestFor_94, if_neg (by decide)]
        refine ih (sA τ 47 g) L' (m + 1) 0 (t + 1) (mm + 1) (hT2.ws (by decide)) (by rw [sA_1]; exact hg) em ?_ (by omega) (by omega) (by omega) (fun f1 ζ z1 z2 => hQ1 f1 ζ ((hF1.tr (hFg g)).tr z1) z2) (fun q f1 v ζ z1 z2 z3 z4 z5 => hQ2 q f1 v ζ ((hF1.tr (hFg g)).tr z1) z2 z3 z4 z5)
        rcases k7 L' e with y | y
        · exact Or.inl ⟨y.2, y.1⟩
        · exact Or.inr ⟨y.2, 0, e0, by omega, hB2.c (L' := L') (q := 0) (by omega) (by omega) (by rw [List.take_zero, List.take_zero]) (fun j h1 h2 => by rw [c_sA_ne (by omega)])⟩
      · show zwp X d MX7_fewestFor 94 _ [.int u] (zen (sA τ 47 g)) Q
        rw [b_X7_fewestFor_94, if_pos (ile.mpr (by omega))]
        obtain ⟨y1, y2, y3⟩ := k6 q L' e
        exact ih (sA τ 47 g) L' m u (t + 1) mm (hT2.ws (by decide)) (by rw [sA_1]; exact hg) hm (Or.inr ⟨y3, q, hu, by omega, hB2.c (by omega) (by omega) y2 (fun j h1 h2 => by rw [c_sA_ne (by omega)])⟩) (by omega) (by omega) (by omega) (fun f1 ζ z1 z2 => hQ1 f1 ζ ((hF1.tr (hFg g)).tr z1) z2) (fun q f1 v ζ z1 z2 z3 z4 z5 => hQ2 q f1 v ζ ((hF1.tr (hFg g)).tr z1) z2 z3 z4 z5)
    · have := nil_ cv
      rw [if_pos (show wt.toInt ≤ cOrd N V nr I p.2 by omega)] at hQ2
      rw [if_neg cv]
      have eS : g_X7_choose τ = sA τ 48 (va_cpy (τ.1 47) (τ.1 48) (ix 0) (ix 0) (ix 6)) := rfl
      refine hQ2 p rfl m (g_X7_choose τ) (hF1.tr (by rw [eS]; exact zFr.rf.wA (by decide))) (by rw [eS]; exact hT2.ws (by decide)) (by omega) (by omega) (fun j hj => ?_)
      rw [eS, gi_sA]
      have z0 : ix 0 = 0 := rfl
      have z6 : ix 6 = 6 := rfl
      unfold va_cpy
      rw [z0, z6, if_pos (by omega), show 0 + (j - 0) = j by omega, hL2.2 j (by omega), ← k4, gd_take (by omega)]
theorem w_X7_fewestFor {X : zX} {d : Nat} {Q : Option Value → zH → Prop} (hd : 8 ≤ d) {σ : zS} {nr nt : Nat} {N : Nat → Nat → Int} {V : zV} {I : Nat → Int} {wt : Int32} (hR : HallR nr nt N) (hI : IceR I) (hn5 : nt ≤ 5) (hT : ThB σ nr nt N V I)
    (hQ1 : fndF (cOrd N V nr I) wt.toInt (flL nt 6 0) = none → ∀ τ : zS, zFr SO FO σ τ → ThB τ nr nt N V I → Q (some (.int (-2))) (zen τ)) (hQ2 : ∀ q, fndF (cOrd N V nr I) wt.toInt (flL nt 6 0) = some q → ∀ (v : Int32) (τ : zS), zFr SO FO σ τ → ThB τ nr nt N V I → q.1 ≤ 5 → v.toInt = q.1 → (∀ j, j < q.1 → (gi τ 48 j).toInt = gd q.2 j) → Q (some (.int v)) (zen τ)) :
    zwp X d MX7_fewestFor 0 [.ref 45, .int wt, .null, .null, .null, .null] [] (zen σ) Q := by
  have e0 : ix 0 = 0 := rfl
  have e00 := l0
  have e5 := l5
  have ck := chkF_all nt (by omega)
  rw [b_X7_fewestFor_0 (hd := by omega), e0, b_J7_fill_53178_47_0]
  have eS : g_X2_become σ (49 + 2 * 0) 18 = sA σ 50 (va_cpy (σ.1 19) (σ.1 50) (ix 0) (ix 0) (ix 16)) := rfl
  have hT1 : ThB (g_X2_become σ (49 + 2 * 0) 18) nr nt N V I := by rw [eS]; exact hT.ws (by decide)
  have hice : IceAt ((g_X2_become σ (49 + 2 * 0) 18).1 50) I := become_ice (a := 49) (b := 18) hT.2.2.2
  have hF : zFr SO FO σ (g_X2_become σ (49 + 2 * 0) 18) := by rw [eS]; exact zFr.rf.wA (by decide)
  generalize g_X2_become σ (49 + 2 * 0) 18 = σ1 at hT1 hice hF ⊢
  have := lp_fill47 (X := X) (d := d - 1) (Q := fun v h' => zwp X d MX7_fewestFor 21 [.ref 45, .int wt, .null, .null, .null, .null] (zpsh v []) h' Q) σ1 6 (σ1.1 47) 0 (by decide) (by decide) (fun j hj => by omega)
  rw [sA_self] at this
  refine this (fun g hg => ?_)
  show zwp X d MX7_fewestFor 21 _ [] (zen (sA σ1 47 g)) Q
  have hFg : zFr SO FO σ (sA σ1 47 g) := hF.tr (zFr.rf.wA (by decide))
  have hTg : ThB (sA σ1 47 g) nr nt N V I := hT1.ws (by decide)
  have hBg : BH (sA σ1 47 g) N (gG V N (-1) nr) I [0, 0, 0, 0, 0, 0] 0 := fun q hq => by
    have q0 : q = 0 := by omega
    subst q0
    rw [c_sA_ne (by decide)]
    exact hice
  have hnt := hTg.1.2.1
  have hPg : PLf ((sA σ1 47 g).1 47) [0, 0, 0, 0, 0, 0] := by rw [sA_1]; exact hg
  generalize sA σ1 47 g = σ2 at hFg hTg hBg hnt hPg ⊢
  rw [b_X7_fewestFor_21]
  unfold lgF at ck
  by_cases c : nt = 0
  · rw [if_pos c] at ck
    rw [if_neg (fun y => y (ieq.mpr (by omega)))]
    exact lp_fewC hd hR hI wt 0 (lg := 0) e00 (by omega) (flL nt 6 0) σ2 [0, 0, 0, 0, 0, 0] 0 0 0 0 hTg hPg e00 (Or.inr ⟨ck.1, 0, e00, by omega, hBg⟩) (by omega) (by omega) (by have := ck.2; omega) (fun f1 ζ z1 z2 => hQ1 f1 ζ (hFg.tr z1) z2) (fun q f1 v ζ z1 z2 z3 z4 z5 => hQ2 q f1 v ζ (hFg.tr z1) z2 z3 z4 z5)
  · rw [if_neg c] at ck
    rw [if_pos (fun y => c (by have := congrArg Int32.toInt y; omega))]
    exact lp_fewC hd hR hI wt 5 (lg := 5) e5 (by omega) (flL nt 6 0) σ2 [0, 0, 0, 0, 0, 0] 0 0 0 0 hTg hPg e00 (Or.inr ⟨ck.1, 0, e00, by omega, hBg⟩) (by omega) (by omega) (by have := ck.2; omega) (fun f1 ζ z1 z2 => hQ1 f1 ζ (hFg.tr z1) z2) (fun q f1 v ζ z1 z2 z3 z4 z5 => hQ2 q f1 v ζ (hFg.tr z1) z2 z3 z4 z5)
