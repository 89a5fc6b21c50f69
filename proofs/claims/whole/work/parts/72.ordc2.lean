/-! orders: the class -/
theorem lp_digC {X : zX} {d : Nat} {Q : Option Value → zH → Prop} {σ : zS} {L : List Int} (hL : PLf (σ.1 47) L) (n : Int32) (nn : Nat) (hn : n.toInt = nn) (hn6 : nn ≤ 6) : ∀ (k : Nat) (a i : Int32) (ii : Nat), i.toInt = ii → ii + k = nn → (∀ v : Int32, v = Int32.ofInt (digF ((L.take nn).drop ii) a.toInt) → Q (some (.int v)) (zen σ)) → zwp X d MX7_asDigits 4 [.ref 45, .int n, .int a, .int i] [] (zen σ) Q := by
  intro k
  have e1 := l1
  induction k with
  | zero =>
    intro a i ii hi hk hQ
    rw [b_X7_asDigits_4, if_pos (ile.mpr (by omega))]
    refine hQ a ?_
    rw [List.drop_eq_nil_of_le (by rw [List.length_take]; omega)]
    exact (oi_t a).symm
  | succ k ih =>
    intro a i ii hi hk hQ
    have ei : (i + 1).toInt = (ii + 1 : Nat) := by rw [t_add (by omega), e1]; omega
    have zi : zin i 6 = true := zin_of (by omega) (by omega)
    have iI : ix i = ii := by rw [ix_t]; omega
    have g1 : (gi σ 47 ii).toInt = gd L ii := hL.2 ii (by omega)
    have h6 := hL.1
    rw [b_X7_asDigits_4, if_neg (fun y => by have := ile.mp y; omega), ztrue_and zi, iI]
    refine ih _ (i + 1) (ii + 1) ei (by omega) (fun v hv => hQ v ?_)
    have hlen : ii < (L.take nn).length := by rw [List.length_take]; omega
    rw [hv, List.drop_eq_getElem_cons hlen]
    have hx : (L.take nn)[ii] = gd L ii := by rw [gd_get hlen, gd_take (by omega)]
    rw [hx]
    refine digF_mod _ (x := (a * 10 + gi σ 47 ii).toInt) (y := a.toInt * 10 + gd L ii) ?_
    rw [oi_t, Int32.ofInt_add, Int32.ofInt_mul, oi_t, ← g1, oi_t]
    rfl
theorem lp_ordsC {X : zX} {d : Nat} {Q : Option Value → zH → Prop} (hd : 8 ≤ d) {nr nt s : Nat} {e : Nat → Int} {z : Int} {N : Nat → Nat → Int} {V : zV} {I : Nat → Int} (hR : HallR nr nt N) (hI : IceR I) (hn6 : nt ≤ 6) (hs : s < 6) (half n : Int32) (hn : n.toInt = nt) : ∀ (r : List (List Int)) (σ : zS) (L : List Int) (m f c t : Int32), Seen σ s e z → ThB σ nr nt N V I → PLf (σ.1 47) L → ((r = [] ∧ c.toInt < 0) ∨ (chkO nt L r = true ∧ ∃ cc : Nat, c.toInt = cc ∧ cc ≤ nt ∧ BH σ N (gG V N (-1) nr) I L cc)) → 0 ≤ t.toInt → t.toInt + r.length ≤ 720 → 0 ≤ m.toInt → m.toInt ≤ t.toInt →
    (∀ (v : Int32) (τ : zS), zFr SO FO σ τ → ThB τ nr nt N V I → v.toInt = half2 half.toInt (likeF (uOrd N V nr I e z) r m.toInt f.toInt) → Q (some (.int v)) (zen τ)) →
    zwp X d MX7_ordersThatMake 24 [.ref 45, .ref (29 + 2 * s), .int half, .int n, .int m, .int f, .int c, .int t] [] (zen σ) Q := by
  intro r
  have hzS : zisS (29 + 2 * s) = true := zS_all s hs
  have e0 := l0
  have e1 := l1
  have e720 : (720 : Int32).toInt = 720 := rfl
  induction r with
  | nil =>
    intro σ L m f c t hS hT hL hr ht0 ht hm0 hmt hQ
    have hc : c.toInt < 0 := by
      rcases hr with q | q
      · exact q.2
      · exact absurd rfl (chkO_ne q.1)
    have fin : (if ¬ half = 0 then Q (some (.int f)) (zen σ) else Q (some (.int m)) (zen σ)) := by
      unfold half2 at hQ
      by_cases ch : half = 0
      · rw [if_neg (fun y => y ch)]
        exact hQ m σ zFr.rf hT (by rw [if_pos (by rw [ch]; rfl)]; rfl)
      · rw [if_pos ch]
        exact hQ f σ zFr.rf hT (by rw [if_neg (fun y => ch (ieq.mpr (by rw [y]; rfl)))]; rfl)
    rw [b_X7_ordersThatMake_24 (hd := by omega) (hl1 := hzS)]
    by_cases c1 : 720 ≤ t
    · rw [if_pos c1]; exact fin
    · rw [if_neg c1, if_pos (il.mpr (by omega))]; exact fin
  | cons p r ih =>
    intro σ L m f c t hS hT hL hr ht0 ht hm0 hmt hQ
    rw [List.length_cons] at ht
    have hr2 : chkO nt L (p :: r) = true ∧ ∃ cc : Nat, c.toInt = cc ∧ cc ≤ nt ∧ BH σ N (gG V N (-1) nr) I L cc := by
      rcases hr with q | q
      · exact absurd q.1 (by simp)
      · exact q
    obtain ⟨hk, cc, hcc, hcn, hB⟩ := hr2
    obtain ⟨k1, k2, k3, k4⟩ := chkO_s hk
    have et : (t + 1).toInt = t.toInt + 1 := by rw [t_add (by omega), e1]
    have em1 : (m + 1).toInt = m.toInt + 1 := by rw [t_add (by omega), e1]
    rw [b_X7_ordersThatMake_24 (hd := by omega) (hl1 := hzS), if_neg (fun y => by have := ile.mp y; omega), if_neg (fun y => by have := il.mp y; omega)]
    refine w_X7_playFrom (by omega) hR hI hcc hn hcn hn6 (by rw [k1]; exact k2) hT hL hB (fun τ hF hT2 hB2 => ?_)
    show zwp X d MX7_ordersThatMake 44 _ [] (zen τ) Q
    have hF1 : zFr SO FO σ τ := hF.sub (fun q hq => by simp at hq ⊢; omega) (fun q hq => Or.inl hq)
    have hL2 : PLf (τ.1 47) L := by rw [hF.c (by decide) (by decide)]; exact hL
    have hS2 : Seen τ s e z := hS.zfr hs hF (by decide)
    have i7 : zin n 7 = true := zin_of (by omega) (by omega)
    have inx : ix n = nt := by rw [ix_t]; omega
    have hBn := hB2 nt (Nat.le_refl _)
    rw [k1] at hBn
    rw [b_X7_ordersThatMake_44 (hd := by omega) (hl1 := hzS), ztrue_and i7, inx]
    refine w_X8_firstUnlike hs (zB_all nt (by omega)) hS2 (J := play N (gG V N (-1) nr) p I) (by rw [show 49 + 2 * nt + 1 = 50 + 2 * nt by omega]; exact hBn) (long := N 6 0) (by rw [f_planks]; exact hT2.1.long) hR.long (fun u hu => ?_)
    have hu' : u.toInt = uOrd N V nr I e z p := hu
    show zwp X d MX7_ordersThatMake 61 _ [.int u] (zen τ) Q
    rw [b_X7_ordersThatMake_61 (hd := by omega) (hl1 := hzS)]
    have next : ∀ (m' f' : Int32), 0 ≤ m'.toInt → m'.toInt ≤ t.toInt + 1 → likeF (uOrd N V nr I e z) (p :: r) m.toInt f.toInt = likeF (uOrd N V nr I e z) r m'.toInt f'.toInt → zwp X (d - 1) MX7_nextOrder 0 [.ref 45, .int n, .null, .null, .null, .null] [] (zen τ) (fun v h' => zwp X d MX7_ordersThatMake 91 [.ref 45, .ref (29 + 2 * s), .int half, .int n, .int m', .int f', .int c, .int t] (zpsh v []) h' Q) := by
      intro m' f' f1 f2 f6
      refine w_X7_nextOrder (by omega) (L := L) hL2 hn hn6 (fun hno => ?_) (fun q L' hso v g hv hg => ?_)
      · show zwp X d MX7_ordersThatMake 91 _ [.int (-1)] (zen τ) Q
        rw [b_X7_ordersThatMake_91 (hl1 := hzS)]
        exact ih τ L m' f' (-1) (t + 1) hS2 hT2 hL2 (Or.inl ⟨k3 hno, by decide⟩) (by omega) (by omega) f1 (by omega) (fun x ζ z1 z2 z3 => hQ x ζ (hF1.tr z1) z2 (by rw [f6]; exact z3))
      · show zwp X d MX7_ordersThatMake 91 _ [.int v] (zen (sA τ 47 g)) Q
        rw [b_X7_ordersThatMake_91 (hl1 := hzS)]
        obtain ⟨y1, y2, y3⟩ := k4 q L' hso
        have hFg : zFr SO FO τ (sA τ 47 g) := zFr.rf.wA (by decide)
        exact ih (sA τ 47 g) L' m' f' v (t + 1) (hS2.zfr hs hFg (by decide)) (hT2.ws (by decide)) (by rw [sA_1]; exact hg) (Or.inr ⟨y3, q, hv, by omega, hB2.c (by omega) hn6 y2 (fun j h1 h2 => by rw [c_sA_ne (by omega)])⟩) (by omega) (by omega) f1 (by omega) (fun x ζ z1 z2 z3 => hQ x ζ ((hF1.tr hFg).tr z1) z2 (by rw [f6]; exact z3))
    by_cases cu : u = -2
    · have hc2 : uOrd N V nr I e z p = -2 := by rw [← hu', cu]; rfl
      rw [if_neg (fun y => y cu)]
      by_cases cm : m = 0
      · have cm' : m.toInt = 0 := by rw [cm]; rfl
        rw [if_neg (fun y => y cm), b_X7_asDigits_0]
        refine lp_digC hL2 n nt hn hn6 nt 0 0 0 (by omega) (by omega) (fun v hv => ?_)
        show zwp X d MX7_ordersThatMake 76 _ [.int v] (zen τ) Q
        rw [b_X7_ordersThatMake_76 (hd := by omega) (hl1 := hzS)]
        refine next (m + 1) v (by omega) (by omega) ?_
        rw [em1, hv, List.drop_zero, k1]
        show (if uOrd N V nr I e z p = -2 then _ else _) = _
        rw [if_pos hc2, if_pos cm']
        rfl
      · have cm' : ¬ m.toInt = 0 := fun y => cm (ieq.mpr (by rw [y]; rfl))
        rw [if_pos cm]
        refine next (m + 1) f (by omega) (by omega) ?_
        rw [em1]
        show (if uOrd N V nr I e z p = -2 then _ else _) = _
        rw [if_pos hc2, if_neg cm']
    · have hc2 : ¬ uOrd N V nr I e z p = -2 := fun y => cu (ieq.mpr (by rw [hu', y]; rfl))
      rw [if_pos cu]
      refine next m f hm0 (by omega) ?_
      show (if uOrd N V nr I e z p = -2 then _ else _) = _
      rw [if_neg hc2]
