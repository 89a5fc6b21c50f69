/-! ice seen: judge, warm -/
def unlI (e J : Nat → Int) : Nat → Nat → Int
  | 0, _ => -2
  | n + 1, p => if e p = J p then unlI e J n (p + 1) else p
/-- the first plank that is not as seen -/
def unl (e : Nat → Int) (z long : Int) (J : Nat → Int) : Int := unlI e J (min z long).toNat 0
theorem unlI_b (e J : Nat → Int) : ∀ (n p : Nat), unlI e J n p = -2 ∨ 0 ≤ unlI e J n p := by
  intro n
  induction n with
  | zero => intro p; exact Or.inl rfl
  | succ n ih =>
    intro p
    unfold unlI
    split
    · exact ih (p + 1)
    · exact Or.inr (by omega)
def Seen (σ : zS) (s : Nat) (e : Nat → Int) (z : Int) : Prop := 0 ≤ z ∧ z ≤ 60 ∧ (gi σ (29 + 2 * s) 4).toInt = z ∧ (gi σ 96 s).toInt = z ∧ ∀ j, j < 60 → (gl σ (29 + 2 * s + 1) j).toInt = e j ∧ (gl σ 97 (60 * s + j)).toInt = e j ∧ -32768 ≤ e j ∧ e j ≤ 32767
theorem Seen.zfr {σ τ : zS} {s : Nat} {e : Nat → Int} {z : Int} {S : List Nat} {F : List (Nat × Nat)} (h : Seen σ s e z) (hs : s < 6) (hF : zFr S F σ τ) (hz : zdis S F [29, 30, 31, 32, 33, 34, 35, 36, 37, 38, 39, 40, 96, 97] [] = true) : Seen τ s e z := by
  have a1 : ∀ j, gi τ (29 + 2 * s) j = gi σ (29 + 2 * s) j := fun j => by show τ.1 _ j = _; rw [(zdis_c hz hF (k := 29 + 2 * s) (by simp; omega)).1]; rfl
  have a2 : ∀ j, gi τ 96 j = gi σ 96 j := fun j => by show τ.1 _ j = _; rw [(zdis_c hz hF (k := 96) (by decide)).1]; rfl
  have a3 : ∀ j, gl τ (29 + 2 * s + 1) j = gl σ (29 + 2 * s + 1) j := fun j => by show τ.2 _ j = _; rw [(zdis_c hz hF (k := 29 + 2 * s + 1) (by simp; omega)).2]; rfl
  have a4 : ∀ j, gl τ 97 j = gl σ 97 j := fun j => by show τ.2 _ j = _; rw [(zdis_c hz hF (k := 97) (by decide)).2]; rfl
  unfold Seen at *
  rw [a1, a2]
  exact ⟨h.1, h.2.1, h.2.2.1, h.2.2.2.1, fun j hj => by rw [a3, a4]; exact h.2.2.2.2 j hj⟩
abbrev seenE (σ : zS) (a : Int) : Nat → Int := fun j => (gl σ 97 (60 * a.toNat + j)).toInt
abbrev seenZ (σ : zS) (a : Int) : Int := (gi σ 96 a.toNat).toInt
theorem RS.shorts {σ : zS} (h : RS σ) {a : Int} (hr : refI σ a 1 = 0) : 0 ≤ a ∧ a < 6 ∧ Seen σ a.toNat (seenE σ a) (seenZ σ a) := by
  unfold refI at hr
  by_cases hc : a < 0 ∨ 6 ≤ a
  · rw [if_pos hc] at hr; omega
  · rw [if_neg hc] at hr
    have H := h a.toNat (by omega)
    by_cases h1 : (gi σ 95 a.toNat).toInt = -1
    · rw [if_pos h1] at hr; omega
    · rw [if_neg h1] at hr
      by_cases h2 : (gi σ 95 a.toNat).toInt = -2 - 1
      · rcases H.2.2.2.2 with q | q | q
        · exact absurd q.2 h1
        · have := congrArg Int32.toInt q.2.1; omega
        · have e0 : (gi σ (29 + 2 * a.toNat) 3).toInt = 1 := by omega
          have ez : (gi σ 96 a.toNat).toInt = (gi σ (29 + 2 * a.toNat) 4).toInt := congrArg Int32.toInt H.2.2.1
          refine ⟨by omega, by omega, by show 0 ≤ (gi σ 96 a.toNat).toInt; rw [ez]; exact H.1, by show (gi σ 96 a.toNat).toInt ≤ 60; rw [ez]; exact H.2.1, ez.symm, rfl, fun j hj => ⟨?_, rfl, q.2.2.2.2.2 e0 j hj⟩⟩
          rw [H.2.2.2.1 j hj]
      · rw [if_neg h2] at hr; omega
theorem seenE_fr {σ τ : zS} (hF : zFr SC1 FC1 σ τ) (a : Int) : seenE τ a = seenE σ a ∧ seenZ τ a = seenZ σ a := by
  constructor
  · funext j
    show (τ.2 97 _).toInt = _
    rw [hF.2 97 (by decide)]; rfl
  · show (τ.1 96 _).toInt = _
    rw [hF.c (k := 96) (by decide) (by decide)]; rfl
theorem lg_ci {x : Int64} {y : Int32} : lg_cmp x (Int32.toInt64 y) = 0 ↔ x.toInt = y.toInt := by
  rw [lgc_eq]
  constructor
  · intro h; rw [h, Int32.toInt_toInt64]
  · intro h; exact Int64.toInt_inj.mp (by rw [h, Int32.toInt_toInt64])
theorem lp_X8_firstUnlike {X : zX} {d : Nat} {Q : Option Value → zH → Prop} {σ : zS} {s : Nat} {e J : Nat → Int} {z : Int} {r2 : Nat} (hs : s < 6) (hzS : zisS (29 + 2 * s) = true) (hB : zisB r2 = true) (hS : Seen σ s e z) (hI : IceAt (σ.1 (r2 + 1)) J) (l2 m : Int32) (hm60 : m.toInt ≤ 60) (hm16 : m.toInt ≤ 16) : ∀ (n : Nat) (p : Int32), 0 ≤ p.toInt → p.toInt + n = m.toInt → (∀ v : Int32, v.toInt = unlI e J n p.toInt.toNat → Q (some (.int v)) (zen σ)) → zwp X d MX8_firstUnlike 12 [.ref (29 + 2 * s), .ref r2, .int l2, .int m, .int p] [] (zen σ) Q := by
  intro n
  induction n with
  | zero =>
    intro p h0 hn hQ
    rw [b_X8_firstUnlike_12 (hl0 := hzS) (hl1 := hB), if_pos (ile.mpr (by omega))]
    exact hQ _ rfl
  | succ n ih =>
    intro p h0 hn hQ
    have e1 := l1
    have ep : (p + 1).toInt = p.toInt + 1 := by rw [t_add (by omega), e1]
    have z1 : zin p 60 = true := zin_of h0 (by omega)
    have z2 : zin p 16 = true := zin_of h0 (by omega)
    have ix1 := ix_t p
    rw [b_X8_firstUnlike_12 (hl0 := hzS) (hl1 := hB), if_neg (fun q => by have := ile.mp q; omega), ztrue_and z1, ztrue_and z2]
    have hj := hS.2.2.2.2 p.toInt.toNat (by omega)
    have hJ : (gi σ (r2 + 1) p.toInt.toNat).toInt = J p.toInt.toNat := hI _ (by omega)
    unfold unlI at hQ
    by_cases c : lg_cmp (gl σ (29 + 2 * s + 1) (ix p)) (Int32.toInt64 (gi σ (r2 + 1) (ix p))) = 0
    · have := lg_ci.mp c
      rw [ix1, hj.1, hJ] at this
      rw [if_pos c]
      rw [if_pos this] at hQ
      refine ih (p + 1) (by omega) (by omega) (fun v hv => hQ v ?_)
      rw [hv, ep, show (p.toInt + 1).toNat = p.toInt.toNat + 1 by omega]
    · have h2 : ¬ e p.toInt.toNat = J p.toInt.toNat := fun q => c (lg_ci.mpr (by rw [ix1, hj.1, hJ, q]))
      rw [if_neg c]
      rw [if_neg h2] at hQ
      exact hQ p (by omega)
theorem w_X8_firstUnlike {X : zX} {d : Nat} {Q : Option Value → zH → Prop} {σ : zS} {s : Nat} {e J : Nat → Int} {z long : Int} {r2 : Nat} {l2 : Int32} (hs : s < 6) (hB : zisB r2 = true) (hS : Seen σ s e z) (hI : IceAt (σ.1 (r2 + 1)) J) (hl : l2.toInt = long) (hb : 2 ≤ long ∧ long ≤ 16) (hQ : ∀ v : Int32, v.toInt = unl e z long J → Q (some (.int v)) (zen σ)) : zwp X d MX8_firstUnlike 0 [.ref (29 + 2 * s), .ref r2, .int l2, .null, .null] [] (zen σ) Q := by
  have hzS : zisS (29 + 2 * s) = true := zS_all s hs
  have ez := hS.2.2.1
  have hm := t_zmn (gi σ (29 + 2 * s) 4) l2
  have e0 := l0
  have b1 := hS.1
  have b2 := hS.2.1
  rw [b_X8_firstUnlike_0 (h1 := hzS) (h2 := hB)]
  refine lp_X8_firstUnlike hs hzS hB hS hI l2 _ (by omega) (by omega) (min z long).toNat 0 (by omega) (by omega) (fun v hv => hQ v hv)
theorem w_X10_firstUnlike {X : zX} {d : Nat} {Q : Option Value → zH → Prop} (hd : 1 ≤ d) {σ : zS} {s : Nat} {e J : Nat → Int} {z : Int} {nr nt : Nat} {N : Nat → Nat → Int} (hs : s < 6) (hS : Seen σ s e z) (hH : HallC σ nr nt N) (hR : HallR nr nt N) (hI : IceAt (σ.1 44) J) (hQ : ∀ v : Int32, v.toInt = unl e z (N 6 0) J → Q (some (.int v)) (zen σ)) : zwp X d MX10_firstUnlike 0 [.ref 41, .ref (29 + 2 * s)] [] (zen σ) Q := by
  have hzS : zisS (29 + 2 * s) = true := zS_all s hs
  rw [b_X10_firstUnlike_0 (hd := hd) (h2 := hzS)]
  refine w_X8_firstUnlike hs zB_43 hS hI (long := N 6 0) hH.long hR.long (fun v hv => ?_)
  show zwp X d MX10_firstUnlike 15 _ [.int v] (zen σ) Q
  rw [b_X10_firstUnlike_15 (hl1 := hzS)]
  exact hQ v hv
theorem lp_X12_wrongSeen {X : zX} {d : Nat} {Q : Option Value → zH → Prop} (hd : 1 ≤ d) {σ : zS} {e J : Nat → Int} {z long : Int} (s : Int32) (hs : 0 ≤ s.toInt ∧ s.toInt < 6) (hS : Seen σ s.toInt.toNat e z) (hl : (gi σ 66 9).toInt = long) (hb : 2 ≤ long ∧ long ≤ 16) (hI : IceAt (σ.1 86) J) : ∀ (n : Nat) (p : Int32), 0 ≤ p.toInt → p.toInt + n = min z long → (∀ v : Int32, v.toInt = unlI e J n p.toInt.toNat → Q (some (.int v)) (zen σ)) → zwp X d MX12_wrongSeen 2 [.ref 66, .int s, .int p] [] (zen σ) Q := by
  intro n
  have zs : zin s 6 = true := zin_of hs.1 hs.2
  have is := ix_t s
  have ez := hS.2.2.2.1
  have b1 := hS.1
  have b2 := hS.2.1
  induction n with
  | zero =>
    intro p h0 hn hQ
    rw [b_X12_wrongSeen_2 (hd := hd), ztrue_and zs]
    by_cases c : gi σ 96 (ix s) ≤ p
    · rw [if_pos c]; exact hQ _ rfl
    · have := nile c
      rw [is] at this
      rw [if_neg c, if_pos (ile.mpr (by omega))]; exact hQ _ rfl
  | succ n ih =>
    intro p h0 hn hQ
    have e1 := l1
    have ep : (p + 1).toInt = p.toInt + 1 := by rw [t_add (by omega), e1]
    have z2 : zin p 16 = true := zin_of h0 (by omega)
    have ix1 := ix_t p
    have A := atp (σ := σ) hs (k := p) (by omega)
    have hj := hS.2.2.2.2 p.toInt.toNat (by omega)
    have hJ : (gi σ 86 p.toInt.toNat).toInt = J p.toInt.toNat := hI _ (by omega)
    have eb : (f_X12_at σ s p).toInt = e p.toInt.toNat := by rw [A.2, tq_l2i (by rw [hj.2.1]; omega), hj.2.1]
    rw [b_X12_wrongSeen_2 (hd := hd), ztrue_and zs, if_neg (fun q => by have := ile.mp q; rw [is] at this; omega), if_neg (fun q => by have := ile.mp q; omega), ztrue_and A.1, ztrue_and z2]
    unfold unlI at hQ
    by_cases c : f_X12_at σ s p = gi σ 86 (ix p)
    · have := congrArg Int32.toInt c
      rw [eb, ix1, hJ] at this
      rw [if_pos c]
      rw [if_pos this] at hQ
      refine ih (p + 1) (by omega) (by omega) (fun v hv => hQ v ?_)
      rw [hv, ep, show (p.toInt + 1).toNat = p.toInt.toNat + 1 by omega]
    · have h2 : ¬ e p.toInt.toNat = J p.toInt.toNat := fun q => c (ieq.mpr (by rw [eb, ix1, hJ, q]))
      rw [if_neg c]
      rw [if_neg h2] at hQ
      exact hQ p (by omega)
theorem w_X12_wrongSeen {X : zX} {d : Nat} {Q : Option Value → zH → Prop} (hd : 1 ≤ d) {σ : zS} {e J : Nat → Int} {z long : Int} {s : Int32} (hs : 0 ≤ s.toInt ∧ s.toInt < 6) (hS : Seen σ s.toInt.toNat e z) (hl : (gi σ 66 9).toInt = long) (hb : 2 ≤ long ∧ long ≤ 16) (hI : IceAt (σ.1 86) J) (hQ : ∀ v : Int32, v.toInt = unl e z long J → Q (some (.int v)) (zen σ)) : zwp X d MX12_wrongSeen 0 [.ref 66, .int s, .null] [] (zen σ) Q := by
  have b1 := hS.1
  have e0 := l0
  rw [b_X12_wrongSeen_0]
  exact lp_X12_wrongSeen hd s hs hS hl hb hI (min z long).toNat 0 (by omega) (by omega) (fun v hv => hQ v hv)
/-! refusals of a programme and of what was seen -/
theorem refI_v (σ : zS) (a s : Int) : refI σ a s = 0 ∨ refI σ a s = -1 ∨ refI σ a s = -11 ∨ refI σ a s = -12 := by
  unfold refI
  split
  · exact Or.inr (Or.inl rfl)
  · split
    · exact Or.inr (Or.inr (Or.inl rfl))
    · split
      · exact Or.inl rfl
      · exact Or.inr (Or.inr (Or.inr rfl))
def bothI (x y : Int) : Int := if x = 0 then y else if y = 0 then x else max x y
def refB (σ : zS) (ps : Int) : Int := if ps < 0 then -1 else bothI (refI σ (ps / 10) 0) (refI σ (ps % 10) 1)
theorem t_named {σ : zS} (x y : Int32) : (f_X11_firstNamed σ x y).toInt = bothI x.toInt y.toInt := by
  unfold f_X11_firstNamed bothI
  have e0 := l0
  by_cases h1 : x = 0
  · rw [if_neg (fun q => q h1), if_pos (by rw [h1]; rfl)]
  · rw [if_pos h1, if_neg (show ¬ x.toInt = 0 from fun q => h1 (ieq.mpr q))]
    by_cases h2 : y = 0
    · rw [if_neg (fun q => q h2), if_pos (by rw [h2]; rfl)]
    · rw [if_pos h2, if_neg (show ¬ y.toInt = 0 from fun q => h2 (ieq.mpr q)), t_zmx]
theorem bothI_0 {x y : Int} (hx : x = 0 ∨ x = -1 ∨ x = -11 ∨ x = -12) (hy : y = 0 ∨ y = -1 ∨ y = -11 ∨ y = -12) : bothI x y = 0 ↔ x = 0 ∧ y = 0 := by
  unfold bothI
  split
  · omega
  · split <;> omega
section SEEN
variable {X : zX} {d : Nat} {b : Int} {σ τ : zS} {nr nt : Nat} {N : Nat → Nat → Int} {V : zV} {I : Nat → Int} {Q : Option Value → zH → Prop} {a : Int32}
theorem t10 {w : Int32} (h : 0 ≤ w.toInt) : (w / 10).toInt = w.toInt / 10 ∧ (w - w / 10 * 10).toInt = w.toInt % 10 := by
  have e10 : (10 : Int32).toInt = 10 := rfl
  have ed : (w / 10).toInt = w.toInt / 10 := t_div (x := w) (y := 10) h (by omega)
  have em : (w - w / 10 * 10).toInt = w.toInt % 10 := t_mod (x := w) (y := 10) h (by omega)
  exact ⟨ed, em⟩
theorem c_both (hd : 5 ≤ d) (h : RelP b σ nr nt N V I) (hB : ¬ refB σ a.toInt = 0 → ∀ v : Int32, ¬ v = 0 → v.toInt = refB σ a.toInt → Q (some (.int v)) (zen σ)) (hO : refB σ a.toInt = 0 → 0 ≤ a.toInt → ∀ τ : zS, zFr [42] [(41, 4)] σ τ → ThC τ nr nt N V (-1) I (progS σ nt (a.toInt / 10)) → Q (some (.int 0)) (zen τ)) : zwp X d MX11_readProgrammeAndSeen 0 [.ref 0, .int a, .null] [] (zen σ) Q := by
  have e0 := l0
  have e1 := l1
  rw [b_X11_readProgrammeAndSeen_0 (hd := by omega)]
  unfold refB at hB hO
  by_cases x1 : 0 ≤ a
  · have y1 := ile.mp x1
    have T := t10 (w := a) (by omega)
    have R1 := refC h.2.2.2.2.2.2.2.1 (a := a / 10) (sort := 0) (by omega)
    have R2 := refC h.2.2.2.2.2.2.2.1 (a := a - a / 10 * 10) (sort := 1) (by omega)
    rw [T.1, e0] at R1
    rw [T.2, e1] at R2
    have tn := t_named (σ := σ) (f_X11_refusal σ (a / 10) 0) (f_X11_refusal σ (a - a / 10 * 10) 1)
    rw [R1.2, R2.2] at tn
    rw [if_neg (show ¬ a.toInt < 0 by omega)] at hB hO
    have i1 := refI_v σ (a.toInt / 10) 0
    have i2 := refI_v σ (a.toInt % 10) 1
    rw [if_pos x1, ztrue_and R1.1, ztrue_and R2.1]
    by_cases c : f_X11_firstNamed σ (f_X11_refusal σ (a / 10) 0) (f_X11_refusal σ (a - a / 10 * 10) 1) = 0
    · have z : bothI (refI σ (a.toInt / 10) 0) (refI σ (a.toInt % 10) 1) = 0 := by rw [← tn, c]; rfl
      have zz := (bothI_0 i1 i2).mp z
      rw [if_pos c]
      refine c_readO (a := a / 10) (by omega) h (by rw [T.1]; exact zz.1) (fun τ hF hT => ?_)
      show zwp X d MX11_readProgrammeAndSeen 44 _ [.int 0] (zen τ) Q
      rw [b_X11_readProgrammeAndSeen_44]
      rw [T.1] at hT
      exact hO z (by omega) τ hF hT
    · rw [if_neg c]
      exact hB (fun q => c (ieq.mpr (by rw [tn, q]; rfl))) _ c tn
  · have y1 := nile x1
    rw [if_neg x1]
    rw [if_pos (show a.toInt < 0 by omega)] at hB
    exact hB (by omega) _ (by decide) rfl
theorem areSh {a : Int32} : f_X12_areShelves σ a = if a.toInt < 0 ∨ 6 ≤ a.toInt / 10 ∨ 6 ≤ a.toInt % 10 then 0 else 1 := by
  have e0 := l0
  unfold f_X12_areShelves
  by_cases x1 : a < 0
  · have := il.mp x1
    rw [if_pos x1, if_pos (by omega)]
  · have y1 := nil_ x1
    have T := t10 (w := a) (by omega)
    rw [if_neg x1, t_isShelfM, t_isShelfM, T.1, T.2]
    by_cases x2 : 6 ≤ a.toInt / 10
    · rw [if_pos (show a.toInt / 10 < 0 ∨ 6 ≤ a.toInt / 10 by omega), if_pos rfl, if_pos (by omega)]
    · rw [if_neg (show ¬ (a.toInt / 10 < 0 ∨ 6 ≤ a.toInt / 10) by omega), if_neg (by decide)]
      by_cases x3 : 6 ≤ a.toInt % 10
      · rw [if_pos (show a.toInt % 10 < 0 ∨ 6 ≤ a.toInt % 10 by omega), if_pos rfl, if_pos (by omega)]
      · rw [if_neg (show ¬ (a.toInt % 10 < 0 ∨ 6 ≤ a.toInt % 10) by omega), if_neg (by decide), if_neg (by omega)]
theorem refI_s {a s : Int} (h : 0 ≤ a ∧ a < 6) : refI σ a s = if (gi σ 95 a.toNat).toInt = -1 then -11 else if (gi σ 95 a.toNat).toInt = -2 - s then 0 else -12 := by
  unfold refI
  rw [if_neg (show ¬ (a < 0 ∨ 6 ≤ a) by omega)]
theorem m_both (hd : 5 ≤ d) (h : RelP b σ nr nt N V I) (h0 : 0 ≤ a.toInt) (h1 : a.toInt / 10 < 6) (h2 : a.toInt % 10 < 6) (hB : ¬ refB σ a.toInt = 0 → ∀ v : Int32, v.toInt < 0 → v.toInt = refB σ a.toInt → Q (some (.int v)) (zen σ)) (hO : refB σ a.toInt = 0 → ∀ τ : zS, zFr [88] [(66, 39)] σ τ → ThM τ nr nt N V (-1) I (progS σ nt (a.toInt / 10)) → Q (some (.int 0)) (zen τ)) : zwp X d MX12_layBoth 0 [.ref 66, .int a] [] (zen σ) Q := by
  have e0 := l0
  have e1 := l1
  have em1 := lm1
  have T := t10 (w := a) h0
  have hx : 0 ≤ (a / 10).toInt ∧ (a / 10).toInt < 6 := by omega
  have hy : 0 ≤ (a - a / 10 * 10).toInt ∧ (a - a / 10 * 10).toInt < 6 := by omega
  have R1 := refM (σ := σ) (a := a / 10) (sort := 0) (by omega) hx
  have R2 := refM (σ := σ) (a := a - a / 10 * 10) (sort := 1) (by omega) hy
  have z1 : zin (a / 10) 6 = true := zin_of hx.1 hx.2
  have z2 : zin (a - a / 10 * 10) 6 = true := zin_of hy.1 hy.2
  have i1 : ix (a / 10) = (a.toInt / 10).toNat := by rw [ix_t, T.1]
  have i2 : ix (a - a / 10 * 10) = (a.toInt % 10).toNat := by rw [ix_t, T.2]
  rw [T.1, e0] at R1
  rw [T.2, e1] at R2
  have s1 := refI_s (σ := σ) (a := a.toInt / 10) (s := 0) (by omega)
  have s2 := refI_s (σ := σ) (a := a.toInt % 10) (s := 1) (by omega)
  rw [b_X12_layBoth_0 (hd := by omega), ztrue_and z1, ztrue_and z2, i1, i2]
  unfold refB at hB hO
  rw [if_neg (show ¬ a.toInt < 0 by omega)] at hB hO
  have v1 := refI_v σ (a.toInt / 10) 0
  have v2 := refI_v σ (a.toInt % 10) 1
  by_cases c1 : gi σ 95 (a.toInt / 10).toNat = -1
  · have y1 : (gi σ 95 (a.toInt / 10).toNat).toInt = -1 := by rw [c1]; rfl
    rw [if_pos y1] at s1
    rw [if_pos c1]
    have bb : bothI (refI σ (a.toInt / 10) 0) (refI σ (a.toInt % 10) 1) = -11 := by
      have : ¬ refI σ (a.toInt % 10) 1 = -1 := by rw [s2]; split; omega; split <;> omega
      unfold bothI
      rw [if_neg (by omega)]
      split <;> omega
    exact hB (by omega) _ (by decide) (by rw [bb]; rfl)
  · have y1 : ¬ (gi σ 95 (a.toInt / 10).toNat).toInt = -1 := fun q => c1 (ieq.mpr q)
    rw [if_neg y1] at s1
    rw [if_neg c1]
    by_cases c2 : gi σ 95 (a.toInt % 10).toNat = -1
    · have y2 : (gi σ 95 (a.toInt % 10).toNat).toInt = -1 := by rw [c2]; rfl
      rw [if_pos y2] at s2
      rw [if_neg (fun q => q c2)]
      have bb : bothI (refI σ (a.toInt / 10) 0) (refI σ (a.toInt % 10) 1) = -11 := by
        have : refI σ (a.toInt / 10) 0 = 0 ∨ refI σ (a.toInt / 10) 0 = -12 := by rw [s1]; split; exact Or.inl rfl; exact Or.inr rfl
        unfold bothI
        split
        · exact s2
        · rw [if_neg (by omega)]; omega
      exact hB (by omega) _ (by decide) (by rw [bb]; rfl)
    · have y2 : ¬ (gi σ 95 (a.toInt % 10).toNat).toInt = -1 := fun q => c2 (ieq.mpr q)
      rw [if_neg y2] at s2
      rw [if_pos c2, ztrue_and R1.1]
      have w2 : refI σ (a.toInt % 10) 1 = 0 ∨ refI σ (a.toInt % 10) 1 = -12 := by rw [s2]; split; exact Or.inl rfl; exact Or.inr rfl
      have w1 : refI σ (a.toInt / 10) 0 = 0 ∨ refI σ (a.toInt / 10) 0 = -12 := by rw [s1]; split; exact Or.inl rfl; exact Or.inr rfl
      by_cases c3 : f_X12_rowFault σ (a / 10) 0 < 0
      · have y3 := il.mp c3
        rw [R1.2, e0] at y3
        rw [if_pos c3]
        have bb : bothI (refI σ (a.toInt / 10) 0) (refI σ (a.toInt % 10) 1) = -12 := by
          unfold bothI
          rw [if_neg (by omega)]
          split <;> omega
        exact hB (by omega) _ (by decide) (by rw [bb]; rfl)
      · have y3 := nil_ c3
        rw [R1.2, e0] at y3
        rw [if_neg c3, ztrue_and R2.1]
        by_cases c4 : 0 ≤ f_X12_rowFault σ (a - a / 10 * 10) 1
        · have y4 := ile.mp c4
          rw [R2.2, e0] at y4
          rw [if_pos c4]
          have q1 : refI σ (a.toInt / 10) 0 = 0 := by omega
          have q2 : refI σ (a.toInt % 10) 1 = 0 := by omega
          have bb : bothI (refI σ (a.toInt / 10) 0) (refI σ (a.toInt % 10) 1) = 0 := by unfold bothI; rw [if_pos q1]; exact q2
          have B := h.2.2.2.2.2.2.2.1.bytes q1
          have S1 := h.2.2.2.2.2.2.2.1 (a.toInt / 10).toNat (by omega)
          refine w_X12_layProgramme (by omega) hx (nt := nt) (e := fun j => (gl σ 97 (60 * (a.toInt / 10).toNat + j)).toInt) h.1.2.1.2.1 h.1.2.2.2.1 (by rw [i1, S1.2.2.1]; exact ⟨S1.1, S1.2.1⟩) (fun j hj => ⟨by rw [T.1], (B.2.2.2 j hj).2⟩) (fun τ hF hP => ?_)
          show zwp X d MX12_layBoth 64 _ [] (zen τ) Q
          rw [b_X12_layBoth_64]
          refine hO bb τ hF ⟨h.1.2.1.zfr hF (by decide) (by decide), h.2.1.2.zfr hF (by decide) (by decide), ?_, ?_, ?_⟩
          · rw [hF.1 66 (by decide) 36 (by decide)]; exact h.2.2.1.2.2.2
          · rw [hF.c (by decide) (by decide)]; exact h.2.2.2.1.2.1
          · unfold progS
            rw [i1] at hP
            exact hP
        · have y4 := nile c4
          rw [R2.2, e0] at y4
          rw [if_neg c4]
          have bb : bothI (refI σ (a.toInt / 10) 0) (refI σ (a.toInt % 10) 1) = -12 := by
            unfold bothI
            split
            · omega
            · rw [if_neg (by omega)]; omega
          exact hB (by omega) _ (by decide) (by rw [bb]; rfl)
theorem refB_fr (hF : zFr SC1 FC1 σ τ) (x : Int) : refB τ x = refB σ x := by unfold refB; rw [refI_fr hF, refI_fr hF]
theorem refB_y {x : Int} (h : refB σ x = 0) : 0 ≤ x ∧ refI σ (x / 10) 0 = 0 ∧ refI σ (x % 10) 1 = 0 := by
  unfold refB at h
  by_cases q : x < 0
  · rw [if_pos q] at h; omega
  · rw [if_neg q] at h
    exact ⟨by omega, (bothI_0 (refI_v _ _ _) (refI_v _ _ _)).mp h⟩
theorem refB_bad {x : Int} (h : x < 0 ∨ 6 ≤ x / 10 ∨ 6 ≤ x % 10) : refB σ x = -1 := by
  unfold refB
  by_cases q : x < 0
  · rw [if_pos q]
  · rw [if_neg q]
    have i1 := refI_v σ (x / 10) 0
    have i2 := refI_v σ (x % 10) 1
    have : refI σ (x / 10) 0 = -1 ∨ refI σ (x % 10) 1 = -1 := by
      rcases h with h | h | h
      · omega
      · left; unfold refI; rw [if_pos (Or.inr h)]
      · right; unfold refI; rw [if_pos (Or.inr h)]
    unfold bothI
    split
    · omega
    · split <;> omega
def v_judge (σ : zS) (nr nt : Nat) (N : Nat → Nat → Int) (V : zV) (I : Nat → Int) (x : Int) : Int := if ¬ refB σ x = 0 then refB σ x else unl (seenE σ (x % 10)) (seenZ σ (x % 10)) (N 6 0) (jS σ nr nt N V I (x / 10))
theorem c_judge (hd : 12 ≤ d) (h : RelP b σ nr nt N V I) (hQ : ∀ (x : Int32) (τ : zS), Cpost σ nr nt N V τ → x.toInt = v_judge σ nr nt N V I a.toInt → Q (some (.int x)) (zen τ)) : zwp X d MX11_judge 0 [.ref 0, .int a, .null] [] (zen σ) Q := by
  have hR := h.1.2.2
  have hI := h.2.2.2.1.2.2.1
  unfold v_judge at hQ
  rw [b_X11_judge_0 (hd := by omega)]
  refine c_both (by omega) h (fun hb v hv hv2 => ?_) (fun ho h0 τ hF hT => ?_)
  · show zwp X d MX11_judge 5 _ [.int v] (zen σ) Q
    rw [b_X11_judge_5 (hd := by omega), if_neg hv]
    exact hQ v σ (Cpost.rf h) (by rw [if_pos hb]; exact hv2)
  · show zwp X d MX11_judge 5 _ [.int 0] (zen τ) Q
    rw [if_neg (fun q => q ho)] at hQ
    have yy := refB_y ho
    have SS := h.2.2.2.2.2.2.2.1.shorts yy.2.2
    have T := t10 (w := a) h0
    rw [b_X11_judge_5 (hd := by omega), if_pos rfl]
    refine c_all (by omega) hR hI hT (fun v ρ hF2 hT2 hic _ _ => ?_)
    show zwp X d MX11_judge 20 _ [.int v] (zen ρ) Q
    have z2 : zin (a - a / 10 * 10) 6 = true := zin_of (by omega) (by omega)
    have i2 : ix (a - a / 10 * 10) = (a.toInt % 10).toNat := by rw [ix_t, T.2]
    have S2 := (SS.2.2.zfr (by omega) hF (by decide)).zfr (by omega) hF2 (by decide)
    rw [b_X11_judge_20 (hd := by omega), ztrue_and z2, i2]
    refine w_X10_firstUnlike (by omega) (by omega) S2 hT2.1 hR hic (fun u hu => ?_)
    show zwp X d MX11_judge 37 _ [.int u] (zen ρ) Q
    rw [b_X11_judge_37]
    exact hQ u ρ (Cpost.of ((fr42 hF).tr (fr44 hF2)) hT2.2.2.1 ((hF2.1 1 (by decide) 3 (by decide)).trans (hF.1 1 (by decide) 3 (by decide)))) hu
theorem m_judge (hd : 14 ≤ d) (h : RelP b σ nr nt N V I) (hQ : ∀ (x : Int32) (τ : zS), Mpost σ τ → x.toInt = v_judge σ nr nt N V I a.toInt → Q (some (.int x)) (zen τ)) : zwp X d MX12_judge 0 [.ref 66, .int a, .null] [] (zen σ) Q := by
  have hR := h.1.2.2
  have hI := h.2.2.2.1.2.2.1
  unfold v_judge at hQ
  rw [b_X12_judge_0 (hd := by omega), areSh]
  by_cases ha : a.toInt < 0 ∨ 6 ≤ a.toInt / 10 ∨ 6 ≤ a.toInt % 10
  · rw [if_pos ha, if_neg (fun y => y rfl)]
    refine hQ _ σ (Mpost.rf h) ?_
    rw [refB_bad ha, if_pos (by omega)]; rfl
  · rw [if_neg ha, if_pos (by decide)]
    have T := t10 (w := a) (by omega)
    refine m_both (by omega) h (by omega) (by omega) (by omega) (fun hb v hv hv2 => ?_) (fun ho τ hF hT => ?_)
    · show zwp X d MX12_judge 14 _ [.int v] (zen σ) Q
      rw [b_X12_judge_14 (hd := by omega), if_neg (fun q => by have := ile.mp q; have := l0; omega)]
      exact hQ v σ (Mpost.rf h) (by rw [if_pos hb]; exact hv2)
    · show zwp X d MX12_judge 14 _ [.int 0] (zen τ) Q
      rw [if_neg (fun q => q ho)] at hQ
      have yy := refB_y ho
      have SS := h.2.2.2.2.2.2.2.1.shorts yy.2.2
      rw [b_X12_judge_14 (hd := by omega), if_pos (by decide)]
      refine w_X12_goAll (by omega) hR hT hI (fun ρ hF2 hT2 hic _ => ?_)
      show zwp X d MX12_judge 25 _ [] (zen ρ) Q
      have S2 := (SS.2.2.zfr (by omega) hF (by decide)).zfr (by omega) hF2 (by decide)
      rw [b_X12_judge_25 (hd := by omega)]
      refine w_X12_wrongSeen (by omega) (s := a - a / 10 * 10) (by omega) (by rw [T.2]; exact S2) hT2.1.2.2.2.2.1 hR.long hic (fun u hu => ?_)
      show zwp X d MX12_judge 33 _ [.int u] (zen ρ) Q
      rw [b_X12_judge_33]
      exact hQ u ρ ⟨(fr88 hF).tr (fr86 hF2), hT2.2.2.1⟩ hu
theorem v_judge_fr (hF : zFr SC1 FC1 σ τ) (x : Int) : v_judge τ nr nt N V I x = v_judge σ nr nt N V I x := by unfold v_judge jS; rw [refB_fr hF, progS_fr hF, (seenE_fr hF _).1, (seenE_fr hF _).2]
theorem o_judge (hd : 20 ≤ d) {k : Nat} (h : Rel k σ) (a : Int32) : zOp k σ X d MX11_judge MX12_judge [.ref 0, .int a, .null] [.ref 66, .int a, .null] := by
  obtain ⟨nr, nt, N, V, I, h⟩ := h
  exact zOp.think h (fun Q hQ => c_judge (by omega) h hQ) (fun τ h2 hF Q hQ => m_judge (by omega) h2 (fun x ρ hM hx => hQ x ρ hM (by rw [hx, v_judge_fr hF])))
end SEEN
