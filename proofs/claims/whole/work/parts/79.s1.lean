/-! law -/
theorem stpL_ext {f g : Nat → Int32} {s : Int} (h : s < 10000 ∨ 10005 < s ∨ f (s - 10000).toNat = g (s - 10000).toNat) (st : List Int32) : stpL f s st = stpL g s st := by
  unfold stpL
  by_cases c1 : s < 10000
  · rw [if_pos c1, if_pos c1]
  · rw [if_neg c1, if_neg c1]
    by_cases c2 : s ≤ 10005
    · rw [if_pos c2, if_pos c2]
      rcases h with h | h | h
      · exact absurd h c1
      · exact absurd h (by omega)
      · rw [h]
    · rw [if_neg c2, if_neg c2]
theorem runL_ext {f g : Nat → Int32} : ∀ (c : List Int) (st : List Int32), (∀ s, s ∈ c → s < 10000 ∨ 10005 < s ∨ f (s - 10000).toNat = g (s - 10000).toNat) → runL f c st = runL g c st := by
  intro c
  induction c with
  | nil => intro st _; rfl
  | cons s c ih =>
    intro st h
    show (match stpL f s st with
      | some st' => runL f c st'
      | none => none) = (match stpL g s st with
      | some st' => runL g c st'
      | none => none)
    rw [stpL_ext (h s (List.mem_cons_self)) st]
    cases stpL g s st with
    | none => rfl
    | some st' => exact ih st' (fun x hx => h x (List.mem_cons_of_mem _ hx))
theorem evE_ext {f g : Nat → Int32} {c : List Int} (h : ∀ s, s ∈ c → s < 10000 ∨ 10005 < s ∨ f (s - 10000).toNat = g (s - 10000).toNat) : evE f c = evE g c := by
  unfold evE
  rw [runL_ext c [] h]
theorem evT_ext {f g : Nat → Int32} : ∀ T : List lnT, (∀ l, l ∈ T → ∀ s, s ∈ l.1 ++ l.2 → s < 10000 ∨ 10005 < s ∨ f (s - 10000).toNat = g (s - 10000).toNat) → evT f T = evT g T := by
  intro T
  induction T with
  | nil => intro _; rfl
  | cons l r ih =>
    intro h
    have hl := h l (List.mem_cons_self)
    show (if l.1 = [] then evE f l.2 else if evE f l.1 = 0 then evT f r else evE f l.2) = (if l.1 = [] then evE g l.2 else if evE g l.1 = 0 then evT g r else evE g l.2)
    rw [evE_ext (fun s hs => hl s (List.mem_append.mpr (Or.inl hs))), evE_ext (fun s hs => hl s (List.mem_append.mpr (Or.inr hs))), ih (fun x hx => h x (List.mem_cons_of_mem _ hx))]
theorem evT_6 (T : List lnT) : zext6 (fun f => evT f T) := fun f g h => evT_ext T (fun l _ s _ => by
  by_cases c1 : s < 10000
  · exact Or.inl c1
  · by_cases c2 : 10005 < s
    · exact Or.inr (Or.inl c2)
    · exact Or.inr (Or.inr (h _ (by omega))))
theorem evT_5 (T : List lnT) (hT : ∀ l, l ∈ T → ∀ s, s ∈ l.1 ++ l.2 → s ≠ 10005) : zext5 (fun f => evT f T) := fun f g h => evT_ext T (fun l hl s hs => by
  have := hT l hl s hs
  by_cases c1 : s < 10000
  · exact Or.inl c1
  · by_cases c2 : 10005 < s
    · exact Or.inr (Or.inl c2)
    · exact Or.inr (Or.inr (h _ (by omega))))
theorem lineC_pos (l : lnT) : 0 < (lineC l).length := by
  unfold lineC
  by_cases c : l.1 = []
  · rw [if_pos c, List.length_append, List.length_singleton]; omega
  · rw [if_neg c, List.length_append, List.length_append, List.length_append, List.length_singleton, List.length_singleton]; omega
theorem txP_pos (B : Nat → Int) (n : Nat) : ∀ (f p : Nat) (T : List lnT) (q : Nat) (T' : List lnT), txP B n f p T = (q, some T') → 0 < lenT T' := by
  intro f
  induction f with
  | zero => intro p T q T' h; cases h
  | succ f ih =>
    intro p T q T' h
    unfold txP at h
    generalize lnP B n p = r at h
    obtain ⟨q1, o⟩ := r
    cases o with
    | none => cases h
    | some l =>
      dsimp only at h
      by_cases c : q1 = n
      · rw [if_pos c] at h
        cases h
        rw [lenT_app]
        have := lineC_pos l; omega
      · rw [if_neg c] at h
        by_cases c2 : B q1 = 59
        · rw [if_pos c2] at h; exact ih _ _ _ _ h
        · rw [if_neg c2] at h; cases h
theorem va_to {f g : Nat → Int32} {v : Int32} {j n : Nat} (hn : ix v = n) (hj : j < n) : va_cpy f g (ix 0) (ix 0) (ix v) j = f j := by
  have i0 : ix 0 = 0 := rfl
  unfold va_cpy
  rw [i0, hn, if_pos (by omega), show 0 + (j - 0) = j by omega]
theorem becC {τ : zS} {p len : Nat} (h : CD τ p len) (hl : len ≤ 121) : p_X6_become τ ∧ zFr [4, 5] [(3, 3), (3, 4)] τ (g_X6_become τ) ∧ gi (g_X6_become τ) 3 3 = gi τ 9 3 ∧ gi (g_X6_become τ) 3 4 = gi τ 9 4 ∧ ∀ j, j < len → gi (g_X6_become τ) 4 j = gi τ 10 j ∧ gi (g_X6_become τ) 5 j = gi τ 11 j := by
  have e0 := l0
  have i0 : ix (0 : Int32) = 0 := rfl
  have h2 := h.2.1
  have ii : ix (gi τ 9 3) = len := by rw [ix_t, h2]; omega
  have zc : zcok 0 0 (gi τ 9 3) 121 121 := ⟨by decide, by decide, fun y => by have := il.mp y; omega, by rw [i0, ii]; omega, by rw [i0, ii]; omega⟩
  unfold p_X6_become g_X6_become
  refine ⟨⟨?_, zc, zc⟩, (((zFr.rf.sf (by decide)).sf (by decide)).wA (by decide)).wA (by decide), ?_, ?_, fun j hj => ⟨?_, ?_⟩⟩
  · rcases h.2.2 with e | e
    · rw [e]; first | rfl | decide
    · rw [e]; first | rfl | decide
  · rw [gi_sA_ne (by decide), gi_sA_ne (by decide), gi_si_j (by decide), gi_si]
  · rw [gi_sA_ne (by decide), gi_sA_ne (by decide), gi_si]
  · rw [gi_sA_ne (by decide), gi_sA, va_to ii hj]
    show gi (si (si τ 3 3 (gi τ 9 3)) 3 4 (gi τ 9 4)) 10 j = _
    rw [gi_si_ne (by decide), gi_si_ne (by decide)]
  · rw [gi_sA, va_to ii hj]
    show gi (sA (si (si τ 3 3 (gi τ 9 3)) 3 4 (gi τ 9 4)) 4 _) 11 j = _
    rw [gi_sA_ne (by decide), gi_si_ne (by decide), gi_si_ne (by decide)]
section LAWO
variable {X : zX} {d k : Nat} {σ : zS}
theorem o_law (hd : 110 ≤ d) (h : Rel k σ) : zOp k σ X d MX11_law MX12_law [.ref 0, .null] [.ref 66, .null] := by
  obtain ⟨nr, nt, N, V, I, h1, h2, h3, h4, h5, h6, ⟨n, hn, hn1, hn2, hn3⟩, h8, h9⟩ := h
  have e0 := l0
  have em1 := lm1
  obtain ⟨B, hBd⟩ : ∃ B : Nat → Int, B = fun p => if p < n then (gi σ 8 p).toInt else -1 := ⟨_, rfl⟩
  have hB1 : ∀ p, p < n → B p = (gi σ 8 p).toInt := fun p hp => by rw [hBd]; exact if_pos hp
  have hB2 : ∀ p, n ≤ p → B p = -1 := fun p hp => by rw [hBd]; exact if_neg (by omega)
  have hB : bOk B n := ⟨hB2, fun j hj => by rw [hB1 j hj]; exact ⟨(hn3 j hj).1, (hn3 j hj).2.1⟩⟩
  clear hBd
  unfold zOp
  rw [b_X11_law_0 (hd := by omega), b_X9_fault_0 (hd := by omega)]
  have f0 : zFr [10, 11] FP σ (g_X6_clear (si σ 7 3 0)) := ((zFr.rf.sf (by decide)).sf (by decide)).sf (by decide)
  have cI : CI (g_X6_clear (si σ 7 3 0)) B n := ⟨by rw [f0.1 7 (by decide) 2 (by decide)]; exact hn1, fun j hj => by rw [f0.1 8 (by decide) j (by simp), hB1 j hj]⟩
  have cD : CD (g_X6_clear (si σ 7 3 0)) 0 0 := by
    unfold g_X6_clear
    refine ⟨?_, ?_, Or.inl ?_⟩
    · rw [gi_si_ne (by decide), gi_si_ne (by decide), gi_si, e0]; rfl
    · rw [gi_si_j (by decide), gi_si, e0]; rfl
    · rw [gi_si]
  -- what the reference finds
  have mI : ∀ ρ : zS, gi ρ 66 20 = gi σ 66 20 → (∀ j, gi ρ 77 j = gi σ 77 j) → MI ρ B n := fun ρ q1 q2 => ⟨by rw [q1]; exact hn2, fun j hj => by rw [q2 j, (hn3 j hj).2.2, hB1 j hj, Int32.ofInt_toInt]⟩
  refine lp_faultC (by omega) hB hn (σ0 := σ) (n + 1) _ 0 [] 0 f0 cI cD (by omega) (by show 0 + (n - 0) ≤ 120; omega) ⟨trivial, fun _ l hl => absurd hl List.not_mem_nil, fun l hl => absurd hl List.not_mem_nil⟩ (by rw [e0]; omega) (by rw [e0]; decide) (fun q T τ e g1 g2 hl hT => ?_) (fun q v τ e g1 hv => ?_)
  · show zwp X d MX11_law 7 [.ref 0, .null] [.int (-1)] (zen τ) _
    obtain ⟨a1, a2, a3, a4, a5⟩ := becC g2 hl
    rw [b_X11_law_7 (hd := by omega), if_neg (by decide)]
    refine ⟨a1, ?_⟩
    generalize g_X6_become τ = τ1 at a2 a3 a4 a5 ⊢
    have hF1 : zFr [4, 5, 10, 11, 16] [(3, 3), (3, 4), (7, 2), (7, 3), (9, 3), (9, 4), (13, 5)] σ τ1 := (g1.sub (by decide) (by decide)).tr (a2.sub (by decide) (by decide))
    have t13 : gi τ1 1 3 = gi σ 1 3 := hF1.1 1 (by decide) 3 (by decide)
    refine w_X0_forget (by omega) (fun f hf => ?_)
    show zwp X d MX11_law 33 [.ref 0, .int (-1)] [] (zen (si (sA τ1 16 f) 13 5 (gi τ1 1 3))) _
    have hCC : CacheC (si (sA τ1 16 f) 13 5 (gi τ1 1 3)) nr nt N (some fun f => evT f T) (-1) := CacheC.new h1.2.2.2.1 (by rw [t13]; have := h3.2.1; omega) (by rw [hF1.1 13 (by decide) 6 (by decide)]; exact h3.1.2.2.1) hf
    rw [b_X11_law_33, if_neg (by decide)]
    have hF2 : zFr [4, 5, 10, 11, 16] [(3, 3), (3, 4), (7, 2), (7, 3), (9, 3), (9, 4), (13, 5)] τ1 (si (si (sA τ1 16 f) 13 5 (gi τ1 1 3)) 7 2 0) := ((zFr.rf.wA (by decide)).sf (by decide)).sf (by decide)
    have hF3 := hF1.tr hF2
    have hCD : CacheC (si (si (sA τ1 16 f) 13 5 (gi τ1 1 3)) 7 2 0) nr nt N (some fun f => evT f T) (-1) := hCC.fr (c_sA_ne (by decide)) (c_sA_ne (by decide)) (c_sA_ne (by decide)) (gi_si_ne (by decide))
    have c33 : gi (si (si (sA τ1 16 f) 13 5 (gi τ1 1 3)) 7 2 0) 3 3 = gi τ 9 3 := by rw [gi_si_ne (by decide), gi_si_ne (by decide), gi_sA_ne (by decide), a3]
    have c34 : gi (si (si (sA τ1 16 f) 13 5 (gi τ1 1 3)) 7 2 0) 3 4 = gi τ 9 4 := by rw [gi_si_ne (by decide), gi_si_ne (by decide), gi_sA_ne (by decide), a4]
    have c45 : ∀ j, j < lenT T → gi (si (si (sA τ1 16 f) 13 5 (gi τ1 1 3)) 7 2 0) 4 j = gi τ 10 j ∧ gi (si (si (sA τ1 16 f) 13 5 (gi τ1 1 3)) 7 2 0) 5 j = gi τ 11 j := fun j hj => ⟨by rw [gi_si_ne (by decide), gi_si_ne (by decide), gi_sA_ne (by decide)]; exact (a5 j hj).1, by rw [gi_si_ne (by decide), gi_si_ne (by decide), gi_sA_ne (by decide)]; exact (a5 j hj).2⟩
    have c72 : gi (si (si (sA τ1 16 f) 13 5 (gi τ1 1 3)) 7 2 0) 7 2 = 0 := gi_si
    refine ⟨1, si (si (sA τ1 16 f) 13 5 (gi τ1 1 3)) 7 2 0, rfl, rfl, ?_⟩
    generalize si (si (sA τ1 16 f) 13 5 (gi τ1 1 3)) 7 2 0 = σ2 at hF3 hCD c33 c34 c45 c72 ⊢
    rw [b_X12_law_0 (hd := by omega)]
    refine w_readTextM (by omega) hB hn (mI σ2 (hF3.1 66 (by decide) 20 (by decide)) (fun j => hF3.1 77 (by decide) j (by simp))) (fun q2 T2 ρ e2 m1 m2 m3 m4 m5 m6 m7 => ?_) (fun q2 v2 ρ e2 m1 m2 m3 m4 m5 => ?_)
    · rw [e] at e2
      cases e2
      show zwp X d MX12_law 5 [.ref 66, .null] [.int (-1)] (zen ρ) _
      rw [b_X12_law_5, if_pos (by decide)]
      have hF4 : zFr [4, 5, 10, 11, 16, 78, 79, 80, 81, 82] [(3, 3), (3, 4), (7, 2), (7, 3), (9, 3), (9, 4), (13, 5), (66, 20), (66, 21), (66, 22), (66, 23), (66, 24), (66, 32)] σ2 (si ρ 66 32 1) := (m1.sub (by decide) (by decide)).tr (zFr.rf.sf (by decide))
      have hF5 : zFr [4, 5, 10, 11, 16, 78, 79, 80, 81, 82] [(3, 3), (3, 4), (7, 2), (7, 3), (9, 3), (9, 4), (13, 5), (66, 20), (66, 21), (66, 22), (66, 23), (66, 24), (66, 32)] σ (si ρ 66 32 1) := (hF3.sub (by decide) (by decide)).tr hF4
      have hG : zFr [78, 79, 80, 81, 82] [(66, 20), (66, 21), (66, 22), (66, 23), (66, 24), (66, 32)] σ2 (si ρ 66 32 1) := (m1.sub (by decide) (by decide)).tr (zFr.rf.sf (by decide))
      have k33 : gi (si ρ 66 32 1) 3 3 = gi τ 9 3 := by rw [hG.1 3 (by decide) 3 (by decide), c33]
      have k34 : gi (si ρ 66 32 1) 3 4 = gi τ 9 4 := by rw [hG.1 3 (by decide) 4 (by decide), c34]
      have k4 : (si ρ 66 32 1).1 4 = σ2.1 4 := hG.c (by decide) (by decide)
      have k5 : (si ρ 66 32 1).1 5 = σ2.1 5 := hG.c (by decide) (by decide)
      have lT := txP_pos B n _ _ _ _ _ e
      have h93 := g2.2.1
      have k13 : gi (si ρ 66 32 1) 1 3 = gi σ 1 3 := hF5.1 1 (by decide) 3 (by decide)
      refine ⟨rfl, si ρ 66 32 1, rfl, nr, nt, N, some fun f => evT f T, I, h1.zfr hF5 (by decide), ⟨⟨?_, ?_, evT_6 T, fun z => evT_5 T (hT.2.1 (by rw [← k34]; exact z))⟩, ⟨?_, ?_, evT_6 T⟩⟩, ⟨hCD.fr (hG.c (by decide) (by decide)) (hG.c (by decide) (by decide)) (hG.c (by decide) (by decide)) (hG.1 1 (by decide) 3 (by decide)), by rw [k13]; exact h3.2.1, by rw [k13, Int.natCast_add]; have := h3.2.2.1; omega, by rw [hF5.1 66 (by decide) 36 (by decide)]; exact h3.2.2.2⟩, h4.zfr hF5 (by decide), h5.zfr hF5 (by decide), h6.zfr hF5 (by decide), ⟨0, by omega, ?_, ?_, fun j hj => absurd hj (Nat.not_lt_zero j)⟩, h8.zfr hF5 (by decide), h9.zfr hF5 (by decide)⟩
      · rw [k33]; intro y; rw [y, e0] at h93; omega
      · refine w_value (by rw [k33]; exact h93) hl ?_ hT.2.2
        rw [k4, k5]
        exact TCl.eq T 0 hT.1 (fun j hj => c45 j (by omega))
      · rw [gi_si]; decide
      · have q78 : (si ρ 66 32 1).1 78 = ρ.1 78 := c_sA_ne (by decide)
        have q79 : (si ρ 66 32 1).1 79 = ρ.1 79 := c_sA_ne (by decide)
        have q81 : (si ρ 66 32 1).1 81 = ρ.1 81 := c_sA_ne (by decide)
        have q82 : (si ρ 66 32 1).1 82 = ρ.1 82 := c_sA_ne (by decide)
        exact w_givesText m4 (by rw [gi_si_ne (by decide)]; exact m3) m5 (by rw [q78, q79, q81, q82]; exact m2) m6
      · rw [hG.1 7 (by decide) 2 (by decide), c72, e0]; rfl
      · rw [gi_si_j (by decide), m7, e0]; rfl
    · rw [e] at e2
      cases e2
  · show zwp X d MX11_law 7 [.ref 0, .null] [.int v] (zen τ) _
    have hv0 : 0 ≤ v := ile.mpr (by omega)
    rw [b_X11_law_7 (hd := by omega), if_pos hv0, if_pos hv0]
    have hF3 : zFr [10, 11] [(7, 2), (7, 3), (9, 3), (9, 4)] σ (si τ 7 2 0) := (g1.sub (by decide) (by decide)).tr (zFr.rf.sf (by decide))
    have c72 : gi (si τ 7 2 0) 7 2 = 0 := gi_si
    refine ⟨_, si τ 7 2 0, rfl, rfl, ?_⟩
    generalize si τ 7 2 0 = σ2 at hF3 c72 ⊢
    rw [b_X12_law_0 (hd := by omega)]
    refine w_readTextM (by omega) hB hn (mI σ2 (hF3.1 66 (by decide) 20 (by decide)) (fun j => hF3.1 77 (by decide) j (by simp))) (fun q2 T2 ρ e2 m1 m2 m3 m4 m5 m6 m7 => ?_) (fun q2 v2 ρ e2 m1 m2 m3 m4 m5 => ?_)
    · rw [e] at e2
      cases e2
    · rw [e] at e2
      cases e2
      show zwp X d MX12_law 5 [.ref 66, .null] [.int v2] (zen ρ) _
      have ev : v2 = v := ieq.mpr (m5.trans hv.symm)
      rw [b_X12_law_5, ev, if_neg (fun y => by have := il.mp y; have := ile.mp hv0; omega)]
      have hF5 : zFr [10, 11, 78, 79, 80, 81, 82] [(7, 2), (7, 3), (9, 3), (9, 4), (66, 20), (66, 21), (66, 22), (66, 23), (66, 24)] σ ρ := (hF3.sub (by decide) (by decide)).tr (m1.sub (by decide) (by decide))
      have k13 : gi ρ 1 3 = gi σ 1 3 := hF5.1 1 (by decide) 3 (by decide)
      have k32 : gi ρ 66 32 = gi σ 66 32 := hF5.1 66 (by decide) 32 (by decide)
      have s (c : Nat) (hc : 78 ≤ c) : ∀ j, c ≤ 82 → gi σ2 c j = gi σ c j := fun j hc2 => hF3.1 c (by simp; omega) j (by simp; omega)
      have hLM : LawM ρ V := by
        have := h2.2
        cases V with
        | none => exact k32.trans this
        | some w =>
          refine ⟨by rw [k32]; exact this.1, fun ζ y78 y79 y80 y81 y82 => this.2.1 ζ (fun j hj => ?_) (fun j hj => ?_) ?_ (fun j hj => ?_) (fun j hj => ?_), this.2.2⟩
          · rw [y78 j hj, (m2.1 j hj).1]; exact s 78 (by decide) j (by decide)
          · rw [y79 j hj, (m2.1 j hj).2]; exact s 79 (by decide) j (by decide)
          · rw [y80, m3]; exact s 80 (by decide) 0 (by decide)
          · rw [y81 j hj, (m2.2 j hj).1]; exact s 81 (by decide) j (by decide)
          · rw [y82 j hj, (m2.2 j hj).2]; exact s 82 (by decide) j (by decide)
      refine ⟨rfl, ρ, rfl, nr, nt, N, V, I, h1.zfr hF5 (by decide), ⟨h2.1.fr (hF5.c (by decide) (by decide)) (hF5.c (by decide) (by decide)) (hF5.c (by decide) (by decide)), hLM⟩, ⟨h3.1.fr (hF5.c (by decide) (by decide)) (hF5.c (by decide) (by decide)) (hF5.c (by decide) (by decide)) k13, by rw [k13]; exact h3.2.1, by rw [k13, Int.natCast_add]; have := h3.2.2.1; omega, by rw [hF5.1 66 (by decide) 36 (by decide)]; exact h3.2.2.2⟩, h4.zfr hF5 (by decide), h5.zfr hF5 (by decide), h6.zfr hF5 (by decide), ⟨0, by omega, ?_, ?_, fun j hj => absurd hj (Nat.not_lt_zero j)⟩, h8.zfr hF5 (by decide), h9.zfr hF5 (by decide)⟩
      · rw [m1.1 7 (by decide) 2 (by decide), c72, e0]; rfl
      · rw [m4, e0]; rfl
end LAWO
