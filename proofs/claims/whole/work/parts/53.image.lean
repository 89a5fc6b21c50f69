/-! image, back, body, keep -/
theorem va_c16 {f g : Nat → Int32} {j : Nat} (hj : j < 16) : va_cpy f g (ix 0) (ix 0) (ix 16) j = f j := by
  have i0 : ix 0 = 0 := rfl
  have i16 : ix 16 = 16 := rfl
  unfold va_cpy
  rw [i0, i16, if_pos (by omega), show 0 + (j - 0) = j by omega]
theorem va_c5 {f g : Nat → Int32} {j : Nat} (hj : j < 5) : va_cpy f g (ix 0) (ix 0) (ix 5) j = f j := by
  have i0 : ix 0 = 0 := rfl
  have i5 : ix 5 = 5 := rfl
  unfold va_cpy
  rw [i0, i5, if_pos (by omega), show 0 + (j - 0) = j by omega]
section IMG
variable {X : zX} {d : Nat} {σ : zS} {k : Nat}
theorem lp_X12_image7 {Q : Option Value → zH → Prop} : ∀ (n : Nat) (σ : zS) (f : Nat → Int32) (p : Int32), 0 ≤ p.toInt → p.toInt + n = 16 → (∀ g : Nat → Int32, (∀ j, j < 16 → g j = if (j : Int) < p.toInt then f j else σ.1 85 j) → zwp X d MX12_image 33 [.ref 66, .int 0] [] (zen (sA σ 91 g)) Q) → zwp X d MX12_image 7 [.ref 66, .int p] [] (zen (sA σ 91 f)) Q := by
  have e16 := l16
  intro n
  induction n with
  | zero =>
    intro σ f p h0 hn hQ
    rw [b_X12_image_7, if_pos (ile.mpr (by omega))]
    exact hQ f (fun j hj => by rw [if_pos (by omega)])
  | succ n ih =>
    intro σ f p h0 hn hQ
    have hz : zin p 16 = true := zin_of h0 (by omega)
    have hix := ix_t p
    have es : (p + 1).toInt = p.toInt + 1 := t_succ (by omega)
    rw [b_X12_image_7, if_neg (fun q => by have := ile.mp q; omega), ztrue_and hz, ztrue_and hz, si_sA]
    refine ih σ _ (p + 1) (by omega) (by omega) (fun g hg => hQ g (fun j hj => ?_))
    rw [hg j hj]
    by_cases e : j = ix p
    · rw [if_pos (by omega), if_neg (by omega), e, upd_at]; rfl
    · rw [upd_ne _ _ e]
      by_cases c : (j : Int) < p.toInt
      · rw [if_pos (by omega), if_pos c]
      · rw [if_neg (by omega), if_neg c]
theorem lp_X12_image33 {Q : Option Value → zH → Prop} : ∀ (n : Nat) (σ : zS) (f : Nat → Int32) (p : Int32), 0 ≤ p.toInt → p.toInt + n = 5 → (∀ g : Nat → Int32, (∀ j, j < 5 → g j = if (j : Int) < p.toInt then f j else σ.1 90 j) → Q (some (.int (gi σ 90 0))) (zen (sA σ 92 g))) → zwp X d MX12_image 33 [.ref 66, .int p] [] (zen (sA σ 92 f)) Q := by
  have e5 := l5
  intro n
  induction n with
  | zero =>
    intro σ f p h0 hn hQ
    rw [b_X12_image_33, if_pos (ile.mpr (by omega))]
    exact hQ f (fun j hj => by rw [if_pos (by omega)])
  | succ n ih =>
    intro σ f p h0 hn hQ
    have hz : zin p 5 = true := zin_of h0 (by omega)
    have hix := ix_t p
    have es : (p + 1).toInt = p.toInt + 1 := t_succ (by omega)
    rw [b_X12_image_33, if_neg (fun q => by have := ile.mp q; omega), ztrue_and hz, ztrue_and hz, si_sA]
    refine ih σ _ (p + 1) (by omega) (by omega) (fun g hg => hQ g (fun j hj => ?_))
    rw [hg j hj]
    by_cases e : j = ix p
    · rw [if_pos (by omega), if_neg (by omega), e, upd_at]; rfl
    · rw [upd_ne _ _ e]
      by_cases c : (j : Int) < p.toInt
      · rw [if_pos (by omega), if_pos c]
      · rw [if_neg (by omega), if_neg c]
theorem lp_X12_back12 {Q : Option Value → zH → Prop} : ∀ (n : Nat) (σ : zS) (f : Nat → Int32) (p : Int32), 0 ≤ p.toInt → p.toInt + n = 16 → (∀ g : Nat → Int32, (∀ j, j < 16 → g j = if (j : Int) < p.toInt then f j else σ.1 91 j) → zwp X d MX12_back 38 [.ref 66, .int 0] [] (zen (sA σ 85 g)) Q) → zwp X d MX12_back 12 [.ref 66, .int p] [] (zen (sA σ 85 f)) Q := by
  have e16 := l16
  intro n
  induction n with
  | zero =>
    intro σ f p h0 hn hQ
    rw [b_X12_back_12, if_pos (ile.mpr (by omega))]
    exact hQ f (fun j hj => by rw [if_pos (by omega)])
  | succ n ih =>
    intro σ f p h0 hn hQ
    have hz : zin p 16 = true := zin_of h0 (by omega)
    have hix := ix_t p
    have es : (p + 1).toInt = p.toInt + 1 := t_succ (by omega)
    rw [b_X12_back_12, if_neg (fun q => by have := ile.mp q; omega), ztrue_and hz, ztrue_and hz, si_sA]
    refine ih σ _ (p + 1) (by omega) (by omega) (fun g hg => hQ g (fun j hj => ?_))
    rw [hg j hj]
    by_cases e : j = ix p
    · rw [if_pos (by omega), if_neg (by omega), e, upd_at]; rfl
    · rw [upd_ne _ _ e]
      by_cases c : (j : Int) < p.toInt
      · rw [if_pos (by omega), if_pos c]
      · rw [if_neg (by omega), if_neg c]
theorem lp_X12_back38 {Q : Option Value → zH → Prop} : ∀ (n : Nat) (σ : zS) (f : Nat → Int32) (p : Int32), 0 ≤ p.toInt → p.toInt + n = 5 → (∀ g : Nat → Int32, (∀ j, j < 5 → g j = if (j : Int) < p.toInt then f j else σ.1 92 j) → Q (some (.int (g 0))) (zen (sA σ 90 g))) → zwp X d MX12_back 38 [.ref 66, .int p] [] (zen (sA σ 90 f)) Q := by
  have e5 := l5
  have i0 : ix 0 = 0 := rfl
  intro n
  induction n with
  | zero =>
    intro σ f p h0 hn hQ
    rw [b_X12_back_38, if_pos (ile.mpr (by omega)), i0, gi_sA]
    exact hQ f (fun j hj => by rw [if_pos (by omega)])
  | succ n ih =>
    intro σ f p h0 hn hQ
    have hz : zin p 5 = true := zin_of h0 (by omega)
    have hix := ix_t p
    have es : (p + 1).toInt = p.toInt + 1 := t_succ (by omega)
    rw [b_X12_back_38, if_neg (fun q => by have := ile.mp q; omega), ztrue_and hz, ztrue_and hz, si_sA]
    refine ih σ _ (p + 1) (by omega) (by omega) (fun g hg => hQ g (fun j hj => ?_))
    rw [hg j hj]
    by_cases e : j = ix p
    · rw [if_pos (by omega), if_neg (by omega), e, upd_at]; rfl
    · rw [upd_ne _ _ e]
      by_cases c : (j : Int) < p.toInt
      · rw [if_pos (by omega), if_pos c]
      · rw [if_neg (by omega), if_neg c]
theorem o_image (hd : 20 ≤ d) (h : Rel k σ) : zOp k σ X d MX11_image MX12_image [.ref 0] [.ref 66, .null] := by
  obtain ⟨nr, nt, N, V, I, h⟩ := h
  have e0 := l0
  have i0 : ix 0 = 0 := rfl
  obtain ⟨h1, h2, h3, h4, h5, h6, h7, h8, h9⟩ := h
  unfold zOp
  rw [s_X11_image (hd := by omega)]
  have hF1 : zFr [22, 23] [(17, 4)] σ (g_X11_image σ) := by
    unfold g_X11_image g_X4_keepImage g_X2_become
    exact ((zFr.rf.wA (by decide)).wA (by decide)).sf (by decide)
  have x22 : ∀ j, j < 16 → gi (g_X11_image σ) 22 j = gi σ 19 j := fun j hj => by
    unfold g_X11_image g_X4_keepImage g_X2_become
    rw [gi_si_ne (by decide), gi_sA_ne (by decide), gi_sA, va_c16 hj]; rfl
  have x23 : ∀ j, j < 5 → gi (g_X11_image σ) 23 j = gi σ 20 j := fun j hj => by
    unfold g_X11_image g_X4_keepImage g_X2_become
    rw [gi_si_ne (by decide), gi_sA, va_c5 hj, c_sA_ne (by decide)]; rfl
  have x17 : gi (g_X11_image σ) 17 4 = 1 := by unfold g_X11_image g_X4_keepImage; rw [gi_si]
  have fe : f_X11_image σ = gi σ 20 0 := by
    unfold f_X11_image g_X4_keepImage g_X2_become
    rw [i0, gi_si_ne (by decide), gi_sA_ne (by decide), gi_sA_ne (by decide)]
  rw [fe]
  refine ⟨gi σ 20 0, _, rfl, rfl, ?_⟩
  generalize g_X11_image σ = τ at *
  rw [b_X12_image_0]
  have a1 := lp_X12_image7 (X := X) (d := d) (Q := fun v' h' => v' = some (.int (gi σ 20 0)) ∧ ∃ σ', h' = zen σ' ∧ Rel (k + 1) σ') 16 (si τ 66 46 1) ((si τ 66 46 1).1 91) 0 (by omega) (by omega)
  rw [sA_self] at a1
  refine a1 (fun g hg => ?_)
  have a2 := lp_X12_image33 (X := X) (d := d) (Q := fun v' h' => v' = some (.int (gi σ 20 0)) ∧ ∃ σ', h' = zen σ' ∧ Rel (k + 1) σ') 5 (sA (si τ 66 46 1) 91 g) ((sA (si τ 66 46 1) 91 g).1 92) 0 (by omega) (by omega)
  rw [sA_self] at a2
  refine a2 (fun g2 hg2 => ?_)
  have hF2 : zFr [91, 92] [(66, 46)] τ (sA (sA (si τ 66 46 1) 91 g) 92 g2) := ((zFr.rf.sf (by decide)).wA (by decide)).wA (by decide)
  have hFF : zFr [22, 23, 91, 92] [(17, 4), (66, 46)] σ (sA (sA (si τ 66 46 1) 91 g) 92 g2) := (hF1.sub (by decide) (by decide)).tr (hF2.sub (by decide) (by decide))
  have l90 : ∀ j, gi (sA (si τ 66 46 1) 91 g) 90 j = gi σ 90 j := fun j => by rw [gi_sA_ne (by decide), gi_si_ne (by decide)]; exact hF1.1 90 (by decide) j (by simp)
  have hl5 := h5.2.2
  have e13 : gi (sA (sA (si τ 66 46 1) 91 g) 92 g2) 1 3 = gi σ 1 3 := hFF.1 1 (by decide) 3 (by decide)
  refine ⟨by rw [l90, (hl5 0 (by omega)).1], _, rfl, nr, nt, N, V, I, h1.zfr hFF (by decide), h2.zfr hFF (by decide), ⟨h3.1.fr (hFF.c (by decide) (by decide)) (hFF.c (by decide) (by decide)) (hFF.c (by decide) (by decide)) e13, by rw [e13]; exact h3.2.1, by rw [e13, Int.natCast_add]; have := h3.2.2.1; omega, by rw [hFF.1 66 (by decide) 36 (by decide)]; exact h3.2.2.2⟩, h4.zfr hFF (by decide), ⟨⟨I, fun p hp => ?_, fun p hp => ?_, h4.2.2.1, h4.2.2.2⟩, ?_, fun j hj => ⟨?_, ?_⟩⟩, h6.zfr hFF (by decide), h7.zfr hFF (by decide), h8.zfr hFF (by decide), h9.zfr hFF (by decide)⟩
  · show (gi (sA (sA (si τ 66 46 1) 91 g) 92 g2) 22 p).toInt = _
    rw [hF2.1 22 (by decide) p (by simp), x22 p hp]; exact h4.1 p hp
  · show (gi (sA (sA (si τ 66 46 1) 91 g) 92 g2) 91 p).toInt = _
    rw [gi_sA_ne (by decide), gi_sA, hg p hp, if_neg (by omega)]
    show (gi (si τ 66 46 1) 85 p).toInt = _
    rw [gi_si_ne (by decide), hF1.1 85 (by decide) p (by simp)]; exact h4.2.1 p hp
  · rw [hF2.1 17 (by decide) 4 (by decide), x17, gi_sA_ne (by decide), gi_sA_ne (by decide), gi_si]
  · rw [hFF.1 20 (by decide) j (by simp), hFF.1 90 (by decide) j (by simp)]; exact (hl5 j hj).1
  · rw [hF2.1 23 (by decide) j (by simp), x23 j hj, gi_sA, hg2 j hj, if_neg (by omega)]
    show _ = gi (sA (si τ 66 46 1) 91 g) 90 j
    rw [l90]; exact (hl5 j hj).1
theorem o_back (hd : 20 ≤ d) (h : Rel k σ) : zOp k σ X d MX11_back MX12_back [.ref 0] [.ref 66, .null] := by
  have hn : Rel (k + 1) σ := by obtain ⟨nr, nt, N, V, I, h⟩ := h; exact h.next
  obtain ⟨nr, nt, N, V, I, h⟩ := h
  have e0 := l0
  have i0 : ix 0 = 0 := rfl
  obtain ⟨h1, h2, h3, h4, h5, h6, h7, h8, h9⟩ := h
  obtain ⟨⟨J, j1, j2, j3, j4⟩, j5, hl5⟩ := h5
  by_cases c : gi σ 17 4 = 0
  · refine zOp.same hn (x := -5) (fm := -5) (fun Q => ?_) (fun Q => ?_) rfl
    · have q : g_X11_back σ = σ ∧ f_X11_back σ = -5 := by
        unfold g_X11_back f_X11_back
        rw [if_neg (fun q => q c), if_neg (fun q => q c)]; exact ⟨rfl, rfl⟩
      rw [s_X11_back (hd := by omega), q.1, q.2]
    · rw [b_X12_back_0, if_neg (fun q => q (by rw [← j5]; exact c))]
  · unfold zOp
    have q : g_X11_back σ = g_X4_layBack σ ∧ f_X11_back σ = gi (g_X4_layBack σ) 20 0 := by
      unfold g_X11_back f_X11_back
      rw [if_pos c, if_pos c, i0]; exact ⟨rfl, rfl⟩
    rw [s_X11_back (hd := by omega), q.1, q.2]
    have hF1 : zFr [19, 20] [] σ (g_X4_layBack σ) := by
      unfold g_X4_layBack g_X2_become
      exact (zFr.rf.wA (by decide)).wA (by decide)
    have x19 : ∀ j, j < 16 → gi (g_X4_layBack σ) 19 j = gi σ 22 j := fun j hj => by
      unfold g_X4_layBack g_X2_become
      rw [gi_sA_ne (by decide), gi_sA, va_c16 hj]; rfl
    have x20 : ∀ j, j < 5 → gi (g_X4_layBack σ) 20 j = gi σ 23 j := fun j hj => by
      unfold g_X4_layBack g_X2_become
      rw [gi_sA, va_c5 hj, c_sA_ne (by decide)]; rfl
    refine ⟨_, _, rfl, rfl, ?_⟩
    generalize g_X4_layBack σ = τ at *
    have m46 : ¬ gi τ 66 46 = 0 := by rw [hF1.1 66 (by decide) 46 (by decide), ← j5]; exact c
    rw [b_X12_back_0, if_pos m46]
    have a1 := lp_X12_back12 (X := X) (d := d) (Q := fun v' h' => v' = some (.int (gi τ 20 0)) ∧ ∃ σ', h' = zen σ' ∧ Rel (k + 1) σ') 16 τ (τ.1 85) 0 (by omega) (by omega)
    rw [sA_self] at a1
    refine a1 (fun g hg => ?_)
    have a2 := lp_X12_back38 (X := X) (d := d) (Q := fun v' h' => v' = some (.int (gi τ 20 0)) ∧ ∃ σ', h' = zen σ' ∧ Rel (k + 1) σ') 5 (sA τ 85 g) ((sA τ 85 g).1 90) 0 (by omega) (by omega)
    rw [sA_self] at a2
    refine a2 (fun g2 hg2 => ?_)
    have hF2 : zFr [85, 90] [] τ (sA (sA τ 85 g) 90 g2) := (zFr.rf.wA (by decide)).wA (by decide)
    have hFF : zFr [19, 20, 85, 90] [] σ (sA (sA τ 85 g) 90 g2) := (hF1.sub (by decide) (by decide)).tr (hF2.sub (by decide) (by decide))
    have e13 : gi (sA (sA τ 85 g) 90 g2) 1 3 = gi σ 1 3 := hFF.1 1 (by decide) 3 (by decide)
    have y90 : ∀ j, j < 5 → g2 j = gi σ 92 j := fun j hj => by
      rw [hg2 j hj, if_neg (by omega)]
      show gi (sA τ 85 g) 92 j = _
      rw [gi_sA_ne (by decide)]; exact hF1.1 92 (by decide) j (by simp)
    refine ⟨by rw [y90 0 (by omega), x20 0 (by omega), (hl5 0 (by omega)).2], _, rfl, nr, nt, N, V, J, h1.zfr hFF (by decide), h2.zfr hFF (by decide), ⟨h3.1.fr (hFF.c (by decide) (by decide)) (hFF.c (by decide) (by decide)) (hFF.c (by decide) (by decide)) e13, by rw [e13]; exact h3.2.1, by rw [e13, Int.natCast_add]; have := h3.2.2.1; omega, by rw [hFF.1 66 (by decide) 36 (by decide)]; exact h3.2.2.2⟩, ⟨fun p hp => ?_, fun p hp => ?_, j3, j4⟩, ⟨⟨J, ?_, ?_, j3, j4⟩, ?_, fun j hj => ⟨?_, ?_⟩⟩, h6.zfr hFF (by decide), h7.zfr hFF (by decide), h8.zfr hFF (by decide), h9.zfr hFF (by decide)⟩
    · show (gi (sA (sA τ 85 g) 90 g2) 19 p).toInt = _
      rw [hF2.1 19 (by decide) p (by simp), x19 p hp]; exact j1 p hp
    · show (gi (sA (sA τ 85 g) 90 g2) 85 p).toInt = _
      rw [gi_sA_ne (by decide), gi_sA, hg p hp, if_neg (by omega)]
      show (gi τ 91 p).toInt = _
      rw [hF1.1 91 (by decide) p (by simp)]; exact j2 p hp
    · rw [hFF.c (by decide) (by decide)]; exact j1
    · rw [hFF.c (by decide) (by decide)]; exact j2
    · rw [hFF.1 17 (by decide) 4 (by decide), hFF.1 66 (by decide) 46 (by decide)]; exact j5
    · rw [hF2.1 20 (by decide) j (by simp), x20 j hj, gi_sA, y90 j hj, (hl5 j hj).2]
    · rw [hFF.1 23 (by decide) j (by simp), hFF.1 92 (by decide) j (by simp)]; exact (hl5 j hj).2
end IMG
