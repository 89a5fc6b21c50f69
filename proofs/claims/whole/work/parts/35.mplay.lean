/-! clapping, bytes, programmes: the reference -/
theorem lp_X12_clapR {X : zX} {d : Nat} {Q : Option Value → zH → Prop} (hd : 5 ≤ d) {nr nt : Nat} {N : Nat → Nat → Int} {V : zV} {lo : Int} {I : Nat → Int} (hR : HallR nr nt N) (t p : Nat) (turn plank : Int32) (ht : t < nt) (htu : turn.toInt = t) (hp : p < 16) (hpl : plank.toInt = p) (hI2 : IceR I) : ∀ (n : Nat) (σ : zS) (r acc : Int32), HallM σ nr nt N → LawM σ V → (gi σ 66 36).toInt = lo → IceAt (σ.1 86) I → 0 ≤ r.toInt → r.toInt + n = nr → -1000000 + 99 * n ≤ acc.toInt → acc.toInt ≤ 1000000 - 99 * n → (∀ (w acc' l4 : Int32) (τ : zS), zFr [83, 84] [] σ τ → w.toInt = max 0 (min 999 (acc.toInt + gainR V N lo t p (I p) n r.toInt.toNat)) → zwp X d MX12_clap 2 [.ref 66, .int turn, .int (plank + 1), .int acc', .int l4] [] (zen (si τ 87 (ix plank) w)) Q) → zwp X d MX12_clap 20 [.ref 66, .int turn, .int plank, .int acc, .int r] [] (zen σ) Q := by
  have hz : zin plank 16 = true := zin_of (by omega) (by omega)
  have hip : ix plank = p := by rw [ix_t]; omega
  intro n
  induction n with
  | zero =>
    intro σ r acc hH hL hlo hI h0 hn b1 b2 hQ
    have e0 : (0 : Int32).toInt = 0 := rfl
    have e9 : (999 : Int32).toInt = 999 := rfl
    unfold gainR at hQ
    rw [b_X12_clap_20 (hd := by omega), if_pos (ile.mpr (by rw [hH.1]; omega))]
    split
    · next c =>
      have := ile.mp c
      split
      · next c2 =>
        have := ile.mp c2
        rw [ztrue_and hz]
        exact hQ _ _ _ _ zFr.rf (by omega)
      · next c2 =>
        have := nile c2
        rw [ztrue_and hz]
        exact hQ _ _ _ _ zFr.rf (by omega)
    · next c =>
      have := nile c
      rw [ztrue_and hz]
      exact hQ _ _ _ _ zFr.rf (by omega)
  | succ n ih =>
    intro σ r acc hH hL hlo hI h0 hn b1 b2 hQ
    have h6 := hR.1
    have es : (r + 1).toInt = r.toInt + 1 := t_succ (by omega)
    have er : (r + 1).toInt.toNat = r.toInt.toNat + 1 := by omega
    have er2 : (r.toInt.toNat : Int) = r.toInt := by omega
    rw [b_X12_clap_20 (hd := by omega), if_neg (fun q => by have := ile.mp q; rw [hH.1] at this; omega)]
    unfold gainR at hQ
    by_cases hc : r = gi σ 66 36
    · have hc' : (r.toInt.toNat : Int) = lo := by rw [er2, hc, hlo]
      rw [if_pos hc]
      refine ih σ (r + 1) acc hH hL hlo hI (by omega) (by omega) (by omega) (by omega) (fun w a l τ hF hw => hQ w a l τ hF ?_)
      rw [if_pos hc', hw, er]; omega
    · have hc' : ¬ (r.toInt.toNat : Int) = lo := by rw [er2, ← hlo]; exact fun q => hc (ieq.mpr q)
      have hb := rowG_b V N r.toInt.toNat t p (I p)
      rw [if_neg hc, ztrue_and hz]
      refine w_X12_givesBy (by omega) hR hH hL (r := r.toInt.toNat) (t := t) (p := p) (i := I p) (by omega) ht hp (by omega) htu hpl (by rw [hip]; exact hI p hp) (hI2 p hp) (fun v τ hF hv => ?_)
      show zwp X d MX12_clap 53 _ [.int v, .int acc] (zen τ) Q
      rw [b_X12_clap_53]
      have ea : (acc + v).toInt = acc.toInt + rowG V N r.toInt.toNat t p (I p) := by rw [t_add (by rw [hv]; omega), hv]
      refine ih τ (r + 1) (acc + v) (hH.zfr hF (by simp) (by simp)) (hL.zfr hF (by simp) (by simp)) ?_ ?_ (by omega) (by omega) (by omega) (by omega) (fun w a l ρ hF2 hw => hQ w a l ρ (hF.tr hF2) ?_)
      · rw [hF.1 66 (by decide) 36 (by simp)]; exact hlo
      · rw [hF.c (by decide) (by simp)]; exact hI
      · rw [hw, ea, if_neg hc', er]; omega
theorem lp_X12_clap97 {X : zX} {d : Nat} {Q : Option Value → zH → Prop} {nr nt : Nat} {N : Nat → Nat → Int} {C : Nat → Int} (hR : HallR nr nt N) (turn : Int32) (w3 w4 : Value) : ∀ (n : Nat) (σ : zS) (p : Int32), HallM σ nr nt N → 0 ≤ p.toInt → p.toInt + n = N 6 0 → (∀ q : Nat, (q : Int) < N 6 0 → (gi σ 87 q).toInt = C q) → (∀ f : Nat → Int32, (∀ q : Nat, q < 16 → (f q).toInt = if p.toInt ≤ q ∧ (q : Int) < N 6 0 then C q else (gi σ 86 q).toInt) → Q none (zen (sA σ 86 f))) → zwp X d MX12_clap 97 [.ref 66, .int turn, .int p, w3, w4] [] (zen σ) Q := by
  have hl := hR.long
  intro n
  induction n with
  | zero =>
    intro σ p hH h0 hn hC hQ
    have h9 := hH.2.2.2.2.1
    rw [b_X12_clap_97, if_pos (ile.mpr (by omega))]
    have := hQ (σ.1 86) (fun q hq => by rw [if_neg (by omega)]; rfl)
    rw [sA_self] at this
    exact this
  | succ n ih =>
    intro σ p hH h0 hn hC hQ
    have h9 := hH.2.2.2.2.1
    have hz : zin p 16 = true := zin_of h0 (by omega)
    have hix := ix_t p
    have es : (p + 1).toInt = p.toInt + 1 := t_succ (by omega)
    rw [b_X12_clap_97, if_neg (fun q => by have := ile.mp q; omega), ztrue_and hz, ztrue_and hz, si_eq]
    refine ih _ (p + 1) (hH.fr (fun k h1 h2 => c_sA_ne (by omega)) (fun j _ => rfl)) (by omega) (by omega) (fun q hq => hC q hq) (fun f hf => ?_)
    rw [sA_sA]
    refine hQ f (fun q hq => ?_)
    rw [hf q hq]
    by_cases hqp : q = ix p
    · rw [if_neg (by omega), if_pos (by omega), hqp, gi_sA, upd_at]; exact hC _ (by omega)
    · rw [gi_sA, upd_ne _ _ hqp]
      by_cases hc : p.toInt ≤ q ∧ (q : Int) < N 6 0
      · rw [if_pos (by omega), if_pos hc]
      · rw [if_neg (by omega), if_neg hc]; rfl
theorem lp_X12_clap {X : zX} {d : Nat} {Q : Option Value → zH → Prop} (hd : 5 ≤ d) {nr nt : Nat} {N : Nat → Nat → Int} {V : zV} {lo : Int} {I : Nat → Int} (hR : HallR nr nt N) (t : Nat) (turn : Int32) (ht : t < nt) (htu : turn.toInt = t) (hI2 : IceR I) : ∀ (n : Nat) (σ : zS) (p : Int32) (w3 w4 : Value), HallM σ nr nt N → LawM σ V → (gi σ 66 36).toInt = lo → IceAt (σ.1 86) I → 0 ≤ p.toInt → p.toInt + n = N 6 0 → (∀ q : Nat, (q : Int) < p.toInt → (gi σ 87 q).toInt = clapI (N 6 0) (fun p i => gainR V N lo t p i nr 0) I q) → (∀ τ : zS, zFr [83, 84, 86, 87] [] σ τ → IceAt (τ.1 86) (clapI (N 6 0) (fun p i => gainR V N lo t p i nr 0) I) → Q none (zen τ)) → zwp X d MX12_clap 2 [.ref 66, .int turn, .int p, w3, w4] [] (zen σ) Q := by
  have hl := hR.long
  have hnr := hR.1
  have e0 : (0 : Int32).toInt = 0 := rfl
  intro n
  induction n with
  | zero =>
    intro σ p w3 w4 hH hL hlo hI h0 hn hC hQ
    have h9 := hH.2.2.2.2.1
    rw [b_X12_clap_2, if_pos (ile.mpr (by omega))]
    refine lp_X12_clap97 hR turn w3 w4 (N 6 0).toNat σ 0 hH (by omega) (by omega) (C := clapI (N 6 0) (fun p i => gainR V N lo t p i nr 0) I) (fun q hq => hC q (by omega)) (fun f hf => hQ _ (zFr.rf.wA (by decide)) (fun q hq => ?_))
    rw [sA_1, hf q hq]
    by_cases hc : (q : Int) < N 6 0
    · rw [if_pos (by omega)]
    · rw [if_neg (by omega)]
      unfold clapI
      rw [if_neg hc]
      exact hI q hq
  | succ n ih =>
    intro σ p w3 w4 hH hL hlo hI h0 hn hC hQ
    have h9 := hH.2.2.2.2.1
    have hz : zin p 16 = true := zin_of h0 (by omega)
    have hix := ix_t p
    have es : (p + 1).toInt = p.toInt + 1 := t_succ (by omega)
    rw [b_X12_clap_2, if_neg (fun q => by have := ile.mp q; omega), ztrue_and hz]
    have hIp : (gi σ 86 (ix p)).toInt = I (ix p) := hI _ (by omega)
    have b2 := hI2 (ix p) (by omega)
    refine lp_X12_clapR hd hR t (ix p) turn p ht htu (by omega) (by omega) hI2 nr σ 0 (gi σ 86 (ix p)) hH hL hlo hI (by omega) (by omega) (by omega) (by omega) (fun w a l τ hF hw => ?_)
    have c86 : τ.1 86 = σ.1 86 := hF.c (by decide) (by simp)
    have c87 : τ.1 87 = σ.1 87 := hF.c (by decide) (by simp)
    have hF2 : zFr [83, 84, 86, 87] [] σ (si τ 87 (ix p) w) := (hF.sub (by simp <;> omega) (by simp)).ws (by decide)
    refine ih _ (p + 1) _ _ (hH.zfr hF2 (by simp) (by simp)) (hL.zfr hF2 (by simp) (by simp)) ?_ ?_ (by omega) (by omega) ?_ (fun ρ hF3 hic => hQ ρ (hF2.tr hF3) hic)
    · rw [hF2.1 66 (by decide) 36 (by simp)]; exact hlo
    · rw [c_si_ne (by decide), c86]; exact hI
    · intro q hq
      by_cases hqp : q = ix p
      · rw [hqp, gi_si, hw, hIp]
        unfold clapI
        rw [if_pos (by omega)]
        rfl
      · rw [gi_si_j hqp]
        show (τ.1 87 q).toInt = _
        rw [c87]
        exact hC q (by omega)
theorem w_X12_clap {X : zX} {d : Nat} {Q : Option Value → zH → Prop} (hd : 5 ≤ d) {σ : zS} {nr nt : Nat} {N : Nat → Nat → Int} {V : zV} {lo : Int} {I : Nat → Int} {t : Nat} {turn : Int32} (hR : HallR nr nt N) (hH : HallM σ nr nt N) (hL : LawM σ V) (hlo : (gi σ 66 36).toInt = lo) (hI : IceAt (σ.1 86) I) (hI2 : IceR I) (ht : t < nt) (htu : turn.toInt = t)
    (hQ : ∀ τ : zS, zFr [83, 84, 86, 87] [] σ τ → IceAt (τ.1 86) (clapI (N 6 0) (fun p i => gainR V N lo t p i nr 0) I) → Q none (zen τ)) : zwp X d MX12_clap 0 [.ref 66, .int turn, .null, .null, .null] [] (zen σ) Q := by
  have e0 : (0 : Int32).toInt = 0 := rfl
  have hl := hR.long
  rw [b_X12_clap_0]
  exact lp_X12_clap hd hR t turn ht htu hI2 (N 6 0).toNat σ 0 _ _ hH hL hlo hI (by omega) (by omega) (fun q hq => by omega) hQ
theorem w_X12_goTurn {X : zX} {d : Nat} {Q : Option Value → zH → Prop} (hd : 6 ≤ d) {σ : zS} {nr nt : Nat} {N : Nat → Nat → Int} {V : zV} {lo : Int} {I : Nat → Int} {t : Nat} {turn : Int32} (hR : HallR nr nt N) (hH : HallM σ nr nt N) (hL : LawM σ V) (hlo : (gi σ 66 36).toInt = lo) (hI : IceAt (σ.1 86) I) (hI2 : IceR I) (ht : t < nt) (htu : turn.toInt = t)
    (hQ : ∀ τ : zS, zFr [83, 84, 86, 87] [(66, 37)] σ τ → IceAt (τ.1 86) (clapI (N 6 0) (fun p i => gainR V N lo t p i nr 0) (thawI (N 6 0) (N 5 t * N 7 0) I)) → gi τ 66 37 = gi σ 66 37 + Int32.ofInt (N 5 t) → Q none (zen τ)) : zwp X d MX12_goTurn 0 [.ref 66, .int turn] [] (zen σ) Q := by
  have h8 := hR.2.1
  have hz : zin turn 8 = true := zin_of (by omega) (by omega)
  have it : ix turn = t := by rw [ix_t]; omega
  have HT := hH.2.2.2.1 t ht
  have hl := hR.lasts ht
  have hw := hR.warm
  rw [b_X12_goTurn_0 (hd := by omega), ztrue_and hz]
  refine w_X12_thaw (by omega) hR hH hI hI2 (by rw [it, HT.2]; omega) (fun f hf => ?_)
  rw [it, HT.2] at hf
  show zwp X d MX12_goTurn 10 _ [] _ Q
  rw [b_X12_goTurn_10 (hd := by omega)]
  have hF1 : zFr [83, 84, 86, 87] [(66, 37)] σ (si (sA σ 86 f) 66 37 (gi σ 66 37 + gi σ 72 (ix turn))) := (zFr.rf.wA (by decide)).sf (by decide)
  refine w_X12_clap (by omega) (lo := lo) (t := t) (I := thawI (N 6 0) (N 5 t * N 7 0) I) hR (hH.zfr hF1 (by simp) (by simp)) (hL.zfr hF1 (by simp) (by simp)) ?_ ?_ (thawI_R (mulb (by omega) hl.2 hw.1 hw.2).1 hI2) ht htu (fun τ hF2 hic => ?_)
  · rw [gi_si_j (by decide)]; exact hlo
  · rw [c_si_ne (by decide), sA_1]; exact hf
  · show zwp X d MX12_goTurn 15 _ [] _ Q
    rw [b_X12_goTurn_15]
    refine hQ τ (hF1.tr (hF2.sub (fun _ q => q) (by simp))) hic ?_
    rw [hF2.1 66 (by decide) 37 (by simp), gi_si, it]
    rw [of_t HT.2]
theorem w_X12_goByte {X : zX} {d : Nat} {Q : Option Value → zH → Prop} (hd : 7 ≤ d) {σ : zS} {nr nt : Nat} {N : Nat → Nat → Int} {V : zV} {lo : Int} {I : Nat → Int} {b : Int32} (hR : HallR nr nt N) (hH : HallM σ nr nt N) (hL : LawM σ V) (hlo : (gi σ 66 36).toInt = lo) (hI : IceAt (σ.1 86) I) (hI2 : IceR I) (hb : b.toInt = 20 ∨ (0 ≤ b.toInt ∧ b.toInt < nt))
    (hQ : ∀ τ : zS, zFr [83, 84, 86, 87] [(66, 37)] σ τ → IceAt (τ.1 86) (stepI N (fun t p i => gainR V N lo t p i nr 0) b.toInt I) → gi τ 66 37 = gi σ 66 37 + Int32.ofInt (minI N b.toInt) → Q none (zen τ)) : zwp X d MX12_goByte 0 [.ref 66, .int b] [] (zen σ) Q := by
  have e20 : (20 : Int32).toInt = 20 := rfl
  rw [b_X12_goByte_0 (hd := by omega)]
  unfold stepI minI at hQ
  by_cases hc : b = 20
  · have hb20 : b.toInt = 20 := by rw [hc]; rfl
    have hr := hR.rest
    have h11 := hH.2.2.2.2.2.2.1
    rw [if_neg (fun q => q hc)]
    refine w_X12_thaw (by omega) hR hH hI hI2 (by omega) (fun f hf => ?_)
    show zwp X d MX12_goByte 14 _ [] _ Q
    rw [b_X12_goByte_14]
    refine hQ _ ((zFr.rf.wA (by decide)).sf (by decide)) ?_ ?_
    · rw [c_si_ne (by decide), sA_1, if_pos hb20]
      rw [h11] at hf; exact hf
    · rw [gi_si, if_pos hb20, of_t h11]
  · have hb20 : ¬ b.toInt = 20 := fun q => hc (ieq.mpr (by rw [q, e20]))
    rw [if_pos hc]
    refine w_X12_goTurn (by omega) (V := V) (lo := lo) (t := b.toInt.toNat) hR hH hL hlo hI hI2 (by omega) (by omega) (fun τ hF hic hm => ?_)
    show zwp X d MX12_goByte 22 _ [] _ Q
    rw [b_X12_goByte_22]
    refine hQ τ hF ?_ ?_
    · rw [if_neg hb20]; exact hic
    · rw [if_neg hb20]; exact hm
/-! programmes, in numbers -/
def play (N : Nat → Nat → Int) (G : Nat → Nat → Int → Int) (L : List Int) (I : Nat → Int) : Nat → Int := L.foldl (fun J b => stepI N G b J) I
def mins (N : Nat → Nat → Int) (L : List Int) : Int := (L.map (minI N)).sum
def skipL (left : Int) : Nat → List Int → List Int
  | _, [] => []
  | k, b :: r => if (k : Int) = left then skipL left (k + 1) r else b :: skipL left (k + 1) r
theorem skipL_no {left : Int} : ∀ (L : List Int) (k : Nat), left < k → skipL left k L = L := by
  intro L
  induction L with
  | nil => intro k _; rfl
  | cons b r ih => intro k h; unfold skipL; rw [if_neg (by omega), ih (k + 1) (by omega)]
def okB (nt : Nat) (b : Int) : Prop := b = 20 ∨ (0 ≤ b ∧ b < nt)
theorem play_R {nr nt : Nat} {N : Nat → Nat → Int} {G : Nat → Nat → Int → Int} (hR : HallR nr nt N) : ∀ (L : List Int) (I : Nat → Int), (∀ b, b ∈ L → okB nt b) → IceR I → IceR (play N G L I) := by
  intro L
  induction L with
  | nil => intro I _ h; exact h
  | cons b r ih => intro I hb h; exact ih _ (fun c hc => hb c (List.mem_cons_of_mem _ hc)) (stepI_R hR (hb b List.mem_cons_self) h)
theorem mins_b {nr nt : Nat} {N : Nat → Nat → Int} (hR : HallR nr nt N) : ∀ (L : List Int), (∀ b, b ∈ L → okB nt b) → 0 ≤ mins N L ∧ mins N L ≤ 60 * L.length := by
  intro L
  induction L with
  | nil => intro _; unfold mins; simp
  | cons b r ih =>
    intro hb
    have h1 := ih (fun c hc => hb c (List.mem_cons_of_mem _ hc))
    have h2 := minI_b hR (hb b List.mem_cons_self)
    unfold mins at *
    rw [List.map_cons, List.sum_cons, List.length_cons]
    omega
theorem skipL_ok {nt : Nat} {left : Int} : ∀ (L : List Int) (k : Nat), (∀ b, b ∈ L → okB nt b) → ∀ b, b ∈ skipL left k L → okB nt b := by
  intro L
  induction L with
  | nil => intro k h b hb; cases hb
  | cons c r ih =>
    intro k h b hb
    unfold skipL at hb
    split at hb
    · exact ih _ (fun x hx => h x (List.mem_cons_of_mem _ hx)) b hb
    · rcases List.mem_cons.mp hb with e | e
      · subst e; exact h _ List.mem_cons_self
      · exact ih _ (fun x hx => h x (List.mem_cons_of_mem _ hx)) b e
theorem lp_X12_goProgramme {X : zX} {d : Nat} {Q : Option Value → zH → Prop} (hd : 8 ≤ d) {nr nt : Nat} {N : Nat → Nat → Int} {V : zV} {lo : Int} (hR : HallR nr nt N) (n left : Int32) (hn : n.toInt ≤ 21) : ∀ (R : List Int) (σ : zS) (k : Int32) (I : Nat → Int), HallM σ nr nt N → LawM σ V → (gi σ 66 36).toInt = lo → IceAt (σ.1 86) I → IceR I → (∀ b, b ∈ R → okB nt b) → 0 ≤ k.toInt → k.toInt + R.length = n.toInt → (∀ j (h : j < R.length), (gi σ 88 (k.toInt.toNat + j)).toInt = R[j]) → (∀ τ : zS, zFr [83, 84, 86, 87] [(66, 37)] σ τ → IceAt (τ.1 86) (play N (fun t p i => gainR V N lo t p i nr 0) (skipL left.toInt k.toInt.toNat R) I) → gi τ 66 37 = gi σ 66 37 + Int32.ofInt (mins N (skipL left.toInt k.toInt.toNat R)) → Q none (zen τ)) → zwp X d MX12_goProgramme 6 [.ref 66, .int n, .int left, .int k] [] (zen σ) Q := by
  intro R
  induction R with
  | nil =>
    intro σ k I hH hL hlo hI hI2 hb h0 hk hP hQ
    rw [List.length_nil] at hk
    rw [b_X12_goProgramme_6 (hd := by omega), if_pos (ile.mpr (by omega))]
    refine hQ σ zFr.rf hI ?_
    have : Int32.ofInt (mins N (skipL left.toInt k.toInt.toNat [])) = 0 := rfl
    rw [this, Int32.add_zero]
  | cons b R ih =>
    intro σ k I hH hL hlo hI hI2 hb h0 hk hP hQ
    rw [List.length_cons] at hk
    have es : (k + 1).toInt = k.toInt + 1 := t_succ (by omega)
    have er : (k + 1).toInt.toNat = k.toInt.toNat + 1 := by omega
    have hb2 : ∀ c, c ∈ R → okB nt c := fun c hc => hb c (List.mem_cons_of_mem _ hc)
    have ht : ∀ τ : zS, τ.1 88 = σ.1 88 → ∀ j (h : j < R.length), (gi τ 88 ((k + 1).toInt.toNat + j)).toInt = R[j] := by
      intro τ hτ j hj
      have := hP (j + 1) (by rw [List.length_cons]; omega)
      rw [List.getElem_cons_succ] at this
      rw [← this, er]
      unfold gi
      rw [hτ, show k.toInt.toNat + 1 + j = k.toInt.toNat + (j + 1) by omega]
    rw [b_X12_goProgramme_6 (hd := by omega), if_neg (fun q => by have := ile.mp q; omega)]
    unfold skipL at hQ
    by_cases hc : k = left
    · rw [if_pos hc]
      rw [if_pos (show (k.toInt.toNat : Int) = left.toInt by rw [← hc]; omega)] at hQ
      refine ih σ (k + 1) I hH hL hlo hI hI2 hb2 (by omega) (by omega) (ht σ rfl) ?_
      rw [er]; exact hQ
    · have hc' : ¬ (k.toInt.toNat : Int) = left.toInt := fun q => hc (ieq.mpr (by omega))
      rw [if_neg hc'] at hQ
      have hz : zin k 21 = true := zin_of h0 (by omega)
      have h0b := hP 0 (by rw [List.length_cons]; omega)
      rw [List.getElem_cons_zero, Nat.add_zero] at h0b
      have hbk : (gi σ 88 (ix k)).toInt = b := h0b
      rw [if_neg hc, ztrue_and hz]
      refine w_X12_goByte (by omega) (V := V) (lo := lo) hR hH hL hlo hI hI2 (by rw [hbk]; exact hb b List.mem_cons_self) (fun τ hF hic hm => ?_)
      rw [hbk] at hic hm
      show zwp X d MX12_goProgramme 26 _ [] (zen τ) Q
      rw [b_X12_goProgramme_26]
      refine ih τ (k + 1) _ (hH.zfr hF (by simp) (by simp)) (hL.zfr hF (by simp) (by simp)) ?_ hic (stepI_R hR (hb b List.mem_cons_self) hI2) hb2 (by omega) (by omega) (ht τ (hF.c (by decide) (by simp))) (fun ρ hF2 hic2 hm2 => hQ ρ (hF.tr hF2) ?_ ?_)
      · rw [hF.1 66 (by decide) 36 (by simp)]; exact hlo
      · rw [er] at hic2; exact hic2
      · rw [hm2, hm, er, Int32.add_assoc, ← Int32.ofInt_add]
        rfl
theorem w_X12_goProgramme {X : zX} {d : Nat} {Q : Option Value → zH → Prop} (hd : 8 ≤ d) {σ : zS} {nr nt : Nat} {N : Nat → Nat → Int} {V : zV} {lo : Int} {I : Nat → Int} (hR : HallR nr nt N) {n left : Int32} {L : List Int} (hn : n.toInt = L.length) (hL20 : L.length ≤ 20) (hH : HallM σ nr nt N) (hL : LawM σ V) (hlo : (gi σ 66 36).toInt = lo) (hI : IceAt (σ.1 85) I) (hI2 : IceR I) (hb : ∀ b, b ∈ L → okB nt b) (hP : ∀ j (h : j < L.length), (gi σ 88 j).toInt = L[j])
    (hQ : ∀ τ : zS, zFr [83, 84, 86, 87] [(66, 37)] σ τ → IceAt (τ.1 86) (play N (fun t p i => gainR V N lo t p i nr 0) (skipL left.toInt 0 L) I) → gi τ 66 37 = Int32.ofInt (mins N (skipL left.toInt 0 L)) → Q none (zen τ)) : zwp X d MX12_goProgramme 0 [.ref 66, .int n, .int left, .null] [] (zen σ) Q := by
  have e0 : (0 : Int32).toInt = 0 := rfl
  rw [b_X12_goProgramme_0 (hd := by omega)]
  refine w_X12_beginIce hI (fun f hf => ?_)
  show zwp X d MX12_goProgramme 4 _ [] _ Q
  rw [b_X12_goProgramme_4]
  have hF1 : zFr [83, 84, 86, 87] [(66, 37)] σ (si (sA σ 86 f) 66 37 0) := (zFr.rf.wA (by decide)).sf (by decide)
  refine lp_X12_goProgramme hd (V := V) (lo := lo) hR n left (by omega) L _ 0 I (hH.zfr hF1 (by simp) (by simp)) (hL.zfr hF1 (by simp) (by simp)) ?_ ?_ hI2 hb (by omega) (by omega) ?_ (fun τ hF2 hic hm => hQ τ (hF1.tr hF2) hic ?_)
  · rw [gi_si_j (by decide)]; exact hlo
  · rw [c_si_ne (by decide), sA_1]; exact hf
  · intro j hj
    have := hP j hj
    rw [e0]
    show (gi σ 88 (0 + j)).toInt = _
    rw [Nat.zero_add]; exact this
  · rw [hm, gi_si, Int32.zero_add]
    rfl
