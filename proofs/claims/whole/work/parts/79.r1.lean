/-! the text of a law: lines; the class -/
abbrev lnT : Type := List Int × List Int
def eP (B : Nat → Int) (n : Nat) : Nat → pR := lvP B n (opP B n 6) 5
def lnP (B : Nat → Int) (n p : Nat) : Nat × Option lnT := match eP B n p with
  | (q, none) => (q, none)
  | (q, some c1) => if B q = 63 then (match eP B n (q + 1) with
    | (q2, none) => (q2, none)
    | (q2, some c2) => (q2, some (c1, c2))) else (q, some ([], c1))
def txP (B : Nat → Int) (n : Nat) : Nat → Nat → List lnT → Nat × Option (List lnT)
  | 0, p, _ => (p, none)
  | f + 1, p, T => match lnP B n p with
    | (q, none) => (q, none)
    | (q, some l) => if q = n then (q, some (T ++ [l])) else if B q = 59 then txP B n f (q + 1) (T ++ [l]) else (q, none)
theorem eP_w {B : Nat → Int} {n : Nat} (h : bOk B n) : ∀ p, p ≤ n → WfR p n (eP B n p) := lvP_w h (opP_w h 6) 5
theorem lnP_w {B : Nat → Int} {n p : Nat} (h : bOk B n) (hp : p ≤ n) : p ≤ (lnP B n p).1 ∧ (lnP B n p).1 ≤ n ∧ ∀ l, (lnP B n p).2 = some l → okT2 l ∧ p + l.1.length + l.2.length ≤ (lnP B n p).1 ∧ (l.1 ≠ [] → p + l.1.length + l.2.length + 1 ≤ (lnP B n p).1) ∧ 0 < l.2.length := by
  have W := eP_w h p hp
  unfold lnP
  generalize eP B n p = r at W ⊢
  obtain ⟨q, o⟩ := r
  cases o with
  | none => exact ⟨W.1, W.2.1, fun l e => by cases e⟩
  | some c1 =>
    have W1 := W.1
    have W2 := W.2.1
    have W3 := W.2.2 c1 rfl
    dsimp only at W1 W2 W3 ⊢
    by_cases c : B q = 63
    · rw [if_pos c]
      have hq := h.lt (p := q) (by omega)
      have U := eP_w h (q + 1) (by omega)
      generalize eP B n (q + 1) = r2 at U ⊢
      obtain ⟨q2, o2⟩ := r2
      cases o2 with
      | none => exact ⟨by have := U.1; show p ≤ q2; dsimp only at this; omega, U.2.1, fun l e => by cases e⟩
      | some c2 =>
        have U1 := U.1
        have U2 := U.2.1
        have U3 := U.2.2 c2 rfl
        dsimp only at U1 U2 U3 ⊢
        refine ⟨by omega, U2, fun l e => ?_⟩
        cases e
        exact ⟨⟨Or.inr W3.2.2, U3.2.2⟩, by dsimp only; omega, fun _ => by dsimp only; omega, U3.2.1⟩
    · rw [if_neg c]
      refine ⟨W1, W2, fun l e => ?_⟩
      cases e
      exact ⟨⟨Or.inl rfl, W3.2.2⟩, by dsimp only; rw [List.length_nil]; omega, fun y => absurd rfl y, W3.2.1⟩
/-- the layouts go on -/
theorem TCl.app {f10 f11 : Nat → Int32} : ∀ (T : List lnT) (k : Nat) (l : lnT), TCl f10 f11 k T → LAt f10 (lineC l) (k + lenT T) → (l.1 ≠ [] → (f11 (k + lenT T + l.1.length)).toInt = ((k + lenT T : Nat) : Int) + (lineC l).length - 1) → TCl f10 f11 k (T ++ [l]) := by
  intro T
  induction T with
  | nil => intro k l _ h1 h2; exact ⟨h1, fun e => by have := h2 e; exact this, trivial⟩
  | cons x r ih =>
    intro k l h h1 h2
    obtain ⟨t1, t2, t3⟩ := h
    have e : lenT (x :: r) = (lineC x).length + lenT r := rfl
    rw [e, ← Nat.add_assoc] at h1 h2
    exact ⟨t1, t2, ih _ l t3 h1 h2⟩
theorem lenT_app : ∀ (T : List lnT) (l : lnT), lenT (T ++ [l]) = lenT T + (lineC l).length := by
  intro T l
  induction T with
  | nil => show (lineC l).length + 0 = 0 + (lineC l).length; omega
  | cons x r ih =>
    show (lineC x).length + lenT (r ++ [l]) = (lineC x).length + lenT r + (lineC l).length
    rw [ih]; omega
theorem lineC_l1 (l : lnT) (h : l.1 ≠ []) : l.1.length < (lineC l).length := by
  unfold lineC
  rw [if_neg h, List.length_append, List.length_append, List.length_append, List.length_singleton, List.length_singleton]; omega
theorem TCl.eq {f10 f11 g10 g11 : Nat → Int32} : ∀ (T : List lnT) (k : Nat), TCl f10 f11 k T → (∀ j, j < k + lenT T → g10 j = f10 j ∧ g11 j = f11 j) → TCl g10 g11 k T := by
  intro T
  induction T with
  | nil => intro k _ _; exact trivial
  | cons l r ih =>
    intro k h h1
    obtain ⟨t1, t2, t3⟩ := h
    have e1 : lenT (l :: r) = (lineC l).length + lenT r := rfl
    rw [e1] at h1
    refine ⟨t1.eq (fun j a b => (h1 j (by omega)).1), fun e => ?_, ih _ t3 (fun j hj => h1 j (by omega))⟩
    have := lineC_l1 l e
    rw [(h1 (k + l.1.length) (by omega)).2]; exact t2 e
section TXC
variable {X : zX} {d : Nat} {Q : Option Value → zH → Prop} {B : Nat → Int} {n : Nat}
theorem endC {σ : zS} {p len : Nat} (h : CD σ p len) (hl : len < 121) (w : Int32) (wn : Int) (hw : w.toInt = wn) (hwn : wn = -1 ∨ (0 ≤ wn ∧ wn < 121)) : p_X6_endLine σ w ∧ zFr [10, 11] [(9, 3), (9, 4)] σ (g_X6_endLine σ w) ∧ CD (g_X6_endLine σ w) p (len + 1) ∧ gi (g_X6_endLine σ w) 10 len = 10019 ∧ (∀ j, j < len → gi (g_X6_endLine σ w) 10 j = gi σ 10 j) ∧ (gi (g_X6_endLine σ w) 9 4 = 0 → gi σ 9 4 = 0) ∧ (∀ j : Nat, (j : Int) ≠ wn → gi (g_X6_endLine σ w) 11 j = gi σ 11 j) ∧ (0 ≤ wn → gi (g_X6_endLine σ w) 11 wn.toNat = gi σ 9 3) := by
  have e0 := l0
  have e242 : (121 : Int32).toInt = 121 := rfl
  unfold p_X6_endLine g_X6_endLine
  by_cases c : w < 0
  · have := il.mp c
    rw [if_pos c, if_pos c]
    obtain ⟨a1, a2, a3, a4, a5, a6⟩ := addC h (by omega) 10019
    rw [if_pos hl] at a3
    exact ⟨a1, a2.sub (by decide) (by decide), a3, a4 hl, a5, fun e => (a6 e).1, fun j _ => a2.1 11 (by decide) j (by simp), fun q => by omega⟩
  · have := nil_ c
    have n2 : ¬ 121 ≤ w := fun y => by have := ile.mp y; omega
    have iw : ix w = wn.toNat := by rw [ix_t, hw]
    have zw : zin w 121 = true := zin_of (by omega) (by omega)
    rw [if_neg c, if_neg c, if_neg n2, if_neg n2, iw]
    have hD : CD (si σ 11 wn.toNat (gi σ 9 3)) p len := ⟨by rw [gi_si_ne (by decide)]; exact h.1, by rw [gi_si_ne (by decide)]; exact h.2.1, by rw [gi_si_ne (by decide)]; exact h.2.2⟩
    obtain ⟨a1, a2, a3, a4, a5, a6⟩ := addC hD (by omega) 10019
    rw [if_pos hl] at a3
    refine ⟨⟨zw, a1⟩, (zFr.rf.ws (by decide)).tr (a2.sub (by decide) (by decide)), a3, a4 hl, fun j hj => ?_, fun e => ?_, fun j hj => ?_, fun q => ?_⟩
    · rw [a5 j hj, gi_si_ne (by decide)]
    · have := (a6 e).1
      rw [gi_si_ne (by decide)] at this; exact this
    · rw [a2.1 11 (by decide) j (by simp), gi_si_j (by omega)]
    · rw [a2.1 11 (by decide) _ (by simp), gi_si]
theorem w_readLine (hd : 100 ≤ d) (hB : bOk B n) (hn : n ≤ 120) {σ : zS} {p len : Nat} (hI : CI σ B n) (hD : CD σ p len) (hp : p ≤ n) (hlen : len + (n - p) ≤ 120)
    (hok : ∀ (q : Nat) (l : lnT) (τ : zS), lnP B n p = (q, some l) → zFr [10, 11] FP σ τ → CI τ B n → CD τ q (len + (lineC l).length) → (∀ j, j < len → gi τ 10 j = gi σ 10 j ∧ gi τ 11 j = gi σ 11 j) → LAt (τ.1 10) (lineC l) len → (l.1 ≠ [] → (gi τ 11 (len + l.1.length)).toInt = (len : Int) + (lineC l).length - 1) → (gi τ 9 4 = 0 → gi σ 9 4 = 0 ∧ ∀ s, s ∈ l.1 ++ l.2 → s ≠ 10005) → Q (some (.int 1)) (zen τ))
    (hbad : ∀ (q len' : Nat) (v : Int32) (τ : zS), lnP B n p = (q, none) → zFr [10, 11] FP σ τ → CI τ B n → CD τ q len' → len' ≤ 121 → (v = 0 ∨ (v = 1 ∧ 48 ≤ B q ∧ B q ≤ 57)) → Q (some (.int v)) (zen τ)) : zwp X d MX9_readLine 0 [.ref 7, .null] [] (zen σ) Q := by
  have e0 := l0
  have em1 := lm1
  have hw := opP_w hB 6
  have EX : ∀ d, 79 ≤ d → PcS B n (eP B n) (fun σ Q => zwp X d MX9_readLevel 0 [.ref 7, .int 0, .int 0, .null, .null, .null] [] (zen σ) Q) := fun d hd => w_readLevel (X := X) hB hn hw (d0 := 72) (by omega) (fun d hd => w_readOperand hB hn 6 d 0 (by rw [e0]; rfl) (by decide) (by omega)) 5 d 0 (by omega) (by rw [e0]; rfl) (by omega)
  have WE := eP_w hB
  unfold lnP at hok hbad
  rw [b_X9_readLine_0 (hd := by omega)]
  -- behind an expression that is faulty, the line ends or its reader sees it
  have bad2 : ∀ (q len' : Nat) (τ : zS), (∀ v : Int32, (v = 0 ∨ (v = 1 ∧ 48 ≤ B q ∧ B q ≤ 57)) → ∀ ρ len'', zFr [10, 11] FP σ ρ → CI ρ B n → CD ρ q len'' → len'' ≤ 121 → Q (some (.int v)) (zen ρ)) → zFr [10, 11] FP σ τ → CI τ B n → CD τ q len' → len' ≤ 121 → 48 ≤ B q ∧ B q ≤ 57 → ∀ (w : Int32) (wn : Int), w.toInt = wn → (wn = -1 ∨ (0 ≤ wn ∧ wn < 121)) → p_X6_endLine τ w ∧ Q (some (.int 1)) (zen (g_X6_endLine τ w)) := fun q len' τ hq hF hIτ hDτ hl' hdg w wn hw hwn => by
    by_cases c : len' < 121
    · obtain ⟨a1, a2, a3, _, _, _, _, _⟩ := endC hDτ c w wn hw hwn
      have hFa : zFr [10, 11] FP τ (g_X6_endLine τ w) := a2.sub (by decide) (by decide)
      exact ⟨a1, hq 1 (Or.inr ⟨rfl, hdg⟩) _ _ (hF.tr hFa) (hIτ.fr hFa (by decide)) a3 (by omega)⟩
    · have e242 : (121 : Int32).toInt = 121 := rfl
      unfold p_X6_endLine g_X6_endLine
      have e0' := l0
      by_cases c1 : w < 0
      · rw [if_pos c1, if_pos c1]
        obtain ⟨a1, a2, a3, _, _, _⟩ := addC hDτ hl' 10019
        have hFa : zFr [10, 11] FP τ (g_X6_add τ 10019) := a2.sub (by decide) (by decide)
        exact ⟨a1, hq 1 (Or.inr ⟨rfl, hdg⟩) _ _ (hF.tr hFa) (hIτ.fr hFa (by decide)) a3 (by split <;> omega)⟩
      · have := nil_ c1
        have n2 : ¬ 121 ≤ w := fun y => by have := ile.mp y; omega
        have zw : zin w 121 = true := zin_of (by omega) (by omega)
        rw [if_neg c1, if_neg c1, if_neg n2, if_neg n2]
        have hD' : CD (si τ 11 (ix w) (gi τ 9 3)) q len' := ⟨by rw [gi_si_ne (by decide)]; exact hDτ.1, by rw [gi_si_ne (by decide)]; exact hDτ.2.1, by rw [gi_si_ne (by decide)]; exact hDτ.2.2⟩
        obtain ⟨a1, a2, a3, _, _, _⟩ := addC hD' hl' 10019
        have hFa : zFr [10, 11] FP τ (g_X6_add (si τ 11 (ix w) (gi τ 9 3)) 10019) := (zFr.rf.ws (by decide)).tr (a2.sub (by decide) (by decide))
        exact ⟨⟨zw, a1⟩, hq 1 (Or.inr ⟨rfl, hdg⟩) _ _ (hF.tr hFa) (hIτ.fr hFa (by decide)) a3 (by split <;> omega)⟩
  refine EX (d - 1) (by omega) σ p len _ hI hD hp (by omega) (fun q c1 τ e g1 g2 g3 g4 g5 => ?_) (fun q len' v τ e g1 g2 g3 g4 => ?_)
  · show zwp X d MX9_readLine 6 _ [.int 1] (zen τ) Q
    have W := WE p hp
    rw [e] at hok hbad W
    have W1 := W.1
    have W2 := W.2.1
    have W3 := W.2.2 c1 rfl
    dsimp only at hok hbad W1 W2 W3
    have hF1 : zFr [10, 11] FP σ τ := g1.sub (by decide) (by decide)
    have hIτ := hI.fr g1 (by decide)
    have t11 : ∀ j, gi τ 11 j = gi σ 11 j := fun j => g1.1 11 (by decide) j (by simp)
    have tk := takeC hB hn hIτ g2 W2 (c := 63) (x := 63) rfl (by decide)
    rw [b_X9_readLine_6 (hd := by omega), if_pos (by decide), ztrue_and tk.1]
    by_cases c63 : B q = 63
    · have k1 := tk.2.1 c63
      rw [if_pos c63] at hok hbad
      rw [k1.1, if_neg (by decide), k1.2]
      have hqn := hB.lt (p := q) (by omega)
      obtain ⟨f1, f2, f3, f4, f5⟩ := nextC hIτ g2 (by omega)
      have f11 : ∀ j, gi (si τ 7 3 (gi τ 7 3 + 1)) 11 j = gi τ 11 j := fun j => gi_si_ne (by decide)
      have h93 : gi (si τ 7 3 (gi τ 7 3 + 1)) 9 3 = gi τ 9 3 := gi_si_ne (by decide)
      rw [h93]
      generalize si τ 7 3 (gi τ 7 3 + 1) = τ1 at f1 f2 f3 f4 f5 f11 ⊢
      obtain ⟨a1, a2, a3, a4, a5, a6⟩ := addC f2 (by omega) 10018
      rw [if_pos (by omega)] at a3
      have hFa : zFr [10] FP τ1 (g_X6_add τ1 10018) := a2.sub (by decide) (by decide)
      have hI2 := f1.fr hFa (by decide)
      have b11 : ∀ j, gi (g_X6_add τ1 10018) 11 j = gi σ 11 j := fun j => by rw [a2.1 11 (by decide) j (by simp), f11, t11]
      have hF2 : zFr [10, 11] FP σ (g_X6_add τ1 10018) := (hF1.tr (f3.sub (by decide) (by decide))).tr (hFa.sub (by decide) (by decide))
      refine ⟨a1, ?_⟩
      generalize g_X6_add τ1 10018 = τ2 at a3 a4 a5 a6 hFa hI2 b11 hF2 ⊢
      have wv : (gi τ 9 3).toInt = ((len + c1.length : Nat) : Int) := g2.2.1
      have U := WE (q + 1) (by omega)
      refine EX (d - 1) (by omega) τ2 (q + 1) (len + c1.length + 1) _ hI2 a3 (by omega) (by omega) (fun q2 c2 ρ e2 h1 h2 h3 h4 h5 => ?_) (fun q2 len' v ρ e2 h1 h2 h3 h4 => ?_)
      · show zwp X d MX9_readLine 46 _ [.int 1] (zen ρ) Q
        rw [e2] at hok U
        have U1 := U.1
        have U2 := U.2.1
        have U3 := U.2.2 c2 rfl
        dsimp only at hok U1 U2 U3
        have hne : c1 ≠ [] := fun y => by rw [y] at W3; exact absurd W3.2.1 (by decide)
        have eC : lineC (c1, c2) = c1 ++ ([10018] ++ (c2 ++ [10019])) := by unfold lineC; rw [if_neg hne]
        have hlc : (lineC (c1, c2)).length = c1.length + (1 + (c2.length + 1)) := by rw [eC, List.length_append, List.length_append, List.length_append, List.length_singleton, List.length_singleton]
        have hFr : zFr [10, 11] FP τ2 ρ := h1.sub (by decide) (by decide)
        obtain ⟨b1, b2, b3, b4, b5, b6, b7, b8⟩ := endC h2 (by omega) (gi τ 9 3) _ wv (Or.inr (by omega))
        have hFe : zFr [10, 11] FP ρ (g_X6_endLine ρ (gi τ 9 3)) := b2.sub (by decide) (by decide)
        have r11 : ∀ j, gi ρ 11 j = gi σ 11 j := fun j => by rw [h1.1 11 (by decide) j (by simp), b11]
        have en : ((len + c1.length : Nat) : Int).toNat = len + c1.length := by omega
        rw [en] at b8
        have pre : ∀ j, j < len + c1.length → gi (g_X6_endLine ρ (gi τ 9 3)) 10 j = gi τ 10 j := fun j hj => by rw [b5 j (by omega), h3 j (by omega), a5 j (by omega), f4]
        rw [b_X9_readLine_46 (hd := by omega), if_pos (by decide)]
        refine ⟨b1, hok q2 (c1, c2) _ rfl ((hF2.tr hFr).tr hFe) ((hI2.fr hFr (by decide)).fr hFe (by decide)) ?_ (fun j hj => ⟨?_, ?_⟩) ?_ (fun _ => ?_) (fun z => ?_)⟩
        · rw [hlc, show len + (c1.length + (1 + (c2.length + 1))) = len + c1.length + 1 + c2.length + 1 by omega]; exact b3
        · rw [pre j (by omega)]; exact g3 j hj
        · rw [b7 j (by omega)]; exact r11 j
        · rw [eC]
          refine LAt.mk (g4.eq (fun j x1 x2 => pre j (by omega))) (LAt.mk (LAt.sing ?_) (LAt.mk (h4.eq (fun j x1 x2 => ?_)) (LAt.sing ?_)))
          · show (gi (g_X6_endLine ρ (gi τ 9 3)) 10 (len + c1.length)).toInt = 10018
            rw [b5 _ (by omega), h3 _ (by omega), a4 (by omega)]; rfl
          · exact b5 j (by omega)
          · rw [List.length_singleton]
            show (gi (g_X6_endLine ρ (gi τ 9 3)) 10 (len + c1.length + 1 + c2.length)).toInt = 10019
            rw [b4]; rfl
        · show (gi (g_X6_endLine ρ (gi τ 9 3)) 11 (len + c1.length)).toInt = _
          rw [b8 (by omega), h2.2.1, hlc]; omega
        · have z2 := h5 (b6 z)
          have z3 := a6 z2.1
          have z4 := g5 (f5 ▸ z3.1)
          refine ⟨z4.1, fun s hs => ?_⟩
          rcases List.mem_append.mp hs with y | y
          · exact z4.2 s y
          · exact z2.2 s y
      · show zwp X d MX9_readLine 46 _ [.int v] (zen ρ) Q
        rw [e2] at hbad
        dsimp only at hbad
        have hFr : zFr [10, 11] FP τ2 ρ := h1.sub (by decide) (by decide)
        have hIρ := hI2.fr hFr (by decide)
        rw [b_X9_readLine_46 (hd := by omega)]
        rcases h4 with rfl | ⟨rfl, h4⟩
        · rw [if_neg (fun y => y rfl)]
          exact hbad q2 len' 0 ρ rfl (hF2.tr hFr) hIρ h2 h3 (Or.inl rfl)
        · rw [if_pos (by decide)]
          exact bad2 q2 len' ρ (fun v hv ζ l2 x1 x2 x3 x4 => hbad q2 l2 v ζ rfl x1 x2 x3 x4 hv) (hF2.tr hFr) hIρ h2 h3 h4 (gi τ 9 3) _ wv (Or.inr (by omega))
    · have k1 := tk.2.2 c63
      rw [if_neg c63] at hok
      rw [k1.1, if_pos rfl, k1.2]
      obtain ⟨b1, b2, b3, b4, b5, b6, b7, b8⟩ := endC g2 (by omega) (-1) (-1) em1 (Or.inl rfl)
      have hFe : zFr [10, 11] FP τ (g_X6_endLine τ (-1)) := b2.sub (by decide) (by decide)
      have eC : lineC ([], c1) = c1 ++ [10019] := by unfold lineC; rw [if_pos rfl]
      refine ⟨b1, hok q ([], c1) _ rfl (hF1.tr hFe) (hIτ.fr hFe (by decide)) ?_ (fun j hj => ⟨?_, ?_⟩) ?_ (fun y => absurd rfl y) (fun z => ?_)⟩
      · rw [eC, List.length_append, List.length_singleton, ← Nat.add_assoc]; exact b3
      · rw [b5 j (by omega)]; exact g3 j hj
      · rw [b7 j (by omega)]; exact t11 j
      · rw [eC]
        refine LAt.mk (g4.eq (fun j x1 x2 => b5 j (by omega))) (LAt.sing ?_)
        show (gi (g_X6_endLine τ (-1)) 10 (len + c1.length)).toInt = 10019
        rw [b4]; rfl
      · have z4 := g5 (b6 z)
        exact ⟨z4.1, fun s hs => z4.2 s hs⟩
  · show zwp X d MX9_readLine 6 _ [.int v] (zen τ) Q
    rw [e] at hbad
    dsimp only at hbad
    have hF1 : zFr [10, 11] FP σ τ := g1.sub (by decide) (by decide)
    have hIτ := hI.fr g1 (by decide)
    have W := (WE p hp).2.1
    rw [e] at W
    dsimp only at W
    rw [b_X9_readLine_6 (hd := by omega)]
    rcases g4 with rfl | ⟨rfl, g4⟩
    · rw [if_neg (fun y => y rfl)]
      exact hbad q len' 0 τ rfl hF1 hIτ g2 g3 (Or.inl rfl)
    · have tk := takeC hB hn hIτ g2 W (c := 63) (x := 63) rfl (by decide)
      have k1 := tk.2.2 (by omega)
      rw [if_pos (by decide), ztrue_and tk.1, k1.1, if_pos rfl, k1.2]
      exact bad2 q len' τ (fun v hv ζ l2 x1 x2 x3 x4 => hbad q l2 v ζ rfl x1 x2 x3 x4 hv) hF1 hIτ g2 g3 g4 (-1) (-1) em1 (Or.inl rfl)
def tOk (σ : zS) (T : List lnT) : Prop := TCl (σ.1 10) (σ.1 11) 0 T ∧ (gi σ 9 4 = 0 → ∀ l, l ∈ T → ∀ s, s ∈ l.1 ++ l.2 → s ≠ 10005) ∧ ∀ l, l ∈ T → okT2 l
theorem lp_faultC (hd : 102 ≤ d) (hB : bOk B n) (hn : n ≤ 120) {σ0 : zS} : ∀ (f : Nat) (σ : zS) (p : Nat) (T : List lnT) (k : Int32), zFr [10, 11] FP σ0 σ → CI σ B n → CD σ p (lenT T) → p ≤ n → lenT T + (n - p) ≤ 120 → tOk σ T → k.toInt + f = n + 1 → 0 ≤ k.toInt →
    (∀ (q : Nat) (T' : List lnT) (τ : zS), txP B n f p T = (q, some T') → zFr [10, 11] FP σ0 τ → CD τ q (lenT T') → lenT T' ≤ 121 → tOk τ T' → Q (some (.int (-1))) (zen τ)) →
    (∀ (q : Nat) (v : Int32) (τ : zS), txP B n f p T = (q, none) → zFr [10, 11] FP σ0 τ → v.toInt = q → Q (some (.int v)) (zen τ)) →
    zwp X d MX9_fault 14 [.ref 7, .int k] [] (zen σ) Q := by
  intro f
  have e1 := l1
  induction f with
  | zero =>
    intro σ p T k hF hI hD hp hlen hT hk hk0 hok hbad
    have h2 := hI.1
    rw [b_X9_fault_14 (hd := by omega), if_pos (il.mpr (by omega))]
    exact hbad p _ σ rfl hF hD.1
  | succ f ih =>
    intro σ p T k hF hI hD hp hlen hT hk hk0 hok hbad
    have h2 := hI.1
    have ek : (k + 1).toInt = k.toInt + 1 := by rw [t_add (by omega), e1]
    have W := lnP_w hB hp
    unfold txP at hok hbad
    rw [b_X9_fault_14 (hd := by omega), if_neg (fun y => by have := il.mp y; omega)]
    refine w_readLine (by omega) hB hn hI hD hp (by omega) (fun q l τ e g1 gI g2 g3 g4 g5 g6 => ?_) (fun q len' v τ e g1 gI g2 g3 g4 => ?_)
    · show zwp X d MX9_fault 26 _ [.int 1] (zen τ) Q
      rw [e] at hok hbad W
      dsimp only at hok hbad W
      have W3 := W.2.2 l rfl
      have hlc : (lineC l).length ≤ (q - p) + 1 := by
        unfold lineC
        by_cases c : l.1 = []
        · rw [if_pos c, List.length_append, List.length_singleton]
          have := W3.2.1
          rw [c, List.length_nil] at this; omega
        · rw [if_neg c, List.length_append, List.length_append, List.length_append, List.length_singleton, List.length_singleton]
          have := W3.2.2.1 c; omega
      have hqp : p + 1 ≤ q := by have := W3.2.1; have := W3.2.2.2; omega
      have hT2 : tOk τ (T ++ [l]) := by
        refine ⟨TCl.app T 0 l (TCl.eq T 0 hT.1 (fun j hj => ?_)) (by rw [Nat.zero_add]; exact g4) (fun y => by rw [Nat.zero_add]; exact g5 y), fun z x hx => ?_, fun x hx => ?_⟩
        · exact g3 j (by omega)
        · have z6 := g6 z
          rcases List.mem_append.mp hx with y | y
          · exact hT.2.1 z6.1 x y
          · rw [List.mem_singleton.mp y]; exact z6.2
        · rcases List.mem_append.mp hx with y | y
          · exact hT.2.2 x y
          · rw [List.mem_singleton.mp y]; exact W3.1
      have h3 := g2.1
      have h2' := gI.1
      have g2' : CD τ q (lenT (T ++ [l])) := by rw [lenT_app]; exact g2
      rw [b_X9_fault_26 (hd := by omega), if_pos (by decide)]
      by_cases cq : q = n
      · rw [if_pos cq] at hok
        rw [if_neg (fun y => y (ieq.mpr (by omega)))]
        exact hok q _ τ rfl (hF.tr g1) g2' (by rw [lenT_app]; omega) hT2
      · rw [if_neg cq] at hok hbad
        have tk := takeC hB hn gI g2 W.2.1 (c := 59) (x := 59) rfl (by decide)
        rw [if_pos (fun y => cq (by have := congrArg Int32.toInt y; omega)), ztrue_and tk.1]
        by_cases c59 : B q = 59
        · have k1 := tk.2.1 c59
          rw [if_pos c59] at hok hbad
          rw [k1.1, if_pos (by decide), k1.2]
          obtain ⟨f1, f2, f3, f4, f5⟩ := nextC gI g2' (by omega)
          have f3' : zFr [10, 11] FP τ (si τ 7 3 (gi τ 7 3 + 1)) := f3.sub (by decide) (by decide)
          have f11 : ∀ j, gi (si τ 7 3 (gi τ 7 3 + 1)) 11 j = gi τ 11 j := fun j => gi_si_ne (by decide)
          have hqn : q < n := by have := W.2.1; omega
          refine ih _ (q + 1) (T ++ [l]) (k + 1) ((hF.tr g1).tr f3') f1 f2 (by omega) (by rw [lenT_app]; omega) ⟨TCl.eq _ 0 hT2.1 (fun j _ => ⟨f4 j, f11 j⟩), fun z => hT2.2.1 (f5 ▸ z), hT2.2.2⟩ (by omega) (by omega) hok hbad
        · have k1 := tk.2.2 c59
          rw [if_neg c59] at hbad
          rw [k1.1, if_neg (fun y => y rfl), k1.2]
          exact hbad q _ τ rfl (hF.tr g1) h3
    · show zwp X d MX9_fault 26 _ [.int v] (zen τ) Q
      rw [e] at hbad W
      dsimp only at hbad W
      have h3 := g2.1
      have h2' := gI.1
      rw [b_X9_fault_26 (hd := by omega)]
      rcases g4 with rfl | ⟨rfl, g4⟩
      · rw [if_neg (fun y => y rfl)]
        exact hbad q _ τ rfl (hF.tr g1) h3
      · have hqn := hB.lt (p := q) (by omega)
        have tk := takeC hB hn gI g2 W.2.1 (c := 59) (x := 59) rfl (by decide)
        have k1 := tk.2.2 (by omega)
        rw [if_pos (by decide), if_pos (fun y => by have := congrArg Int32.toInt y; omega), ztrue_and tk.1, k1.1, if_neg (fun y => y rfl), k1.2]
        exact hbad q _ τ rfl (hF.tr g1) h3
end TXC
