/-! the text of a law: the reference reads -/
theorem byte8_all : ∀ k, k < 256 → (k < 128 → ((Int32.toInt8 (Int32.ofNat k)).toInt32).toInt = k) ∧ (128 ≤ k → ((Int32.toInt8 (Int32.ofNat k)).toInt32).toInt < 0) ∧ (k < 128 → (Int32.toInt8 ((Int32.toInt8 (Int32.ofNat k)).toInt32)).toInt32 = Int32.ofNat k) := by decide +kernel
def LK (b : Int32) (x : Int) : Prop := (0 ≤ x ∧ x < 128 → b.toInt = x) ∧ (¬ (0 ≤ x ∧ x < 128) → b.toInt < 0)
theorem LK.eq {b c : Int32} {x y : Int} (h : LK b x) (hc : c.toInt = y) (hy : 0 ≤ y ∧ y < 128) : b = c ↔ x = y := by
  by_cases q : 0 ≤ x ∧ x < 128
  · have := h.1 q
    exact ⟨fun e => by rw [e] at this; omega, fun e => ieq.mpr (by omega)⟩
  · have := h.2 q
    exact ⟨fun e => by rw [e] at this; omega, fun e => by omega⟩
def MI (σ : zS) (B : Nat → Int) (n : Nat) : Prop := (gi σ 66 20).toInt = n ∧ ∀ j, j < n → gi σ 77 j = (Int32.toInt8 (Int32.ofInt (B j))).toInt32
def MD (σ : zS) (p ld o : Nat) : Prop := (gi σ 66 21).toInt = p ∧ (gi σ 66 22).toInt < 0 ∧ (gi σ 66 23).toInt = o ∧ (gi σ 66 24).toInt = ld
def MF (σ : zS) (q ld : Nat) : Prop := (gi σ 66 21).toInt = q ∧ (gi σ 66 22).toInt = q ∧ (gi σ 66 24).toInt = ld
abbrev FM : List (Nat × Nat) := [(66, 21), (66, 22), (66, 23), (66, 24)]
theorem MI.fr {σ τ : zS} {B : Nat → Int} {n : Nat} {S : List Nat} (h : MI σ B n) (hF : zFr S FM σ τ) (hS : 66 ∉ S ∧ 77 ∉ S) : MI τ B n := by
  refine ⟨by rw [hF.1 66 hS.1 20 (by decide)]; exact h.1, fun j hj => ?_⟩
  rw [hF.1 77 hS.2 j (by simp)]; exact h.2 j hj
theorem lookM {σ : zS} {B : Nat → Int} {n p : Nat} (hB : bOk B n) (hn : n ≤ 120) (hI : MI σ B n) (h1 : (gi σ 66 21).toInt = p) (hp : p ≤ n) : p_X12_look σ ∧ LK (f_X12_look σ) (B p) := by
  have h2 := hI.1
  have em1 := lm1
  unfold p_X12_look f_X12_look
  by_cases c : gi σ 66 20 ≤ gi σ 66 21
  · have := ile.mp c
    have hb := hB.1 p (by omega)
    rw [if_pos c, if_pos c]
    exact ⟨trivial, fun q => by omega, fun _ => by rw [em1]; decide⟩
  · have := nile c
    have ii : ix (gi σ 66 21) = p := by rw [ix_t]; omega
    have iz : zin (gi σ 66 21) 120 = true := zin_of (by omega) (by omega)
    have hb := hI.2 p (by omega)
    have hbb := hB.2 p (by omega)
    rw [if_neg c, if_neg c, ii, hb]
    obtain ⟨k, hk⟩ : ∃ k : Nat, B p = k := ⟨(B p).toNat, by omega⟩
    rw [hk] at hbb ⊢
    have A := byte8_all k (by omega)
    have e : Int32.ofInt (k : Int) = Int32.ofNat k := rfl
    rw [e]
    exact ⟨iz, fun q => A.1 (by omega), fun q => A.2.1 (by omega)⟩
theorem addM {σ : zS} {ld : Nat} (h : (gi σ 66 24).toInt = ld) (hl : ld ≤ 129) {a v : Int32} {x : Int} (ha : a.toInt = x) (hx : 0 ≤ x ∧ x < 128) : p_X12_addStep σ a v ∧ zFr [78, 79] [(66, 24)] σ (g_X12_addStep σ a v) ∧ (gi (g_X12_addStep σ a v) 66 24).toInt = ld + 1 ∧ gi (g_X12_addStep σ a v) 78 (130 + ld) = a ∧ gi (g_X12_addStep σ a v) 79 (130 + ld) = v ∧ (∀ j, j ≠ 130 + ld → gi (g_X12_addStep σ a v) 78 j = gi σ 78 j ∧ gi (g_X12_addStep σ a v) 79 j = gi σ 79 j) := by
  have e1 := l1
  have e130 : (130 : Int32).toInt = 130 := rfl
  have ea : (130 + gi σ 66 24).toInt = 130 + ld := by rw [t_add (by rw [h, e130]; omega), h, e130]
  have iz : zin (130 + gi σ 66 24) 260 = true := zin_of (by omega) (by omega)
  have ii : ix (130 + gi σ 66 24) = 130 + ld := by rw [ix_t, ea]; omega
  obtain ⟨k, hk⟩ : ∃ k : Nat, x = k := ⟨x.toNat, by omega⟩
  have hak : a = Int32.ofNat k := by rw [ieq, ha, hk]; exact (Int32.toInt_ofNat_of_lt (by omega)).symm
  have A := (byte8_all k (by omega)).2.2 (by omega)
  unfold p_X12_addStep g_X12_addStep
  rw [ii, hak, A]
  refine ⟨⟨iz, iz⟩, ((zFr.rf.ws (by decide)).ws (by decide)).sf (by decide), ?_, ?_, ?_, fun j hj => ⟨?_, ?_⟩⟩
  · rw [gi_si, t_add (by rw [h]; omega), h, e1]
  · rw [gi_si_ne (by decide), gi_si_ne (by decide), gi_si]
  · rw [gi_si_ne (by decide), gi_si]
  · rw [gi_si_ne (by decide), gi_si_ne (by decide), gi_si_j hj]
  · rw [gi_si_ne (by decide), gi_si_j hj, gi_si_ne (by decide)]
theorem nextM {σ : zS} {B : Nat → Int} {n p ld o : Nat} (hI : MI σ B n) (h : MD σ p ld o) (hp : p < 1000) : MI (si σ 66 21 (gi σ 66 21 + 1)) B n ∧ MD (si σ 66 21 (gi σ 66 21 + 1)) (p + 1) ld o ∧ zFr [78, 79] FM σ (si σ 66 21 (gi σ 66 21 + 1)) := by
  have e1 := l1
  have hF : zFr [78, 79] FM σ (si σ 66 21 (gi σ 66 21 + 1)) := zFr.rf.sf (by decide)
  refine ⟨hI.fr hF (by decide), ⟨?_, ?_, ?_, ?_⟩, hF⟩
  · rw [gi_si, t_add (by rw [h.1]; omega), e1, h.1]; omega
  · rw [gi_si_j (by decide)]; exact h.2.1
  · rw [gi_si_j (by decide)]; exact h.2.2.1
  · rw [gi_si_j (by decide)]; exact h.2.2.2
theorem wrongM {σ : zS} {p ld o : Nat} (h : MD σ p ld o) : MF (g_X12_wrong σ) p ld ∧ zFr [78, 79] FM σ (g_X12_wrong σ) ∧ ∀ c j, c ≠ 66 → gi (g_X12_wrong σ) c j = gi σ c j := by
  have e0 := l0
  unfold g_X12_wrong
  rw [if_neg (fun y => by have := ile.mp y; have := h.2.1; omega)]
  refine ⟨⟨?_, ?_, ?_⟩, zFr.rf.sf (by decide), fun c j hc => gi_si_ne hc⟩
  · rw [gi_si_j (by decide)]; exact h.1
  · rw [gi_si]; exact h.1
  · rw [gi_si_j (by decide)]; exact h.2.2.2
def MpS (B : Nat → Int) (n o : Nat) (P : Nat → pR) (call : zS → (Option Value → zH → Prop) → Prop) : Prop := ∀ (σ : zS) (p ld : Nat) (Q : Option Value → zH → Prop), MI σ B n → MD σ p ld o → p ≤ n → ld ≤ p →
  (∀ (q : Nat) (c : List Int) (τ : zS), P p = (q, some c) → zFr [78, 79] FM σ τ → MD τ q (ld + c.length) o → (∀ j, j < 130 + ld → gi τ 78 j = gi σ 78 j ∧ gi τ 79 j = gi σ 79 j) → LAt (τ.1 78) (c.map opcI) (130 + ld) → LAt (τ.1 79) (c.map argI) (130 + ld) → Q none (zen τ)) →
  (∀ (q ld' : Nat) (τ : zS), P p = (q, none) → zFr [78, 79] FM σ τ → MF τ q ld' → ld' ≤ ld + (q - p) + 1 → (∀ j, j < 130 → gi τ 78 j = gi σ 78 j ∧ gi τ 79 j = gi σ 79 j) → Q none (zen τ)) → call σ Q
theorem sg_j {jn : Int} (h : 0 ≤ jn ∧ jn < 10) : opcI (10006 + jn) = sgI (10006 + jn) ∧ argI (10006 + jn) = 0 ∧ 0 ≤ sgI (10006 + jn) ∧ sgI (10006 + jn) < 128 := by
  have sb := sgI_b (s := 10006 + jn) (by omega)
  have a1 : opcI (10006 + jn) = sgI (10006 + jn) := by
    unfold opcI
    rw [if_neg (by clear sb; omega), if_neg (by clear sb; omega), if_neg (by clear sb; omega), if_neg (by clear sb; omega)]
  have a2 : argI (10006 + jn) = 0 := by
    unfold argI
    rw [if_neg (by clear sb a1; omega), if_neg (by clear sb a1; omega)]
  refine ⟨a1, a2, ?_, ?_⟩
  · clear a1 a2
    exact Int.le_trans (by decide) sb.1
  · clear a1 a2
    exact Int.lt_of_le_of_lt sb.2 (by decide)
section CHM
variable {X : zX} {d : Nat} {B : Nat → Int} {n o : Nat}
theorem lp_chM (hB : bOk B n) (hn : n ≤ 120) (call : Value → zS → (Option Value → zH → Prop) → Prop) (subc : zS → (Option Value → zH → Prop) → Prop) {sub : Nat → pR} (hw : ∀ p, p ≤ n → WfR p n (sub p)) {l : Int} (hsub : MpS B n o sub subc) (one : Prop)
    (Hno : ∀ (w : Value) (σ : zS) (p ld : Nat) (Q : Option Value → zH → Prop), MI σ B n → MD σ p ld o → p ≤ n → ¬ (0 ≤ jnI (B p) ∧ lvI (jnI (B p)) = l) → Q none (zen σ) → call w σ Q)
    (Hyes : ∀ (w : Value) (σ : zS) (p ld : Nat) (Q : Option Value → zH → Prop), MI σ B n → MD σ p ld o → p < n → (one → w = .null) → (0 ≤ jnI (B p) ∧ lvI (jnI (B p)) = l) → (∀ sg : Int32, sg.toInt = sgI (10006 + jnI (B p)) → ∀ K : Option Value → zH → Prop, (∀ τ : zS, (p_X12_addStep τ sg 0 ∧ call (.int sg) (g_X12_addStep τ sg 0) Q) → K none (zen τ)) → subc (si σ 66 21 (gi σ 66 21 + 1)) K) → call w σ Q)
    (Hbad : ∀ (w : Value) (σ : zS) (q ld : Nat) (Q : Option Value → zH → Prop), MF σ q ld → q ≤ n → MI σ B n → Q none (zen σ) → call w σ Q)
    (Hz : one → ∀ (sg : Int32) (σ : zS) (Q : Option Value → zH → Prop), Q none (zen σ) → call (.int sg) σ Q)
    {σ0 : zS} {p0 ld0 : Nat} {Q : Option Value → zH → Prop} (hld0 : ld0 ≤ p0) : ∀ (f : Nat) (σ : zS) (p : Nat) (c : List Int) (w : Value), zFr [78, 79] FM σ0 σ → MI σ B n → MD σ p (ld0 + c.length) o → p ≤ n → p0 + c.length ≤ p → ((¬ one ∧ n ≤ p + f) ∨ (one ∧ ((f = 1 ∧ w = .null) ∨ (f = 0 ∧ ∃ sg, w = .int sg)))) → (∀ j, j < 130 + ld0 → gi σ 78 j = gi σ0 78 j ∧ gi σ 79 j = gi σ0 79 j) → LAt (σ.1 78) (c.map opcI) (130 + ld0) → LAt (σ.1 79) (c.map argI) (130 + ld0) →
    (∀ (q : Nat) (c' : List Int) (τ : zS), chP B sub l f p c = (q, some c') → zFr [78, 79] FM σ0 τ → MD τ q (ld0 + c'.length) o → (∀ j, j < 130 + ld0 → gi τ 78 j = gi σ0 78 j ∧ gi τ 79 j = gi σ0 79 j) → LAt (τ.1 78) (c'.map opcI) (130 + ld0) → LAt (τ.1 79) (c'.map argI) (130 + ld0) → Q none (zen τ)) →
    (∀ (q ld' : Nat) (τ : zS), chP B sub l f p c = (q, none) → zFr [78, 79] FM σ0 τ → MF τ q ld' → ld' ≤ ld0 + (q - p0) + 1 → (∀ j, j < 130 → gi τ 78 j = gi σ0 78 j ∧ gi τ 79 j = gi σ0 79 j) → Q none (zen τ)) →
    call w σ Q := by
  intro f
  induction f with
  | zero =>
    intro σ p c w hF hI hD hp hcp hf hpre h78 h79 hok hbad
    rcases hf with ⟨_, hf⟩ | ⟨h1, ⟨hf, _⟩ | ⟨_, sg, hw1⟩⟩
    · have hb := hB.1 p (by omega)
      have hj : jnI (-1) = -1 := rfl
      exact Hno w σ p _ Q hI hD hp (by rw [hb, hj]; intro q; exact absurd q.1 (by decide)) (hok p c σ rfl hF hD hpre h78 h79)
    · exact absurd hf (by decide)
    · rw [hw1]
      exact Hz h1 sg σ Q (hok p c σ rfl hF hD hpre h78 h79)
  | succ f ih =>
    intro σ p c w hF hI hD hp hcp hf hpre h78 h79 hok hbad
    unfold chP at hok hbad
    by_cases hy : 0 ≤ jnI (B p) ∧ lvI (jnI (B p)) = l
    · rw [if_pos hy] at hok hbad
      have hw1 : one → w = .null := fun h => by
        rcases hf with hf | ⟨_, ⟨_, hf⟩ | ⟨hf, _⟩⟩
        · exact absurd h hf.1
        · exact hf
        · exact absurd hf (by omega)
      have hpn : p < n := by
        rcases Nat.lt_or_ge p n with q | q
        · exact q
        · have hb := hB.1 p q
          have hj : jnI (-1) = -1 := rfl
          have := hy.1
          rw [hb, hj] at this
          exact absurd this (by decide)
      refine Hyes w σ p _ Q hI hD hpn hw1 hy (fun sg hsg K hK => ?_)
      have hj10 : 0 ≤ jnI (B p) ∧ jnI (B p) < 10 := by
        have h1 := hy.1
        have jb := jnI_b (B p)
        generalize jnI (B p) = jn at jb h1
        clear hy hok hbad hsg
        omega
      generalize jnI (B p) = jn at hok hbad hsg hj10
      have SG := sg_j hj10
      obtain ⟨f1, f2, f3⟩ := nextM hI hD (by omega)
      have W := hw (p + 1) (by omega)
      have hsx : 0 ≤ sg.toInt ∧ sg.toInt < 128 := by rw [hsg]; exact ⟨SG.2.2.1, SG.2.2.2⟩
      have z78 : ∀ j, gi (si σ 66 21 (gi σ 66 21 + 1)) 78 j = gi σ 78 j := fun j => gi_si_ne (by decide)
      have z79 : ∀ j, gi (si σ 66 21 (gi σ 66 21 + 1)) 79 j = gi σ 79 j := fun j => gi_si_ne (by decide)
      refine hsub _ (p + 1) (ld0 + c.length) K f1 f2 (by omega) (by omega) (fun q c2 τ e g1 g2 g3 g4 g5 => hK τ ?_) (fun q ld' τ e g1 g2 g3 g4 => hK τ ?_)
      · rw [e] at hok hbad W
        have W1 := W.1
        have W2 := W.2.1
        have W3 := W.2.2 c2 rfl
        dsimp only at hok hbad W1 W2 W3
        obtain ⟨a1, a2, a3, a4, a5, a6⟩ := addM g2.2.2.2 (by omega) rfl hsx (v := 0)
        have hFa : zFr [78, 79] FM τ (g_X12_addStep τ sg 0) := a2.sub (by decide) (by decide)
        have hlen3 : (c ++ c2 ++ [10006 + jn]).length = c.length + c2.length + 1 := by rw [List.length_append, List.length_append, List.length_singleton]
        have e78 : ∀ j, j ≠ 130 + (ld0 + c.length + c2.length) → j < 130 + (ld0 + c.length) → gi (g_X12_addStep τ sg 0) 78 j = gi σ 78 j ∧ gi (g_X12_addStep τ sg 0) 79 j = gi σ 79 j := fun j h1 h2 => ⟨by rw [(a6 j h1).1, (g3 j h2).1, z78], by rw [(a6 j h1).2, (g3 j h2).2, z79]⟩
        refine ⟨a1, ih _ q (c ++ c2 ++ [10006 + jn]) (.int sg) (((hF.tr f3).tr g1).tr hFa) (((hI.fr f3 (by decide)).fr g1 (by decide)).fr hFa (by decide)) ⟨?_, ?_, ?_, ?_⟩ W2 (by rw [hlen3]; omega) ?_ (fun j hj => ?_) ?_ ?_ hok hbad⟩
        · rw [a2.1 66 (by decide) 21 (by decide)]; exact g2.1
        · rw [a2.1 66 (by decide) 22 (by decide)]; exact g2.2.1
        · rw [a2.1 66 (by decide) 23 (by decide)]; exact g2.2.2.1
        · rw [hlen3, a3]; omega
        · rcases hf with hf | ⟨h1, ⟨hf, _⟩ | ⟨hf, _⟩⟩
          · exact Or.inl ⟨hf.1, by have := hf.2; omega⟩
          · exact Or.inr ⟨h1, Or.inr ⟨by omega, sg, rfl⟩⟩
          · exact absurd hf (by omega)
        · have := e78 j (by omega) (by omega)
          rw [this.1, this.2]; exact hpre j hj
        · rw [List.map_append, List.map_append]
          refine LAt.mk (LAt.mk (h78.eq (fun j h1 h2 => ?_)) ?_) (LAt.sing ?_)
          · rw [List.length_map] at h2
            exact (e78 j (by omega) (by omega)).1
          · rw [List.length_map]
            have := g4.eq (g := (g_X12_addStep τ sg 0).1 78) (fun j h1 h2 => by
              rw [List.length_map] at h2
              exact (a6 j (by omega)).1)
            rw [show 130 + ld0 + c.length = 130 + (ld0 + c.length) by omega]
            exact this
          · rw [List.length_append, List.length_map, List.length_map]
            show (gi (g_X12_addStep τ sg 0) 78 (130 + ld0 + (c.length + c2.length))).toInt = _
            rw [show 130 + ld0 + (c.length + c2.length) = 130 + (ld0 + c.length + c2.length) by omega, a4, hsg]
            exact SG.1.symm
        · rw [List.map_append, List.map_append]
          refine LAt.mk (LAt.mk (h79.eq (fun j h1 h2 => ?_)) ?_) (LAt.sing ?_)
          · rw [List.length_map] at h2
            exact (e78 j (by omega) (by omega)).2
          · rw [List.length_map]
            have := g5.eq (g := (g_X12_addStep τ sg 0).1 79) (fun j h1 h2 => by
              rw [List.length_map] at h2
              exact (a6 j (by omega)).2)
            rw [show 130 + ld0 + c.length = 130 + (ld0 + c.length) by omega]
            exact this
          · rw [List.length_append, List.length_map, List.length_map]
            show (gi (g_X12_addStep τ sg 0) 79 (130 + ld0 + (c.length + c2.length))).toInt = _
            rw [show 130 + ld0 + (c.length + c2.length) = 130 + (ld0 + c.length + c2.length) by omega, a5]
            exact SG.2.1.symm
      · rw [e] at hbad W
        have W1 := W.1
        have W2 := W.2.1
        dsimp only at hbad W1 W2
        obtain ⟨a1, a2, a3, a4, a5, a6⟩ := addM g2.2.2 (by omega) rfl hsx (v := 0)
        have hFa : zFr [78, 79] FM τ (g_X12_addStep τ sg 0) := a2.sub (by decide) (by decide)
        have hMF : MF (g_X12_addStep τ sg 0) q (ld' + 1) := ⟨by rw [a2.1 66 (by decide) 21 (by decide)]; exact g2.1, by rw [a2.1 66 (by decide) 22 (by decide)]; exact g2.2.1, by rw [a3]; omega⟩
        refine ⟨a1, Hbad _ _ q _ Q hMF W2 (((hI.fr f3 (by decide)).fr g1 (by decide)).fr hFa (by decide)) (hbad q (ld' + 1) _ rfl (((hF.tr f3).tr g1).tr hFa) hMF (by omega) (fun j hj => ?_))⟩
        rw [(a6 j (by omega)).1, (a6 j (by omega)).2, (g4 j hj).1, (g4 j hj).2, z78, z79]
        exact hpre j (by omega)
    · rw [if_neg hy] at hok
      exact Hno w σ p _ Q hI hD hp hy (hok p c σ rfl hF hD hpre h78 h79)
end CHM
