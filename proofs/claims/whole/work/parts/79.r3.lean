/-! the text of a law: the reference reads it whole -/
abbrev SR : List Nat := [78, 79, 80, 81, 82]
abbrev FR : List (Nat × Nat) := [(66, 20), (66, 21), (66, 22), (66, 23), (66, 24)]
theorem TMl.app {f78 f79 f81 f82 : Nat → Int32} : ∀ (T : List lnT) (k i : Nat) (l : lnT), TMl f78 f79 f81 f82 k i T → LAt f78 ((l.1 ++ l.2).map opcI) (k + lenM T) → LAt f79 ((l.1 ++ l.2).map argI) (k + lenM T) → (f81 (i + T.length)).toInt = ((k + lenM T : Nat) : Int) + l.1.length → (f82 (i + T.length)).toInt = ((k + lenM T : Nat) : Int) + l.1.length + l.2.length → TMl f78 f79 f81 f82 k i (T ++ [l]) := by
  intro T
  induction T with
  | nil => intro k i l _ h1 h2 h3 h4; exact ⟨h1, h2, h3, h4, trivial⟩
  | cons x r ih =>
    intro k i l h h1 h2 h3 h4
    obtain ⟨t1, t2, t3, t4, t5⟩ := h
    have e : k + lenM (x :: r) = k + x.1.length + x.2.length + lenM r := by show k + (x.1.length + x.2.length + lenM r) = _; omega
    have e2 : i + (x :: r).length = i + 1 + r.length := by rw [List.length_cons]; omega
    rw [e] at h1 h2 h3 h4
    rw [e2] at h3 h4
    exact ⟨t1, t2, t3, t4, ih _ _ l t5 h1 h2 h3 h4⟩
theorem lenM_app : ∀ (T : List lnT) (l : lnT), lenM (T ++ [l]) = lenM T + l.1.length + l.2.length := by
  intro T l
  induction T with
  | nil => show l.1.length + l.2.length + 0 = 0 + l.1.length + l.2.length; omega
  | cons x r ih =>
    show x.1.length + x.2.length + lenM (r ++ [l]) = x.1.length + x.2.length + lenM r + l.1.length + l.2.length
    rw [ih]; omega
section TXM
variable {X : zX} {d : Nat} {Q : Option Value → zH → Prop} {B : Nat → Int} {n : Nat}
/-- half of the tables stays -/
def hEq (σ τ : zS) : Prop := (∀ j, j < 130 → gi τ 78 j = gi σ 78 j ∧ gi τ 79 j = gi σ 79 j) ∧ (∀ j, j < 61 → gi τ 81 j = gi σ 81 j ∧ gi τ 82 j = gi σ 82 j)
theorem hEq.tr {σ τ ρ : zS} (h1 : hEq σ τ) (h2 : hEq τ ρ) : hEq σ ρ := ⟨fun j hj => ⟨((h2.1 j hj).1).trans (h1.1 j hj).1, ((h2.1 j hj).2).trans (h1.1 j hj).2⟩, fun j hj => ⟨((h2.2 j hj).1).trans (h1.2 j hj).1, ((h2.2 j hj).2).trans (h1.2 j hj).2⟩⟩
theorem hEq.of {σ τ : zS} (h : ∀ c j, 78 ≤ c → c ≤ 82 → c ≠ 80 → gi τ c j = gi σ c j) : hEq σ τ := ⟨fun j _ => ⟨h 78 j (by decide) (by decide) (by decide), h 79 j (by decide) (by decide) (by decide)⟩, fun j _ => ⟨h 81 j (by decide) (by decide) (by decide), h 82 j (by decide) (by decide) (by decide)⟩⟩
def sok (σ : zS) (T : List lnT) : Prop := TMl (fun j => σ.1 78 (130 + j)) (fun j => σ.1 79 (130 + j)) (fun j => σ.1 81 (61 + j)) (fun j => σ.1 82 (61 + j)) 0 0 T ∧ (∀ j, j < lenM T → 0 ≤ (gi σ 78 (130 + j)).toInt ∧ (gi σ 78 (130 + j)).toInt < 128) ∧ (∀ j, j < T.length → 0 ≤ (gi σ 81 (61 + j)).toInt ∧ (gi σ 81 (61 + j)).toInt ≤ 130 ∧ 0 ≤ (gi σ 82 (61 + j)).toInt ∧ (gi σ 82 (61 + j)).toInt ≤ 130) ∧ ∀ l, l ∈ T → okT2 l
theorem sok.eq {σ τ : zS} {T : List lnT} (h : sok σ T) (he : ∀ c j, 78 ≤ c → c ≤ 82 → c ≠ 80 → gi τ c j = gi σ c j) : sok τ T := by
  have a (c : Nat) (h1 : 78 ≤ c) (h2 : c ≤ 82) (h3 : c ≠ 80) : τ.1 c = σ.1 c := funext fun j => he c j h1 h2 h3
  unfold sok gi
  rw [a 78 (by decide) (by decide) (by decide), a 79 (by decide) (by decide) (by decide), a 81 (by decide) (by decide) (by decide), a 82 (by decide) (by decide) (by decide)]
  exact h
theorem lp_textM (hd : 92 ≤ d) (hB : bOk B n) (hn : n ≤ 120) {σ0 : zS}
    (hok : ∀ (q : Nat) (T' : List lnT) (τ : zS), txP B n (n + 1) 0 [] = (q, some T') → zFr SR FR σ0 τ → MD τ q (lenM T') 0 → (gi τ 80 1).toInt = T'.length → lenM T' ≤ 120 → T'.length ≤ 61 → sok τ T' → gi τ 66 20 = 0 → zwp X d MX12_readText 105 [.ref 66, .int 0, .int 0] [] (zen τ) Q)
    (hbad : ∀ (q : Nat) (v : Int32) (τ : zS), txP B n (n + 1) 0 [] = (q, none) → zFr SR FR σ0 τ → hEq σ0 τ → gi τ 80 0 = gi σ0 80 0 → gi τ 66 20 = 0 → v.toInt = q → Q (some (.int v)) (zen τ)) : ∀ (f : Nat) (σ : zS) (p : Nat) (T : List lnT), zFr SR FR σ0 σ → hEq σ0 σ → gi σ 80 0 = gi σ0 80 0 → MI σ B n → MD σ p (lenM T) 0 → (gi σ 80 1).toInt = T.length → p ≤ n → lenM T ≤ p → 2 * T.length ≤ p → sok σ T → f + T.length = n + 1 → txP B n f p T = txP B n (n + 1) 0 [] →
    ∀ K : Option Value → zH → Prop, (∀ τ : zS, zwp X d MX12_readText 31 [.ref 66, .int 0, .null] [] (zen τ) Q → K none (zen τ)) → zwp X (d - 1) MX12_line 0 [.ref 66, .null] [] (zen σ) K := by
  have e0 := l0
  intro f
  induction f with
  | zero => intro σ p T _ _ _ _ _ _ h1 _ h2 _ h3; exfalso; omega
  | succ f ih =>
    intro σ p T hF hH h80 hI hD hc hp hl h2T hS hf htx K hK
    unfold txP at htx
    have W := lnP_w hB hp
    refine w_lineM (by omega) hB hn hI hD hc (by omega) hp hl (fun q l τ e g1 gI g2 g3 g4 g5 g6 g7 g8 g9 => hK τ ?_) (fun q ld' τ e g1 gI g2 g3 g4 => hK τ ?_)
    · rw [e] at htx W
      dsimp only at htx W
      have W3 := W.2.2 l rfl
      have W2 := W.2.1
      have hlp := W3.2.2.2
      have hqp := W3.2.1
      have hF2 : zFr SR FR σ0 τ := hF.tr (g1.sub (by decide) (by decide))
      have hH2 : hEq σ0 τ := hH.tr ⟨fun j hj => g4 j (by omega), fun j hj => g9 j (by omega)⟩
      have t80 : gi τ 80 0 = gi σ0 80 0 := by rw [g1.1 80 (by decide) 0 (by decide)]; exact h80
      have eL : lenM (T ++ [l]) = lenM T + l.1.length + l.2.length := lenM_app T l
      have eN : (T ++ [l]).length = T.length + 1 := by rw [List.length_append, List.length_singleton]
      have hS2 : sok τ (T ++ [l]) := by
        obtain ⟨s1, s2, s3, s4⟩ := hS
        have q1 : LAt (fun j => τ.1 78 (130 + j)) ((l.1 ++ l.2).map opcI) (0 + lenM T) := fun j hj => by
          have := g5 j hj
          show (τ.1 78 (130 + (0 + lenM T + j))).toInt = _
          rw [show 130 + (0 + lenM T + j) = 130 + lenM T + j by omega]; exact this
        have q2 : LAt (fun j => τ.1 79 (130 + j)) ((l.1 ++ l.2).map argI) (0 + lenM T) := fun j hj => by
          have := g6 j hj
          show (τ.1 79 (130 + (0 + lenM T + j))).toInt = _
          rw [show 130 + (0 + lenM T + j) = 130 + lenM T + j by omega]; exact this
        refine ⟨TMl.app T 0 0 l (TMl.eq T 0 0 s1 (fun j hj => ⟨(g4 _ (by omega)).1, (g4 _ (by omega)).2⟩) (fun j hj => ⟨(g9 _ (by omega)).1, (g9 _ (by omega)).2⟩)) q1 q2 ?_ ?_, fun j hj => ?_, fun j hj => ?_, fun x hx => ?_⟩
        · show (gi τ 81 (61 + (0 + T.length))).toInt = _
          rw [Nat.zero_add, g7]; omega
        · show (gi τ 82 (61 + (0 + T.length))).toInt = _
          rw [Nat.zero_add, g8]; omega
        · by_cases c : j < lenM T
          · rw [(g4 _ (by omega)).1]; exact s2 j c
          · have hj2 : j - lenM T < ((l.1 ++ l.2).map opcI).length := by rw [List.length_map, List.length_append]; omega
            have := g5 (j - lenM T) hj2
            have e3 : 130 + lenM T + (j - lenM T) = 130 + j := by omega
            rw [e3, List.getElem_map] at this
            have e4 : (gi τ 78 (130 + j)).toInt = _ := this
            rw [e4]; exact opcI_b _
        · by_cases c : j < T.length
          · rw [(g9 _ (by omega)).1, (g9 _ (by omega)).2]; exact s3 j c
          · have : j = T.length := by omega
            rw [this, g7, g8]; omega
        · rcases List.mem_append.mp hx with y | y
          · exact s4 x y
          · rw [List.mem_singleton.mp y]; exact W3.1
      have hI2 := gI.1
      have h21 := g2.1
      have g2' : MD τ q (lenM (T ++ [l])) 0 := by rw [eL]; exact g2
      obtain ⟨lk1, lk2⟩ := lookM hB hn gI g2.1 W2
      have lk3 := lk2.eq (c := 59) (y := 59) rfl (by decide)
      have n22 : gi τ 66 22 < 0 := il.mpr (by have := g2.2.1; omega)
      rw [b_X12_readText_31 (hd := by omega), if_neg (fneg g2), ztrue_and lk1]
      by_cases cq : q = n
      · rw [if_pos cq] at htx
        have hb := hB.1 q (by omega)
        rw [if_pos (fun y => by have := lk3.mp y; omega), if_neg (fneg g2), if_pos (ile.mpr (by omega)), if_pos n22]
        have hFs : zFr SR FR τ (si τ 66 20 0) := zFr.rf.sf (by decide)
        refine hok q _ _ htx.symm (hF2.tr hFs) ⟨?_, ?_, ?_, ?_⟩ ?_ (by omega) (by omega) (hS2.eq (fun c j h1 h2 h3 => gi_si_ne (by omega))) gi_si
        · rw [gi_si_j (by decide)]; exact g2'.1
        · rw [gi_si_j (by decide)]; exact g2'.2.1
        · rw [gi_si_j (by decide)]; exact g2'.2.2.1
        · rw [gi_si_j (by decide)]; exact g2'.2.2.2
        · rw [gi_si_ne (by decide), g3, eN]
      · rw [if_neg cq] at htx
        by_cases c59 : B q = 59
        · rw [if_pos c59] at htx
          rw [if_neg (fun y => y (lk3.mpr c59))]
          obtain ⟨f1, f2, f3⟩ := nextM gI g2' (by omega)
          refine ih (si τ 66 21 (gi τ 66 21 + 1)) (q + 1) (T ++ [l]) (hF2.tr (f3.sub (by decide) (by decide))) (hH2.tr (hEq.of (fun c j h1 h2 h3 => gi_si_ne (by omega)))) (by rw [gi_si_ne (by decide)]; exact t80) f1 f2 (by rw [gi_si_ne (by decide), g3, eN]) (by omega) (by omega) (by omega) (hS2.eq (fun c j h1 h2 h3 => gi_si_ne (by omega))) (by omega) htx _ (fun ρ hρ => ?_)
          show zwp X d MX12_readText 61 [.ref 66, .int 0, .null] [] (zen ρ) Q
          rw [b_X12_readText_61]; exact hρ
        · rw [if_neg c59] at htx
          obtain ⟨w1, w2, w3⟩ := wrongM g2
          have p22 : ¬ gi (g_X12_wrong τ) 66 22 < 0 := fun y => by have := il.mp y; have := w1.2.1; omega
          rw [if_pos (fun y => c59 (lk3.mp y)), if_neg (fneg g2), if_neg (fun y => by have := ile.mp y; omega), if_neg p22]
          have hFs : zFr SR FR (g_X12_wrong τ) (si (g_X12_wrong τ) 66 20 0) := zFr.rf.sf (by decide)
          refine hbad q _ _ htx.symm ((hF2.tr (w2.sub (by decide) (by decide))).tr hFs) (hH2.tr (hEq.of (fun c j h1 h2 h3 => by rw [gi_si_ne (by omega), w3 c j (by omega)]))) ?_ gi_si w1.2.1
          rw [gi_si_ne (by decide), w3 80 0 (by decide)]; exact t80
    · rw [e] at htx
      dsimp only at htx
      have hF2 : zFr SR FR σ0 τ := hF.tr (g1.sub (by decide) (by decide))
      have p22 : ¬ gi τ 66 22 < 0 := fun y => by have := il.mp y; have := g2.2.1; omega
      rw [b_X12_readText_31 (hd := by omega), if_pos (fpos g2), if_pos (fpos g2), if_neg p22]
      have hFs : zFr SR FR τ (si τ 66 20 0) := zFr.rf.sf (by decide)
      refine hbad q _ _ htx.symm (hF2.tr hFs) ((hH.tr ⟨g3, g4⟩).tr (hEq.of (fun c j h1 h2 h3 => gi_si_ne (by omega)))) ?_ gi_si g2.2.1
      rw [gi_si_ne (by decide), g1.1 80 (by decide) 0 (by decide)]; exact h80
/-- the copies -/
theorem lp_cp81 {σ0 : zS} {tot : Nat} (ht : tot ≤ 61) (h80 : (gi σ0 80 0).toInt = tot) (hv : ∀ j, j < tot → (Int32.toInt16 (gi σ0 81 (61 + j))).toInt32 = gi σ0 81 (61 + j) ∧ (Int32.toInt16 (gi σ0 82 (61 + j))).toInt32 = gi σ0 82 (61 + j))
    (hQ : ∀ τ : zS, zFr [81, 82] [] σ0 τ → (∀ j, j < tot → gi τ 81 j = gi σ0 81 (61 + j) ∧ gi τ 82 j = gi σ0 82 (61 + j)) → Q (some (.int (-1))) (zen τ)) : ∀ (m k : Nat) (l2 : Int32) (σ : zS), l2.toInt = k → k + m = tot → zFr [81, 82] [] σ0 σ → (∀ j, 61 ≤ j → gi σ 81 j = gi σ0 81 j ∧ gi σ 82 j = gi σ0 82 j) → (∀ j, j < k → gi σ 81 j = gi σ0 81 (61 + j) ∧ gi σ 82 j = gi σ0 82 (61 + j)) → zwp X d MX12_readText 177 [.ref 66, .int 0, .int l2] [] (zen σ) Q := by
  have e0 := l0
  have e1 := l1
  have e61 : (61 : Int32).toInt = 61 := rfl
  have z0 : ix (0 : Int32) = 0 := rfl
  have m0 : (61 : Int32) * 0 = 0 := rfl
  intro m
  induction m with
  | zero =>
    intro k l2 σ hl hk hF hhi hlo
    have t80 : gi σ 80 0 = gi σ0 80 0 := hF.1 80 (by decide) 0 (by simp)
    rw [b_X12_readText_177, z0, t80, if_pos (ile.mpr (by omega))]
    exact ⟨by decide, hQ σ hF (fun j hj => hlo j (by omega))⟩
  | succ m ih =>
    intro k l2 σ hl hk hF hhi hlo
    have t80 : gi σ 80 0 = gi σ0 80 0 := hF.1 80 (by decide) 0 (by simp)
    have ea : (61 + l2).toInt = 61 + k := by rw [t_add (by omega), e61, hl]
    have ia : ix (61 + l2) = 61 + k := by rw [ix_t, ea]; omega
    have za : zin (61 + l2) 122 = true := zin_of (by omega) (by omega)
    have ib : ix l2 = k := by rw [ix_t, hl]; omega
    have zb : zin l2 122 = true := zin_of (by omega) (by omega)
    have V := hv k (by omega)
    have H := hhi (61 + k) (by omega)
    rw [b_X12_readText_177, z0, t80, if_neg (fun y => by have := ile.mp y; omega), m0, Int32.zero_add, ia, ib, H.1, H.2, V.1, V.2]
    refine ⟨by decide, za, zb, za, zb, ih (k + 1) (l2 + 1) _ (by rw [t_add (by omega), hl, e1]; omega) (by omega) ((hF.ws (by decide)).ws (by decide)) (fun j hj => ⟨?_, ?_⟩) (fun j hj => ?_)⟩
    · rw [gi_si_ne (by decide), gi_si_j (by omega)]; exact (hhi j hj).1
    · rw [gi_si_j (by omega), gi_si_ne (by decide)]; exact (hhi j hj).2
    · by_cases c : j = k
      · rw [c]; exact ⟨by rw [gi_si_ne (by decide), gi_si], gi_si⟩
      · exact ⟨by rw [gi_si_ne (by decide), gi_si_j c]; exact (hlo j (by omega)).1, by rw [gi_si_j c, gi_si_ne (by decide)]; exact (hlo j (by omega)).2⟩
theorem lp_cp78 {σ0 : zS} {tot : Nat} (ht : tot ≤ 130) (h24 : (gi σ0 66 24).toInt = tot) (hv : ∀ j, j < tot → (Int32.toInt8 (gi σ0 78 (130 + j))).toInt32 = gi σ0 78 (130 + j))
    (hQ : ∀ τ : zS, zFr [78, 79] [] σ0 τ → (∀ j, j < tot → gi τ 78 j = gi σ0 78 (130 + j) ∧ gi τ 79 j = gi σ0 79 (130 + j)) → zwp X d MX12_readText 177 [.ref 66, .int 0, .int 0] [] (zen (si τ 80 0 (gi τ 80 1))) Q) : ∀ (m k : Nat) (l2 : Int32) (σ : zS), l2.toInt = k → k + m = tot → zFr [78, 79] [] σ0 σ → (∀ j, 130 ≤ j → gi σ 78 j = gi σ0 78 j ∧ gi σ 79 j = gi σ0 79 j) → (∀ j, j < k → gi σ 78 j = gi σ0 78 (130 + j) ∧ gi σ 79 j = gi σ0 79 (130 + j)) → zwp X d MX12_readText 105 [.ref 66, .int 0, .int l2] [] (zen σ) Q := by
  have e0 := l0
  have e1 := l1
  have e130 : (130 : Int32).toInt = 130 := rfl
  have z0 : ix (0 : Int32) = 0 := rfl
  have z1 : ix (1 : Int32) = 1 := rfl
  have m0 : (130 : Int32) * 0 = 0 := rfl
  intro m
  induction m with
  | zero =>
    intro k l2 σ hl hk hF hhi hlo
    have t24 : gi σ 66 24 = gi σ0 66 24 := hF.1 66 (by decide) 24 (by simp)
    rw [b_X12_readText_105, t24, if_pos (ile.mpr (by omega)), z0, z1]
    exact ⟨by decide, hQ σ hF (fun j hj => hlo j (by omega))⟩
  | succ m ih =>
    intro k l2 σ hl hk hF hhi hlo
    have t24 : gi σ 66 24 = gi σ0 66 24 := hF.1 66 (by decide) 24 (by simp)
    have ea : (130 + l2).toInt = 130 + k := by rw [t_add (by omega), e130, hl]
    have ia : ix (130 + l2) = 130 + k := by rw [ix_t, ea]; omega
    have za : zin (130 + l2) 260 = true := zin_of (by omega) (by omega)
    have ib : ix l2 = k := by rw [ix_t, hl]; omega
    have zb : zin l2 260 = true := zin_of (by omega) (by omega)
    have V := hv k (by omega)
    have H := hhi (130 + k) (by omega)
    rw [b_X12_readText_105, t24, if_neg (fun y => by have := ile.mp y; omega), m0, Int32.zero_add, ia, ib, H.1, H.2, V]
    refine ⟨za, zb, za, zb, ih (k + 1) (l2 + 1) _ (by rw [t_add (by omega), hl, e1]; omega) (by omega) ((hF.ws (by decide)).ws (by decide)) (fun j hj => ⟨?_, ?_⟩) (fun j hj => ?_)⟩
    · rw [gi_si_ne (by decide), gi_si_j (by omega)]; exact (hhi j hj).1
    · rw [gi_si_j (by omega), gi_si_ne (by decide)]; exact (hhi j hj).2
    · by_cases c : j = k
      · rw [c]; exact ⟨by rw [gi_si_ne (by decide), gi_si], gi_si⟩
      · exact ⟨by rw [gi_si_ne (by decide), gi_si_j c]; exact (hlo j (by omega)).1, by rw [gi_si_j c, gi_si_ne (by decide)]; exact (hlo j (by omega)).2⟩
theorem w_readTextM (hd : 92 ≤ d) (hB : bOk B n) (hn : n ≤ 120) {σ : zS} (hI : MI σ B n)
    (hok : ∀ (q : Nat) (T : List lnT) (τ : zS), txP B n (n + 1) 0 [] = (q, some T) → zFr SR FR σ τ → TMl (τ.1 78) (τ.1 79) (τ.1 81) (τ.1 82) 0 0 T → (gi τ 80 0).toInt = T.length → lenM T ≤ 130 → T.length ≤ 61 → (∀ l, l ∈ T → okT2 l) → gi τ 66 20 = 0 → Q (some (.int (-1))) (zen τ))
    (hbad : ∀ (q : Nat) (v : Int32) (τ : zS), txP B n (n + 1) 0 [] = (q, none) → zFr SR FR σ τ → hEq σ τ → gi τ 80 0 = gi σ 80 0 → gi τ 66 20 = 0 → v.toInt = q → Q (some (.int v)) (zen τ)) : zwp X d MX12_readText 0 [.ref 66, .int 0, .null] [] (zen σ) Q := by
  have e0 := l0
  have em1 := lm1
  have z1 : ix (1 : Int32) = 1 := rfl
  rw [b_X12_readText_0 (hd := by omega), z1]
  have hF : zFr SR FR σ (si (si (si (si (si σ 66 21 0) 66 22 (-1)) 66 23 0) 66 24 0) 80 1 0) := ((((zFr.rf.sf (by decide)).sf (by decide)).sf (by decide)).sf (by decide)).ws (by decide)
  have k66 : ∀ j, j ≠ 21 → j ≠ 22 → j ≠ 23 → j ≠ 24 → gi (si (si (si (si (si σ 66 21 0) 66 22 (-1)) 66 23 0) 66 24 0) 80 1 0) 66 j = gi σ 66 j := fun j a b c e => by rw [gi_si_ne (by decide), gi_si_j e, gi_si_j c, gi_si_j b, gi_si_j a]
  have kne : ∀ c j, c ≠ 66 → c ≠ 80 → gi (si (si (si (si (si σ 66 21 0) 66 22 (-1)) 66 23 0) 66 24 0) 80 1 0) c j = gi σ c j := fun c j a b => by rw [gi_si_ne b, gi_si_ne a, gi_si_ne a, gi_si_ne a, gi_si_ne a]
  have k80 : gi (si (si (si (si (si σ 66 21 0) 66 22 (-1)) 66 23 0) 66 24 0) 80 1 0) 80 0 = gi σ 80 0 := by rw [gi_si_j (by decide), gi_si_ne (by decide), gi_si_ne (by decide), gi_si_ne (by decide), gi_si_ne (by decide)]
  have k81 : gi (si (si (si (si (si σ 66 21 0) 66 22 (-1)) 66 23 0) 66 24 0) 80 1 0) 80 1 = 0 := gi_si
  have kD : MD (si (si (si (si (si σ 66 21 0) 66 22 (-1)) 66 23 0) 66 24 0) 80 1 0) 0 0 0 := by
    refine ⟨?_, ?_, ?_, ?_⟩
    · rw [gi_si_ne (by decide), gi_si_j (by decide), gi_si_j (by decide), gi_si_j (by decide), gi_si, e0]; rfl
    · rw [gi_si_ne (by decide), gi_si_j (by decide), gi_si_j (by decide), gi_si, em1]; decide
    · rw [gi_si_ne (by decide), gi_si_j (by decide), gi_si, e0]; rfl
    · rw [gi_si_ne (by decide), gi_si, e0]; rfl
  generalize si (si (si (si (si σ 66 21 0) 66 22 (-1)) 66 23 0) 66 24 0) 80 1 0 = σ1 at hF k66 kne k80 k81 kD ⊢
  have hI1 : MI σ1 B n := ⟨by rw [k66 20 (by decide) (by decide) (by decide) (by decide)]; exact hI.1, fun j hj => by rw [kne 77 j (by decide) (by decide)]; exact hI.2 j hj⟩
  refine lp_textM (X := X) (d := d) (Q := Q) (by omega) hB hn (σ0 := σ) (fun q T τ e g1 g2 g3 g4 g5 g6 g7 => ?_) hbad (n + 1) σ1 0 [] hF (hEq.of (fun c j h1 h2 h3 => kne c j (by omega) h3)) k80 hI1 kD (by rw [k81, e0]; rfl) (by omega) (Nat.le_refl 0) (Nat.le_refl 0) ⟨trivial, fun j hj => absurd hj (Nat.not_lt_zero j), fun j hj => absurd hj (Nat.not_lt_zero j), fun l hl => absurd hl (List.not_mem_nil)⟩ (by rw [List.length_nil]) rfl _ (fun τ hτ => hτ)
  obtain ⟨s1, s2, s3, s4⟩ := g6
  refine lp_cp78 (σ0 := τ) (tot := lenM T) (by omega) g2.2.2.2 (fun j hj => ?_) (fun ρ h1 h2 => ?_) (lenM T) 0 0 τ e0 (by omega) zFr.rf (fun j _ => ⟨rfl, rfl⟩) (fun j hj => absurd hj (Nat.not_lt_zero j))
  · have V := s2 j hj
    exact (sh16 (v := gi τ 78 (130 + j)) (k := (gi τ 78 (130 + j)).toInt.toNat) (by omega) (by omega)).2.2 (by omega)
  · have r80 : gi ρ 80 1 = gi τ 80 1 := h1.1 80 (by decide) 1 (by simp)
    have q81 : ∀ j, gi (si ρ 80 0 (gi ρ 80 1)) 81 j = gi τ 81 j := fun j => by rw [gi_si_ne (by decide)]; exact h1.1 81 (by decide) j (by simp)
    have q82 : ∀ j, gi (si ρ 80 0 (gi ρ 80 1)) 82 j = gi τ 82 j := fun j => by rw [gi_si_ne (by decide)]; exact h1.1 82 (by decide) j (by simp)
    refine lp_cp81 (σ0 := si ρ 80 0 (gi ρ 80 1)) (tot := T.length) g5 (by rw [gi_si, r80]; exact g3) (fun j hj => ?_) (fun ζ y1 y2 => ?_) T.length 0 0 _ e0 (by omega) zFr.rf (fun j _ => ⟨rfl, rfl⟩) (fun j hj => absurd hj (Nat.not_lt_zero j))
    · have V := s3 j hj
      rw [q81, q82]
      exact ⟨(sh16 (v := gi τ 81 (61 + j)) (k := (gi τ 81 (61 + j)).toInt.toNat) (by omega) (by omega)).2.1, (sh16 (v := gi τ 82 (61 + j)) (k := (gi τ 82 (61 + j)).toInt.toNat) (by omega) (by omega)).2.1⟩
    · have h1' : zFr SR FR τ ρ := h1.sub (by decide) (by decide)
      have h2' : zFr SR FR ρ (si ρ 80 0 (gi ρ 80 1)) := zFr.rf.ws (by decide)
      have h3' : zFr SR FR (si ρ 80 0 (gi ρ 80 1)) ζ := y1.sub (by decide) (by decide)
      refine hok q T ζ e (((g1.tr h1').tr h2').tr h3') (TMl.eq T 0 0 s1 (fun j hj => ⟨?_, ?_⟩) (fun j hj => ⟨?_, ?_⟩)) ?_ (by omega) g5 s4 ?_
      · show gi ζ 78 j = gi τ 78 (130 + j)
        rw [y1.1 78 (by decide) j (by simp), gi_si_ne (by decide)]; exact (h2 j (by omega)).1
      · show gi ζ 79 j = gi τ 79 (130 + j)
        rw [y1.1 79 (by decide) j (by simp), gi_si_ne (by decide)]; exact (h2 j (by omega)).2
      · show gi ζ 81 j = gi τ 81 (61 + j)
        rw [(y2 j (by omega)).1, q81]
      · show gi ζ 82 j = gi τ 82 (61 + j)
        rw [(y2 j (by omega)).2, q82]
      · rw [y1.1 80 (by decide) 0 (by simp), gi_si, r80]; exact g3
      · rw [y1.1 66 (by decide) 20 (by simp), gi_si_ne (by decide), h1.1 66 (by decide) 20 (by simp)]; exact g7
end TXM
