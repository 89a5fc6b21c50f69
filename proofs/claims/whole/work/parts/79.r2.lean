/-! the text of a law: lines and texts; the reference -/
theorem opcI_b (s : Int) : 0 ≤ opcI s ∧ opcI s < 128 := by
  unfold opcI sgI
  repeat' split
  all_goals decide
theorem sh16_all : ∀ k, k < 131 → (Int32.toInt16 ((Int32.toInt16 (Int32.ofNat k)).toInt32)).toInt32 = Int32.ofNat k ∧ (Int32.toInt16 (Int32.ofNat k)).toInt32 = Int32.ofNat k ∧ (k < 128 → (Int32.toInt8 (Int32.ofNat k)).toInt32 = Int32.ofNat k) := by decide +kernel
theorem sh16 {v : Int32} {k : Nat} (h : v.toInt = k) (hk : k < 131) : (Int32.toInt16 ((Int32.toInt16 v).toInt32)).toInt32 = v ∧ (Int32.toInt16 v).toInt32 = v ∧ (k < 128 → (Int32.toInt8 v).toInt32 = v) := by
  have e : v = Int32.ofNat k := by rw [ieq, h]; exact (Int32.toInt_ofNat_of_lt (by omega)).symm
  rw [e]; exact sh16_all k hk
abbrev FL : List (Nat × Nat) := [(66, 21), (66, 22), (66, 23), (66, 24), (80, 1)]
abbrev SL : List Nat := [78, 79, 81, 82]
theorem MI.fl {σ τ : zS} {B : Nat → Int} {n : Nat} {S : List Nat} (h : MI σ B n) (hF : zFr S FL σ τ) (hS : 66 ∉ S ∧ 77 ∉ S) : MI τ B n := by
  refine ⟨by rw [hF.1 66 hS.1 20 (by decide)]; exact h.1, fun j hj => ?_⟩
  rw [hF.1 77 hS.2 j (by simp)]; exact h.2 j hj
section LNM
variable {X : zX} {d : Nat} {Q : Option Value → zH → Prop} {B : Nat → Int} {n : Nat}
theorem w_lineM (hd : 90 ≤ d) (hB : bOk B n) (hn : n ≤ 120) {σ : zS} {p ld cnt : Nat} (hI : MI σ B n) (hD : MD σ p ld 0) (hc : (gi σ 80 1).toInt = cnt) (hc60 : cnt ≤ 60) (hp : p ≤ n) (hld : ld ≤ p)
    (hok : ∀ (q : Nat) (l : lnT) (τ : zS), lnP B n p = (q, some l) → zFr SL FL σ τ → MI τ B n → MD τ q (ld + l.1.length + l.2.length) 0 → (gi τ 80 1).toInt = ((cnt + 1 : Nat) : Int) → (∀ j, j < 130 + ld → gi τ 78 j = gi σ 78 j ∧ gi τ 79 j = gi σ 79 j) → LAt (τ.1 78) ((l.1 ++ l.2).map opcI) (130 + ld) → LAt (τ.1 79) ((l.1 ++ l.2).map argI) (130 + ld) → (gi τ 81 (61 + cnt)).toInt = ((ld + l.1.length : Nat) : Int) → (gi τ 82 (61 + cnt)).toInt = ((ld + l.1.length + l.2.length : Nat) : Int) → (∀ j, j ≠ 61 + cnt → gi τ 81 j = gi σ 81 j ∧ gi τ 82 j = gi σ 82 j) → Q none (zen τ))
    (hbad : ∀ (q ld' : Nat) (τ : zS), lnP B n p = (q, none) → zFr SL FL σ τ → MI τ B n → MF τ q ld' → (∀ j, j < 130 → gi τ 78 j = gi σ 78 j ∧ gi τ 79 j = gi σ 79 j) → (∀ j, j < 61 → gi τ 81 j = gi σ 81 j ∧ gi τ 82 j = gi σ 82 j) → Q none (zen τ)) : zwp X d MX12_line 0 [.ref 66, .null] [] (zen σ) Q := by
  have e0 := l0
  have e1 := l1
  have e61 : (61 : Int32).toInt = 61 := rfl
  have x1 : ix (1 : Int32) = 1 := rfl
  have hw := opP_w hB 6
  have EX : ∀ d, 77 ≤ d → MpS B n 0 (eP B n) (fun σ Q => zwp X d MX12_either 0 [.ref 66] [] (zen σ) Q) := fun d hd => w_lvls (X := X) hB hn hw (d0 := 72) (by omega) (fun d hd => w_operandM hB hn 6 d 0 (by omega) (by omega)) (by omega)
  have WE := eP_w hB
  unfold lnP at hok hbad
  have ea : (61 + gi σ 80 1).toInt = 61 + cnt := by rw [t_add (by rw [hc, e61]; omega), e61, hc]
  have iz : zin (61 + gi σ 80 1) 122 = true := zin_of (by omega) (by omega)
  have ii : ix (61 + gi σ 80 1) = 61 + cnt := by rw [ix_t, ea]; omega
  -- how a line ends
  have fin : ∀ (ρ : zS), MI ρ B n → zFr SL FL σ ρ → gi ρ 80 1 = gi σ 80 1 → ∀ v : Int32, zFr SL FL σ (si (si ρ 82 (61 + cnt) v) 80 1 (gi ρ 80 1 + 1)) ∧ MI (si (si ρ 82 (61 + cnt) v) 80 1 (gi ρ 80 1 + 1)) B n ∧ (∀ j, gi (si (si ρ 82 (61 + cnt) v) 80 1 (gi ρ 80 1 + 1)) 66 j = gi ρ 66 j) ∧ (gi (si (si ρ 82 (61 + cnt) v) 80 1 (gi ρ 80 1 + 1)) 80 1).toInt = ((cnt + 1 : Nat) : Int) ∧ (∀ j, gi (si (si ρ 82 (61 + cnt) v) 80 1 (gi ρ 80 1 + 1)) 78 j = gi ρ 78 j ∧ gi (si (si ρ 82 (61 + cnt) v) 80 1 (gi ρ 80 1 + 1)) 79 j = gi ρ 79 j) ∧ (∀ j, gi (si (si ρ 82 (61 + cnt) v) 80 1 (gi ρ 80 1 + 1)) 81 j = gi ρ 81 j) ∧ gi (si (si ρ 82 (61 + cnt) v) 80 1 (gi ρ 80 1 + 1)) 82 (61 + cnt) = v ∧ ∀ j, j ≠ 61 + cnt → gi (si (si ρ 82 (61 + cnt) v) 80 1 (gi ρ 80 1 + 1)) 82 j = gi ρ 82 j := fun ρ hIρ hFρ h80 v => by
    have hFn : zFr SL FL ρ (si (si ρ 82 (61 + cnt) v) 80 1 (gi ρ 80 1 + 1)) := (zFr.rf.ws (by decide)).sf (by decide)
    refine ⟨hFρ.tr hFn, hIρ.fl hFn (by decide), fun j => ?_, ?_, fun j => ⟨?_, ?_⟩, fun j => ?_, ?_, fun j hj => ?_⟩
    · rw [gi_si_ne (by decide), gi_si_ne (by decide)]
    · rw [gi_si, h80, t_add (by omega), hc, e1]; omega
    · rw [gi_si_ne (by decide), gi_si_ne (by decide)]
    · rw [gi_si_ne (by decide), gi_si_ne (by decide)]
    · rw [gi_si_ne (by decide), gi_si_ne (by decide)]
    · rw [gi_si_ne (by decide), gi_si]
    · rw [gi_si_ne (by decide), gi_si_j hj]
  have eMD : ∀ {ρ ζ : zS} {q L : Nat}, MD ρ q L 0 → (∀ j, gi ζ 66 j = gi ρ 66 j) → MD ζ q L 0 := fun h he => ⟨by rw [he]; exact h.1, by rw [he]; exact h.2.1, by rw [he]; exact h.2.2.1, by rw [he]; exact h.2.2.2⟩
  have eMF : ∀ {ρ ζ : zS} {q L : Nat}, MF ρ q L → (∀ j, gi ζ 66 j = gi ρ 66 j) → MF ζ q L := fun h he => ⟨by rw [he]; exact h.1, by rw [he]; exact h.2.1, by rw [he]; exact h.2.2⟩
  rw [b_X12_line_0 (hd := by omega), x1, ii, (sh16 hD.2.2.2 (by omega)).1]
  have hF1 : zFr SL FL σ (si σ 81 (61 + cnt) (gi σ 66 24)) := zFr.rf.ws (by decide)
  have hI1 := hI.fl hF1 (by decide)
  have hD1 : MD (si σ 81 (61 + cnt) (gi σ 66 24)) p ld 0 := eMD hD (fun j => gi_si_ne (by decide))
  have a81 : gi (si σ 81 (61 + cnt) (gi σ 66 24)) 81 (61 + cnt) = gi σ 66 24 := gi_si
  have b81 : ∀ j, j ≠ 61 + cnt → gi (si σ 81 (61 + cnt) (gi σ 66 24)) 81 j = gi σ 81 j := fun j hj => gi_si_j hj
  have b82 : ∀ j, gi (si σ 81 (61 + cnt) (gi σ 66 24)) 82 j = gi σ 82 j := fun j => gi_si_ne (by decide)
  have b78 : ∀ j, gi (si σ 81 (61 + cnt) (gi σ 66 24)) 78 j = gi σ 78 j := fun j => gi_si_ne (by decide)
  have b79 : ∀ j, gi (si σ 81 (61 + cnt) (gi σ 66 24)) 79 j = gi σ 79 j := fun j => gi_si_ne (by decide)
  have b80 : gi (si σ 81 (61 + cnt) (gi σ 66 24)) 80 1 = gi σ 80 1 := gi_si_ne (by decide)
  generalize si σ 81 (61 + cnt) (gi σ 66 24) = σ1 at hF1 hI1 hD1 a81 b81 b82 b78 b79 b80 ⊢
  refine ⟨iz, EX (d - 1) (by omega) σ1 p ld _ hI1 hD1 hp hld (fun q c1 τ e g1 g2 g3 g4 g5 => ?_) (fun q ld' τ e g1 g2 g3 g4 => ?_)⟩
  · show zwp X d MX12_line 25 [.ref 66, .int (61 + gi σ 80 1)] [] (zen τ) Q
    have W := WE p hp
    rw [e] at hok hbad W
    have W1 := W.1
    have W2 := W.2.1
    have W3 := W.2.2 c1 rfl
    dsimp only at hok hbad W1 W2 W3
    have hF2 : zFr SL FL σ τ := hF1.tr (g1.sub (by decide) (by decide))
    have hIτ := hI1.fr g1 (by decide)
    have t81 : ∀ j, gi τ 81 j = gi σ1 81 j := fun j => g1.1 81 (by decide) j (by simp)
    have t82 : ∀ j, gi τ 82 j = gi σ 82 j := fun j => by rw [g1.1 82 (by decide) j (by simp), b82]
    have t80 : gi τ 80 1 = gi σ 80 1 := by rw [g1.1 80 (by decide) 1 (by decide), b80]
    obtain ⟨lk1, lk2⟩ := lookM hB hn hIτ g2.1 W2
    have lk3 := lk2.eq (c := 63) (y := 63) rfl (by decide)
    rw [b_X12_line_25 (hd := by omega), if_neg (fneg g2), ztrue_and lk1]
    by_cases c63 : B q = 63
    · rw [if_pos c63] at hok hbad
      rw [if_neg (fun y => y (lk3.mpr c63)), ii, (sh16 g2.2.2.2 (by omega)).1]
      have hqn := hB.lt (p := q) (by omega)
      obtain ⟨f1, f2, f3⟩ := nextM hIτ g2 (by omega)
      have z78 : ∀ j, gi (si (si τ 66 21 (gi τ 66 21 + 1)) 81 (61 + cnt) (gi τ 66 24)) 78 j = gi τ 78 j := fun j => by rw [gi_si_ne (by decide), gi_si_ne (by decide)]
      have z79 : ∀ j, gi (si (si τ 66 21 (gi τ 66 21 + 1)) 81 (61 + cnt) (gi τ 66 24)) 79 j = gi τ 79 j := fun j => by rw [gi_si_ne (by decide), gi_si_ne (by decide)]
      have z80 : gi (si (si τ 66 21 (gi τ 66 21 + 1)) 81 (61 + cnt) (gi τ 66 24)) 80 1 = gi τ 80 1 := by rw [gi_si_ne (by decide), gi_si_ne (by decide)]
      have z82 : ∀ j, gi (si (si τ 66 21 (gi τ 66 21 + 1)) 81 (61 + cnt) (gi τ 66 24)) 82 j = gi τ 82 j := fun j => by rw [gi_si_ne (by decide), gi_si_ne (by decide)]
      have y81 : gi (si (si τ 66 21 (gi τ 66 21 + 1)) 81 (61 + cnt) (gi τ 66 24)) 81 (61 + cnt) = gi τ 66 24 := gi_si
      have z81 : ∀ j, j ≠ 61 + cnt → gi (si (si τ 66 21 (gi τ 66 21 + 1)) 81 (61 + cnt) (gi τ 66 24)) 81 j = gi τ 81 j := fun j hj => by rw [gi_si_j hj, gi_si_ne (by decide)]
      have f4 : zFr SL FL (si τ 66 21 (gi τ 66 21 + 1)) (si (si τ 66 21 (gi τ 66 21 + 1)) 81 (61 + cnt) (gi τ 66 24)) := zFr.rf.ws (by decide)
      have f5 := f1.fl f4 (by decide)
      have f6 : MD (si (si τ 66 21 (gi τ 66 21 + 1)) 81 (61 + cnt) (gi τ 66 24)) (q + 1) (ld + c1.length) 0 := eMD f2 (fun j => gi_si_ne (by decide))
      have f7 : zFr SL FL σ (si (si τ 66 21 (gi τ 66 21 + 1)) 81 (61 + cnt) (gi τ 66 24)) := (hF2.tr (f3.sub (by decide) (by decide))).tr f4
      generalize si (si τ 66 21 (gi τ 66 21 + 1)) 81 (61 + cnt) (gi τ 66 24) = τ2 at z78 z79 z80 z82 y81 z81 f5 f6 f7 ⊢
      have U := WE (q + 1) (by omega)
      refine ⟨iz, EX (d - 1) (by omega) τ2 (q + 1) (ld + c1.length) _ f5 f6 (by omega) (by omega) (fun q2 c2 ρ e2 h1 h2 h3 h4 h5 => ?_) (fun q2 ld' ρ e2 h1 h2 h3 h4 => ?_)⟩
      · show zwp X d MX12_line 66 [.ref 66, .int (61 + gi σ 80 1)] [] (zen ρ) Q
        rw [e2] at hok U
        have U1 := U.1
        have U2 := U.2.1
        have U3 := U.2.2 c2 rfl
        dsimp only at hok U1 U2 U3
        have r82 : ∀ j, gi ρ 82 j = gi σ 82 j := fun j => by rw [h1.1 82 (by decide) j (by simp), z82, t82]
        have r81 : ∀ j, gi ρ 81 j = gi τ2 81 j := fun j => h1.1 81 (by decide) j (by simp)
        have r80 : gi ρ 80 1 = gi σ 80 1 := by rw [h1.1 80 (by decide) 1 (by decide), z80, t80]
        rw [b_X12_line_66, ii, x1, (sh16 h2.2.2.2 (by omega)).1]
        obtain ⟨k1, k2, k3, k4, k5, k6, k7, k8⟩ := fin ρ (f5.fr h1 (by decide)) (f7.tr (h1.sub (by decide) (by decide))) r80 (gi ρ 66 24)
        refine ⟨iz, hok q2 (c1, c2) _ rfl k1 k2 (eMD h2 k3) k4 (fun j hj => ⟨?_, ?_⟩) ?_ ?_ ?_ ?_ (fun j hj => ⟨?_, ?_⟩)⟩
        · rw [(k5 j).1, (h3 j (by omega)).1, z78, (g3 j hj).1, b78]
        · rw [(k5 j).2, (h3 j (by omega)).2, z79, (g3 j hj).2, b79]
        · show LAt _ ((c1 ++ c2).map opcI) _
          rw [List.map_append]
          refine LAt.mk (g4.eq (fun j y1 y2 => ?_)) ?_
          · rw [List.length_map] at y2
            exact ((k5 j).1.trans (h3 j (by omega)).1).trans (z78 j)
          · rw [List.length_map, show 130 + ld + c1.length = 130 + (ld + c1.length) by omega]
            exact h4.eq (fun j _ _ => (k5 j).1)
        · show LAt _ ((c1 ++ c2).map argI) _
          rw [List.map_append]
          refine LAt.mk (g5.eq (fun j y1 y2 => ?_)) ?_
          · rw [List.length_map] at y2
            exact ((k5 j).2.trans (h3 j (by omega)).2).trans (z79 j)
          · rw [List.length_map, show 130 + ld + c1.length = 130 + (ld + c1.length) by omega]
            exact h5.eq (fun j _ _ => (k5 j).2)
        · rw [k6, r81, y81]; exact g2.2.2.2
        · rw [k7]; exact h2.2.2.2
        · rw [k6, r81, z81 j hj, t81, b81 j hj]
        · rw [k8 j hj, r82]
      · show zwp X d MX12_line 66 [.ref 66, .int (61 + gi σ 80 1)] [] (zen ρ) Q
        rw [e2] at hbad
        dsimp only at hbad
        have r82 : ∀ j, gi ρ 82 j = gi σ 82 j := fun j => by rw [h1.1 82 (by decide) j (by simp), z82, t82]
        have r81 : ∀ j, gi ρ 81 j = gi τ2 81 j := fun j => h1.1 81 (by decide) j (by simp)
        have r80 : gi ρ 80 1 = gi σ 80 1 := by rw [h1.1 80 (by decide) 1 (by decide), z80, t80]
        rw [b_X12_line_66, ii, x1]
        obtain ⟨k1, k2, k3, k4, k5, k6, k7, k8⟩ := fin ρ (f5.fr h1 (by decide)) (f7.tr (h1.sub (by decide) (by decide))) r80 ((Int32.toInt16 ((Int32.toInt16 (gi ρ 66 24)).toInt32)).toInt32)
        refine ⟨iz, hbad q2 ld' _ rfl k1 k2 (eMF h2 k3) (fun j hj => ⟨?_, ?_⟩) (fun j hj => ⟨?_, ?_⟩)⟩
        · rw [(k5 j).1, (h4 j hj).1, z78, (g3 j (by omega)).1, b78]
        · rw [(k5 j).2, (h4 j hj).2, z79, (g3 j (by omega)).2, b79]
        · rw [k6, r81, z81 j (by omega), t81, b81 j (by omega)]
        · rw [k8 j (by omega), r82]
    · rw [if_neg c63] at hok
      rw [if_pos (fun y => c63 (lk3.mp y)), ii, x1, (sh16 g2.2.2.2 (by omega)).1]
      obtain ⟨k1, k2, k3, k4, k5, k6, k7, k8⟩ := fin τ hIτ hF2 t80 (gi τ 66 24)
      refine ⟨iz, hok q ([], c1) _ rfl k1 k2 (eMD g2 k3) k4 (fun j hj => ⟨?_, ?_⟩) (g4.eq (fun j _ _ => (k5 j).1)) (g5.eq (fun j _ _ => (k5 j).2)) ?_ ?_ (fun j hj => ⟨?_, ?_⟩)⟩
      · rw [(k5 j).1, (g3 j hj).1, b78]
      · rw [(k5 j).2, (g3 j hj).2, b79]
      · rw [k6, t81, a81]; exact hD.2.2.2
      · rw [k7]; exact g2.2.2.2
      · rw [k6, t81, b81 j hj]
      · rw [k8 j hj, t82]
  · show zwp X d MX12_line 25 [.ref 66, .int (61 + gi σ 80 1)] [] (zen τ) Q
    rw [e] at hbad
    dsimp only at hbad
    have hF2 : zFr SL FL σ τ := hF1.tr (g1.sub (by decide) (by decide))
    have hIτ := hI1.fr g1 (by decide)
    have t81 : ∀ j, gi τ 81 j = gi σ1 81 j := fun j => g1.1 81 (by decide) j (by simp)
    have t82 : ∀ j, gi τ 82 j = gi σ 82 j := fun j => by rw [g1.1 82 (by decide) j (by simp), b82]
    have t80 : gi τ 80 1 = gi σ 80 1 := by rw [g1.1 80 (by decide) 1 (by decide), b80]
    rw [b_X12_line_25 (hd := by omega), if_pos (fpos g2), ii, x1]
    obtain ⟨k1, k2, k3, k4, k5, k6, k7, k8⟩ := fin τ hIτ hF2 t80 ((Int32.toInt16 ((Int32.toInt16 (gi τ 66 24)).toInt32)).toInt32)
    refine ⟨iz, hbad q ld' _ rfl k1 k2 (eMF g2 k3) (fun j hj => ⟨?_, ?_⟩) (fun j hj => ⟨?_, ?_⟩)⟩
    · rw [(k5 j).1, (g4 j hj).1, b78]
    · rw [(k5 j).2, (g4 j hj).2, b79]
    · rw [k6, t81, b81 j (by omega)]
    · rw [k8 j (by omega), t82]
end LNM
