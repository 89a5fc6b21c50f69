/-! the reference goes through all orders; order, orders -/
def mskI (u t : Nat) : Bool := decide (((Int32.ofNat u >>> (Int32.ofNat t &&& 31)) &&& 1) = 1)
theorem msk_all : ∀ u, u < 64 → ∀ t, t < 6 → mskI u t = u.testBit t ∧ (Int32.ofNat u ||| (1 <<< (Int32.ofNat t &&& 31))) = Int32.ofNat (u ||| (1 <<< t)) ∧ (u ||| (1 <<< t)) < 64 ∧ ∀ j, j < 6 → (u ||| (1 <<< t)).testBit j = (u.testBit j || decide (j = t)) := by decide +kernel
def PreM (σ : zS) (pre : List Int) : Prop := (gi σ 66 39).toInt = pre.length ∧ ∀ j, j < pre.length → (gi σ 88 j).toInt = gd pre j
def MskP (nt u : Nat) (pre : List Int) : Prop := u < 64 ∧ ∀ t, t < nt → (u.testBit t = true ↔ (t : Int) ∈ pre)
section GOO
variable {X : zX} {d : Nat} {Q : Option Value → zH → Prop} {nr nt : Nat} {N : Nat → Nat → Int} {V : zV} {I : Nat → Int} {e : Nat → Int} {z : Int} {sh : Int32}
/-- what goOrders owes for k further turns -/
def GooS (X : zX) (d nr nt : Nat) (N : Nat → Nat → Int) (V : zV) (I : Nat → Int) (e : Nat → Int) (z : Int) (sh : Int32) (k : Nat) : Prop := ∀ (Q : Option Value → zH → Prop) (σ : zS) (pre w : List Int) (b m f : Int) (u : Nat) (us : Int32), us = Int32.ofNat u → MskP nt u pre → pre.length + k = nt → (∀ x, x ∈ pre → 0 ≤ x ∧ x < nt) → ThN σ nr nt N V I → SeM σ sh e z → PreM σ pre → MSt σ nt b w m f → 0 ≤ m → m + (pmL nt k pre).length ≤ 2000 →
    (∀ τ : zS, zFr SM2 FM2 σ τ → PreM τ pre → MSt τ nt (bestF (cOrd N V nr I) (pmL nt k pre) b w).1 (bestF (cOrd N V nr I) (pmL nt k pre) b w).2 (likeF (uM sh N V nr I e z) (pmL nt k pre) m f).1 (likeF (uM sh N V nr I e z) (pmL nt k pre) m f).2 → Q none (zen τ)) →
    zwp X d MX12_goOrders 0 [.ref 66, .int us, .null] [] (zen σ) Q
theorem PreM.app {σ : zS} {pre : List Int} {t : Int32} {tn : Nat} (h : PreM σ pre) (ht : t.toInt = tn) (hl : pre.length < 20) : PreM (si (si σ 88 pre.length t) 66 39 (gi σ 66 39 + 1)) (pre ++ [(tn : Int)]) := by
  have e1 := l1
  refine ⟨?_, fun j hj => ?_⟩
  · rw [gi_si, t_add (by rw [h.1]; omega), h.1, e1, List.length_append]; rfl
  · rw [List.length_append, List.length_singleton] at hj
    rw [gi_si_ne (by decide)]
    by_cases c : j = pre.length
    · rw [c, gi_si, gd_app]; exact ht
    · rw [gi_si_j c, gd_app_lt (by omega)]; exact h.2 j (by omega)
theorem PreM.back {σ : zS} {pre : List Int} {x : Int} (h : PreM σ (pre ++ [x])) (hl : pre.length < 20) : PreM (si σ 66 39 (gi σ 66 39 - 1)) pre := by
  have e1 := l1
  have h1 := h.1
  rw [List.length_append, List.length_singleton] at h1
  refine ⟨?_, fun j hj => ?_⟩
  · rw [gi_si, t_sub (by omega)]; omega
  · rw [gi_si_ne (by decide), ← gd_app_lt hj (x := x)]
    exact h.2 j (by rw [List.length_append]; omega)
theorem MskP.app {nt u tn : Nat} {pre : List Int} (h : MskP nt u pre) (h6 : nt ≤ 6) (ht : tn < nt) : MskP nt (u ||| (1 <<< tn)) (pre ++ [(tn : Int)]) := by
  have A := msk_all u h.1 tn (by omega)
  refine ⟨A.2.2.1, fun t h2 => ?_⟩
  rw [A.2.2.2 t (by omega), Bool.or_eq_true, h.2 t h2, decide_eq_true_eq, List.mem_append, List.mem_singleton]
  constructor
  · rintro (q | q)
    · exact Or.inl q
    · exact Or.inr (by rw [q])
  · rintro (q | q)
    · exact Or.inl q
    · exact Or.inr (by omega)
theorem goo_loop (hd : 13 ≤ d) (hR : HallR nr nt N) (hn6 : nt ≤ 6) {k : Nat} (ih : GooS X (d - 1) nr nt N V I e z sh k) (pre : List Int) (u : Nat) (us : Int32) (hus : us = Int32.ofNat u) (hu : MskP nt u pre) (hk : pre.length + (k + 1) = nt) (hpre : ∀ x, x ∈ pre → 0 ≤ x ∧ x < nt) : ∀ (n tn : Nat) (σ : zS) (t : Int32) (w : List Int) (b m f : Int), t.toInt = tn → tn + n = nt → ThN σ nr nt N V I → SeM σ sh e z → PreM σ pre → MSt σ nt b w m f → 0 ≤ m → m + (pmT (pmL nt k) pre n tn).length ≤ 2000 →
    (∀ τ : zS, zFr SM2 FM2 σ τ → PreM τ pre → MSt τ nt (bestF (cOrd N V nr I) (pmT (pmL nt k) pre n tn) b w).1 (bestF (cOrd N V nr I) (pmT (pmL nt k) pre n tn) b w).2 (likeF (uM sh N V nr I e z) (pmT (pmL nt k) pre n tn) m f).1 (likeF (uM sh N V nr I e z) (pmT (pmL nt k) pre n tn) m f).2 → Q none (zen τ)) →
    zwp X d MX12_goOrders 18 [.ref 66, .int us, .int t] [] (zen σ) Q := by
  intro n
  have e1 := l1
  induction n with
  | zero =>
    intro tn σ t w b m f ht hn hT hS hP hM hm0 hm hQ
    have h6 := hT.1.2.1
    rw [b_X12_goOrders_18 (hd := by omega), if_pos (ile.mpr (by omega))]
    exact hQ σ zFr.rf hP hM
  | succ n ihn =>
    intro tn σ t w b m f ht hn hT hS hP hM hm0 hm hQ
    have h6 := hT.1.2.1
    have et : (t + 1).toInt = (tn + 1 : Nat) := by rw [t_add (by omega), e1]; omega
    have etn : t = Int32.ofNat tn := by
      rw [ieq, ht]
      exact (Int32.toInt_ofNat_of_lt (by omega)).symm
    have A := msk_all u hu.1 tn (by omega)
    have hb : mskI u tn = true ↔ (tn : Int) ∈ pre := by rw [A.1]; exact hu.2 tn (by omega)
    unfold mskI at hb
    rw [decide_eq_true_eq] at hb
    have eT : pmT (pmL nt k) pre (n + 1) tn = (if pre.contains (tn : Int) then [] else pmL nt k (pre ++ [(tn : Int)])) ++ pmT (pmL nt k) pre n (tn + 1) := rfl
    rw [eT] at hm hQ
    rw [b_X12_goOrders_18 (hd := by omega), if_neg (fun y => by have := ile.mp y; omega)]
    have econd : (((us >>> (t &&& 31)) &&& 1) = 1) ↔ (tn : Int) ∈ pre := by rw [hus, etn]; exact hb
    by_cases c : (tn : Int) ∈ pre
    · have hc : pre.contains (tn : Int) = true := List.contains_iff_mem.mpr c
      rw [if_neg (fun y => y (econd.mpr c))]
      rw [if_pos hc, List.nil_append] at hm hQ
      exact ihn (tn + 1) σ (t + 1) w b m f et (by omega) hT hS hP hM hm0 hm hQ
    · have hc : ¬ pre.contains (tn : Int) = true := fun q => c (List.contains_iff_mem.mp q)
      rw [if_pos (fun y => c (econd.mp y))]
      rw [if_neg hc, List.length_append] at hm
      rw [if_neg hc, bestF_app, likeF_app] at hQ
      have h39 := hP.1
      have zz : zin (gi σ 66 39) 21 = true := zin_of (by omega) (by omega)
      have i39 : ix (gi σ 66 39) = pre.length := by rw [ix_t]; omega
      have hFa : zFr SM2 FM2 σ (si (si σ 88 pre.length t) 66 39 (gi σ 66 39 + 1)) := (zFr.rf.ws (by decide)).sf (by decide)
      have hM1 : MSt (si (si σ 88 pre.length t) 66 39 (gi σ 66 39 + 1)) nt b w m f := ⟨by rw [gi_si_j (by decide), gi_si_ne (by decide)]; exact hM.1, fun j hj => by rw [gi_si_ne (by decide), gi_si_ne (by decide)]; exact hM.2.1 j hj, by rw [gi_si_j (by decide), gi_si_ne (by decide)]; exact hM.2.2.1, by rw [gi_si_j (by decide), gi_si_ne (by decide)]; exact hM.2.2.2⟩
      rw [ztrue_and zz, i39]
      refine ih _ _ (pre ++ [(tn : Int)]) w b m f (u ||| (1 <<< tn)) _ (by rw [hus, etn]; exact A.2.1) (hu.app hn6 (by omega)) (by rw [List.length_append, List.length_singleton]; omega) (fun x hx => ?_) (hT.zfo hFa) (hS.zfo hFa) (hP.app ht (by omega)) hM1 hm0 (by omega) (fun τ f1 f2 f3 => ?_)
      · rw [List.mem_append, List.mem_singleton] at hx
        rcases hx with q | q
        · exact hpre x q
        · rw [q]; omega
      · show zwp X d MX12_goOrders 67 _ [] (zen τ) Q
        have hFb : zFr SM2 FM2 σ τ := hFa.tr f1
        have hFc : zFr SM2 FM2 τ (si τ 66 39 (gi τ 66 39 - 1)) := zFr.rf.sf (by decide)
        have lb := likeF_b (u := uM sh N V nr I e z) (pmL nt k (pre ++ [(tn : Int)])) m f
        rw [b_X12_goOrders_67]
        refine ihn (tn + 1) _ (t + 1) _ _ _ _ et (by omega) (hT.zfo (hFb.tr hFc)) (hS.zfo (hFb.tr hFc)) (f2.back (by omega)) ⟨by rw [gi_si_j (by decide)]; exact f3.1, fun j hj => by rw [gi_si_ne (by decide)]; exact f3.2.1 j hj, by rw [gi_si_j (by decide)]; exact f3.2.2.1, by rw [gi_si_j (by decide)]; exact f3.2.2.2⟩ (by omega) (by omega) (fun ρ g1 g2 g3 => hQ ρ ((hFb.tr hFc).tr g1) g2 g3)
theorem w_goOrders (hR : HallR nr nt N) (hI : IceR I) (hn6 : nt ≤ 6) : ∀ (k d : Nat), 14 + k ≤ d → GooS X d nr nt N V I e z sh k := by
  intro k
  have h8 := hR.2.1
  induction k with
  | zero =>
    intro d hd Q σ pre w b m f u us hus hu hk hpre hT hS hP hM hm0 hm hQ
    have h6 := hT.1.2.1
    have h39 := hP.1
    have hPr : ProgM σ nt pre := ⟨h39, by omega, fun x hx => Or.inr (hpre x hx), LAt.of hP.2⟩
    rw [b_X12_goOrders_0 (hd := by omega), if_neg (fun y => y (ieq.mpr (by omega)))]
    have eP : pmL nt 0 pre = [pre] := rfl
    rw [eP] at hQ hm
    refine w_metOrder (by omega) hR hI hT hPr (by omega) hS hM ⟨hm0, by omega⟩ (fun τ f1 f2 f3 f4 => ?_)
    show zwp X d MX12_goOrders 15 _ [] (zen τ) Q
    rw [b_X12_goOrders_15]
    refine hQ τ (f1.sub (by decide) (by decide)) ⟨?_, fun j hj => ?_⟩ f4
    · rw [f1.1 66 (by decide) 39 (by decide)]; exact h39
    · rw [f1.1 88 (by decide) j (by simp)]; exact hP.2 j hj
  | succ k ih =>
    intro d hd Q σ pre w b m f u us hus hu hk hpre hT hS hP hM hm0 hm hQ
    have h6 := hT.1.2.1
    have h39 := hP.1
    rw [b_X12_goOrders_0 (hd := by omega), if_pos (fun y => by have := congrArg Int32.toInt y; omega)]
    exact goo_loop (by omega) hR hn6 (ih (d - 1) (by omega)) pre u us hus hu hk hpre nt 0 σ 0 w b m f l0 (by omega) hT hS hP hM hm0 hm hQ
theorem w_findOrders (hd : 24 ≤ d) (hR : HallR nr nt N) (hI : IceR I) (hn6 : nt ≤ 6) {σ : zS} (hT : ThN σ nr nt N V I) (hS : sh.toInt < 0 ∨ (0 ≤ sh.toInt ∧ sh.toInt < 6 ∧ Seen σ sh.toInt.toNat e z))
    (hQ : ∀ (τ : zS) (w : List Int), zFr SC2 FC2 σ τ → ThN τ nr nt N V I → MSt τ nt (bestF (cOrd N V nr I) (pmL nt nt []) (-1) w).1 (bestF (cOrd N V nr I) (pmL nt nt []) (-1) w).2 (likeF (uM sh N V nr I e z) (pmL nt nt []) 0 (-2)).1 (likeF (uM sh N V nr I e z) (pmL nt nt []) 0 (-2)).2 → Q none (zen τ)) :
    zwp X d MX12_findOrders 0 [.ref 66, .int sh] [] (zen σ) Q := by
  have hlen := (chkO_all nt (by omega)).2
  rw [b_X12_findOrders_0 (hd := by omega)]
  generalize hσ1 : si (si (si (si (si σ 66 41 (-1)) 66 42 sh) 66 43 0) 66 44 (-2)) 66 39 0 = σ1
  have hF : zFr [] [(66, 39), (66, 41), (66, 42), (66, 43), (66, 44)] σ σ1 := by
    rw [← hσ1]
    exact ((((zFr.rf.sf (by decide)).sf (by decide)).sf (by decide)).sf (by decide)).sf (by decide)
  have G : ∀ q, gi σ1 66 q = if q = 39 then 0 else if q = 44 then -2 else if q = 43 then 0 else if q = 42 then sh else if q = 41 then -1 else gi σ 66 q := fun q => by
    rw [← hσ1, gi_all, gi_all, gi_all, gi_all, gi_all]
    simp only [true_and]
  have hT1 : ThN σ1 nr nt N V I := hT.hall (hT.1.zfr hF (by simp) (by simp)) hF (by decide)
  have hS1 : SeM σ1 sh e z := by
    refine ⟨by rw [G]; rfl, ?_⟩
    rcases hS with q | q
    · exact Or.inl q
    · exact Or.inr ⟨q.1, q.2.1, q.2.2.zfr (by omega) hF (by decide)⟩
  refine w_goOrders hR hI hn6 nt (d - 1) (by omega) _ σ1 [] ((List.range nt).map fun j => (gi σ 89 j).toInt) (-1) 0 (-2) 0 0 rfl ⟨by decide, fun t _ => by rw [Nat.zero_testBit]; simp⟩ (by simp) (fun x hx => absurd hx List.not_mem_nil) hT1 hS1 ⟨by rw [G]; rfl, fun j hj => absurd hj (Nat.not_lt_zero _)⟩ ⟨by rw [G]; rfl, fun j hj => ?_, by rw [G]; rfl, by rw [G]; rfl⟩ (by decide) (by omega) (fun τ f1 f2 f3 => ?_)
  · have e89 : gi σ1 89 j = gi σ 89 j := hF.1 89 (by decide) j (by simp)
    rw [e89]
    have hl : j < ((List.range nt).map fun j => (gi σ 89 j).toInt).length := by rw [List.length_map, List.length_range]; exact hj
    rw [← gd_get hl, List.getElem_map, List.getElem_range]
  · show zwp X d MX12_findOrders 31 _ [] (zen τ) Q
    rw [b_X12_findOrders_31]
    exact hQ τ _ ((hF.sub (by simp) (by decide)).tr (f1.sub (by decide) (by decide))) (hT1.zfo f1) f3
end GOO
