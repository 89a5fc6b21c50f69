/-! order, orders: the reference -/
theorem bestF_app {c : List Int → Int} : ∀ (x y : List (List Int)) (b : Int) (w : List Int), bestF c (x ++ y) b w = bestF c y (bestF c x b w).1 (bestF c x b w).2 := by
  intro x
  induction x with
  | nil => intro y b w; rfl
  | cons p x ih =>
    intro y b w
    show (if b < c p then bestF c (x ++ y) (c p) p else bestF c (x ++ y) b w) = bestF c y (if b < c p then bestF c x (c p) p else bestF c x b w).1 (if b < c p then bestF c x (c p) p else bestF c x b w).2
    by_cases h : b < c p
    · rw [if_pos h, if_pos h]; exact ih y _ _
    · rw [if_neg h, if_neg h]; exact ih y _ _
theorem likeF_app {u : List Int → Int} : ∀ (x y : List (List Int)) (m f : Int), likeF u (x ++ y) m f = likeF u y (likeF u x m f).1 (likeF u x m f).2 := by
  intro x
  induction x with
  | nil => intro y m f; rfl
  | cons p x ih =>
    intro y m f
    show (if u p = -2 then likeF u (x ++ y) (m + 1) (if m = 0 then digV p else f) else likeF u (x ++ y) m f) = likeF u y (if u p = -2 then likeF u x (m + 1) (if m = 0 then digV p else f) else likeF u x m f).1 (if u p = -2 then likeF u x (m + 1) (if m = 0 then digV p else f) else likeF u x m f).2
    by_cases h : u p = -2
    · rw [if_pos h, if_pos h]; exact ih y _ _
    · rw [if_neg h, if_neg h]; exact ih y _ _
theorem likeF_b {u : List Int → Int} : ∀ (x : List (List Int)) (m f : Int), m ≤ (likeF u x m f).1 ∧ (likeF u x m f).1 ≤ m + x.length := by
  intro x
  induction x with
  | nil => intro m f; show m ≤ m ∧ m ≤ m + (0 : Nat); omega
  | cons p x ih =>
    intro m f
    rw [List.length_cons]
    show m ≤ (if u p = -2 then likeF u x (m + 1) (if m = 0 then digV p else f) else likeF u x m f).1 ∧ (if u p = -2 then likeF u x (m + 1) (if m = 0 then digV p else f) else likeF u x m f).1 ≤ _
    by_cases h : u p = -2
    · rw [if_pos h]; have := ih (m + 1) (if m = 0 then digV p else f); omega
    · rw [if_neg h]; have := ih m f; omega
abbrev SM2 : List Nat := [83, 84, 86, 87, 88, 89]
abbrev FM2 : List (Nat × Nat) := [(66, 37), (66, 39), (66, 41), (66, 43), (66, 44)]
theorem ThN.zfo {σ τ : zS} {nr nt : Nat} {N : Nat → Nat → Int} {V : zV} {I : Nat → Int} (h : ThN σ nr nt N V I) (hF : zFr SM2 FM2 σ τ) : ThN τ nr nt N V I := h.hall (h.1.zfr hF (by simp) (by simp)) hF (by decide)
def MSt (σ : zS) (nt : Nat) (b : Int) (w : List Int) (m f : Int) : Prop := (gi σ 66 41).toInt = b ∧ (∀ j, j < nt → (gi σ 89 j).toInt = gd w j) ∧ (gi σ 66 43).toInt = m ∧ (gi σ 66 44).toInt = f
def SeM (σ : zS) (sh : Int32) (e : Nat → Int) (z : Int) : Prop := gi σ 66 42 = sh ∧ (sh.toInt < 0 ∨ (0 ≤ sh.toInt ∧ sh.toInt < 6 ∧ Seen σ sh.toInt.toNat e z))
theorem SeM.zfo {σ τ : zS} {sh : Int32} {e : Nat → Int} {z : Int} (h : SeM σ sh e z) (hF : zFr SM2 FM2 σ τ) : SeM τ sh e z := by
  refine ⟨by rw [hF.1 66 (by decide) 42 (by decide)]; exact h.1, ?_⟩
  rcases h.2 with q | q
  · exact Or.inl q
  · exact Or.inr ⟨q.1, q.2.1, q.2.2.zfr (by omega) hF (by decide)⟩
abbrev uM (sh : Int32) (N : Nat → Nat → Int) (V : zV) (nr : Nat) (I : Nat → Int) (e : Nat → Int) (z : Int) : List Int → Int := fun p => if sh.toInt < 0 then 0 else uOrd N V nr I e z p
theorem LAt.gdt {f : Nat → Int32} {L : List Int} (h : LAt f L 0) {j : Nat} (hj : j < L.length) : (f j).toInt = gd L j := by rw [← gd_get hj]; exact h.zero j hj
theorem LAt.of {f : Nat → Int32} {L : List Int} (h : ∀ j, j < L.length → (f j).toInt = gd L j) : LAt f L 0 := fun j hj => by
  rw [Nat.zero_add, gd_get hj]; exact h j hj
/-- the digits of an order, and its count -/
theorem lp_met76 {X : zX} {d : Nat} {Q : Option Value → zH → Prop} {σ : zS} {p : List Int} (hp : LAt (σ.1 88) p 0) (hn : (gi σ 66 39).toInt = p.length) (h8 : p.length ≤ 8) {m f : Int} (hm : (gi σ 66 43).toInt = m) (hf : (gi σ 66 44).toInt = f) (hm0 : 0 ≤ m ∧ m ≤ 100000) (hQ : ∀ τ : zS, zFr [] [(66, 43), (66, 44)] σ τ → (gi τ 66 43).toInt = m + 1 → (gi τ 66 44).toInt = (if m = 0 then digV p else f) → Q none (zen τ)) : ∀ (k : Nat) (a i : Int32) (ii : Nat), i.toInt = ii → ii + k = p.length → Int32.ofInt (digF (p.drop ii) a.toInt) = Int32.ofInt (digF p 0) → zwp X d MX12_metOrder 76 [.ref 66, .int a, .int i] [] (zen σ) Q := by
  intro k
  have e0 := l0
  have e1 := l1
  induction k with
  | zero =>
    intro a i ii hi hk ha
    have ed : a.toInt = digV p := by
      rw [List.drop_eq_nil_of_le (by omega)] at ha
      have : a = Int32.ofInt (digF p 0) := by rw [← ha]; exact (oi_t a).symm
      unfold digV; rw [← this]
    have em : (gi σ 66 43 + 1).toInt = m + 1 := by rw [t_add (by omega), e1, hm]
    rw [b_X12_metOrder_76, if_pos (ile.mpr (by omega))]
    by_cases c : gi σ 66 43 = 0
    · have c' : m = 0 := by rw [← hm, c]; rfl
      rw [if_neg (fun y => y c)]
      refine hQ _ ((zFr.rf.sf (by decide)).sf (by decide)) (by rw [gi_si]; exact em) ?_
      rw [gi_si_j (by decide), gi_si, if_pos c', ed]
    · have c' : ¬ m = 0 := fun y => c (ieq.mpr (by rw [hm, y]; rfl))
      rw [if_pos c]
      refine hQ _ (zFr.rf.sf (by decide)) (by rw [gi_si]; exact em) ?_
      rw [gi_si_j (by decide), if_neg c']; exact hf
  | succ k ih =>
    intro a i ii hi hk ha
    have ei : (i + 1).toInt = (ii + 1 : Nat) := by rw [t_add (by omega), e1]; omega
    have zi : zin i 21 = true := zin_of (by omega) (by omega)
    have iI : ix i = ii := by rw [ix_t]; omega
    have g1 : (gi σ 88 ii).toInt = gd p ii := hp.gdt (by omega)
    have hlen : ii < p.length := by omega
    rw [b_X12_metOrder_76, if_neg (fun y => by have := ile.mp y; omega), ztrue_and zi, iI]
    refine ih _ (i + 1) (ii + 1) ei (by omega) ?_
    rw [← ha, List.drop_eq_getElem_cons hlen]
    have hx : p[ii] = gd p ii := gd_get hlen
    rw [hx]
    refine digF_mod _ (x := (10 * a + gi σ 88 ii).toInt) (y := a.toInt * 10 + gd p ii) ?_
    rw [oi_t, Int32.ofInt_add, Int32.ofInt_mul, oi_t, ← g1, oi_t, Int32.mul_comm]
    rfl
section MET
variable {X : zX} {d : Nat} {Q : Option Value → zH → Prop} {nr nt : Nat} {N : Nat → Nat → Int} {V : zV} {I : Nat → Int} {e : Nat → Int} {z : Int}
theorem met_tail (hd : 2 ≤ d) (hR : HallR nr nt N) {σ : zS} {p w : List Int} {b m f : Int} {sh : Int32} {w1 : Value} (hT : ThN σ nr nt N V I) (hP : LAt (σ.1 88) p 0) (hn : (gi σ 66 39).toInt = p.length) (h8 : p.length ≤ 8) (hI86 : IceAt (σ.1 86) (play N (gG V N (-1) nr) p I)) (hS : SeM σ sh e z) (hM : MSt σ nt b w m f) (hm0 : 0 ≤ m ∧ m ≤ 100000)
    (hQ : ∀ τ : zS, zFr [] [(66, 43), (66, 44)] σ τ → MSt τ nt b w (if uM sh N V nr I e z p = -2 then m + 1 else m) (if uM sh N V nr I e z p = -2 then (if m = 0 then digV p else f) else f) → Q none (zen τ)) :
    (if gi σ 66 42 < 0 then Q none (zen σ) else zwp X (d - 1) MX12_wrongSeen 0 [.ref 66, .int (gi σ 66 42), .null] [] (zen σ) (fun v h' => zwp X d MX12_metOrder 68 [.ref 66, w1, .null] (zpsh v []) h' Q)) := by
  have e0 := l0
  have same : ¬ uM sh N V nr I e z p = -2 → Q none (zen σ) := fun h => hQ σ zFr.rf (by rw [if_neg h, if_neg h]; exact hM)
  rw [hS.1]
  rcases hS.2 with q | q
  · rw [if_pos (il.mpr (by omega))]
    exact same (by show ¬ (if sh.toInt < 0 then 0 else uOrd N V nr I e z p) = -2; rw [if_pos q]; decide)
  · have hu0 : uM sh N V nr I e z p = uOrd N V nr I e z p := by show (if sh.toInt < 0 then 0 else uOrd N V nr I e z p) = _; rw [if_neg (by omega)]
    rw [if_neg (fun y => by have := il.mp y; omega)]
    refine w_X12_wrongSeen (by omega) ⟨q.1, q.2.1⟩ q.2.2 hT.1.2.2.2.2.1 hR.long hI86 (fun u hu => ?_)
    have ub : u.toInt = -2 ∨ 0 ≤ u.toInt := by rw [hu]; exact unlI_b _ _ _ _
    have hu' : u.toInt = uOrd N V nr I e z p := hu
    show zwp X d MX12_metOrder 68 _ [.int u] (zen σ) Q
    rw [b_X12_metOrder_68]
    by_cases c : u < 0
    · have := il.mp c
      have hc : uM sh N V nr I e z p = -2 := by rw [hu0]; omega
      rw [if_pos c]
      rw [if_pos hc, if_pos hc] at hQ
      refine lp_met76 hP hn h8 hM.2.2.1 hM.2.2.2 hm0 (fun τ f1 f2 f3 => hQ τ f1 ⟨?_, fun j hj => ?_, f2, f3⟩) p.length 0 0 0 e0 (by omega) (by rw [e0, List.drop_zero])
      · rw [f1.1 66 (by decide) 41 (by decide)]; exact hM.1
      · rw [f1.1 89 (by decide) j (by simp)]; exact hM.2.1 j hj
    · have := nil_ c
      rw [if_neg c]
      exact same (by rw [hu0]; omega)
theorem lp_met27 (hd : 2 ≤ d) (hR : HallR nr nt N) {p : List Int} {b m f : Int} {sh : Int32} (hpl : p.length = nt) (hm0 : 0 ≤ m ∧ m ≤ 100000) : ∀ (k : Nat) (σ : zS) (i : Int32) (ii : Nat), i.toInt = ii → ii + k = nt → ThN σ nr nt N V I → LAt (σ.1 88) p 0 → (gi σ 66 39).toInt = p.length → IceAt (σ.1 86) (play N (gG V N (-1) nr) p I) → SeM σ sh e z → (gi σ 66 41).toInt = b → (∀ j, j < ii → (gi σ 89 j).toInt = gd p j) → (gi σ 66 43).toInt = m → (gi σ 66 44).toInt = f →
    (∀ τ : zS, zFr [89] [(66, 43), (66, 44)] σ τ → MSt τ nt b p (if uM sh N V nr I e z p = -2 then m + 1 else m) (if uM sh N V nr I e z p = -2 then (if m = 0 then digV p else f) else f) → Q none (zen τ)) →
    zwp X d MX12_metOrder 27 [.ref 66, .int i, .null] [] (zen σ) Q := by
  intro k
  have e1 := l1
  have h8 := hR.2.1
  induction k with
  | zero =>
    intro σ i ii hi hk hT hP hn hI86 hS hb hw hm hf hQ
    rw [b_X12_metOrder_27 (hd := by omega), if_pos (ile.mpr (by omega))]
    exact met_tail hd hR hT hP hn (by omega) hI86 hS ⟨hb, fun j hj => hw j (by omega), hm, hf⟩ hm0 (fun τ f1 f2 => hQ τ (f1.sub (fun _ q => absurd q (by simp)) (fun q hq => Or.inl hq)) f2)
  | succ k ih =>
    intro σ i ii hi hk hT hP hn hI86 hS hb hw hm hf hQ
    have ei : (i + 1).toInt = (ii + 1 : Nat) := by rw [t_add (by omega), e1]; omega
    have z1 : zin i 21 = true := zin_of (by omega) (by omega)
    have z2 : zin i 8 = true := zin_of (by omega) (by omega)
    have iI : ix i = ii := by rw [ix_t]; omega
    rw [b_X12_metOrder_27 (hd := by omega), if_neg (fun y => by have := ile.mp y; omega), ztrue_and z1, ztrue_and z2, iI]
    have hF : zFr SM2 FM2 σ (si σ 89 ii (gi σ 88 ii)) := zFr.rf.ws (by decide)
    have hF2 : zFr [89] [(66, 43), (66, 44)] σ (si σ 89 ii (gi σ 88 ii)) := zFr.rf.ws (by decide)
    refine ih _ (i + 1) (ii + 1) ei (by omega) (hT.zfo hF) hP hn hI86 (hS.zfo hF) hb (fun j hj => ?_) hm hf (fun τ f1 f2 => hQ τ (hF2.tr f1) f2)
    by_cases c : j = ii
    · rw [c, gi_si]; exact hP.gdt (by omega)
    · rw [gi_si_j c]; exact hw j (by omega)
theorem w_metOrder (hd : 12 ≤ d) (hR : HallR nr nt N) (hI : IceR I) {σ : zS} {p w : List Int} {b m f : Int} {sh : Int32} (hT : ThN σ nr nt N V I) (hP : ProgM σ nt p) (hpl : p.length = nt) (hS : SeM σ sh e z) (hM : MSt σ nt b w m f) (hm0 : 0 ≤ m ∧ m ≤ 100000)
    (hQ : ∀ τ : zS, zFr [83, 84, 86, 87, 89] [(66, 37), (66, 41), (66, 43), (66, 44)] σ τ → ThN τ nr nt N V I → SeM τ sh e z → MSt τ nt (bestF (cOrd N V nr I) [p] b w).1 (bestF (cOrd N V nr I) [p] b w).2 (likeF (uM sh N V nr I e z) [p] m f).1 (likeF (uM sh N V nr I e z) [p] m f).2 → Q none (zen τ)) :
    zwp X d MX12_metOrder 0 [.ref 66, .null, .null] [] (zen σ) Q := by
  have e0 := l0
  have h8 := hR.2.1
  have eL : ∀ (m f : Int), (likeF (uM sh N V nr I e z) [p] m f).1 = (if uM sh N V nr I e z p = -2 then m + 1 else m) ∧ (likeF (uM sh N V nr I e z) [p] m f).2 = (if uM sh N V nr I e z p = -2 then (if m = 0 then digV p else f) else f) := fun m f => by
    show (if uM sh N V nr I e z p = -2 then (m + 1, if m = 0 then digV p else f) else (m, f)).1 = _ ∧ (if uM sh N V nr I e z p = -2 then (m + 1, if m = 0 then digV p else f) else (m, f)).2 = _
    by_cases c : uM sh N V nr I e z p = -2
    · rw [if_pos c, if_pos c, if_pos c]; exact ⟨rfl, rfl⟩
    · rw [if_neg c, if_neg c, if_neg c]; exact ⟨rfl, rfl⟩
  rw [(eL m f).1, (eL m f).2] at hQ
  have eB : bestF (cOrd N V nr I) [p] b w = if b < cOrd N V nr I p then (cOrd N V nr I p, p) else (b, w) := rfl
  rw [eB] at hQ
  have hTM : ThM σ nr nt N V (-1) I p := ⟨hT.1, hT.2.1, hT.2.2.1, hT.2.2.2, hP⟩
  rw [b_X12_metOrder_0 (hd := by omega)]
  refine w_X12_goAll (by omega) hR hTM hI (fun τ hF hT2 hic _ => ?_)
  show zwp X d MX12_metOrder 4 _ [] (zen τ) Q
  have hFa : zFr SM2 FM2 σ τ := hF.sub (by decide) (by decide)
  have hFb : zFr [83, 84, 86, 87, 89] [(66, 37), (66, 41), (66, 43), (66, 44)] σ τ := hF.sub (by decide) (by decide)
  have hTn := hT.zfo hFa
  have hS2 := hS.zfo hFa
  have hJ : IceR (play N (gG V N (-1) nr) p I) := play_R hR p I hP.2.2.1 hI
  have hP2 := hT2.2.2.2.2
  have m41 : (gi τ 66 41).toInt = b := by rw [hF.1 66 (by decide) 41 (by decide)]; exact hM.1
  have m43 : (gi τ 66 43).toInt = m := by rw [hF.1 66 (by decide) 43 (by decide)]; exact hM.2.2.1
  have m44 : (gi τ 66 44).toInt = f := by rw [hF.1 66 (by decide) 44 (by decide)]; exact hM.2.2.2
  have m89 : ∀ j, j < nt → (gi τ 89 j).toInt = gd w j := fun j hj => by rw [hF.1 89 (by decide) j (by simp)]; exact hM.2.1 j hj
  rw [b_X12_metOrder_4 (hd := by omega)]
  refine w_X12_heaviestAt (by omega) hR hTn.1 (by rw [e0]; omega) hic hJ (fun v hv => ?_)
  rw [e0, Int.zero_mul] at hv
  have hv' : v.toInt = cOrd N V nr I p := hv
  show zwp X d MX12_metOrder 9 _ [.int v] (zen τ) Q
  rw [b_X12_metOrder_9 (hd := by omega)]
  by_cases cv : v ≤ gi τ 66 41
  · have := ile.mp cv
    rw [if_pos cv]
    rw [if_neg (show ¬ b < cOrd N V nr I p by omega)] at hQ
    exact met_tail (by omega) hR hTn hP2.2.2.2 hP2.1 (by omega) hic hS2 ⟨m41, m89, m43, m44⟩ hm0 (fun ρ f1 f2 => hQ ρ (hFb.tr (f1.sub (by decide) (by decide))) (hTn.zfo (f1.sub (by decide) (by decide))) (hS2.zfo (f1.sub (by decide) (by decide))) f2)
  · have := nile cv
    rw [if_neg cv]
    rw [if_pos (show b < cOrd N V nr I p by omega)] at hQ
    refine w_X12_heaviestAt (by omega) hR hTn.1 (by rw [e0]; omega) hic hJ (fun u hu => ?_)
    rw [e0, Int.zero_mul] at hu
    have hu' : u.toInt = cOrd N V nr I p := hu
    show zwp X d MX12_metOrder 22 _ [.int u, .ref 66] (zen τ) Q
    have hFc : zFr SM2 FM2 τ (si τ 66 41 u) := zFr.rf.sf (by decide)
    have hFd : zFr [83, 84, 86, 87, 89] [(66, 37), (66, 41), (66, 43), (66, 44)] τ (si τ 66 41 u) := zFr.rf.sf (by decide)
    rw [b_X12_metOrder_22]
    refine lp_met27 (by omega) hR (p := p) (b := cOrd N V nr I p) (m := m) (f := f) (sh := sh) hpl hm0 nt _ 0 0 e0 (by omega) (hTn.zfo hFc) hP2.2.2.2 ?_ hic (hS2.zfo hFc) ?_ (fun j hj => absurd hj (by omega)) ?_ ?_ (fun ρ f1 f2 => hQ ρ ((hFb.tr hFd).tr (f1.sub (by decide) (by decide))) ((hTn.zfo hFc).zfo (f1.sub (by decide) (by decide))) ((hS2.zfo hFc).zfo (f1.sub (by decide) (by decide))) f2)
    · rw [gi_si_j (by decide)]; exact hP2.1
    · rw [gi_si]; exact hu'
    · rw [gi_si_j (by decide)]; exact m43
    · rw [gi_si_j (by decide)]; exact m44
end MET
