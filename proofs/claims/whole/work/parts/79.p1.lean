/-! the text of a law: the class reads -/
theorem dJ0_length_0 : decode cJ0_length_8abf5 0 = .ok (.aload_n 0, 1) := by decide +kernel
theorem dJ0_length_1 : decode cJ0_length_8abf5 1 = .ok (.getfield 9, 3) := by decide +kernel
theorem dJ0_length_4 : decode cJ0_length_8abf5 4 = .ok (.arraylength, 1) := by decide +kernel
theorem dJ0_length_5 : decode cJ0_length_8abf5 5 = .ok (.aload_n 0, 1) := by decide +kernel
theorem dJ0_length_6 : decode cJ0_length_8abf5 6 = .ok (.invokevirtual 335, 3) := by decide +kernel
theorem dJ0_length_9 : decode cJ0_length_8abf5 9 = .ok (.ishr, 1) := by decide +kernel
theorem dJ0_length_10 : decode cJ0_length_8abf5 10 = .ok (.ireturn, 1) := by decide +kernel
theorem zC_21_335' : zfind (zcallT 21) 21 335 = some (0, 0, MJ0_coder_7d493) := by rfl
theorem s_len_1006 {X : zX} {d : Nat} {Q : Option Value → zH → Prop} (hd : 1 ≤ d) (σ : zS) : zwp X d MJ0_length_8abf5 0 [.ref 1006] [] (zen σ) Q = Q (some (.int ((6 : Int32) >>> ((0 : Int32) &&& 31)))) (zen σ) :=
  Eq.trans (q_aload_n (pc := 0) dJ0_length_0 rfl rfl) (Eq.trans (q_getf (pc := 1) dJ0_length_1 zF_21_9 rfl) (Eq.trans (q_alen (n := 6) (v := 6) (pc := 4) dJ0_length_4 rfl rfl) (Eq.trans (q_aload_n (pc := 5) dJ0_length_5 rfl rfl) (Eq.trans (q_sumI (q_callV (as := []) (rest := [.int 6]) (l0 := [.ref 1006]) (pc := 6) dJ0_length_6 zC_21_335' rfl rfl rfl rfl) (by omega) (s_J0_coder_7d493_1006 σ)) (Eq.trans (q_ishr (pc := 9) dJ0_length_9) (q_iret (pc := 10) dJ0_length_10 rfl rfl))))))
theorem s_len_1007 {X : zX} {d : Nat} {Q : Option Value → zH → Prop} (hd : 1 ≤ d) (σ : zS) : zwp X d MJ0_length_8abf5 0 [.ref 1007] [] (zen σ) Q = Q (some (.int ((10 : Int32) >>> ((0 : Int32) &&& 31)))) (zen σ) :=
  Eq.trans (q_aload_n (pc := 0) dJ0_length_0 rfl rfl) (Eq.trans (q_getf (pc := 1) dJ0_length_1 zF_21_9 rfl) (Eq.trans (q_alen (n := 10) (v := 10) (pc := 4) dJ0_length_4 rfl rfl) (Eq.trans (q_aload_n (pc := 5) dJ0_length_5 rfl rfl) (Eq.trans (q_sumI (q_callV (as := []) (rest := [.int 10]) (l0 := [.ref 1007]) (pc := 6) dJ0_length_6 zC_21_335' rfl rfl rfl rfl) (by omega) (s_J0_coder_7d493_1007 σ)) (Eq.trans (q_ishr (pc := 9) dJ0_length_9) (q_iret (pc := 10) dJ0_length_10 rfl rfl))))))
def ixF (K : Nat → Int32) (c : Int32) : Nat → Nat → Int
  | 0, _ => -1
  | n + 1, i => if ¬ K i = c then ixF K c n (i + 1) else i
theorem byte_all : ∀ b, b < 256 → (Int32.toUInt32 (Int32.ofNat b) % 65536).toInt32 = Int32.ofNat b ∧ ¬ Int32.ofNat b < 0 ∧ ¬ 255 < Int32.ofNat b ∧ ixF zK8 ((Int32.toInt8 (Int32.ofNat b)).toInt32) 6 0 = nmI b ∧ ixF zK9 ((Int32.toInt8 (Int32.ofNat b)).toInt32) 10 0 = jnI b := by decide +kernel
section IDX
variable {X : zX} {d : Nat} {Q : Option Value → zH → Prop} {σ : zS}
theorem lp_ch6 (a s c : Int32) : ∀ (n : Nat) (i : Int32) (ii : Nat), i.toInt = ii → ii + n = 6 → (∀ v : Int32, v.toInt = ixF zK8 c n ii → Q (some (.int v)) (zen σ)) → zwp X d MJ1_indexOfChar_4cfef 7 [.ref 1008, .int a, .int s, .int 6, .int c, .int i] [] (zen σ) Q := by
  intro n
  have e1 := l1
  have e6 := l6
  induction n with
  | zero =>
    intro i ii hi hn hQ
    rw [b_J1_indexOfChar_4cfef_1006_7, if_pos (ile.mpr (by omega))]
    exact hQ _ rfl
  | succ n ih =>
    intro i ii hi hn hQ
    have ei : (i + 1).toInt = (ii + 1 : Nat) := by rw [t_add (by omega), e1]; omega
    have iz : zin i 6 = true := zin_of (by omega) (by omega)
    have iI : ix i = ii := by rw [ix_t]; omega
    unfold ixF at hQ
    rw [b_J1_indexOfChar_4cfef_1006_7, if_neg (fun y => by have := ile.mp y; omega), ztrue_and iz, iI]
    by_cases cc : zK8 ii = c
    · rw [if_neg (fun y => y cc)] at hQ ⊢
      exact hQ i hi
    · rw [if_pos cc] at hQ ⊢
      exact ih (i + 1) (ii + 1) ei (by omega) hQ
theorem lp_ch10 (a s c : Int32) : ∀ (n : Nat) (i : Int32) (ii : Nat), i.toInt = ii → ii + n = 10 → (∀ v : Int32, v.toInt = ixF zK9 c n ii → Q (some (.int v)) (zen σ)) → zwp X d MJ1_indexOfChar_4cfef 7 [.ref 1009, .int a, .int s, .int 10, .int c, .int i] [] (zen σ) Q := by
  intro n
  have e1 := l1
  have e10 : (10 : Int32).toInt = 10 := rfl
  induction n with
  | zero =>
    intro i ii hi hn hQ
    rw [b_J1_indexOfChar_4cfef_1007_7, if_pos (ile.mpr (by omega))]
    exact hQ _ rfl
  | succ n ih =>
    intro i ii hi hn hQ
    have ei : (i + 1).toInt = (ii + 1 : Nat) := by rw [t_add (by omega), e1]; omega
    have iz : zin i 10 = true := zin_of (by omega) (by omega)
    have iI : ix i = ii := by rw [ix_t]; omega
    unfold ixF at hQ
    rw [b_J1_indexOfChar_4cfef_1007_7, if_neg (fun y => by have := ile.mp y; omega), ztrue_and iz, iI]
    by_cases cc : zK9 ii = c
    · rw [if_neg (fun y => y cc)] at hQ ⊢
      exact hQ i hi
    · rw [if_pos cc] at hQ ⊢
      exact ih (i + 1) (ii + 1) ei (by omega) hQ
theorem w_idxN (hd : 6 ≤ d) {b : Int32} {x : Int} (hb : b.toInt = x) (hx : 0 ≤ x ∧ x ≤ 255) (hQ : ∀ v : Int32, v.toInt = nmI x → Q (some (.int v)) (zen σ)) : zwp X d MJ0_indexOf_0f7a4 0 [.ref 1006, .int ((Int32.toUInt32 b % 65536).toInt32)] [] (zen σ) Q := by
  obtain ⟨k, hk⟩ : ∃ k : Nat, x = k := ⟨x.toNat, by omega⟩
  subst hk
  have hbk : b = Int32.ofNat k := by rw [ieq, hb]; exact (Int32.toInt_ofNat_of_lt (by omega)).symm
  subst hbk
  have A := byte_all k (by omega)
  have m0 : zmx 0 0 = 0 := rfl
  have m6 : zmn 6 6 = 6 := rfl
  have e6 : (6 : Int32) >>> ((0 : Int32) &&& 31) = 6 := rfl
  rw [A.1, b_J0_indexOf_0f7a4_1006_0 (hd := by omega), b_J0_indexOf_7cf53_1006_0 (hd := by omega), s_len_1006 (by omega), e6]
  show zwp X (d - 1) MJ0_indexOf_7cf53 17 _ [.int 6, .int 0, .int (Int32.ofNat k), .ref 1008] (zen σ) _
  rw [b_J0_indexOf_7cf53_1006_17 (hd := by omega), b_J1_indexOf_4cfef_1006_0 (hd := by omega)]
  unfold f_J1_canEncode_9a6ad
  rw [if_neg A.2.1, if_neg A.2.2.1, if_pos (by decide), m0, m6, if_pos (by decide), b_J1_indexOfChar_4cfef_1006_0]
  refine lp_ch6 _ _ _ 6 0 0 l0 (by omega) (fun v hv => ?_)
  show zwp X (d - 1 - 1) MJ1_indexOf_4cfef 36 _ [.int v] (zen σ) _
  rw [b_J1_indexOf_4cfef_1006_36]
  show zwp X (d - 1) MJ0_indexOf_7cf53 20 _ [.int v] (zen σ) _
  rw [b_J0_indexOf_7cf53_1006_20]
  show zwp X d MJ0_indexOf_0f7a4 6 _ [.int v] (zen σ) Q
  rw [b_J0_indexOf_0f7a4_1006_6]
  exact hQ v (by rw [hv]; exact A.2.2.2.1)
theorem w_idxJ (hd : 6 ≤ d) {b : Int32} {x : Int} (hb : b.toInt = x) (hx : 0 ≤ x ∧ x ≤ 255) (hQ : ∀ v : Int32, v.toInt = jnI x → Q (some (.int v)) (zen σ)) : zwp X d MJ0_indexOf_0f7a4 0 [.ref 1007, .int ((Int32.toUInt32 b % 65536).toInt32)] [] (zen σ) Q := by
  obtain ⟨k, hk⟩ : ∃ k : Nat, x = k := ⟨x.toNat, by omega⟩
  subst hk
  have hbk : b = Int32.ofNat k := by rw [ieq, hb]; exact (Int32.toInt_ofNat_of_lt (by omega)).symm
  subst hbk
  have A := byte_all k (by omega)
  have m0 : zmx 0 0 = 0 := rfl
  have m6 : zmn 10 10 = 10 := rfl
  have e6 : (10 : Int32) >>> ((0 : Int32) &&& 31) = 10 := rfl
  rw [A.1, b_J0_indexOf_0f7a4_1007_0 (hd := by omega), b_J0_indexOf_7cf53_1007_0 (hd := by omega), s_len_1007 (by omega), e6]
  show zwp X (d - 1) MJ0_indexOf_7cf53 17 _ [.int 10, .int 0, .int (Int32.ofNat k), .ref 1009] (zen σ) _
  rw [b_J0_indexOf_7cf53_1007_17 (hd := by omega), b_J1_indexOf_4cfef_1007_0 (hd := by omega)]
  unfold f_J1_canEncode_9a6ad
  rw [if_neg A.2.1, if_neg A.2.2.1, if_pos (by decide), m0, m6, if_pos (by decide), b_J1_indexOfChar_4cfef_1007_0]
  refine lp_ch10 _ _ _ 10 0 0 l0 (by omega) (fun v hv => ?_)
  show zwp X (d - 1 - 1) MJ1_indexOf_4cfef 36 _ [.int v] (zen σ) _
  rw [b_J1_indexOf_4cfef_1007_36]
  show zwp X (d - 1) MJ0_indexOf_7cf53 20 _ [.int v] (zen σ) _
  rw [b_J0_indexOf_7cf53_1007_20]
  show zwp X d MJ0_indexOf_0f7a4 6 _ [.int v] (zen σ) Q
  rw [b_J0_indexOf_0f7a4_1007_6]
  exact hQ v (by rw [hv]; exact A.2.2.2.2)
end IDX
/-! the tape and the draft -/
def CI (σ : zS) (B : Nat → Int) (n : Nat) : Prop := (gi σ 7 2).toInt = n ∧ ∀ j, j < n → (gi σ 8 j).toInt = B j
def CD (σ : zS) (p len : Nat) : Prop := (gi σ 7 3).toInt = p ∧ (gi σ 9 3).toInt = len ∧ (gi σ 9 4 = 0 ∨ gi σ 9 4 = 1)
abbrev FP : List (Nat × Nat) := [(7, 3), (9, 3), (9, 4)]
theorem CI.fr {σ τ : zS} {B : Nat → Int} {n : Nat} {S : List Nat} (h : CI σ B n) (hF : zFr S FP σ τ) (hS : 8 ∉ S ∧ 7 ∉ S) : CI τ B n := by
  refine ⟨by rw [hF.1 7 hS.2 2 (by decide)]; exact h.1, fun j hj => ?_⟩
  rw [hF.1 8 hS.1 j (by simp)]; exact h.2 j hj
theorem LAt.mk {f : Nat → Int32} {a b : List Int} {k : Nat} (h1 : LAt f a k) (h2 : LAt f b (k + a.length)) : LAt f (a ++ b) k := by
  intro j hj
  by_cases c : j < a.length
  · rw [List.getElem_append_left c]; exact h1 j c
  · rw [List.length_append] at hj
    have := h2 (j - a.length) (by omega)
    rw [List.getElem_append_right (by omega), ← this]
    congr 2
    omega
theorem LAt.sing {f : Nat → Int32} {s : Int} {k : Nat} (h : (f k).toInt = s) : LAt f [s] k := by
  intro j hj
  have : j = 0 := by simp at hj; exact hj
  subst this
  exact h
theorem LAt.eq {f g : Nat → Int32} {a : List Int} {k : Nat} (h : LAt f a k) (he : ∀ j, k ≤ j → j < k + a.length → g j = f j) : LAt g a k := fun j hj => by
  rw [he (k + j) (by omega) (by omega)]; exact h j hj
theorem addC {σ : zS} {p len : Nat} (h : CD σ p len) (hl : len ≤ 121) (s : Int32) : p_X6_add σ s ∧ zFr [10] [(9, 3), (9, 4)] σ (g_X6_add σ s) ∧ CD (g_X6_add σ s) p (if len < 121 then len + 1 else len) ∧ (len < 121 → gi (g_X6_add σ s) 10 len = s) ∧ (∀ j, j < len → gi (g_X6_add σ s) 10 j = gi σ 10 j) ∧ (gi (g_X6_add σ s) 9 4 = 0 → gi σ 9 4 = 0 ∧ s ≠ 10005) := by
  have e1 := l1
  have e242 : (121 : Int32).toInt = 121 := rfl
  unfold p_X6_add g_X6_add
  by_cases c : len < 121
  · have n1 : ¬ 121 ≤ gi σ 9 3 := fun y => by have := ile.mp y; have := h.2.1; omega
    have iz : zin (gi σ 9 3) 121 = true := zin_of (by have := h.2.1; omega) (by have := h.2.1; omega)
    have ii : ix (gi σ 9 3) = len := by rw [ix_t, h.2.1]; omega
    have ev : (gi σ 9 3 + 1).toInt = (len + 1 : Nat) := by rw [t_add (by rw [h.2.1]; omega), e1, h.2.1]; omega
    rw [if_neg n1, if_neg n1, if_pos c, ii]
    by_cases cs : s = 10005
    · rw [if_neg (fun y => y cs)]
      refine ⟨iz, ((zFr.rf.ws (by decide)).sf (by decide)).sf (by decide), ⟨?_, ?_, ?_⟩, fun _ => ?_, fun j hj => ?_, fun e => ?_⟩
      · rw [gi_si_ne (by decide), gi_si_ne (by decide), gi_si_ne (by decide)]; exact h.1
      · rw [gi_si_j (by decide), gi_si]; exact ev
      · rw [gi_si]; exact Or.inr rfl
      · rw [gi_si_ne (by decide), gi_si_ne (by decide), gi_si]
      · rw [gi_si_ne (by decide), gi_si_ne (by decide), gi_si_j (by omega)]
      · rw [gi_si] at e; exact absurd e (by decide)
    · rw [if_pos cs]
      refine ⟨iz, (zFr.rf.ws (by decide)).sf (by decide), ⟨?_, ?_, ?_⟩, fun _ => ?_, fun j hj => ?_, fun e => ?_⟩
      · rw [gi_si_ne (by decide), gi_si_ne (by decide)]; exact h.1
      · rw [gi_si]; exact ev
      · rw [gi_si_j (by decide), gi_si_ne (by decide)]; exact h.2.2
      · rw [gi_si_ne (by decide), gi_si]
      · rw [gi_si_ne (by decide), gi_si_j (by omega)]
      · rw [gi_si_j (by decide), gi_si_ne (by decide)] at e; exact ⟨e, cs⟩
  · have n1 : 121 ≤ gi σ 9 3 := ile.mpr (by have := h.2.1; omega)
    rw [if_pos n1, if_pos n1, if_neg c]
    by_cases cs : s = 10005
    · rw [if_neg (fun y => y cs)]
      refine ⟨trivial, zFr.rf.sf (by decide), ⟨?_, ?_, ?_⟩, fun y => absurd y c, fun j hj => ?_, fun e => ?_⟩
      · rw [gi_si_ne (by decide)]; exact h.1
      · rw [gi_si_j (by decide)]; exact h.2.1
      · rw [gi_si]; exact Or.inr rfl
      · rw [gi_si_ne (by decide)]
      · rw [gi_si] at e; exact absurd e (by decide)
    · rw [if_pos cs]
      exact ⟨trivial, zFr.rf, h, fun y => absurd y c, fun j hj => rfl, fun e => ⟨e, cs⟩⟩
/-- one byte on -/
theorem nextC {σ : zS} {B : Nat → Int} {n p len : Nat} (hI : CI σ B n) (h : CD σ p len) (hp : p < 1000) : CI (si σ 7 3 (gi σ 7 3 + 1)) B n ∧ CD (si σ 7 3 (gi σ 7 3 + 1)) (p + 1) len ∧ zFr [10] FP σ (si σ 7 3 (gi σ 7 3 + 1)) ∧ (∀ j, gi (si σ 7 3 (gi σ 7 3 + 1)) 10 j = gi σ 10 j) ∧ gi (si σ 7 3 (gi σ 7 3 + 1)) 9 4 = gi σ 9 4 := by
  have e1 := l1
  have hF : zFr [10] FP σ (si σ 7 3 (gi σ 7 3 + 1)) := zFr.rf.sf (by decide)
  refine ⟨hI.fr hF (by decide), ⟨?_, ?_, ?_⟩, hF, fun j => gi_si_ne (by decide), gi_si_ne (by decide)⟩
  · rw [gi_si, t_add (by rw [h.1]; omega), e1, h.1]; omega
  · rw [gi_si_ne (by decide)]; exact h.2.1
  · rw [gi_si_ne (by decide)]; exact h.2.2
theorem takeC {σ : zS} {B : Nat → Int} {n p len : Nat} (hB : bOk B n) (hn : n ≤ 120) (hI : CI σ B n) (h : CD σ p len) (hp : p ≤ n) {c : Int32} {x : Int} (hc : c.toInt = x) (hx : 0 ≤ x) : p_X9_take σ c ∧ (B p = x → f_X9_take σ c = 1 ∧ g_X9_take σ c = si σ 7 3 (gi σ 7 3 + 1)) ∧ (¬ B p = x → f_X9_take σ c = 0 ∧ g_X9_take σ c = σ) := by
  have h1 := h.1
  have h2 := hI.1
  unfold p_X9_take f_X9_take g_X9_take
  by_cases cp : gi σ 7 2 ≤ gi σ 7 3
  · have := ile.mp cp
    have hb := hB.1 p (by omega)
    rw [if_pos cp, if_pos cp, if_pos cp]
    exact ⟨trivial, fun q => by omega, fun _ => ⟨rfl, rfl⟩⟩
  · have := nile cp
    have ii : ix (gi σ 7 3) = p := by rw [ix_t]; omega
    have iz : zin (gi σ 7 3) 120 = true := zin_of (by omega) (by omega)
    have hb := hI.2 p (by omega)
    rw [if_neg cp, if_neg cp, if_neg cp, ii]
    refine ⟨iz, fun q => ?_, fun q => ?_⟩
    · have e : gi σ 8 p = c := ieq.mpr (by omega)
      rw [if_neg (fun y => y e), if_neg (fun y => y e)]; exact ⟨rfl, rfl⟩
    · have e : ¬ gi σ 8 p = c := fun y => q (by rw [← hb, y, hc])
      rw [if_pos e, if_pos e]; exact ⟨rfl, rfl⟩
