/-! orders and picks, as lists of numbers -/
def gd (L : List Int) (j : Nat) : Int := L.getD j 0
theorem gd_set {L : List Int} {a j : Nat} {x : Int} (h : a < L.length) : gd (L.set a x) j = if j = a then x else gd L j := by
  unfold gd
  rw [List.getD_eq_getElem?_getD, List.getD_eq_getElem?_getD, List.getElem?_set]
  by_cases e : a = j
  · rw [if_pos e, if_pos h, if_pos e.symm]; rfl
  · rw [if_neg e, if_neg (fun q => e q.symm)]
theorem gd_take {L : List Int} {n j : Nat} (h : j < n) : gd (L.take n) j = gd L j := by
  unfold gd
  rw [List.getD_eq_getElem?_getD, List.getD_eq_getElem?_getD, List.getElem?_take_of_lt h]
theorem gd_get {L : List Int} {j : Nat} (h : j < L.length) : L[j] = gd L j := by
  unfold gd
  rw [List.getD_eq_getElem?_getD, List.getElem?_eq_getElem h]; rfl
theorem take_s {L : List Int} {k : Nat} (h : k < L.length) : L.take (k + 1) = L.take k ++ [gd L k] := by
  rw [← gd_get h, List.take_append_getElem h]
theorem gd_app {L : List Int} {x : Int} : gd (L ++ [x]) L.length = x := by
  unfold gd
  rw [List.getD_eq_getElem?_getD, List.getElem?_append_right (Nat.le_refl _), Nat.sub_self]; rfl
theorem gd_app_lt {L : List Int} {x : Int} {j : Nat} (h : j < L.length) : gd (L ++ [x]) j = gd L j := by
  unfold gd
  rw [List.getD_eq_getElem?_getD, List.getD_eq_getElem?_getD, List.getElem?_append_left h]
def swpL (L : List Int) (a b : Nat) : List Int := (L.set a (gd L b)).set b (gd L a)
def plcL (L : List Int) : Nat → Int
  | 0 => -1
  | k + 1 => if gd L k ≤ gd L (k + 1) then k else plcL L k
def othL (L : List Int) (p : Nat) : Nat → Nat
  | 0 => 0
  | o + 1 => if o + 1 ≤ p then o + 1 else if gd L p ≤ gd L (o + 1) then o + 1 else othL L p o
def revL : Nat → List Int → Nat → Nat → List Int
  | 0, L, _, _ => L
  | f + 1, L, a, b => if b ≤ a then L else revL f (swpL L a b) (a + 1) (b - 1)
def nxtL (n : Nat) (L : List Int) : Option (Nat × List Int) := if plcL L (n - 1) < 0 then none else some ((plcL L (n - 1)).toNat, revL 6 (swpL L (plcL L (n - 1)).toNat (othL L (plcL L (n - 1)).toNat (n - 1))) ((plcL L (n - 1)).toNat + 1) (n - 1))
def okL (L : List Int) : Bool := decide (L.length = 6) && L.all (fun x => decide (0 ≤ x) && decide (x < 6))
def okP (n : Nat) (p : List Int) : Bool := p.all (fun b => decide (0 ≤ b) && decide (b < n))
def chkO (n : Nat) : List Int → List (List Int) → Bool
  | _, [] => false
  | L, p :: r => okL L && decide (L.take n = p) && okP n p && (match nxtL n L with
    | none => r.isEmpty
    | some (q, L') => decide (q < n) && decide (L'.take q = L.take q) && chkO n L' r)
def pmT (f : List Int → List (List Int)) (pre : List Int) : Nat → Nat → List (List Int)
  | 0, _ => []
  | m + 1, t => (if pre.contains (t : Int) then [] else f (pre ++ [(t : Int)])) ++ pmT f pre m (t + 1)
def pmL (n : Nat) : Nat → List Int → List (List Int)
  | 0, pre => [pre]
  | k + 1, pre => pmT (pmL n k) pre n 0
theorem chkO_all : ∀ n, n < 7 → chkO n [0, 1, 2, 3, 4, 5] (pmL n n []) = true ∧ (pmL n n []).length ≤ 720 := by decide +kernel
/-- the best of a list; how many are alike, the first as digits -/
def bestF (c : List Int → Int) : List (List Int) → Int → List Int → Int × List Int
  | [], b, w => (b, w)
  | p :: r, b, w => if b < c p then bestF c r (c p) p else bestF c r b w
theorem bestF_w {c : List Int → Int} (h : ∀ p, 0 ≤ c p) : ∀ (r : List (List Int)) (w w' : List Int), r ≠ [] → bestF c r (-1) w = bestF c r (-1) w' := by
  intro r w w' hr
  cases r with
  | nil => exact absurd rfl hr
  | cons p r =>
    have := h p
    unfold bestF
    rw [if_pos (by omega), if_pos (by omega)]
def digF : List Int → Int → Int
  | [], a => a
  | b :: r, a => digF r (a * 10 + b)
theorem digF_mod : ∀ (L : List Int) {x y : Int}, Int32.ofInt x = Int32.ofInt y → Int32.ofInt (digF L x) = Int32.ofInt (digF L y) := by
  intro L
  induction L with
  | nil => intro x y h; exact h
  | cons b r ih =>
    intro x y h
    unfold digF
    exact ih (by rw [Int32.ofInt_add, Int32.ofInt_add, Int32.ofInt_mul, Int32.ofInt_mul, h])
def digV (p : List Int) : Int := (Int32.ofInt (digF p 0)).toInt
def likeF (u : List Int → Int) : List (List Int) → Int → Int → Int × Int
  | [], m, f => (m, f)
  | p :: r, m, f => if u p = -2 then likeF u r (m + 1) (if m = 0 then digV p else f) else likeF u r m f
/-! the class: the next order -/
def PLf (f : Nat → Int32) (L : List Int) : Prop := L.length = 6 ∧ ∀ j, j < 6 → (f j).toInt = gd L j
theorem swp_ok {f : Nat → Int32} {L : List Int} {a b : Nat} (h : PLf f L) (ha : a < 6) (hb : b < 6) : PLf (upd (upd f a (f b)) b (f a)) (swpL L a b) := by
  refine ⟨by unfold swpL; rw [List.length_set, List.length_set]; exact h.1, fun j hj => ?_⟩
  unfold swpL
  rw [gd_set (by rw [List.length_set, h.1]; exact hb), gd_set (by rw [h.1]; exact ha)]
  by_cases e1 : j = b
  · rw [e1, upd_at, if_pos rfl]; exact h.2 a ha
  · rw [upd_ne _ _ e1, if_neg e1]
    by_cases e2 : j = a
    · rw [e2, upd_at, if_pos rfl]; exact h.2 b hb
    · rw [upd_ne _ _ e2, if_neg e2]; exact h.2 j hj
theorem g_swap {σ : zS} {f : Nat → Int32} {a b : Int32} : g_X7_swap (sA σ 47 f) a b = sA σ 47 (upd (upd f (ix a) (f (ix b))) (ix b) (f (ix a))) := by
  unfold g_X7_swap
  rw [si_sA, si_sA, gi_sA, gi_sA]
theorem lp_rev {X : zX} {d : Nat} {Q : Option Value → zH → Prop} (hd : 1 ≤ d) (σ : zS) (n p o : Int32) : ∀ (k : Nat) (f : Nat → Int32) (L : List Int) (a b : Int32) (x y : Nat), PLf f L → a.toInt = x → b.toInt = y → x ≤ 6 → y < 6 → y ≤ x + 2 * k → (∀ g, PLf g (revL k L x y) → Q (some (.int p)) (zen (sA σ 47 g))) → zwp X d MX7_nextOrder 83 [.ref 45, .int n, .int p, .int o, .int a, .int b] [] (zen (sA σ 47 f)) Q := by
  intro k
  have e1 := l1
  have em1 := lm1
  induction k with
  | zero =>
    intro f L a b x y hL ha hb hx hy hk hQ
    rw [b_X7_nextOrder_83 (hd := by omega), if_pos (ile.mpr (by omega))]
    exact hQ f hL
  | succ k ih =>
    intro f L a b x y hL ha hb hx hy hk hQ
    unfold revL at hQ
    rw [b_X7_nextOrder_83 (hd := by omega)]
    by_cases c : b ≤ a
    · have := ile.mp c
      rw [if_pos (by omega)] at hQ
      rw [if_pos c]
      exact hQ f hL
    · have := nile c
      rw [if_neg (by omega)] at hQ
      rw [if_neg c, g_swap]
      have za : zin a 6 = true := zin_of (by omega) (by omega)
      have zb : zin b 6 = true := zin_of (by omega) (by omega)
      have ia : ix a = x := by rw [ix_t]; omega
      have ib : ix b = y := by rw [ix_t]; omega
      refine ⟨⟨za, zb, za, zb⟩, ih _ (swpL L x y) (a + 1) (b + (-1)) (x + 1) (y - 1) ?_ (by rw [t_add (by omega), e1]; omega) (by rw [t_add (by omega), em1]; omega) (by omega) (by omega) (by omega) hQ⟩
      rw [ia, ib]
      exact swp_ok hL (by omega) (by omega)
theorem lp_oth {X : zX} {d : Nat} {Q : Option Value → zH → Prop} (hd : 1 ≤ d) (σ : zS) (n p : Int32) (f : Nat → Int32) (L : List Int) (hL : PLf f L) (pn nn : Nat) (hp : p.toInt = pn) (hn : n.toInt = nn) (hpn : pn + 1 < nn) (hn6 : nn ≤ 6) : ∀ (k : Nat) (o : Int32), o.toInt = k → k < 6 → (∀ g, PLf g (revL 6 (swpL L pn (othL L pn k)) (pn + 1) (nn - 1)) → Q (some (.int p)) (zen (sA σ 47 g))) → zwp X d MX7_nextOrder 41 [.ref 45, .int n, .int p, .int o, .null, .null] [] (zen (sA σ 47 f)) Q := by
  intro k
  have e1 := l1
  have em1 := lm1
  have ip : ix p = pn := by rw [ix_t]; omega
  have zp : zin p 6 = true := zin_of (by omega) (by omega)
  have go : ∀ (o : Int32) (on : Nat), o.toInt = on → on < 6 → (∀ g, PLf g (revL 6 (swpL L pn on) (pn + 1) (nn - 1)) → Q (some (.int p)) (zen (sA σ 47 g))) → (p_X7_swap (sA σ 47 f) p o ∧ zwp X d MX7_nextOrder 83 [.ref 45, .int n, .int p, .int o, .int (p + 1), .int (n - 1)] [] (zen (g_X7_swap (sA σ 47 f) p o)) Q) := fun o on ho ho6 hQ => by
    have io : ix o = on := by rw [ix_t]; omega
    have zo : zin o 6 = true := zin_of (by omega) (by omega)
    rw [g_swap, ip, io]
    exact ⟨⟨zp, zo, zp, zo⟩, lp_rev hd σ n p o 6 _ _ (p + 1) (n - 1) (pn + 1) (nn - 1) (swp_ok hL (by omega) (by omega)) (by rw [t_add (by omega), e1]; omega) (by rw [t_sub (by omega), e1]; omega) (by omega) (by omega) (by omega) hQ⟩
  induction k with
  | zero =>
    intro o ho h6 hQ
    rw [b_X7_nextOrder_41 (hd := by omega), if_pos (ile.mpr (by omega))]
    exact go o 0 ho (by omega) hQ
  | succ k ih =>
    intro o ho h6 hQ
    have io : ix o = k + 1 := by rw [ix_t]; omega
    have zo : zin o 6 = true := zin_of (by omega) (by omega)
    unfold othL at hQ
    rw [b_X7_nextOrder_41 (hd := by omega)]
    by_cases c1 : o ≤ p
    · have := ile.mp c1
      rw [if_pos (by omega)] at hQ
      rw [if_pos c1]
      exact go o (k + 1) ho (by omega) hQ
    · have := nile c1
      rw [if_neg (by omega)] at hQ
      rw [if_neg c1, ztrue_and zo, ztrue_and zp, gi_sA, gi_sA, ip, io]
      have v1 := hL.2 pn (by omega)
      have v2 := hL.2 (k + 1) (by omega)
      by_cases c2 : f pn ≤ f (k + 1)
      · have := ile.mp c2
        rw [if_pos (by omega)] at hQ
        rw [if_pos c2]
        exact go o (k + 1) ho (by omega) hQ
      · have := nile c2
        rw [if_neg (by omega)] at hQ
        rw [if_neg c2]
        exact ih (o + (-1)) (by rw [t_add (by omega), em1]; omega) (by omega) hQ
theorem lp_plc {X : zX} {d : Nat} {Q : Option Value → zH → Prop} (hd : 1 ≤ d) (σ : zS) (n : Int32) (f : Nat → Int32) (L : List Int) (hL : PLf f L) (nn : Nat) (hn : n.toInt = nn) (hn6 : nn ≤ 6) : ∀ (k : Nat) (p : Int32), (p.toInt = (k : Int) - 1 ∨ (k = 0 ∧ p.toInt < 0)) → (k = 0 ∨ k < nn) → (plcL L k < 0 → Q (some (.int (-1))) (zen (sA σ 47 f))) → (0 ≤ plcL L k → ∀ (v : Int32) (g : Nat → Int32), v.toInt = plcL L k → PLf g (revL 6 (swpL L (plcL L k).toNat (othL L (plcL L k).toNat (nn - 1))) ((plcL L k).toNat + 1) (nn - 1)) → Q (some (.int v)) (zen (sA σ 47 g))) → zwp X d MX7_nextOrder 4 [.ref 45, .int n, .int p, .null, .null, .null] [] (zen (sA σ 47 f)) Q := by
  intro k
  have e0 := l0
  have e1 := l1
  have em1 := lm1
  induction k with
  | zero =>
    intro p hp hk hQ1 hQ2
    have e0 := l0
    rw [b_X7_nextOrder_4, if_pos (il.mpr (by omega)), if_neg (fun y => by have := ile.mp y; omega)]
    exact hQ1 (show (-1 : Int) < 0 by decide)
  | succ k ih =>
    intro p hp hk hQ1 hQ2
    have hp' : p.toInt = k := by omega
    have ip : ix p = k := by rw [ix_t]; omega
    have ep1 : (p + 1).toInt = k + 1 := by rw [t_add (by omega), e1]; omega
    have ip1 : ix (p + 1) = k + 1 := by rw [ix_t]; omega
    have zp : zin p 6 = true := zin_of (by omega) (by omega)
    have zp1 : zin (p + 1) 6 = true := zin_of (by omega) (by omega)
    unfold plcL at hQ1 hQ2
    have v1 := hL.2 k (by omega)
    have v2 := hL.2 (k + 1) (by omega)
    rw [b_X7_nextOrder_4, if_neg (fun y => by have := il.mp y; omega), ztrue_and zp, ztrue_and zp1, gi_sA, gi_sA, ip, ip1]
    by_cases c : f k ≤ f (k + 1)
    · have := ile.mp c
      rw [if_pos (by omega)] at hQ2
      rw [if_pos c, if_pos (ile.mpr (by omega))]
      have ek : ((k : Int)).toNat = k := by omega
      rw [ek] at hQ2
      exact lp_oth hd σ n p f L hL k nn hp' hn (by omega) hn6 (nn - 1) (n - 1) (by rw [t_sub (by omega), e1]; omega) (by omega) (fun g hg => hQ2 (by omega) p g hp' hg)
    · have := nile c
      rw [if_neg (by omega)] at hQ1 hQ2
      rw [if_neg c]
      exact ih (p + (-1)) (Or.inl (by rw [t_add (by omega), em1]; omega)) (by omega) hQ1 hQ2
theorem w_X7_nextOrder {X : zX} {d : Nat} {Q : Option Value → zH → Prop} (hd : 1 ≤ d) {σ : zS} {n : Int32} {L : List Int} {nn : Nat} (hL : PLf (σ.1 47) L) (hn : n.toInt = nn) (hn6 : nn ≤ 6) (hQ1 : nxtL nn L = none → Q (some (.int (-1))) (zen σ)) (hQ2 : ∀ (q : Nat) (L' : List Int), nxtL nn L = some (q, L') → ∀ (v : Int32) (g : Nat → Int32), v.toInt = q → PLf g L' → Q (some (.int v)) (zen (sA σ 47 g))) : zwp X d MX7_nextOrder 0 [.ref 45, .int n, .null, .null, .null, .null] [] (zen σ) Q := by
  have e2 := l2
  rw [b_X7_nextOrder_0]
  have := lp_plc (X := X) (d := d) (Q := Q) hd σ n (σ.1 47) L hL nn hn hn6 (nn - 1) (n - 2) (by rw [t_sub (by omega), e2]; omega) (by omega)
  rw [sA_self] at this
  unfold nxtL at hQ1 hQ2
  refine this (fun h => hQ1 (by rw [if_pos h])) (fun h v g hv hg => ?_)
  rw [if_neg (by omega)] at hQ2
  exact hQ2 _ _ rfl v g (by omega) hg
