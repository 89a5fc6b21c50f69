/-! abstract cells and values, and the machine's own -/
abbrev zG : Type := va_G × (Nat → ClassId) × Nat × (Nat → Nat)
def zad (G : zG) (r : Nat) : Nat := if r < 1000 then G.2.2.1 + r else G.2.2.2 (r - 1000)
def zcV (G : zG) (v : Value) : Value := match v with
  | .ref r => .ref (zad G r)
  | v => v
def zcA (G : zG) (a : vp_A) : vp_A := match a with
  | (n, .inr (.inr (.inr (.inr f)))) => (n, .inr (.inr (.inr (.inr (fun j => (f j).map (zad G))))))
  | a => a
def zcE (G : zG) (e : zE) : va_E := match e with
  | .inl q => .inl (G.2.1 q.1, zcA G q.2)
  | .inr q => .inr (q.1, q.2.map (zcV G))
def zcW (G : zG) (h : zH) : va_W := h.mapIdx (fun k e => (zad G k, zcE G e))
theorem zcV_cat (G : zG) (v : Value) : (zcV G v).category = v.category := by cases v <;> rfl
theorem zcV_null {G : zG} {v : Value} (h : v ≠ .null) : zcV G v ≠ .null := by
  cases v <;> first | exact absurd rfl h | (intro q; cases q)
theorem zcW_at {G : zG} {h : zH} {k : Nat} {e : zE} (hk : h[k]? = some e) : (zcW G h)[k]? = some (zad G k, zcE G e) := by
  unfold zcW
  rw [List.getElem?_mapIdx, hk]
  rfl
theorem zcW_set (G : zG) (h : zH) (k : Nat) (e : zE) : zcW G (h.set k e) = (zcW G h).set k (zad G k, zcE G e) := by
  unfold zcW
  rw [List.mapIdx_set]
theorem zcW_push (G : zG) (h : zH) (e : zE) : zcW G (h ++ [e]) = zcW G h ++ [(zad G h.length, zcE G e)] := by
  unfold zcW
  rw [List.mapIdx_append]
  simp
theorem zcW_len (G : zG) (h : zH) : (zcW G h).length = h.length := by unfold zcW; simp
theorem zcat_map (G : zG) (st : List Value) : ((st.map (zcV G)).map fun v => v.category).sum = zcat st := by
  unfold zcat
  rw [List.map_map]
  congr 1
  apply List.map_congr_left
  intro v _
  exact zcV_cat G v
def zone (e : zE) : Nat := match e with
  | .inl q => q.2.1
  | .inr q => q.2.length
def zsz (h : zH) : Nat := (h.map zone).sum
theorem zsum_set : ∀ (l : List Nat) (k x : Nat), l[k]? = some x → (l.set k x).sum = l.sum := by
  intro l k x h
  have : l.set k x = l := by
    apply List.ext_getElem?
    intro i
    by_cases hi : k = i
    · subst hi
      rw [List.getElem?_set_self (List.getElem?_eq_some_iff.mp h).1, h]
    · rw [List.getElem?_set_ne hi]
  rw [this]
theorem zsz_set {h : zH} {k : Nat} {e e' : zE} (hk : h[k]? = some e) (he : zone e' = zone e) : zsz (h.set k e') = zsz h := by
  unfold zsz
  rw [List.map_set, he]
  apply zsum_set
  rw [List.getElem?_map, hk]
  rfl
theorem zsz_push (h : zH) (e : zE) : zsz (h ++ [e]) = zsz h + zone e := by
  unfold zsz
  simp
/-- the locals -/
def zLv (G : zG) (ls : List Value) (lr : Array Slot) (n : Nat) : Prop := ls.length = n ∧ lr.size = n ∧ lv_wf lr ∧ ∀ (k : Nat) (v : Value), ls[k]? = some v → v ≠ .null → lr[k]? = some (.val (zcV G v))
def zlv (G : zG) (ls : List Value) : List (Nat × Value) := (ls.mapIdx (fun k v => (k, v))).filterMap (fun q => if q.2 = .null then none else some (q.1, zcV G q.2))
theorem zlv_mem {G : zG} {ls : List Value} {q : Nat × Value} : q ∈ zlv G ls ↔ ∃ v, ls[q.1]? = some v ∧ v ≠ .null ∧ q.2 = zcV G v := by
  unfold zlv
  rw [List.mem_filterMap]
  constructor
  · rintro ⟨⟨k, v⟩, hm, he⟩
    obtain ⟨i, hi⟩ := List.getElem?_of_mem hm
    rw [List.getElem?_mapIdx] at hi
    cases hv : ls[i]? with
    | none => rw [hv] at hi; cases hi
    | some u =>
      rw [hv] at hi
      cases hi
      dsimp only at he
      split at he
      · cases he
      · next hn => cases he; exact ⟨v, hv, hn, rfl⟩
  · rintro ⟨v, hv, hn, he⟩
    refine ⟨(q.1, v), ?_, ?_⟩
    · apply List.mem_of_getElem? (i := q.1)
      rw [List.getElem?_mapIdx, hv]
      rfl
    · dsimp only
      rw [if_neg hn, ← he]
theorem zLv.has {G : zG} {ls : List Value} {lr : Array Slot} {n : Nat} (h : zLv G ls lr n) : lv_has lr n (zlv G ls) := by
  refine ⟨h.2.1, h.2.2.1, fun q hq => ?_⟩
  obtain ⟨v, h1, h2, h3⟩ := zlv_mem.mp hq
  rw [h3]
  exact h.2.2.2 _ _ h1 h2
theorem zLv.of {G : zG} {ls : List Value} {lr : Array Slot} {n : Nat} {l : List (Nat × Value)} (hn : ls.length = n) (h : lv_has lr n l) (hm : ∀ (k : Nat) (v : Value), ls[k]? = some v → v ≠ .null → (k, zcV G v) ∈ l) : zLv G ls lr n :=
  ⟨hn, h.1, h.2.1, fun k v hk hv => h.2.2 _ (hm k v hk hv)⟩
theorem zst1_len : ∀ (ls : List Value) (i : Nat) (v : Value), (zst1 ls i v).length = ls.length := by
  intro ls
  induction ls with
  | nil => intro i v; rfl
  | cons u r ih =>
    intro i v
    cases i with
    | zero => rfl
    | succ i =>
      show (_ :: zst1 r i v).length = _
      rw [List.length_cons, ih, List.length_cons]
theorem zst1_at : ∀ (ls : List Value) (i : Nat) (v : Value) (k : Nat), i < ls.length → (zst1 ls i v)[k]? = if k = i then some v else if k + 1 = i then ls[k]?.map znl else ls[k]? := by
  intro ls
  induction ls with
  | nil => intro i v k h; cases h
  | cons u r ih =>
    intro i v k h
    cases i with
    | zero =>
      show (v :: r)[k]? = _
      cases k with
      | zero => rfl
      | succ k =>
        rw [if_neg (by omega), if_neg (by omega)]
        rfl
    | succ i =>
      show ((if i = 0 then znl u else u) :: zst1 r i v)[k]? = _
      cases k with
      | zero =>
        by_cases h1 : i = 0
        · subst h1; simp
        · simp [h1]
      | succ k =>
        rw [List.getElem?_cons_succ, ih i v k (by simpa using h), List.getElem?_cons_succ]
        simp only [Nat.add_right_cancel_iff]
theorem zst0_len (ls : List Value) : (zst0 ls).length = ls.length := by cases ls <;> rfl
theorem zst2_len : ∀ (ls : List Value) (i : Nat) (v : Value), (zst2 ls i v).length = ls.length := by
  intro ls
  induction ls with
  | nil => intro i v; rfl
  | cons u r ih =>
    intro i v
    cases i with
    | zero => show (v :: zst0 r).length = _; rw [List.length_cons, zst0_len, List.length_cons]
    | succ i =>
      show (_ :: zst2 r i v).length = _
      rw [List.length_cons, ih, List.length_cons]
theorem zst2_at : ∀ (ls : List Value) (i : Nat) (v : Value) (k : Nat), i + 1 < ls.length → (zst2 ls i v)[k]? = if k = i then some v else if k = i + 1 then some .null else if k + 1 = i then ls[k]?.map znl else ls[k]? := by
  intro ls
  induction ls with
  | nil => intro i v k h; cases h
  | cons u r ih =>
    intro i v k h
    cases i with
    | zero =>
      cases r with
      | nil => simp at h
      | cons w r =>
        show (v :: .null :: r)[k]? = _
        match k with
        | 0 => rfl
        | 1 => rfl
        | k + 2 => rw [if_neg (by omega), if_neg (by omega), if_neg (by omega)]; rfl
    | succ i =>
      show ((if i = 0 then znl u else u) :: zst2 r i v)[k]? = _
      cases k with
      | zero =>
        by_cases h1 : i = 0
        · subst h1; simp
        · simp [h1]
      | succ k =>
        rw [List.getElem?_cons_succ, ih i v k (by simp at h; omega), List.getElem?_cons_succ]
        simp only [Nat.add_right_cancel_iff]
theorem znl_cat {v : Value} (h : znl v ≠ .null) : v.category ≠ 2 ∧ znl v = v := by
  cases v <;> simp_all [znl, Value.category]
theorem zLv.st1 {G : zG} {ls : List Value} {lr lr' : Array Slot} {n i : Nat} {v : Value} (h : zLv G ls lr n) (hi : i < ls.length) (h' : lv_has lr' n ((i, zcV G v) :: (zlv G ls).filter (fun q => !(q.1 == i) && !(q.1 + 1 == i && q.2.category == 2)))) : zLv G (zst1 ls i v) lr' n := by
  refine zLv.of ((zst1_len ls i v).trans h.1) h' (fun k u hk hu => ?_)
  rw [zst1_at ls i v k hi] at hk
  by_cases h1 : k = i
  · rw [if_pos h1] at hk
    cases hk
    rw [h1]
    exact List.mem_cons_self
  · rw [if_neg h1] at hk
    refine List.mem_cons_of_mem _ (List.mem_filter.mpr ?_)
    by_cases h2 : k + 1 = i
    · rw [if_pos h2] at hk
      cases hw : ls[k]? with
      | none => rw [hw] at hk; cases hk
      | some w =>
        rw [hw] at hk
        cases hk
        obtain ⟨c1, c2⟩ := znl_cat hu
        rw [c2] at hu ⊢
        refine ⟨zlv_mem.mpr ⟨w, hw, hu, rfl⟩, ?_⟩
        have e : (zcV G w).category = w.category := zcV_cat G w
        simp [h1, e, c1]
    · rw [if_neg h2] at hk
      exact ⟨zlv_mem.mpr ⟨u, hk, hu, rfl⟩, by simp [h1, h2]⟩
theorem zLv.st2 {G : zG} {ls : List Value} {lr lr' : Array Slot} {n i : Nat} {v : Value} (h : zLv G ls lr n) (hi : i + 1 < ls.length) (h' : lv_has lr' n ((i, zcV G v) :: (zlv G ls).filter (fun q => !(q.1 == i) && (!(q.1 == i + 1) && !(q.1 + 1 == i && q.2.category == 2))))) : zLv G (zst2 ls i v) lr' n := by
  refine zLv.of ((zst2_len ls i v).trans h.1) h' (fun k u hk hu => ?_)
  rw [zst2_at ls i v k hi] at hk
  by_cases h1 : k = i
  · rw [if_pos h1] at hk
    cases hk
    rw [h1]
    exact List.mem_cons_self
  · rw [if_neg h1] at hk
    by_cases h9 : k = i + 1
    · rw [if_pos h9] at hk
      cases hk
      exact absurd rfl hu
    · rw [if_neg h9] at hk
      refine List.mem_cons_of_mem _ (List.mem_filter.mpr ?_)
      by_cases h2 : k + 1 = i
      · rw [if_pos h2] at hk
        cases hw : ls[k]? with
        | none => rw [hw] at hk; cases hk
        | some w =>
          rw [hw] at hk
          cases hk
          obtain ⟨c1, c2⟩ := znl_cat hu
          rw [c2] at hu ⊢
          refine ⟨zlv_mem.mpr ⟨w, hw, hu, rfl⟩, ?_⟩
          have e : (zcV G w).category = w.category := zcV_cat G w
          simp [h1, h9, e, c1]
      · rw [if_neg h2] at hk
        exact ⟨zlv_mem.mpr ⟨u, hk, hu, rfl⟩, by simp [h1, h2, h9]⟩
/-- the locals of a callee -/
theorem zlocs_len (G : zG) : ∀ (vs : List Value), (lg_sl (vs.map (zcV G))).length = (zlocs vs).length := by
  intro vs
  induction vs with
  | nil => rfl
  | cons v r ih =>
    have e : (lg_sl ((v :: r).map (zcV G))).length = (if v.category = 2 then 2 else 1) + (lg_sl (r.map (zcV G))).length := by
      simp only [lg_sl, List.map_cons, List.flatMap_cons, List.length_append, zcV_cat]
      split <;> rfl
    rw [e, ih]
    cases v <;> simp [zlocs, Value.category] <;> omega
theorem zlocs_at (G : zG) : ∀ (vs : List Value) (o k : Nat) (v : Value), (zlocs vs)[k]? = some v → v ≠ .null → (o + k, zcV G v) ∈ lv_args o (vs.map (zcV G)) := by
  intro vs
  induction vs with
  | nil => intro o k v h; simp [zlocs] at h
  | cons u r ih =>
    intro o k v h hv
    have one : (zlocs (u :: r) = u :: zlocs r ∧ u.category ≠ 2) ∨ (zlocs (u :: r) = u :: .null :: zlocs r ∧ u.category = 2) := by
      cases u <;> simp [zlocs, Value.category]
    show (o + k, zcV G v) ∈ (o, zcV G u) :: lv_args (if (zcV G u).category = 2 then o + 2 else o + 1) (r.map (zcV G))
    rw [zcV_cat]
    rcases one with ⟨e, hc⟩ | ⟨e, hc⟩
    · rw [e] at h
      rw [if_neg hc]
      cases k with
      | zero => cases h; exact List.mem_cons_self
      | succ k =>
        refine List.mem_cons_of_mem _ ?_
        have := ih (o + 1) k v h hv
        rwa [show o + (k + 1) = o + 1 + k by omega]
    · rw [e] at h
      rw [if_pos hc]
      match k, h with
      | 0, h => cases h; exact List.mem_cons_self
      | 1, h => cases h; exact absurd rfl hv
      | k + 2, h =>
        refine List.mem_cons_of_mem _ ?_
        have := ih (o + 2) k v h hv
        rwa [show o + (k + 2) = o + 2 + k by omega]
theorem zLv.entry (G : zG) {vs : List Value} {n : Nat} (hn : (zlocs vs).length ≤ n) : zLv G (zpad vs n) ((lg_sl (vs.map (zcV G)) ++ List.replicate (n - (lg_sl (vs.map (zcV G))).length) Slot.unset).toArray) n := by
  have h := lv_entry (vs.map (zcV G)) (n := n) (by rw [zlocs_len]; exact hn)
  refine zLv.of (by unfold zpad; simp; omega) h (fun k v hk hv => ?_)
  unfold zpad at hk
  by_cases hl : k < (zlocs vs).length
  · rw [List.getElem?_append_left hl] at hk
    have := zlocs_at G vs 0 k v hk hv
    rwa [Nat.zero_add] at this
  · rw [List.getElem?_append_right (by omega)] at hk
    exact absurd (List.eq_of_mem_replicate (List.mem_of_getElem? hk)) hv
