section ZPC
variable {p : Program} {l : Launch} {e : Env} {R : Room} {s : State} {m : MethodId} {args : Array Value} {below : List Frame} {meth : Method} {c : Code} {Q : State → Prop} {G : zG} {X : zX} {A : Nat → Prop} {M : zM} {h0 : zH}
variable {pc pc' len : Nat} {ls ls' st st' : List Value} {h h' : zH}
/-- a method's contract: from these arguments and this heap it answers v, with that heap -/
def zMet (l : Launch) (G : zG) (X : zX) (d : Nat) (m' : zM) (as : List Value) (h : zH) (v : Option Value) (h' : zH) : Prop :=
  Met l m'.2.1 (zws m') (zRm d (h'.length - h.length) (zsz h' - zsz h)) (zPc G X h as) (zQ G h v h') (h'.length - h.length) (zsz h' - zsz h) (va_A (zcW G h) (G.2.2.1 + h.length))
/-- what a call says: the kind, the callee, its arguments -/
theorem zcallV_inv {own idx : Nat} {m' : zM} {as rest : List Value} (hs : zcallV own idx len pc st h = some (.inr (.inl (m', as, rest, pc')))) : ∃ n b a, len = 3 ∧ pc' = pc + 3 ∧ zOkC (own, idx, (0, n, m')) ∧ as = .ref b :: a ∧ a.length = n ∧ st = a.reverse ++ .ref b :: rest ∧ zrecv h m'.1 b = true ∧ zcat rest ≤ 8 ∧ (zlocs as).length ≤ m'.2.2.2.1 := by
  unfold zcallV at hs
  have e0 := (zL_inv hs).1
  replace hs := (zL_inv hs).2
  have tz := zof_inv hs
  clear hs
  obtain ⟨⟨kd, n, mm⟩, hq, hs⟩ := tz
  have tz := zif_inv hs
  clear hs
  obtain ⟨hk, hs⟩ := tz
  have hk := of_decide_eq_true hk
  dsimp only at hk
  subst hk
  have tz := zof_inv hs
  clear hs
  obtain ⟨⟨a, s2⟩, ht, hs⟩ := tz
  have tz := z1r_inv hs
  clear hs
  obtain ⟨b, r, hb, hs⟩ := tz
  have tz := zif_inv hs
  clear hs
  obtain ⟨hc, hs⟩ := tz
  simp only [Bool.and_eq_true, decide_eq_true_eq] at hc
  cases hs
  unfold ztake at ht
  split at ht
  · next hn =>
    cases ht
    dsimp only at hn
    dsimp only at hb
    refine ⟨n, b, _, e0, rfl, zcall_ok hq, rfl, by simp; omega, ?_, hc.1.1, hc.1.2, hc.2⟩
    rw [List.reverse_reverse, ← hb, List.take_append_drop]
  · cases ht
theorem zcallS_inv {own idx : Nat} {m' : zM} {as rest : List Value} (hs : zcallS own idx len pc st = some (.inr (.inl (m', as, rest, pc')))) : ∃ n, len = 3 ∧ pc' = pc + 3 ∧ zOkC (own, idx, (1, n, m')) ∧ as.length = n ∧ st = as.reverse ++ rest ∧ zcat rest ≤ 8 ∧ (zlocs as).length ≤ m'.2.2.2.1 := by
  unfold zcallS at hs
  have e0 := (zL_inv hs).1
  replace hs := (zL_inv hs).2
  have tz := zof_inv hs
  clear hs
  obtain ⟨⟨kd, n, mm⟩, hq, hs⟩ := tz
  have tz := zif_inv hs
  clear hs
  obtain ⟨hk, hs⟩ := tz
  have hk := of_decide_eq_true hk
  dsimp only at hk
  subst hk
  have tz := zof_inv hs
  clear hs
  obtain ⟨⟨a, s2⟩, ht, hs⟩ := tz
  have tz := zif_inv hs
  clear hs
  obtain ⟨hc, hs⟩ := tz
  simp only [Bool.and_eq_true, decide_eq_true_eq] at hc
  cases hs
  unfold ztake at ht
  split at ht
  · next hn =>
    cases ht
    dsimp only at hn
    refine ⟨n, e0, rfl, zcall_ok hq, by simp; omega, ?_, hc.1, hc.2⟩
    rw [List.reverse_reverse, List.take_append_drop]
  · cases ht
theorem zcallI_inv {own idx : Nat} {m' : zM} {as rest : List Value} (hs : zcallI own idx len pc st = some (.inr (.inl (m', as, rest, pc')))) : ∃ kd n b a, len = 3 ∧ pc' = pc + 3 ∧ (kd = 2 ∨ kd = 3) ∧ zOkC (own, idx, (kd, n, m')) ∧ as = .ref b :: a ∧ a.length = n ∧ st = a.reverse ++ .ref b :: rest ∧ zcat rest ≤ 8 ∧ (zlocs as).length ≤ m'.2.2.2.1 := by
  unfold zcallI at hs
  have e0 := (zL_inv hs).1
  replace hs := (zL_inv hs).2
  have tz := zof_inv hs
  clear hs
  obtain ⟨⟨kd, n, mm⟩, hq, hs⟩ := tz
  have tz := zif_inv hs
  clear hs
  obtain ⟨hk, hs⟩ := tz
  have hk := of_decide_eq_true hk
  dsimp only at hk
  have tz := zof_inv hs
  clear hs
  obtain ⟨⟨a, s2⟩, ht, hs⟩ := tz
  have tz := z1r_inv hs
  clear hs
  obtain ⟨b, r, hb, hs⟩ := tz
  have tz := zif_inv hs
  clear hs
  obtain ⟨hc, hs⟩ := tz
  simp only [Bool.and_eq_true, decide_eq_true_eq] at hc
  cases hs
  unfold ztake at ht
  split at ht
  · next hn =>
    cases ht
    dsimp only at hn
    dsimp only at hb
    refine ⟨kd, n, b, _, e0, rfl, hk, zcall_ok hq, rfl, by simp; omega, ?_, hc.1, hc.2⟩
    rw [List.reverse_reverse, ← hb, List.take_append_drop]
  · cases ht
/-- the words of a callee among those of the tables -/
theorem zgood {m' : zM} (hk : zOkM m') : GoodIn zTB (zws m') := by
  intro w hw
  rcases List.mem_cons.mp hw with rfl | hw
  · exact ⟨hk.2.2.2.2.2, zTB_good _ hk.2.2.2.2.2⟩
  · exact ⟨hw, zTB_good _ hw⟩
theorem zgoodA {ws : List Cond} {m' : zM} (hk : zOkM m') (h : ∀ w ∈ ws, w ∈ zTB) : GoodIn zTB (ws ++ zws m') := by
  intro w hw
  rcases List.mem_append.mp hw with hw | hw
  · exact ⟨h w hw, zTB_good _ (h w hw)⟩
  · exact zgood hk w hw
/-- the world that a callee meets -/
theorem zenter {H : Heap} {locs : List Loc} (C : zCx p s m args meth c G X A M h0) (hsz : H.size = G.2.2.1 + h.length) (a1 : va_P G.1 zcl (zcW G h) H) (a2 : va_D A (zcW G h)) (a3 : va_S A s.heap H locs) (as : List Value) : ∀ U : State, U.heap = H → s.WarmedH U.vm → zPc G X h as (as.map (zcV G)).toArray U := by
  intro U hU hW
  refine ⟨rfl, by rw [hU]; exact hsz, by rw [hU]; exact a1, a2.weaken (fun _ _ _ _ => trivial), va_K.moved hW.alike C.2.2.2.2.2.2.1, ?_, C.2.2.2.2.2.2.2.2.1.warm hW⟩
  rw [hU]
  refine ((C.2.2.2.2.2.2.2.1.moved hW.alike).kept a3.2.1).narrow (fun q hq => ?_)
  rcases hq with ⟨k, x, hk⟩ | hq
  · exact a2.2 k _ hk
  · exact C.2.2.2.2.2.2.2.2.2.1 q (Nat.le_trans a3.1 hq)
/-- behind a call -/
theorem zback {H : Heap} {locs : List Loc} {cells slots : Nat} {lr : Array Slot} {v : Option Value} {rest : List Value} {g : JFrame} {aa : Array Value} (C : zCx p s m args meth c G X A M h0) (hsz : H.size = G.2.2.1 + h.length) (a2 : va_D A (zcW G h)) (a3 : va_S A s.heap H locs) (a4 : zLv G ls lr M.2.2.2.1) (a5 : cells + h0.length = h.length) (a6 : slots + zsz h0 = zsz h) (hm1 : h.length ≤ h'.length) (hm2 : zsz h ≤ zsz h')
    (hg : g = F0 m pc lr st')
    (hr : va_Run p l e R s m args below meth c H locs cells slots (h'.length - h.length) (zsz h' - zsz h) g (rest.map (zcV G)) (zQ G h v h' aa) (va_A (zcW G h) (G.2.2.1 + h.length)))
    (k : zGo p l e R s m args below meth c Q G A M h0 (pc + 3) ls (v.toList ++ rest) h') : W p l e R s m args below meth c H locs cells slots Q g := by
  subst hg
  intro T hT Y
  obtain ⟨w, st₀, t, T', L, e0, Y', hL, e1, e2, ⟨hv, ⟨hP1, hD1⟩, hz, hk⟩, go⟩ := hr T hT Y
  have hA1 : ∀ q, va_A (zcW G h) (G.2.2.1 + h.length) q → A q := by
    intro q hq
    rcases hq with ⟨j, x, hj⟩ | hq
    · exact a2.2 j _ hj
    · exact C.2.2.2.2.2.2.2.2.2.1 q (Nat.le_trans a3.1 (by rw [hsz]; exact hq))
  rw [e0, hsz] at hD1 hk
  rw [e0] at hz
  have hw : w = v.map (zcV G) := by cases hv; rfl
  have hS' : va_S A s.heap T'.heap (locs ++ L) := by
    refine ⟨Nat.le_trans a3.1 (by rw [e1]; exact hz), fun q h1 h2 => ?_, fun q hq => ?_⟩
    · rw [e1, hk q (by rw [← hsz]; exact Nat.lt_of_lt_of_le h1 a3.1) (fun z => h2 (hA1 q z))]
      exact a3.2.1 q h1 h2
    · rcases List.mem_append.mp hq with h | h
      · exact a3.2.2 q h
      · exact hA1 _ (hL q h)
  have := k T'.heap (locs ++ L) (cells + (h'.length - h.length)) (slots + (zsz h' - zsz h)) lr (by rw [e1]; exact hP1) (hD1.weaken (fun j x _ hx => hA1 _ hx)) hS' a4 (by omega) (by omega)
  obtain ⟨t2, g1, g2⟩ := this T' rfl Y'
  refine ⟨t2, go t2 ?_, g2⟩
  have ef : ({ F0 m pc lr st' with pc := (F0 m pc lr st').pc + 3, stack := w.toList ++ rest.map (zcV G) } : JFrame) = F0 m (pc + 3) lr ((v.toList ++ rest).map (zcV G)) := by
    rw [hw]
    cases v <;> rfl
  rw [ef]
  exact g1
end ZPC
