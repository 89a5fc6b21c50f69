/-! what a step says of its operands -/
abbrev zS4 : Type := (Nat × List Value × List Value × zH) ⊕ ((zM × List Value × List Value × Nat) ⊕ Option Value)
theorem zL_inv {len n : Nat} {r : zR4} {x : zS4} (h : zL len n r = some x) : len = n ∧ r = some x := by
  unfold zL at h
  split at h
  · next e => exact ⟨e, h⟩
  · cases h
theorem z1i_inv {st : List Value} {k : Int32 → List Value → zR4} {x : zS4} (h : z1i st k = some x) : ∃ v r, st = .int v :: r ∧ k v r = some x := by
  unfold z1i at h
  split at h
  · exact ⟨_, _, rfl, h⟩
  · cases h
theorem z1l_inv {st : List Value} {k : Int64 → List Value → zR4} {x : zS4} (h : z1l st k = some x) : ∃ v r, st = .long v :: r ∧ k v r = some x := by
  unfold z1l at h
  split at h
  · exact ⟨_, _, rfl, h⟩
  · cases h
theorem z1r_inv {st : List Value} {k : Nat → List Value → zR4} {x : zS4} (h : z1r st k = some x) : ∃ v r, st = .ref v :: r ∧ k v r = some x := by
  unfold z1r at h
  split at h
  · exact ⟨_, _, rfl, h⟩
  · cases h
theorem z2i_inv {st : List Value} {k : Int32 → Int32 → List Value → zR4} {x : zS4} (h : z2i st k = some x) : ∃ v w r, st = .int w :: .int v :: r ∧ k v w r = some x := by
  obtain ⟨w, r1, e1, h1⟩ := z1i_inv h
  obtain ⟨v, r2, e2, h2⟩ := z1i_inv h1
  exact ⟨v, w, r2, by rw [e1, e2], h2⟩
theorem z2l_inv {st : List Value} {k : Int64 → Int64 → List Value → zR4} {x : zS4} (h : z2l st k = some x) : ∃ v w r, st = .long w :: .long v :: r ∧ k v w r = some x := by
  obtain ⟨w, r1, e1, h1⟩ := z1l_inv h
  obtain ⟨v, r2, e2, h2⟩ := z1l_inv h1
  exact ⟨v, w, r2, by rw [e1, e2], h2⟩
theorem zldi_inv {ls : List Value} {i : Nat} {k : Value → zR4} {x : zS4} (h : zldi ls i k = some x) : ∃ v, ls[i]? = some (.int v) ∧ k (.int v) = some x := by
  unfold zldi at h
  split at h
  · next e => exact ⟨_, e, h⟩
  · cases h
theorem zldl_inv {ls : List Value} {i : Nat} {k : Value → zR4} {x : zS4} (h : zldl ls i k = some x) : ∃ v, ls[i]? = some (.long v) ∧ k (.long v) = some x := by
  unfold zldl at h
  split at h
  · next e => exact ⟨_, e, h⟩
  · cases h
theorem zldr_inv {ls : List Value} {i : Nat} {k : Value → zR4} {x : zS4} (h : zldr ls i k = some x) : ∃ v, ls[i]? = some (.ref v) ∧ k (.ref v) = some x := by
  unfold zldr at h
  split at h
  · next e => exact ⟨_, e, h⟩
  · cases h
theorem zif_inv {b : Bool} {r : zR4} {x : zS4} (h : zif b r = some x) : b = true ∧ r = some x := by
  cases b
  · cases h
  · exact ⟨rfl, h⟩
theorem zof_inv {α : Type} {o : Option α} {k : α → zR4} {x : zS4} (h : zof o k = some x) : ∃ q, o = some q ∧ k q = some x := by
  cases o
  · cases h
  · exact ⟨_, rfl, h⟩
theorem ztop_inv {st : List Value} {k : Value → List Value → zR4} {x : zS4} (h : ztop st k = some x) : ∃ v r, st = v :: r ∧ v.category = 1 ∧ k v r = some x := by
  unfold ztop at h
  split at h
  · next v r =>
    by_cases hc : v.category = 1
    · rw [decide_eq_true hc] at h
      exact ⟨_, _, rfl, hc, h⟩
    · rw [decide_eq_false hc] at h
      cases h
  · cases h
theorem zgo_inv {pc pc' : Nat} {ls ls' st st' : List Value} {h h' : zH} (e : zgo pc ls st h = some (.inl (pc', ls', st', h'))) : pc = pc' ∧ ls = ls' ∧ st = st' ∧ h = h' := by
  cases e
  exact ⟨rfl, rfl, rfl, rfl⟩
theorem zjmp_inv {pc pc' : Nat} {off : Int} {ls ls' st st' : List Value} {h h' : zH} (e : zjmp pc off ls st h = some (.inl (pc', ls', st', h'))) : (pc : Int) + off = (pc' : Int) ∧ ls = ls' ∧ st = st' ∧ h = h' := by
  unfold zjmp at e
  split at e
  · next hp =>
    obtain ⟨rfl, rfl, rfl, rfl⟩ := zgo_inv e
    exact ⟨(Int.toNat_of_nonneg hp).symm, rfl, rfl, rfl⟩
  · cases e
/-- the target of a branch, and where it goes -/
theorem zbr_inv {pc pc' : Nat} {off : Int} {b : Bool} {ls ls' st st' : List Value} {h h' : zH} (e : zbr pc off b ls st h = some (.inl (pc', ls', st', h'))) : ∃ tgt : Nat, (pc : Int) + off = (tgt : Int) ∧ (b = true → pc' = tgt) ∧ (b = false → pc' = pc + 3) ∧ ls = ls' ∧ st = st' ∧ h = h' := by
  unfold zbr at e
  split at e
  · next hp =>
    obtain ⟨rfl, rfl, rfl, rfl⟩ := zgo_inv e
    refine ⟨((pc : Int) + off).toNat, (Int.toNat_of_nonneg hp).symm, ?_, ?_, rfl, rfl, rfl⟩
    · rintro rfl; rfl
    · rintro rfl; rfl
  · cases e
section ZS
variable {p : Program} {l : Launch} {e : Env} {R : Room} {s : State} {m : MethodId} {args : Array Value} {below : List Frame} {meth : Method} {c : Code} {Q : State → Prop} {G : zG} {X : zX} {A : Nat → Prop} {M : zM} {h0 : zH}
/-- what holds all through a method's body -/
def zCx (p : Program) (s : State) (m : MethodId) (args : Array Value) (meth : Method) (c : Code) (G : zG) (X : zX) (A : Nat → Prop) (M : zM) (h0 : zH) : Prop :=
  p.tables.exec = Jvm.exec ∧ c.code = M.2.2.1 ∧ c.maxLocals = M.2.2.2.1 ∧ s.vm.findClass (zR M.1) = some m.cls ∧ (∀ w ∈ zTB, w.before args s = true) ∧ (M.2.1.name = "<init>" → meth.name = "<init>") ∧ va_K G.1 zcl (ztys G) s ∧ zSh G X A s s.heap ∧ zSv G s ∧ (∀ q, s.heap.size ≤ q → A q) ∧ s.heap.size = G.2.2.1 + h0.length
/-- from every state of the machine that stands for this one, it comes to Q -/
def zGo (p : Program) (l : Launch) (e : Env) (R : Room) (s : State) (m : MethodId) (args : Array Value) (below : List Frame) (meth : Method) (c : Code) (Q : State → Prop) (G : zG) (A : Nat → Prop) (M : zM) (h0 : zH) (pc : Nat) (ls st : List Value) (h : zH) : Prop :=
  ∀ (H : Heap) (locs : List Loc) (cells slots : Nat) (lr : Array Slot), va_P G.1 zcl (zcW G h) H → va_D A (zcW G h) → va_S A s.heap H locs → zLv G ls lr M.2.2.2.1 → cells + h0.length = h.length → slots + zsz h0 = zsz h → W p l e R s m args below meth c H locs cells slots Q (F0 m pc lr (st.map (zcV G)))
theorem zw_size {H : Heap} {locs : List Loc} {cells slots : Nat} {g : JFrame} {h : zH} (C : zCx p s m args meth c G X A M h0) (hP : va_P G.1 zcl (zcW G h) H) (hS : va_S A s.heap H locs) (hc : cells + h0.length = h.length) (hl : h.length ≤ 1000) (k : H.size = G.2.2.1 + h.length → W p l e R s m args below meth c H locs cells slots Q g) : W p l e R s m args below meth c H locs cells slots Q g := by
  intro T hT Y
  have h1 : T.heap.size ≤ s.heap.size + cells := Y.heapSize
  rw [hT] at h1
  have h2 := C.2.2.2.2.2.2.2.2.2.2
  refine k ?_ T hT Y
  have h3 : G.2.2.1 + h.length ≤ H.size := by
    cases hh : h with
    | nil =>
      rw [hh] at hc
      have := hS.1
      simp at hc
      simp [hc] at h2
      simp
      omega
    | cons x r =>
      have hlen : h.length = r.length + 1 := by rw [hh]; rfl
      have hk : h[r.length]? = some (h[r.length]'(by omega)) := List.getElem?_eq_getElem _
      have := (hP _ _ (zcW_at (G := G) hk)).lt
      have e : zad G r.length = G.2.2.1 + r.length := by unfold zad; rw [if_pos (by omega)]
      dsimp only at this
      rw [e] at this
      rw [← hh, hlen]
      omega
  omega
end ZS
