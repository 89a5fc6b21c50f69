/-! what nobody writes: statics, static arrays, the script, String constants, words of nest mates -/
def zty : Nat → FieldType := fun t => if t = 0 then .int else if t = 1 then .long else if t = 2 then .byte else if t = 3 then .short else if t = 4 then .object RX8 else .object RX2
def ztys (G : zG) : List (ClassId × FieldType) := (List.range 6).map (fun t => (G.2.1 t, zty t))
theorem ztys_at (G : zG) {t : Nat} (h : t < 6) : (ztys G)[t]? = some (G.2.1 t, zty t) := by
  unfold ztys
  rw [List.getElem?_map, List.getElem?_range h]
  rfl
theorem zNw_warm {s U : State} (hW : s.WarmedH U.vm) (h : ∀ w ∈ zNw, va_Nw w s) : ∀ w ∈ zNw, va_Nw w U := by
  intro w hw
  have h1 := h w hw
  simp only [zNw, List.mem_cons, List.not_mem_nil, or_false] at hw
  rcases hw with rfl | rfl | rfl | rfl | rfl | rfl | rfl | rfl | rfl | rfl | rfl
  all_goals first | exact va_Nw.warmM hW h1 | exact va_Nw.warmF hW h1
theorem zNw_same {u U : State} (hv : u.vm = U.vm) (h : ∀ w ∈ zNw, va_Nw w u) : ∀ w ∈ zNw, va_Nw w U := by
  intro w hw
  have h1 := h w hw
  simp only [zNw, List.mem_cons, List.not_mem_nil, or_false] at hw
  rcases hw with rfl | rfl | rfl | rfl | rfl | rfl | rfl | rfl | rfl | rfl | rfl
  all_goals exact va_Nw.same rfl hv h1
/-- of the heap: by places that A leaves alone -/
def zSh (G : zG) (X : zX) (A : Nat → Prop) (U : State) (H : Heap) : Prop :=
  (∀ k, k < 5 → va_Z (zgsN k).1 (zgsN k).2.1 (zgsN k).2.2 (.ref (zad G (1000 + k))) A U H) ∧ va_Z RJ0 "COMPACT_STRINGS" "Z" (.int 1) A U H ∧
  (∀ r n f, zsi X r = some (n, f) → va_T .int (zad G r) n (fun j => .int (f j)) A U H) ∧ (∀ r n f, zsb r = some (n, f) → va_T .byte (zad G r) n (fun j => .int (f j)) A U H) ∧
  (∀ r, r = 1006 ∨ r = 1007 → va_O "java/lang/String" (zad G r) A U H ∧ va_OF "java/lang/String" "coder" "B" (.int 0) (zad G r) A U H) ∧
  va_OF "java/lang/String" "value" "[B" (.ref (zad G 1008)) (zad G 1006) A U H ∧ va_OF "java/lang/String" "value" "[B" (.ref (zad G 1009)) (zad G 1007) A U H
/-- of the tables -/
def zSv (G : zG) (U : State) : Prop := vk_R RX9 76 "ghtedi" (zad G 1006) U ∧ vk_R RX9 60 "|&<=>+-*/%" (zad G 1007) U ∧ (∀ w ∈ zNw, va_Nw w U) ∧ va_AO RX8 U ∧ va_AO RX2 U
theorem zSh.moved {G : zG} {X : zX} {A : Nat → Prop} {u U : State} {H : Heap} (hvm : u.vm.Alike U.vm) (h : zSh G X A u H) : zSh G X A U H :=
  ⟨fun k hk => va_Z.moved hvm (h.1 k hk), va_Z.moved hvm h.2.1, fun r n f q => va_T.moved hvm (h.2.2.1 r n f q), fun r n f q => va_T.moved hvm (h.2.2.2.1 r n f q), fun r q => ⟨va_O.moved hvm (h.2.2.2.2.1 r q).1, va_OF.moved hvm (h.2.2.2.2.1 r q).2⟩, va_OF.moved hvm h.2.2.2.2.2.1, va_OF.moved hvm h.2.2.2.2.2.2⟩
theorem zSh.kept {G : zG} {X : zX} {A : Nat → Prop} {U : State} {H H1 : Heap} (h : zSh G X A U H) (hq : ∀ a : Nat, a < H.size → ¬ A a → H1[a]? = H[a]?) : zSh G X A U H1 :=
  ⟨fun k hk => (h.1 k hk).kept hq, h.2.1.kept hq, fun r n f q => (h.2.2.1 r n f q).kept hq, fun r n f q => (h.2.2.2.1 r n f q).kept hq, fun r q => ⟨(h.2.2.2.2.1 r q).1.kept hq, (h.2.2.2.2.1 r q).2.kept hq⟩, h.2.2.2.2.2.1.kept hq, h.2.2.2.2.2.2.kept hq⟩
theorem zSh.narrow {G : zG} {X : zX} {A B : Nat → Prop} {U : State} {H : Heap} (h : zSh G X A U H) (hAB : ∀ q, B q → A q) : zSh G X B U H :=
  ⟨fun k hk => (h.1 k hk).narrow hAB, h.2.1.narrow hAB, fun r n f q => (h.2.2.1 r n f q).narrow hAB, fun r n f q => (h.2.2.2.1 r n f q).narrow hAB, fun r q => ⟨(h.2.2.2.2.1 r q).1.narrow hAB, (h.2.2.2.2.1 r q).2.narrow hAB⟩, h.2.2.2.2.2.1.narrow hAB, h.2.2.2.2.2.2.narrow hAB⟩
theorem zSv.warm {G : zG} {s U : State} (hW : s.WarmedH U.vm) (h : zSv G s) : zSv G U :=
  ⟨vk_R.warm hW h.1, vk_R.warm hW h.2.1, zNw_warm hW h.2.2.1, va_AO.moved hW.alike h.2.2.2.1, va_AO.moved hW.alike h.2.2.2.2⟩
theorem zSv.same {G : zG} {u U : State} (hv : u.vm = U.vm) (h : zSv G u) : zSv G U :=
  ⟨vk_R.same hv.symm h.1, vk_R.same hv.symm h.2.1, zNw_same hv h.2.2.1, va_AO.moved (by rw [hv]; exact Vm.Alike.refl _) h.2.2.2.1, va_AO.moved (by rw [hv]; exact Vm.Alike.refl _) h.2.2.2.2⟩
/-- the world at a method's start: the cells h, the next cell is the heap's next -/
def zW0 (G : zG) (X : zX) (h : zH) (U : State) : Prop := U.heap.size = G.2.2.1 + h.length ∧ va_P G.1 zcl (zcW G h) U.heap ∧ va_D (fun _ => True) (zcW G h) ∧ va_K G.1 zcl (ztys G) U ∧ zSh G X (va_A (zcW G h) U.heap.size) U U.heap ∧ zSv G U
/-- and behind it -/
def zW1 (G : zG) (h0 h : zH) (sz : Nat) (t : State) : Prop := va_P G.1 zcl (zcW G h) t.heap ∧ va_D (va_A (zcW G h0) sz) (zcW G h)
def zRm (d mc ms : Nat) : Room := { frames := d + 1, cells := mc, slots := ms, locals := 100 * (d + 1) }
def zws (m : zM) : List Cond := .code m.2.1 m.2.2.1 m.2.2.2.1 m.2.2.2.2 :: zTB
/-- a method's end: its answer, its heap -/
def zQ (G : zG) (h0 : zH) (v : Option Value) (h : zH) : Array Value → State → Outcome → State → Prop := fun _ st o t =>
  o = .returned (v.map (zcV G)) ∧ zW1 G h0 h st.heap.size t ∧ va_F (va_A (zcW G h0) st.heap.size) st t
def zPc (G : zG) (X : zX) (h0 : zH) (as : List Value) : Array Value → State → Prop := va_Pc (as.map (zcV G)) (zW0 G X h0)
theorem zPc_blind (G : zG) (X : zX) (h0 : zH) (as : List Value) : FrameBlind (zPc G X h0 as) := by
  intro a U g mk q
  obtain ⟨q0, q1, q2, q3, q4, q5, q6⟩ := q
  exact ⟨q0, q1, q2, q3, va_K.moved (u := U) (U := U.calling g mk a) (Vm.Alike.refl U.vm) q4, zSh.moved (u := U) (U := U.calling g mk a) (Vm.Alike.refl U.vm) q5, zSv.same (u := U) (U := U.calling g mk a) rfl q6⟩
