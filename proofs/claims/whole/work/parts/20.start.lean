theorem lwm {p : Nat} {w : Cond} (h : decide ((zTk (p / 1000))[p % 1000]? = some w) = true) : w ∈ lw_tbl := zTk_in (List.mem_of_getElem? (of_decide_eq_true h))
/-! THE CLAIM OUT OF ONE WALK OF THE LAW'S BODY. Your part is whole_start (and what it stands on); all else here is the same for every law, but numbers. -/
def R_law : String := "IceOfApplauseLaw"
def lw_P (b : Addr) (xs : List Int32) (args : Array Value) (s : State) : Prop := args = #[.ref b] ∧ s.IntsAt b xs ∧ xs.length ≤ 3072 ∧ (Jvm.Cond.and given_1 narrow_1).before args s = true
def lw_Q (_ : Array Value) (s : State) (o : Outcome) (t : State) : Prop := o = .returned (some (.int 1)) ∧ Framed s o t [] 600000 7302250
def lw_Z (below : List Frame) (a : Array Value) (s : State) : State → Prop := fun t => ∃ o, t.status = .running ∧ Ended t below o ∧ lw_Q a s o t
/-- the law's own end, with 1 on the stack, nothing written that was there before, its room as the claim has it -/
theorem lw_ret {p : Program} {l : Launch} {e : Env} {s : State} {m : MethodId} {below : List Frame} {meth : Method} {c : Code} {b : Nat} (hx : p.tables.exec = Jvm.exec) (hb : c.code = code) (hr : meth.sig.returnType = ret) (hlocks : meth.locks = false) {pc : Nat} {H : Heap} {ls : Array Slot} (hdg : decode code pc = .ok (.ireturn, 1)) : W p l e room_1 s m #[Value.ref b] below meth c H [] 600000 7302250 (lw_Z below #[Value.ref b] s) (F0 m pc ls [.int 1]) := by
  intro T hT X
  obtain ⟨fs, hret, hrun, hended, hW, hframe⟩ := X.leave (v := some (.int 1)) (hlocks := hlocks) (fun h => by rw [hr] at h; cases h)
  have hmeth' : T.vm.method? m = some meth := X.method'
  refine ⟨T.setFrames fs, ?_, .returned (some (.int 1)), hrun, hended, rfl, ⟨_, rfl⟩, hW, hframe⟩
  jvm_step X.here [X.here.top, hx, hb, hdg, hmeth', hr, ret, narrow_b1]
  (try refine ⟨rfl, ?_⟩); (try refine ⟨rfl, ?_⟩)
  first | (intro acts; rw [hret _ acts rfl rfl rfl]) | rw [hret _ _ rfl rfl rfl]
  exact Steps.refl _
/-- what holds at the law's entry: the machine, the code, the tables' words (any of lw_tbl by 'hts w (by decide +kernel)'), the script of L ints xs at the cell b, what the Statement gives of the start (any of its parts by flat_of_before) -/
def lw_At (p : Program) (s : State) (m : MethodId) (meth : Method) (c : Code) (b L : Nat) (xs : Nat → Int32) : Prop :=
  p.tables.exec = Jvm.exec ∧ c.code = code ∧ meth.sig.returnType = ret ∧ c.maxLocals = 4 ∧ s.vm.findClass R_law = some m.cls ∧ (∀ w ∈ lw_tbl, w.before #[Value.ref b] s = true) ∧ va_X b L xs s s.heap ∧ b < s.heap.size ∧ meth.locks = false ∧ (Jvm.Cond.and given_1 narrow_1).before #[Value.ref b] s = true

/-- what is owed of the small machine -/
def zLawOk : Prop := ∀ (L : Nat) (xs : Nat → Int32), L ≤ 3072 → zwp (L, xs) 300 ML_law 0 [.ref 1005, .null, .null, .null] [] [] (fun v h => v = some (.int 1) ∧ h.length ≤ 1000 ∧ zsz h ≤ 100000)
theorem zsa0 {args : Array Value} {s : State} {A : Nat → Prop} (hs : ∀ w ∈ (flatC (Jvm.Cond.and given_1 narrow_1)), w.before args s = true) (hts : ∀ w ∈ lw_tbl, w.before args s = true) (hA : ∀ a : Nat, a < s.heap.size → ¬ A a) : ∃ t : Nat, va_Z RX5 "LEAST" "[I" (.ref t) A s s.heap ∧ va_T .int t 10 (fun j => .int (([0, 0, 0, 0, 0, 1, 2, 0, 1, 0] : List Int32).getD j 0)) A s s.heap := by
  have hel : ∀ j, j < 10 → Cond.eq (.elem (.static RX5 "LEAST" "[I") (.int (Int32.ofNat j))) (.int (([0, 0, 0, 0, 0, 1, 2, 0, 1, 0] : List Int32).getD j 0)) ∈ (flatC (Jvm.Cond.and given_1 narrow_1)) := by decide +kernel
  obtain ⟨t, ht, hT⟩ := va_Tof (tm := .static RX5 "LEAST" "[I") (ty := .int) (N := 10) (f := fun j => .int (([0, 0, 0, 0, 0, 1, 2, 0, 1, 0] : List Int32).getD j 0)) (A := A) (by decide) (hs (.arrayOf (.static RX5 "LEAST" "[I") .int) (by decide +kernel)) (va_eqt (hs (.eq (.length (.static RX5 "LEAST" "[I")) (.int 10)) (by decide +kernel))) (fun j hj => va_eqt (hs _ (hel j hj))) hA
  exact ⟨t, va_Zof (hts _ (lwm (p := 2119) (w := .laysStatic RX5 "LEAST" "[I") (by decide +kernel))) (hts _ (lwm (p := 1002) (w := .initialized RX5) (by decide +kernel))) ht hA, hT⟩
theorem zsa1 {args : Array Value} {s : State} {A : Nat → Prop} (hs : ∀ w ∈ (flatC (Jvm.Cond.and given_1 narrow_1)), w.before args s = true) (hts : ∀ w ∈ lw_tbl, w.before args s = true) (hA : ∀ a : Nat, a < s.heap.size → ¬ A a) : ∃ t : Nat, va_Z RX5 "MOST" "[I" (.ref t) A s s.heap ∧ va_T .int t 10 (fun j => .int (([99, 15, 9, 9, 9, 60, 16, 9, 60, 12] : List Int32).getD j 0)) A s s.heap := by
  have hel : ∀ j, j < 10 → Cond.eq (.elem (.static RX5 "MOST" "[I") (.int (Int32.ofNat j))) (.int (([99, 15, 9, 9, 9, 60, 16, 9, 60, 12] : List Int32).getD j 0)) ∈ (flatC (Jvm.Cond.and given_1 narrow_1)) := by decide +kernel
  obtain ⟨t, ht, hT⟩ := va_Tof (tm := .static RX5 "MOST" "[I") (ty := .int) (N := 10) (f := fun j => .int (([99, 15, 9, 9, 9, 60, 16, 9, 60, 12] : List Int32).getD j 0)) (A := A) (by decide) (hs (.arrayOf (.static RX5 "MOST" "[I") .int) (by decide +kernel)) (va_eqt (hs (.eq (.length (.static RX5 "MOST" "[I")) (.int 10)) (by decide +kernel))) (fun j hj => va_eqt (hs _ (hel j hj))) hA
  exact ⟨t, va_Zof (hts _ (lwm (p := 2121) (w := .laysStatic RX5 "MOST" "[I") (by decide +kernel))) (hts _ (lwm (p := 1002) (w := .initialized RX5) (by decide +kernel))) ht hA, hT⟩
theorem zsa2 {args : Array Value} {s : State} {A : Nat → Prop} (hs : ∀ w ∈ (flatC (Jvm.Cond.and given_1 narrow_1)), w.before args s = true) (hts : ∀ w ∈ lw_tbl, w.before args s = true) (hA : ∀ a : Nat, a < s.heap.size → ¬ A a) : ∃ t : Nat, va_Z RX9 "LEVELS" "[I" (.ref t) A s s.heap ∧ va_T .int t 10 (fun j => .int (([0, 1, 2, 2, 2, 3, 3, 4, 4, 4] : List Int32).getD j 0)) A s s.heap := by
  have hel : ∀ j, j < 10 → Cond.eq (.elem (.static RX9 "LEVELS" "[I") (.int (Int32.ofNat j))) (.int (([0, 1, 2, 2, 2, 3, 3, 4, 4, 4] : List Int32).getD j 0)) ∈ (flatC (Jvm.Cond.and given_1 narrow_1)) := by decide +kernel
  obtain ⟨t, ht, hT⟩ := va_Tof (tm := .static RX9 "LEVELS" "[I") (ty := .int) (N := 10) (f := fun j => .int (([0, 1, 2, 2, 2, 3, 3, 4, 4, 4] : List Int32).getD j 0)) (A := A) (by decide) (hs (.arrayOf (.static RX9 "LEVELS" "[I") .int) (by decide +kernel)) (va_eqt (hs (.eq (.length (.static RX9 "LEVELS" "[I")) (.int 10)) (by decide +kernel))) (fun j hj => va_eqt (hs _ (hel j hj))) hA
  exact ⟨t, va_Zof (hts _ (lwm (p := 3082) (w := .laysStatic RX9 "LEVELS" "[I") (by decide +kernel))) (hts _ (lwm (p := 1004) (w := .initialized RX9) (by decide +kernel))) ht hA, hT⟩
theorem zsa3 {args : Array Value} {s : State} {A : Nat → Prop} (hs : ∀ w ∈ (flatC (Jvm.Cond.and given_1 narrow_1)), w.before args s = true) (hts : ∀ w ∈ lw_tbl, w.before args s = true) (hA : ∀ a : Nat, a < s.heap.size → ¬ A a) : ∃ t : Nat, va_Z RX1 "ABOVE" "[I" (.ref t) A s s.heap ∧ va_T .int t 8 (fun j => .int (([-1, 0, 0, 2, 1, 3, 0, 6] : List Int32).getD j 0)) A s s.heap := by
  have hel : ∀ j, j < 8 → Cond.eq (.elem (.static RX1 "ABOVE" "[I") (.int (Int32.ofNat j))) (.int (([-1, 0, 0, 2, 1, 3, 0, 6] : List Int32).getD j 0)) ∈ (flatC (Jvm.Cond.and given_1 narrow_1)) := by decide +kernel
  obtain ⟨t, ht, hT⟩ := va_Tof (tm := .static RX1 "ABOVE" "[I") (ty := .int) (N := 8) (f := fun j => .int (([-1, 0, 0, 2, 1, 3, 0, 6] : List Int32).getD j 0)) (A := A) (by decide) (hs (.arrayOf (.static RX1 "ABOVE" "[I") .int) (by decide +kernel)) (va_eqt (hs (.eq (.length (.static RX1 "ABOVE" "[I")) (.int 8)) (by decide +kernel))) (fun j hj => va_eqt (hs _ (hel j hj))) hA
  exact ⟨t, va_Zof (hts _ (lwm (p := 5084) (w := .laysStatic RX1 "ABOVE" "[I") (by decide +kernel))) (hts _ (lwm (p := 1012) (w := .initialized RX1) (by decide +kernel))) ht hA, hT⟩
theorem zsa4 {args : Array Value} {s : State} {A : Nat → Prop} (hs : ∀ w ∈ (flatC (Jvm.Cond.and given_1 narrow_1)), w.before args s = true) (hts : ∀ w ∈ lw_tbl, w.before args s = true) (hA : ∀ a : Nat, a < s.heap.size → ¬ A a) : ∃ t : Nat, va_Z RX1 "RUNS" "[I" (.ref t) A s s.heap ∧ va_T .int t 32 (fun j => .int (([1, 10, 11, 2, 20, 10, 11, 2, 1, 30, 11, 2, 1, 41, 40, 2, 20, 10, 11, 50, 1, 41, 60, 61, 70, 10, 11, 2, 81, 80, 11, 2] : List Int32).getD j 0)) A s s.heap := by
  have hel : ∀ j, j < 32 → Cond.eq (.elem (.static RX1 "RUNS" "[I") (.int (Int32.ofNat j))) (.int (([1, 10, 11, 2, 20, 10, 11, 2, 1, 30, 11, 2, 1, 41, 40, 2, 20, 10, 11, 50, 1, 41, 60, 61, 70, 10, 11, 2, 81, 80, 11, 2] : List Int32).getD j 0)) ∈ (flatC (Jvm.Cond.and given_1 narrow_1)) := by decide +kernel
  obtain ⟨t, ht, hT⟩ := va_Tof (tm := .static RX1 "RUNS" "[I") (ty := .int) (N := 32) (f := fun j => .int (([1, 10, 11, 2, 20, 10, 11, 2, 1, 30, 11, 2, 1, 41, 40, 2, 20, 10, 11, 50, 1, 41, 60, 61, 70, 10, 11, 2, 81, 80, 11, 2] : List Int32).getD j 0)) (A := A) (by decide) (hs (.arrayOf (.static RX1 "RUNS" "[I") .int) (by decide +kernel)) (va_eqt (hs (.eq (.length (.static RX1 "RUNS" "[I")) (.int 32)) (by decide +kernel))) (fun j hj => va_eqt (hs _ (hel j hj))) hA
  exact ⟨t, va_Zof (hts _ (lwm (p := 5013) (w := .laysStatic RX1 "RUNS" "[I") (by decide +kernel))) (hts _ (lwm (p := 1012) (w := .initialized RX1) (by decide +kernel))) ht hA, hT⟩
theorem zsT {s : State} {b L : Nat} {xs : Nat → Int32} {A : Nat → Prop} (h : va_X b L xs s s.heap) (hA : ¬ A b) : va_T .int b L (fun j => .int (xs j)) A s s.heap := by
  obtain ⟨scr, h1, h2, h3, h4, h5⟩ := h
  exact ⟨scr, h1, h2, h3, by omega, by rw [h4], h5, hA⟩
theorem zac {args : Array Value} {s : State} {ty : FieldType} (h : (Cond.arrayClass ty).before args s = true) : ∃ cA : ClassId, ArrOfT s cA ty ∧ s.vm.findClass ("[" ++ ty.toString) = some cA := by
  obtain ⟨cA, k, comp, h1, h2, h3⟩ := Cond.arrayClass_spec h
  exact ⟨cA, fun n z => ⟨fun q hq => (by cases hq), k, h2, comp, h3⟩, h1⟩
theorem zao {s : State} {C : String} (h : va_AO C s) : ∃ cA : ClassId, ArrOfT s cA (.object C) ∧ va_RA s cA (.object C) := by
  obtain ⟨comp, cA, k, h1, -, h2, h3, h4⟩ := Cond.arrayOver_spec h
  exact ⟨cA, fun n z => ⟨fun q hq => (by cases hq), k, h2, comp, h3⟩, k, comp, h2, h3, h1, h4⟩
set_option maxHeartbeats 4000000 in
theorem whole_start_open (hz : zLawOk) {p : Program} {e : Env} {s : State} {m : MethodId} {below : List Frame} {meth : Method} {c : Code} (l : Launch) (hflags : l.flags = flags0) {b L : Nat} {xs : Nat → Int32} (hL : L ≤ 3072) (C0 : lw_At p s m meth c b L xs) : W p l e room_1 s m #[Value.ref b] below meth c s.heap [] 0 0 (lw_Z below #[Value.ref b] s) (entryFrame m ([Value.ref b] : List Value).toArray 4) := by
  obtain ⟨hx, hb, hr, hml, hown, hts, hX, hbl, hlocks, hgv⟩ := id C0
  have hs := flat_of_before _ hgv
  have hA : ∀ a : Nat, a < s.heap.size → ¬ (fun q : Nat => s.heap.size ≤ q) a := fun a h => Nat.not_le.mpr h
  obtain ⟨c0, i0, k0⟩ := u_known (C := RX0) (T := TX0) (N := 7) (n := 7) hts (fun w hw => (List.mem_filter.mp (zinw0 w hw)).1) (hts _ (lwm (p := 1108) (w := .instantiable RX0 7) (by decide +kernel)))
  obtain ⟨c1, i1, k1⟩ := u_known (C := RX1) (T := TX1) (N := 6) (n := 6) hts (fun w hw => (List.mem_filter.mp (zinw1 w hw)).1) (hts _ (lwm (p := 2052) (w := .instantiable RX1 6) (by decide +kernel)))
  obtain ⟨c2, i2, k2⟩ := u_known (C := RX2) (T := TX2) (N := 1) (n := 1) hts (fun w hw => (List.mem_filter.mp (zinw2 w hw)).1) (hts _ (lwm (p := 1142) (w := .instantiable RX2 1) (by decide +kernel)))
  obtain ⟨c3, i3, k3⟩ := u_known (C := RX3) (T := TX3) (N := 5) (n := 5) hts (fun w hw => (List.mem_filter.mp (zinw3 w hw)).1) (hts _ (lwm (p := 1176) (w := .instantiable RX3 5) (by decide +kernel)))
  obtain ⟨c4, i4, k4⟩ := u_known (C := RX4) (T := TX4) (N := 5) (n := 5) hts (fun w hw => (List.mem_filter.mp (zinw4 w hw)).1) (hts _ (lwm (p := 1136) (w := .instantiable RX4 5) (by decide +kernel)))
  obtain ⟨c5, i5, k5⟩ := u_known (C := RX5) (T := TX5) (N := 4) (n := 4) hts (fun w hw => (List.mem_filter.mp (zinw5 w hw)).1) (hts _ (lwm (p := 1031) (w := .instantiable RX5 4) (by decide +kernel)))
  obtain ⟨c6, i6, k6⟩ := u_known (C := RX6) (T := TX6) (N := 5) (n := 5) hts (fun w hw => (List.mem_filter.mp (zinw6 w hw)).1) (hts _ (lwm (p := 1060) (w := .instantiable RX6 5) (by decide +kernel)))
  obtain ⟨c7, i7, k7⟩ := u_known (C := RX7) (T := TX7) (N := 6) (n := 6) hts (fun w hw => (List.mem_filter.mp (zinw7 w hw)).1) (hts _ (lwm (p := 2023) (w := .instantiable RX7 6) (by decide +kernel)))
  obtain ⟨c8, i8, k8⟩ := u_known (C := RX8) (T := TX8) (N := 5) (n := 5) hts (fun w hw => (List.mem_filter.mp (zinw8 w hw)).1) (hts _ (lwm (p := 1201) (w := .instantiable RX8 5) (by decide +kernel)))
  obtain ⟨c9, i9, k9⟩ := u_known (C := RX9) (T := TX9) (N := 4) (n := 4) hts (fun w hw => (List.mem_filter.mp (zinw9 w hw)).1) (hts _ (lwm (p := 1085) (w := .instantiable RX9 4) (by decide +kernel)))
  obtain ⟨c10, i10, k10⟩ := u_known (C := RX10) (T := TX10) (N := 7) (n := 7) hts (fun w hw => (List.mem_filter.mp (zinw10 w hw)).1) (hts _ (lwm (p := 1232) (w := .instantiable RX10 7) (by decide +kernel)))
  obtain ⟨c11, i11, k11⟩ := u_known (C := RX11) (T := TX11) (N := 10) (n := 10) hts (fun w hw => (List.mem_filter.mp (zinw11 w hw)).1) (hts _ (lwm (p := 1023) (w := .instantiable RX11 10) (by decide +kernel)))
  obtain ⟨c12, i12, k12⟩ := u_known (C := RX12) (T := TX12) (N := 57) (n := 57) hts (fun w hw => (List.mem_filter.mp (zinw12 w hw)).1) (hts _ (lwm (p := 5090) (w := .instantiable RX12 57) (by decide +kernel)))
  obtain ⟨t0, y0, z0⟩ := zac (hts _ (List.mem_filter.mp zw_int).1)
  obtain ⟨t1, y1, z1⟩ := zac (hts _ (List.mem_filter.mp zw_long).1)
  obtain ⟨t2, y2, z2⟩ := zac (hts _ (List.mem_filter.mp zw_byte).1)
  obtain ⟨t3, y3, z3⟩ := zac (hts _ (List.mem_filter.mp zw_short).1)
  have hao8 : va_AO RX8 s := va_AO.of (hts _ (lwm (p := 1200) (w := .arrayOver (.object RX8)) (by decide +kernel)))
  have hao2 : va_AO RX2 s := va_AO.of (hts _ (lwm (p := 2029) (w := .arrayOver (.object RX2)) (by decide +kernel)))
  obtain ⟨t4, y4, z4⟩ := zao hao8
  obtain ⟨t5, y5, z5⟩ := zao hao2
  obtain ⟨u0, p0, q0⟩ := zsa0 hs hts hA
  obtain ⟨u1, p1, q1⟩ := zsa1 hs hts hA
  obtain ⟨u2, p2, q2⟩ := zsa2 hs hts hA
  obtain ⟨u3, p3, q3⟩ := zsa3 hs hts hA
  obtain ⟨u4, p4, q4⟩ := zsa4 hs hts hA
  have hcs : va_Z RJ0 "COMPACT_STRINGS" "Z" (.int 1) (fun q : Nat => s.heap.size ≤ q) s s.heap := va_Zof (hts _ (lwm (p := 2235) (w := .laysStatic RJ0 "COMPACT_STRINGS" "Z") (by decide +kernel))) (hts _ (lwm (p := 1015) (w := .initialized RJ0) (by decide +kernel))) (va_eqi (hs (.eq (.static RJ0 "COMPACT_STRINGS" "Z") (.int 1)) (by decide +kernel))) hA
  have hN2 : ∀ {P : Nat → Prop}, P 0 → P 1 → ∀ i, i < 2 → P i := by
    intro P h0 h1 i hi
    match i, hi with
    | 0, _ => exact h0
    | 1, _ => exact h1
  have hbt0 : ∀ j, j < 6 → Cond.eq (.elem (.field (.string RX9 76) "java/lang/String" "value" "[B") (.int (Int32.ofNat j))) (.int (([103, 104, 116, 101, 100, 105] : List Int32).getD j 0)) ∈ flatC (Jvm.Cond.and given_1 narrow_1) := by decide +kernel
  have hbt1 : ∀ j, j < 10 → Cond.eq (.elem (.field (.string RX9 60) "java/lang/String" "value" "[B") (.int (Int32.ofNat j))) (.int (([124, 38, 60, 61, 62, 43, 45, 42, 47, 37] : List Int32).getD j 0)) ∈ flatC (Jvm.Cond.and given_1 narrow_1) := by decide +kernel
  obtain ⟨adK, adV, hvS, hvE⟩ := vk_Sof (args := #[Value.ref b]) (s := s) (N := 2) (tm := fun i => .string RX9 (if i = 0 then 76 else 60)) (len := [6, 10]) (byt := [[103, 104, 116, 101, 100, 105], [124, 38, 60, 61, 62, 43, 45, 42, 47, 37]]) (A := fun q : Nat => s.heap.size ≤ q)
    (hN2 (P := fun i => ([6, 10] : List Nat).getD i 0 < 2 ^ 31) (by decide) (by decide))
    (hN2 (P := fun i => (Cond.exactly (.string RX9 (if i = 0 then 76 else 60)) "java/lang/String").before #[Value.ref b] s = true) (hs (.exactly (.string RX9 76) "java/lang/String") (by decide +kernel)) (hs (.exactly (.string RX9 60) "java/lang/String") (by decide +kernel)))
    (hN2 (P := fun i => (Cond.eq (.field (.string RX9 (if i = 0 then 76 else 60)) "java/lang/String" "coder" "B") (.int 0)).before #[Value.ref b] s = true) (hs (.eq (.field (.string RX9 76) "java/lang/String" "coder" "B") (.int 0)) (by decide +kernel)) (hs (.eq (.field (.string RX9 60) "java/lang/String" "coder" "B") (.int 0)) (by decide +kernel)))
    (hN2 (P := fun i => (Cond.arrayOf (.field (.string RX9 (if i = 0 then 76 else 60)) "java/lang/String" "value" "[B") .byte).before #[Value.ref b] s = true) (hs (.arrayOf (.field (.string RX9 76) "java/lang/String" "value" "[B") .byte) (by decide +kernel)) (hs (.arrayOf (.field (.string RX9 60) "java/lang/String" "value" "[B") .byte) (by decide +kernel)))
    (hN2 (P := fun i => (Cond.eq (.length (.field (.string RX9 (if i = 0 then 76 else 60)) "java/lang/String" "value" "[B")) (.int (Int32.ofNat (([6, 10] : List Nat).getD i 0)))).before #[Value.ref b] s = true) (hs (.eq (.length (.field (.string RX9 76) "java/lang/String" "value" "[B")) (.int 6)) (by decide +kernel)) (hs (.eq (.length (.field (.string RX9 60) "java/lang/String" "value" "[B")) (.int 10)) (by decide +kernel)))
    (hN2 (P := fun i => ∀ j : Nat, j < ([6, 10] : List Nat).getD i 0 → (Cond.eq (.elem (.field (.string RX9 (if i = 0 then 76 else 60)) "java/lang/String" "value" "[B") (.int (Int32.ofNat j))) (.int ((([[103, 104, 116, 101, 100, 105], [124, 38, 60, 61, 62, 43, 45, 42, 47, 37]] : List (List Int32)).getD i []).getD j 0))).before #[Value.ref b] s = true) (fun j hj => hs _ (hbt0 j hj)) (fun j hj => hs _ (hbt1 j hj)))
    (fun i j hi hj hij => by
      have hne : (Cond.not (.eq (.string RX9 76) (.string RX9 60))).before #[Value.ref b] s = true := hs _ (by decide +kernel)
      match i, j, hi, hj, hij with
      | 0, 1, _, _, _ => exact Or.inl hne
      | 1, 0, _, _, _ => exact Or.inr hne
      | 0, 0, _, _, h => exact absurd rfl h
      | 1, 1, _, _, h => exact absurd rfl h) hA
  let D : va_G := (fun k => if k = 0 then c0 else if k = 1 then c1 else if k = 2 then c2 else if k = 3 then c3 else if k = 4 then c4 else if k = 5 then c5 else if k = 6 then c6 else if k = 7 then c7 else if k = 8 then c8 else if k = 9 then c9 else if k = 10 then c10 else if k = 11 then c11 else c12, fun k => if k = 0 then i0 else if k = 1 then i1 else if k = 2 then i2 else if k = 3 then i3 else if k = 4 then i4 else if k = 5 then i5 else if k = 6 then i6 else if k = 7 then i7 else if k = 8 then i8 else if k = 9 then i9 else if k = 10 then i10 else if k = 11 then i11 else i12)
  let G : zG := (D, (fun t => if t = 0 then t0 else if t = 1 then t1 else if t = 2 then t2 else if t = 3 then t3 else if t = 4 then t4 else t5), s.heap.size, (fun k => if k = 0 then u0 else if k = 1 then u1 else if k = 2 then u2 else if k = 3 then u3 else if k = 4 then u4 else if k = 5 then b else if k = 6 then adK 0 else if k = 7 then adK 1 else if k = 8 then adV 0 else adV 1))
  have hK : va_K G.1 zcl (ztys G) s := by
    refine ⟨fun k q hq => ?_, fun k q hq => ?_⟩
    · match k, hq with
      | 0, hq => cases hq; exact k0
      | 1, hq => cases hq; exact k1
      | 2, hq => cases hq; exact k2
      | 3, hq => cases hq; exact k3
      | 4, hq => cases hq; exact k4
      | 5, hq => cases hq; exact k5
      | 6, hq => cases hq; exact k6
      | 7, hq => cases hq; exact k7
      | 8, hq => cases hq; exact k8
      | 9, hq => cases hq; exact k9
      | 10, hq => cases hq; exact k10
      | 11, hq => cases hq; exact k11
      | 12, hq => cases hq; exact k12
      | k + 13, hq => simp [zcl] at hq
    · match k, hq with
      | 0, hq => cases hq; exact ⟨y0, z0⟩
      | 1, hq => cases hq; exact ⟨y1, z1⟩
      | 2, hq => cases hq; exact ⟨y2, z2⟩
      | 3, hq => cases hq; exact ⟨y3, z3⟩
      | 4, hq => cases hq; exact ⟨y4, z4⟩
      | 5, hq => cases hq; exact ⟨y5, z5⟩
      | k + 6, hq => simp [ztys] at hq
  have hSh : zSh G (L, xs) (fun q : Nat => s.heap.size ≤ q) s s.heap := by
    refine ⟨fun k hk => ?_, hcs, fun r n f hq => ?_, fun r n f hq => ?_, fun r hq => ?_, (hvS.1 0 (by decide)).2.2.1, (hvS.1 1 (by decide)).2.2.1⟩
    · match k, hk with
      | 0, _ => exact p0
      | 1, _ => exact p1
      | 2, _ => exact p2
      | 3, _ => exact p3
      | 4, _ => exact p4
    · unfold zsi at hq
      split at hq
      · next e1 => subst e1; cases hq; exact q0
      · split at hq
        · next e1 => subst e1; cases hq; exact q1
        · split at hq
          · next e1 => subst e1; cases hq; exact q2
          · split at hq
            · next e1 => subst e1; cases hq; exact q3
            · split at hq
              · next e1 => subst e1; cases hq; exact q4
              · split at hq
                · next e1 => subst e1; cases hq; exact zsT hX (Nat.not_le.mpr hbl)
                · cases hq
    · unfold zsb at hq
      split at hq
      · next e1 => subst e1; cases hq; exact (hvS.1 0 (by decide)).2.2.2
      · split at hq
        · next e1 => subst e1; cases hq; exact (hvS.1 1 (by decide)).2.2.2
        · cases hq
    · rcases hq with rfl | rfl
      · exact ⟨(hvS.1 0 (by decide)).1, (hvS.1 0 (by decide)).2.1⟩
      · exact ⟨(hvS.1 1 (by decide)).1, (hvS.1 1 (by decide)).2.1⟩
  have hSv : zSv G s := by
    refine ⟨vk_R.of (A := #[Value.ref b]) (hts _ (lwm (p := 2221) (w := .stringRef RX9 76 "ghtedi") (by decide +kernel))) (hvE 0 (by decide)), vk_R.of (A := #[Value.ref b]) (hts _ (lwm (p := 3080) (w := .stringRef RX9 60 "|&<=>+-*/%") (by decide +kernel))) (hvE 1 (by decide)), fun w hw => ?_, hao8, hao2⟩
    simp only [zNw, List.mem_cons, List.not_mem_nil, or_false] at hw
    rcases hw with rfl | rfl | rfl | rfl | rfl | rfl | rfl | rfl | rfl | rfl | rfl
    · exact va_Nw.of rfl (hts _ (lwm (p := 1143) (w := .methodLinkNest RX4 11 yX2_init RX11) (by decide +kernel)))
    · exact va_Nw.of rfl (hts _ (lwm (p := 2030) (w := .methodLinkNest RX7 36 yX2_init RX11) (by decide +kernel)))
    · exact va_Nw.of rfl (hts _ (lwm (p := 1091) (w := .methodLinkNest RX9 17 yX6_init RX11) (by decide +kernel)))
    · exact va_Nw.of rfl (hts _ (lwm (p := 1238) (w := .methodLinkNest RX10 17 yX2_init RX11) (by decide +kernel)))
    · exact va_Nw.of rfl (hts _ (lwm (p := 1061) (w := .methodLinkNest RX11 18 yX6_init RX11) (by decide +kernel)))
    · exact va_Nw.of rfl (hts _ (lwm (p := 1086) (w := .methodLinkNest RX11 25 yX9_init RX11) (by decide +kernel)))
    · exact va_Nw.of rfl (hts _ (lwm (p := 1137) (w := .methodLinkNest RX11 41 yX4_init RX11) (by decide +kernel)))
    · exact va_Nw.of rfl (hts _ (lwm (p := 1177) (w := .methodLinkNest RX11 48 yX3_init RX11) (by decide +kernel)))
    · exact va_Nw.of rfl (hts _ (lwm (p := 1202) (w := .methodLinkNest RX11 59 yX8_init RX11) (by decide +kernel)))
    · exact va_Nw.of rfl (hts _ (lwm (p := 2053) (w := .methodLinkNest RX11 82 yX1_init RX11) (by decide +kernel)))
    · exact va_Nw.of rfl (hts _ (lwm (p := 4089) (w := .fieldLinkNest RX10 117 RX5 "MOST" "[I" RX11) (by decide +kernel)))
  have C : zCx p s m #[Value.ref b] meth c G (L, xs) (fun q : Nat => s.heap.size ≤ q) ML_law [] := ⟨hx, hb, hml, hown, fun w hw => hts w (List.mem_filter.mp hw).1, fun h => absurd h (by decide), hK, hSh, hSv, fun _ h => h, rfl⟩
  obtain ⟨n, v, hf, hev, rfl, hl1, hl2⟩ := hz L xs hL
  have ea : ([Value.ref b] : List Value) = ([.ref 1005] : List Value).map (zcV G) := rfl
  rw [ea, lg_entry_eq]
  refine zsound l G (L, xs) n hev C hl1 ⟨by decide, by decide⟩ (by show hf.length ≤ 0 + 600000; omega) (by show zsz hf ≤ 0 + 7302250; omega) ?_ s.heap [] 0 0 _ (fun k q h => by simp [zcW] at h) ⟨fun i j p q h => by simp [zcW] at h, fun k q h => by simp [zcW] at h⟩ va_S.rf (zLv.entry G (vs := [.ref 1005]) (n := 4) (by decide)) rfl rfl
  intro pc ls st hst H locs cells slots lr a1 a2 a3 a4 a5 a6
  unfold zstep at hst
  split at hst
  · next q hd =>
    obtain ⟨i, len⟩ := q
    dsimp only at hst
    cases i
    case ireturn =>
      have e0 := (zL_inv hst).1
      replace hst := (zL_inv hst).2
      subst e0
      split at hst
      · next x ty h1 =>
        have hst := (zif_inv hst).2
        cases hst
        refine va_forget a3.2.2 (W.widen (k := 600000) (n := 7302250) ?_ ?_ (lw_ret hx hb hr hlocks hd))
        · simp at a5; omega
        · have : zsz ([] : zH) = 0 := rfl
          omega
      · cases hst
    case lreturn =>
      replace hst := (zL_inv hst).2
      split at hst
      · cases hst
      · cases hst
    case return_ =>
      replace hst := (zL_inv hst).2
      split at hst
      · cases hst
      · cases hst
    case invokevirtual idx =>
      replace hst : zcallV ML_law.1 idx len pc st hf = some (.inr (.inr (some (.int 1)))) := hst
      unfold zcallV at hst
      obtain ⟨_, _, hst⟩ := zof_inv (zL_inv hst).2
      obtain ⟨_, _, hst⟩ := zof_inv (zif_inv hst).2
      obtain ⟨_, _, _, hst⟩ := z1r_inv hst
      exact absurd (zif_inv hst).2 (by intro q; cases q)
    case invokestatic idx => exact absurd hst zinvS_nr
    case invokespecial idx => exact absurd hst zinvI_nr
    all_goals exact absurd hst (zP1_nr (zplain (L, xs) ML_law _ len pc ls st hf (by intro _ q; cases q) (by intro _ q; cases q) (by intro _ q; cases q) (by intro q; cases q) (by intro q; cases q) (by intro q; cases q)))
  · cases hst
