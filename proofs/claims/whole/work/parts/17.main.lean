/-- an instruction that neither calls nor returns -/
def zP1 (r : zR4) : Prop := r = none ∨ ∃ q, r = some (.inl q)
theorem zP1_none : zP1 none := Or.inl rfl
theorem zP1_go {pc : Nat} {ls st : List Value} {h : zH} : zP1 (zgo pc ls st h) := Or.inr ⟨_, rfl⟩
theorem zP1_L {len n : Nat} {r : zR4} (k : zP1 r) : zP1 (zL len n r) := by unfold zL; split; exact k; exact zP1_none
theorem zP1_1i {st : List Value} {k : Int32 → List Value → zR4} (hk : ∀ x r, zP1 (k x r)) : zP1 (z1i st k) := by unfold z1i; split; exact hk _ _; exact zP1_none
theorem zP1_1l {st : List Value} {k : Int64 → List Value → zR4} (hk : ∀ x r, zP1 (k x r)) : zP1 (z1l st k) := by unfold z1l; split; exact hk _ _; exact zP1_none
theorem zP1_1r {st : List Value} {k : Nat → List Value → zR4} (hk : ∀ x r, zP1 (k x r)) : zP1 (z1r st k) := by unfold z1r; split; exact hk _ _; exact zP1_none
theorem zP1_2i {st : List Value} {k : Int32 → Int32 → List Value → zR4} (hk : ∀ x y r, zP1 (k x y r)) : zP1 (z2i st k) := zP1_1i (fun y _ => zP1_1i (fun x r => hk x y r))
theorem zP1_2l {st : List Value} {k : Int64 → Int64 → List Value → zR4} (hk : ∀ x y r, zP1 (k x y r)) : zP1 (z2l st k) := zP1_1l (fun y _ => zP1_1l (fun x r => hk x y r))
theorem zP1_ldi {ls : List Value} {i : Nat} {k : Value → zR4} (hk : ∀ v, zP1 (k v)) : zP1 (zldi ls i k) := by unfold zldi; split; exact hk _; exact zP1_none
theorem zP1_ldl {ls : List Value} {i : Nat} {k : Value → zR4} (hk : ∀ v, zP1 (k v)) : zP1 (zldl ls i k) := by unfold zldl; split; exact hk _; exact zP1_none
theorem zP1_ldr {ls : List Value} {i : Nat} {k : Value → zR4} (hk : ∀ v, zP1 (k v)) : zP1 (zldr ls i k) := by unfold zldr; split; exact hk _; exact zP1_none
theorem zP1_if {b : Bool} {r : zR4} (k : zP1 r) : zP1 (zif b r) := by cases b; exact zP1_none; exact k
theorem zP1_of {α : Type} {o : Option α} {k : α → zR4} (hk : ∀ q, zP1 (k q)) : zP1 (zof o k) := by cases o; exact zP1_none; exact hk _
theorem zP1_top {st : List Value} {k : Value → List Value → zR4} (hk : ∀ v r, zP1 (k v r)) : zP1 (ztop st k) := by
  unfold ztop
  split
  · next v r =>
    by_cases hc : v.category = 1
    · rw [decide_eq_true hc]; exact hk _ _
    · rw [decide_eq_false hc]; exact zP1_none
  · exact zP1_none
theorem zP1_br {pc : Nat} {off : Int} {b : Bool} {ls st : List Value} {h : zH} : zP1 (zbr pc off b ls st h) := by unfold zbr; split; exact zP1_go; exact zP1_none
theorem zP1_jmp {pc : Nat} {off : Int} {ls st : List Value} {h : zH} : zP1 (zjmp pc off ls st h) := by unfold zjmp; split; exact zP1_go; exact zP1_none
theorem zP1_no {r : zR4} (h : zP1 r) {q : zM × List Value × List Value × Nat} : ¬ r = some (.inr (.inl q)) := by
  rcases h with h | ⟨x, h⟩ <;> rw [h] <;> intro z <;> cases z
theorem zP1_nr {r : zR4} (h : zP1 r) {q : Option Value} : ¬ r = some (.inr (.inr q)) := by
  rcases h with h | ⟨x, h⟩ <;> rw [h] <;> intro z <;> cases z
theorem zP1_ald {X : zX} {t len pc : Nat} {ls st : List Value} {h : zH} : zP1 (zald X t len pc ls st h) := zP1_L (zP1_1i (fun _ _ => zP1_1r (fun _ _ => zP1_of (fun _ => zP1_if zP1_go))))
theorem zP1_ast {t len pc : Nat} {ls st : List Value} {h : zH} : zP1 (zast t len pc ls st h) := zP1_L (zP1_1i (fun _ _ => zP1_1i (fun _ _ => zP1_1r (fun _ _ => zP1_of (fun _ => zP1_if (zP1_of (fun _ => zP1_go)))))))
theorem zP1_put {m : zM} {idx len pc : Nat} {ls st : List Value} {h : zH} : zP1 (zput m idx len pc ls st h) := by
  unfold zput
  refine zP1_L ?_
  split
  · exact zP1_of (fun _ => zP1_if (zP1_of (fun _ => zP1_go)))
  · exact zP1_none
set_option maxHeartbeats 4000000 in
theorem zplain (X : zX) (M : zM) (i : Instr) (len pc : Nat) (ls st : List Value) (h : zH) (n1 : ∀ idx, i ≠ .invokevirtual idx) (n2 : ∀ idx, i ≠ .invokestatic idx) (n3 : ∀ idx, i ≠ .invokespecial idx) (n4 : i ≠ .ireturn) (n5 : i ≠ .lreturn) (n6 : i ≠ .return_) : zP1 (zins X M i len pc ls st h) := by
  cases i
  case invokevirtual idx => exact absurd rfl (n1 idx)
  case invokestatic idx => exact absurd rfl (n2 idx)
  case invokespecial idx => exact absurd rfl (n3 idx)
  case ireturn => exact absurd rfl n4
  case lreturn => exact absurd rfl n5
  case return_ => exact absurd rfl n6
  case iconst => exact zP1_L zP1_go
  case bipush => exact zP1_L zP1_go
  case sipush => exact zP1_L zP1_go
  case lconst => exact zP1_L zP1_go
  case iload_n => exact zP1_L (zP1_ldi (fun _ => zP1_go))
  case iload => exact zP1_L (zP1_ldi (fun _ => zP1_go))
  case lload_n => exact zP1_L (zP1_ldl (fun _ => zP1_go))
  case lload => exact zP1_L (zP1_ldl (fun _ => zP1_go))
  case aload_n => exact zP1_L (zP1_ldr (fun _ => zP1_go))
  case aload => exact zP1_L (zP1_ldr (fun _ => zP1_go))
  case istore_n => exact zP1_L (zP1_1i (fun _ _ => zP1_if zP1_go))
  case istore => exact zP1_L (zP1_1i (fun _ _ => zP1_if zP1_go))
  case astore_n => exact zP1_L (zP1_1r (fun _ _ => zP1_if zP1_go))
  case astore => exact zP1_L (zP1_1r (fun _ _ => zP1_if zP1_go))
  case lstore => exact zP1_L (zP1_1l (fun _ _ => zP1_if zP1_go))
  case iinc =>
    refine zP1_L ?_
    split
    · exact zP1_go
    · exact zP1_none
  case iadd => exact zP1_L (zP1_2i (fun _ _ _ => zP1_go))
  case isub => exact zP1_L (zP1_2i (fun _ _ _ => zP1_go))
  case imul => exact zP1_L (zP1_2i (fun _ _ _ => zP1_go))
  case iand => exact zP1_L (zP1_2i (fun _ _ _ => zP1_go))
  case ior => exact zP1_L (zP1_2i (fun _ _ _ => zP1_go))
  case ixor => exact zP1_L (zP1_2i (fun _ _ _ => zP1_go))
  case idiv => exact zP1_L (zP1_2i (fun _ _ _ => zP1_if zP1_go))
  case irem => exact zP1_L (zP1_2i (fun _ _ _ => zP1_if zP1_go))
  case ishl => exact zP1_L (zP1_2i (fun _ _ _ => zP1_go))
  case ishr => exact zP1_L (zP1_2i (fun _ _ _ => zP1_go))
  case iushr => exact zP1_L (zP1_2i (fun _ _ _ => zP1_go))
  case ineg => exact zP1_L (zP1_1i (fun _ _ => zP1_go))
  case ladd => exact zP1_L (zP1_2l (fun _ _ _ => zP1_go))
  case land => exact zP1_L (zP1_2l (fun _ _ _ => zP1_go))
  case lor => exact zP1_L (zP1_2l (fun _ _ _ => zP1_go))
  case lshl => exact zP1_L (zP1_1i (fun _ _ => zP1_1l (fun _ _ => zP1_go)))
  case lcmp => exact zP1_L (zP1_2l (fun _ _ _ => zP1_go))
  case i2l => exact zP1_L (zP1_1i (fun _ _ => zP1_go))
  case l2i => exact zP1_L (zP1_1l (fun _ _ => zP1_go))
  case i2b => exact zP1_L (zP1_1i (fun _ _ => zP1_go))
  case i2s => exact zP1_L (zP1_1i (fun _ _ => zP1_go))
  case i2c => exact zP1_L (zP1_1i (fun _ _ => zP1_go))
  case dup => exact zP1_L (zP1_top (fun _ _ => zP1_go))
  case pop => exact zP1_L (zP1_top (fun _ _ => zP1_go))
  case dup_x1 => exact zP1_L (zP1_top (fun _ _ => zP1_top (fun _ _ => zP1_go)))
  case dup2 => exact zP1_L (zP1_top (fun _ _ => zP1_top (fun _ _ => zP1_go)))
  case ifCond => exact zP1_L (zP1_1i (fun _ _ => zP1_br))
  case if_icmp => exact zP1_L (zP1_2i (fun _ _ _ => zP1_br))
  case goto => exact zP1_L zP1_jmp
  case tableswitch => exact zP1_1i (fun _ _ => zP1_of (fun _ => zP1_jmp))
  case lookupswitch => exact zP1_if (zP1_1i (fun _ _ => zP1_jmp))
  case getfield => exact zP1_L (zP1_1r (fun _ _ => zP1_of (fun _ => zP1_of (fun _ => zP1_go))))
  case putfield => exact zP1_put
  case getstatic => exact zP1_L (zP1_of (fun _ => zP1_go))
  case ldc =>
    refine zP1_L (zP1_of (fun q => ?_))
    split
    · exact zP1_go
    · exact zP1_go
    · exact zP1_none
  case ldc_w =>
    refine zP1_L (zP1_of (fun q => ?_))
    split
    · exact zP1_go
    · exact zP1_none
  case ldc2_w =>
    refine zP1_L (zP1_of (fun q => ?_))
    split
    · exact zP1_go
    · exact zP1_none
  case iaload => exact zP1_ald
  case baload => exact zP1_ald
  case saload => exact zP1_ald
  case iastore => exact zP1_ast
  case bastore => exact zP1_ast
  case sastore => exact zP1_ast
  case laload => exact zP1_L (zP1_1i (fun _ _ => zP1_1r (fun _ _ => zP1_of (fun _ => zP1_if zP1_go))))
  case lastore => exact zP1_L (zP1_1l (fun _ _ => zP1_1i (fun _ _ => zP1_1r (fun _ _ => zP1_of (fun _ => zP1_if (zP1_of (fun _ => zP1_go)))))))
  case aaload => exact zP1_L (zP1_1i (fun _ _ => zP1_1r (fun _ _ => zP1_of (fun _ => zP1_if (zP1_of (fun _ => zP1_go))))))
  case aastore => exact zP1_L (zP1_1r (fun _ _ => zP1_1i (fun _ _ => zP1_1r (fun _ _ => zP1_of (fun _ => zP1_if (zP1_of (fun _ => zP1_go)))))))
  case arraylength => exact zP1_L (zP1_1r (fun _ _ => zP1_of (fun _ => zP1_go)))
  case newarray => exact zP1_L (zP1_1i (fun _ _ => zP1_of (fun _ => zP1_if zP1_go)))
  case anewarray => exact zP1_L (zP1_1i (fun _ _ => zP1_of (fun _ => zP1_if zP1_go)))
  case new => exact zP1_L (zP1_of (fun _ => zP1_if zP1_go))
  all_goals exact zP1_none
section ZPM
variable {p : Program} {l : Launch} {e : Env} {R : Room} {s : State} {m : MethodId} {args : Array Value} {below : List Frame} {meth : Method} {c : Code} {Q : State → Prop} {G : zG} {X : zX} {A : Nat → Prop} {M : zM} {h0 : zH}
variable {pc pc' len : Nat} {ls ls' st st' : List Value} {h h' : zH}
/-- a call, whatever its kind -/
theorem zo_call {i : Instr} {d : Nat} {m' : zM} {as rest : List Value} {v : Option Value} (C : zCx p s m args meth c G X A M h0) (hl : h.length ≤ 1000) (hR : d + 2 ≤ R.frames ∧ 100 * (d + 2) ≤ R.locals) (hb1 : h'.length ≤ h0.length + R.cells) (hb2 : zsz h' ≤ zsz h0 + R.slots) (hm1 : h.length ≤ h'.length) (hm2 : zsz h ≤ zsz h')
    (hd : decode M.2.2.1 pc = .ok (i, len)) (hs : zins X M i len pc ls st h = some (.inr (.inl (m', as, rest, pc')))) (hM : zMet l G X d m' as h v h') (k : zGo p l e R s m args below meth c Q G A M h0 pc' ls (v.toList ++ rest) h') : zGo p l e R s m args below meth c Q G A M h0 pc ls st h := by
  have hts := C.2.2.2.2.1
  intro H locs cells slots lr a1 a2 a3 a4 a5 a6
  refine zw_size C a1 a3 a5 hl (fun hsz => ?_)
  have hf : cells + (h'.length - h.length) ≤ R.cells ∧ slots + (zsz h' - zsz h) ≤ R.slots := ⟨by omega, by omega⟩
  have hrm : ∀ n, n ≤ 80 → (zRm d (h'.length - h.length) (zsz h' - zsz h)).frames + 1 ≤ R.frames ∧ 8 + (n + 11) + (zRm d (h'.length - h.length) (zsz h' - zsz h)).locals ≤ R.locals := by
    intro n hn
    show d + 1 + 1 ≤ R.frames ∧ 8 + (n + 11) + 100 * (d + 1) ≤ R.locals
    omega
  cases i
  case invokevirtual idx =>
    replace hs : zcallV M.1 idx len pc st h = some (.inr (.inl (m', as, rest, pc'))) := hs
    obtain ⟨n, b, a, rfl, rfl, ⟨hkM, hpar, hk0, -⟩, rfl, ha, rfl, hrc, hcat, hloc⟩ := zcallV_inv hs
    obtain ⟨w1, w2, w3⟩ := hk0 rfl
    dsimp only at hkM hpar w1 w2 w3
    have hini := hkM.2.2.2.2.1
    have hrecv : ∃ cell : Cell, H[zad G b]? = some cell ∧ cell.vm.isStatics = false ∧ s.vm.findClass m'.2.1.cls = some cell.cls := by
      unfold zrecv at hrc
      split at hrc
      · split at hrc
        · next c2 fs hx =>
          have hrc := of_decide_eq_true hrc
          subst hrc
          cases hq : zcl[m'.1]? with
          | none =>
            have := a1 _ _ (zcW_at (G := G) hx)
            obtain ⟨r, g1, -⟩ := this
            dsimp only [zcE] at g1
            rw [hq] at g1
            cases g1
          | some q =>
            have := va_recv C.2.2.2.2.2.2.1 a1 hq (zcW_at (G := G) hx)
            rw [(zcl_at hq).2.1, hkM.1] at this
            exact this
        · cases hrc
      · have hrc := of_decide_eq_true hrc
        obtain ⟨cell, g1, g2, g3, -⟩ := (((C.2.2.2.2.2.2.2.1.2.2.2.2.1 b hrc.2).1).kept a3.2.1)
        have e9 : m'.2.1.cls = "java/lang/String" := by
          rw [← hkM.1, hrc.1]
          rfl
        rw [e9]
        exact ⟨cell, g1, g2, g3⟩
    have hmap : ((a.reverse ++ Value.ref b :: rest).map (zcV G)) = (a.map (zcV G)).reverse ++ .ref (zad G b) :: rest.map (zcV G) := by
      rw [List.map_append, List.map_reverse]
      rfl
    refine zback (g := F0 m pc lr ((a.reverse ++ Value.ref b :: rest).map (zcV G))) (aa := (Value.ref (zad G b) :: a.map (zcV G)).toArray) C hsz a2 a3 a4 a5 a6 hm1 hm2 rfl ?_ k
    refine va_runV (nL := M.2.2.2.1) (C := m'.2.1.cls) (b := zad G b) (As := a.map (zcV G)) (bytes := m'.2.2.1) (maxL := m'.2.2.2.1) (ret := m'.2.2.2.2) (n := n) ⟨C.1, C.2.1, C.2.2.1, C.2.2.2.1, hts⟩ hM (cwV n hts (zgoodA hkM ?_) rfl rfl rfl ⟨rfl, hkM.2.2.2.1.1, hkM.2.2.2.1.2, hpar⟩ (hrm _ hkM.2.1)) ⟨zPc_blind G X h _, hrecv, zenter C hsz a1 a2 a3 (.ref b :: a)⟩ rfl (by rw [List.length_map]; exact ha) a4.2.1 hmap (lv_room (by rw [zcat_map]; exact hcat)) hd hf
    intro w hw
    simp only [List.mem_cons, List.not_mem_nil, or_false] at hw
    rcases hw with rfl | rfl | rfl | rfl
    · exact w1
    · exact w2
    · exact w3
    · exact hini
  case invokestatic idx =>
    replace hs : zinvS X M idx len pc ls st h = some (.inr (.inl (m', as, rest, pc'))) := hs
    unfold zinvS at hs
    split at hs
    · exfalso
      split at hs
      · unfold zcopy at hs
        have e0 := (zL_inv hs).1
        replace hs := (zL_inv hs).2
        have tz := z1i_inv hs
        clear hs
        obtain ⟨_, r, -, hs⟩ := tz
        have tz := z1i_inv hs
        clear hs
        obtain ⟨_, r, -, hs⟩ := tz
        have tz := z1r_inv hs
        clear hs
        obtain ⟨_, r, -, hs⟩ := tz
        have tz := z1i_inv hs
        clear hs
        obtain ⟨_, r, -, hs⟩ := tz
        have tz := z1r_inv hs
        clear hs
        obtain ⟨_, r, -, hs⟩ := tz
        have tz := zif_inv hs
        clear hs
        obtain ⟨-, hs⟩ := tz
        split at hs
        · exact absurd (zif_inv hs).2 (by intro q; cases q)
        · exact absurd (zif_inv hs).2 (by intro q; cases q)
        · cases hs
      · split at hs
        · obtain ⟨_, _, _, -, hs⟩ := z2i_inv (zL_inv hs).2
          exact absurd (zif_inv hs).2 (by intro q; cases q)
        · split at hs
          · obtain ⟨_, _, _, -, hs⟩ := z2i_inv (zL_inv hs).2
            exact absurd (zif_inv hs).2 (by intro q; cases q)
          · split at hs
            · obtain ⟨_, _, -, hs⟩ := z1i_inv (zL_inv hs).2
              exact absurd (zif_inv hs).2 (by intro q; cases q)
            · cases hs
    · obtain ⟨n, rfl, rfl, ⟨hkM, hpar, -, hk1, -⟩, ha, rfl, hcat, hloc⟩ := zcallS_inv hs
      obtain ⟨w1, w2⟩ := hk1 rfl
      dsimp only at hkM hpar w1 w2
      have hini := hkM.2.2.2.2.1
      have hmap : ((as.reverse ++ rest).map (zcV G)) = (as.map (zcV G)).reverse ++ rest.map (zcV G) := by
        rw [List.map_append, List.map_reverse]
      refine zback (g := F0 m pc lr ((as.reverse ++ rest).map (zcV G))) (aa := (as.map (zcV G)).toArray) C hsz a2 a3 a4 a5 a6 hm1 hm2 rfl ?_ k
      refine va_runS (nL := M.2.2.2.1) (As := as.map (zcV G)) (bytes := m'.2.2.1) (maxL := m'.2.2.2.1) (ret := m'.2.2.2.2) (n := n) ⟨C.1, C.2.1, C.2.2.1, C.2.2.2.1, hts⟩ hM (va_cwS n hts (zgoodA hkM ?_) rfl rfl rfl ⟨hkM.2.2.2.1.1, hkM.2.2.2.1.2, hpar⟩ (hrm _ hkM.2.1)) ⟨zPc_blind G X h _, zenter C hsz a1 a2 a3 as⟩ rfl (by rw [List.length_map]; exact ha) a4.2.1 hmap (lv_room (by rw [zcat_map]; exact hcat)) hd hf
      intro w hw
      simp only [List.mem_cons, List.not_mem_nil, or_false] at hw
      rcases hw with rfl | rfl | rfl
      · exact w1
      · exact w2
      · exact hini
  case invokespecial idx =>
    replace hs : zinvI M idx len pc ls st h = some (.inr (.inl (m', as, rest, pc'))) := hs
    unfold zinvI at hs
    split at hs
    · exfalso
      split at hs
      · obtain ⟨_, _, -, hs⟩ := z1r_inv (zL_inv hs).2
        exact absurd (zif_inv hs).2 (by intro q; cases q)
      · cases hs
    · obtain ⟨kd, n, b, a, rfl, rfl, hkd, ⟨hkM, hpar, -, -, hk2, hk3⟩, rfl, ha, rfl, hcat, hloc⟩ := zcallI_inv hs
      dsimp only at hkM hpar hk2 hk3
      have hini := hkM.2.2.2.2.1
      have hmap : ((a.reverse ++ Value.ref b :: rest).map (zcV G)) = (a.map (zcV G)).reverse ++ .ref (zad G b) :: rest.map (zcV G) := by
        rw [List.map_append, List.map_reverse]
        rfl
      refine zback (g := F0 m pc lr ((a.reverse ++ Value.ref b :: rest).map (zcV G))) (aa := (Value.ref (zad G b) :: a.map (zcV G)).toArray) C hsz a2 a3 a4 a5 a6 hm1 hm2 rfl ?_ k
      rcases hkd with rfl | rfl
      · obtain ⟨w1, w2, w3, w4⟩ := hk2 rfl
        have hw : zws m' = Cond.code m'.2.1 m'.2.2.1 m'.2.2.2.1 none :: zTB := by unfold zws; rw [w4]
        exact va_runI (nL := M.2.2.2.1) (b := zad G b) (As := a.map (zcV G)) (bytes := m'.2.2.1) (maxL := m'.2.2.2.1) (n := n) ⟨C.1, C.2.1, C.2.2.1, C.2.2.2.1, hts⟩ hM (cwI n hts (zgood hkM) hw rfl rfl (hts _ hini) (hts _ w1) (hts _ w2) w3 ⟨hkM.2.2.2.1.1, hkM.2.2.2.1.2, hpar⟩ (hrm _ hkM.2.1)) ⟨zPc_blind G X h _, zenter C hsz a1 a2 a3 (.ref b :: a)⟩ rfl (by rw [List.length_map]; exact ha) a4.2.1 hmap (lv_room (by rw [zcat_map]; exact hcat)) hd hf
      · obtain ⟨w1, w2, w3, w4⟩ := hk3 rfl
        have hw : zws m' = Cond.code m'.2.1 m'.2.2.1 m'.2.2.2.1 none :: zTB := by unfold zws; rw [w4]
        have hnw := C.2.2.2.2.2.2.2.2.1.2.2.1 _ w1
        exact va_runIN (nL := M.2.2.2.1) (b := zad G b) (As := a.map (zcV G)) (bytes := m'.2.2.1) (maxL := m'.2.2.2.1) (n := n) (host := RX11) ⟨C.1, C.2.1, C.2.2.1, C.2.2.2.1, hts⟩ hM ⟨va_cnB n hts (zgood hkM) hw rfl rfl hnw (hts _ hini) ⟨hkM.2.2.2.1.1, hkM.2.2.2.1.2, hpar⟩ (hrm _ hkM.2.1), w3, hts _ w2⟩ ⟨zPc_blind G X h _, zenter C hsz a1 a2 a3 (.ref b :: a)⟩ rfl (by rw [List.length_map]; exact ha) a4.2.1 hmap (lv_room (by rw [zcat_map]; exact hcat)) hd hf
  case ireturn =>
    replace hs := (zL_inv hs).2
    split at hs
    · exact absurd (zif_inv hs).2 (by intro q; cases q)
    · cases hs
  case lreturn =>
    replace hs := (zL_inv hs).2
    split at hs
    · cases hs
    · cases hs
  case return_ =>
    replace hs := (zL_inv hs).2
    split at hs
    · cases hs
    · cases hs
  all_goals exact absurd hs (zP1_no (zplain X M _ len pc ls st h (by intro _ q; cases q) (by intro _ q; cases q) (by intro _ q; cases q) (by intro q; cases q) (by intro q; cases q) (by intro q; cases q)))
end ZPM
