section ZPZ
variable {p : Program} {l : Launch} {e : Env} {R : Room} {s : State} {m : MethodId} {args : Array Value} {below : List Frame} {meth : Method} {c : Code} {Q : State → Prop} {G : zG} {X : zX} {A : Nat → Prop} {M : zM} {h0 : zH}
variable {pc pc' len : Nat} {ls ls' st st' : List Value} {h h' : zH}
/-- one step that neither calls nor returns -/
theorem zo_next {i : Instr} (C : zCx p s m args meth c G X A M h0) (hR : 1 ≤ R.frames ∧ 100 ≤ R.locals) (hb1 : h'.length ≤ h0.length + R.cells) (hb2 : zsz h' ≤ zsz h0 + R.slots) (hd : decode M.2.2.1 pc = .ok (i, len)) (hs : zins X M i len pc ls st h = some (.inl (pc', ls', st', h'))) (k : zGo p l e R s m args below meth c Q G A M h0 pc' ls' st' h') : zGo p l e R s m args below meth c Q G A M h0 pc ls st h := by
  have hm := zmono X M i len pc ls st h _ _ _ _ hs
  cases i
  case iconst => exact zo_iconst C hd hs k
  case bipush => exact zo_bipush C hd hs k
  case sipush => exact zo_sipush C hd hs k
  case lconst => exact zo_lconst C hd hs k
  case iload_n => exact zo_iload_n C hd hs k
  case iload => exact zo_iload C hd hs k
  case lload_n => exact zo_lload_n C hd hs k
  case lload => exact zo_lload C hd hs k
  case aload_n => exact zo_aload_n C hd hs k
  case aload => exact zo_aload C hd hs k
  case istore_n => exact zo_istore_n C hd hs k
  case istore => exact zo_istore C hd hs k
  case astore_n => exact zo_astore_n C hd hs k
  case astore => exact zo_astore C hd hs k
  case lstore => exact zo_lstore C hd hs k
  case iinc => exact zo_iinc C hd hs k
  case iadd => exact zo_iadd C hd hs k
  case isub => exact zo_isub C hd hs k
  case imul => exact zo_imul C hd hs k
  case iand => exact zo_iand C hd hs k
  case ior => exact zo_ior C hd hs k
  case ixor => exact zo_ixor C hd hs k
  case idiv => exact zo_idiv C hd hs k
  case irem => exact zo_irem C hd hs k
  case ishl => exact zo_ishl C hd hs k
  case ishr => exact zo_ishr C hd hs k
  case iushr => exact zo_iushr C hd hs k
  case ineg => exact zo_ineg C hd hs k
  case ladd => exact zo_ladd C hd hs k
  case land => exact zo_land C hd hs k
  case lor => exact zo_lor C hd hs k
  case lshl => exact zo_lshl C hd hs k
  case lcmp => exact zo_lcmp C hd hs k
  case i2l => exact zo_i2l C hd hs k
  case l2i => exact zo_l2i C hd hs k
  case i2b => exact zo_i2b C hd hs k
  case i2s => exact zo_i2s C hd hs k
  case i2c => exact zo_i2c C hd hs k
  case dup => exact zo_dup C hd hs k
  case pop => exact zo_pop C hd hs k
  case dup_x1 => exact zo_dup_x1 C hd hs k
  case dup2 => exact zo_dup2 C hd hs k
  case ifCond => exact zo_ifCond C hd hs k
  case if_icmp => exact zo_if_icmp C hd hs k
  case goto => exact zo_goto C hd hs k
  case tableswitch => exact zo_tableswitch C hd hs k
  case lookupswitch => exact zo_lookupswitch C hd hs k
  case getfield => exact zo_getfield C hd hs k
  case putfield => exact zo_putfield C hd hs k
  case getstatic => exact zo_getstatic C hd hs k
  case ldc => exact zo_ldc C hd hs k
  case ldc_w => exact zo_ldc_w C hd hs k
  case ldc2_w => exact zo_ldc2_w C hd hs k
  case iaload => exact zo_iaload C hd hs k
  case baload => exact zo_baload C hd hs k
  case saload => exact zo_saload C hd hs k
  case iastore => exact zo_iastore C hd hs k
  case bastore => exact zo_bastore C hd hs k
  case sastore => exact zo_sastore C hd hs k
  case laload => exact zo_laload C hd hs k
  case lastore => exact zo_lastore C hd hs k
  case aaload => exact zo_aaload C hd hs k
  case aastore => exact zo_aastore C hd hs k
  case arraylength => exact zo_arraylength C hd hs k
  case newarray => exact zo_newarray C hd hs hb1 hb2 k
  case anewarray => exact zo_anewarray C hd hs hb1 hb2 k
  case new => exact zo_new C hd hs hb1 hb2 k
  case invokevirtual idx =>
    replace hs : zcallV M.1 idx len pc st h = some (.inl (pc', ls', st', h')) := hs
    unfold zcallV at hs
    obtain ⟨_, _, hs⟩ := zof_inv (zL_inv hs).2
    obtain ⟨_, _, hs⟩ := zof_inv (zif_inv hs).2
    obtain ⟨_, _, _, hs⟩ := z1r_inv hs
    exact absurd (zif_inv hs).2 (by intro q; cases q)
  case invokestatic idx =>
    cases hf : zfind zspT M.1 idx with
    | some kk => exact zo_static C hR (by omega) (by omega) hd hf hs k
    | none =>
      replace hs : zinvS X M idx len pc ls st h = some (.inl (pc', ls', st', h')) := hs
      unfold zinvS at hs
      rw [hf] at hs
      replace hs : zcallS M.1 idx len pc st = some (.inl (pc', ls', st', h')) := hs
      unfold zcallS at hs
      obtain ⟨_, _, hs⟩ := zof_inv (zL_inv hs).2
      obtain ⟨_, _, hs⟩ := zof_inv (zif_inv hs).2
      exact absurd (zif_inv hs).2 (by intro q; cases q)
  case invokespecial idx =>
    cases hf : zfind zspT M.1 idx with
    | some kk => exact zo_special C hR hd hf hs k
    | none =>
      replace hs : zinvI M idx len pc ls st h = some (.inl (pc', ls', st', h')) := hs
      unfold zinvI at hs
      rw [hf] at hs
      replace hs : zcallI M.1 idx len pc st = some (.inl (pc', ls', st', h')) := hs
      unfold zcallI at hs
      obtain ⟨_, _, hs⟩ := zof_inv (zL_inv hs).2
      obtain ⟨_, _, hs⟩ := zof_inv (zif_inv hs).2
      obtain ⟨_, _, _, hs⟩ := z1r_inv hs
      exact absurd (zif_inv hs).2 (by intro q; cases q)
  case ireturn =>
    replace hs := (zL_inv hs).2
    split at hs
    · exact absurd (zif_inv hs).2 (by intro q; cases q)
    · cases hs
  case lreturn =>
    replace hs := (zL_inv hs).2
    split at hs
    · cases hs
    · cases hs
  case return_ =>
    replace hs := (zL_inv hs).2
    split at hs
    · cases hs
    · cases hs
  all_goals cases hs
/-- a run of the small machine, so many steps at most, is a run of the machine -/
def zSnd (l : Launch) (G : zG) (X : zX) (n : Nat) : Prop := ∀ {p : Program} {e : Env} {R : Room} {s : State} {m : MethodId} {args : Array Value} {below : List Frame} {meth : Method} {c : Code} {Q : State → Prop} {A : Nat → Prop} {M : zM} {h0 : zH} {d pc : Nat} {ls st : List Value} {h : zH} {v : Option Value} {hf : zH}, zev X n d M pc ls st h = some (v, hf) → zCx p s m args meth c G X A M h0 → hf.length ≤ 1000 → d + 1 ≤ R.frames ∧ 100 * (d + 1) ≤ R.locals → hf.length ≤ h0.length + R.cells → zsz hf ≤ zsz h0 + R.slots →
  (∀ (pc : Nat) (ls st : List Value), zstep X M pc ls st hf = some (.inr (.inr v)) → zGo p l e R s m args below meth c Q G A M h0 pc ls st hf) → zGo p l e R s m args below meth c Q G A M h0 pc ls st h
theorem zinvS_nr {idx : Nat} {v : Option Value} : ¬ zins X M (.invokestatic idx) len pc ls st h = some (.inr (.inr v)) := by
  intro hs
  replace hs : zinvS X M idx len pc ls st h = some (.inr (.inr v)) := hs
  unfold zinvS at hs
  split at hs
  · split at hs
    · refine zP1_nr ?_ hs
      unfold zcopy
      refine zP1_L (zP1_1i (fun _ _ => zP1_1i (fun _ _ => zP1_1r (fun _ _ => zP1_1i (fun _ _ => zP1_1r (fun _ _ => zP1_if ?_))))))
      split
      · exact zP1_if zP1_go
      · exact zP1_if zP1_go
      · exact zP1_none
    · split at hs
      · exact zP1_nr (zP1_L (zP1_2i (fun _ _ _ => zP1_if zP1_go))) hs
      · split at hs
        · exact zP1_nr (zP1_L (zP1_2i (fun _ _ _ => zP1_if zP1_go))) hs
        · split at hs
          · exact zP1_nr (zP1_L (zP1_1i (fun _ _ => zP1_if zP1_go))) hs
          · cases hs
  · unfold zcallS at hs
    obtain ⟨_, _, hs⟩ := zof_inv (zL_inv hs).2
    obtain ⟨_, _, hs⟩ := zof_inv (zif_inv hs).2
    exact absurd (zif_inv hs).2 (by intro q; cases q)
theorem zinvI_nr {idx : Nat} {v : Option Value} : ¬ zins X M (.invokespecial idx) len pc ls st h = some (.inr (.inr v)) := by
  intro hs
  replace hs : zinvI M idx len pc ls st h = some (.inr (.inr v)) := hs
  unfold zinvI at hs
  split at hs
  · split at hs
    · exact zP1_nr (zP1_L (zP1_1r (fun _ _ => zP1_if zP1_go))) hs
    · cases hs
  · unfold zcallI at hs
    obtain ⟨_, _, hs⟩ := zof_inv (zL_inv hs).2
    obtain ⟨_, _, hs⟩ := zof_inv (zif_inv hs).2
    obtain ⟨_, _, _, hs⟩ := z1r_inv hs
    exact absurd (zif_inv hs).2 (by intro q; cases q)
/-- of every call the callee is known, and its arguments fit -/
theorem zcall_any {i : Instr} {m' : zM} {as rest : List Value} (hs : zins X M i len pc ls st h = some (.inr (.inl (m', as, rest, pc')))) : zOkM m' ∧ (zlocs as).length ≤ m'.2.2.2.1 := by
  cases i
  case invokevirtual idx =>
    replace hs : zcallV M.1 idx len pc st h = some (.inr (.inl (m', as, rest, pc'))) := hs
    obtain ⟨n, b, a, -, -, hk, -, -, -, -, -, hn⟩ := zcallV_inv hs
    exact ⟨hk.1, hn⟩
  case invokestatic idx =>
    replace hs : zinvS X M idx len pc ls st h = some (.inr (.inl (m', as, rest, pc'))) := hs
    unfold zinvS at hs
    split at hs
    · exfalso
      split at hs
      · refine zP1_no ?_ hs
        unfold zcopy
        refine zP1_L (zP1_1i (fun _ _ => zP1_1i (fun _ _ => zP1_1r (fun _ _ => zP1_1i (fun _ _ => zP1_1r (fun _ _ => zP1_if ?_))))))
        split
        · exact zP1_if zP1_go
        · exact zP1_if zP1_go
        · exact zP1_none
      · split at hs
        · exact zP1_no (zP1_L (zP1_2i (fun _ _ _ => zP1_if zP1_go))) hs
        · split at hs
          · exact zP1_no (zP1_L (zP1_2i (fun _ _ _ => zP1_if zP1_go))) hs
          · split at hs
            · exact zP1_no (zP1_L (zP1_1i (fun _ _ => zP1_if zP1_go))) hs
            · cases hs
    · obtain ⟨n, -, -, hk, -, -, -, hn⟩ := zcallS_inv hs
      exact ⟨hk.1, hn⟩
  case invokespecial idx =>
    replace hs : zinvI M idx len pc ls st h = some (.inr (.inl (m', as, rest, pc'))) := hs
    unfold zinvI at hs
    split at hs
    · exfalso
      split at hs
      · exact zP1_no (zP1_L (zP1_1r (fun _ _ => zP1_if zP1_go))) hs
      · cases hs
    · obtain ⟨kd, n, b, a, -, -, -, hk, -, -, -, -, hn⟩ := zcallI_inv hs
      exact ⟨hk.1, hn⟩
  case ireturn =>
    replace hs := (zL_inv hs).2
    split at hs
    · exact absurd (zif_inv hs).2 (by intro q; cases q)
    · cases hs
  case lreturn =>
    replace hs := (zL_inv hs).2
    split at hs
    · cases hs
    · cases hs
  case return_ =>
    replace hs := (zL_inv hs).2
    split at hs
    · cases hs
    · cases hs
  all_goals exact absurd hs (zP1_no (zplain X M _ len pc ls st h (by intro _ q; cases q) (by intro _ q; cases q) (by intro _ q; cases q) (by intro q; cases q) (by intro q; cases q) (by intro q; cases q)))
theorem zmet_of {n d : Nat} {m' : zM} {as : List Value} {v : Option Value} (ih : zSnd l G X n) (hev : zev X n d m' 0 (zpad as m'.2.2.2.1) [] h = some (v, h')) (hk : zOkM m') (hn : (zlocs as).length ≤ m'.2.2.2.1) (hl : h'.length ≤ 1000) : zMet l G X d m' as h v h' := by
  unfold zMet
  refine Met.ofW (cc := m'.2.2.1) (maxL := m'.2.2.2.1) (ret := m'.2.2.2.2) hk.2.2.1 rfl ?_
  intro p e s m args below meth c s₁ B hml hv
  obtain ⟨rfl, hsz, hP, hD0, hK, hSh, hSv⟩ := hv
  have hx := B.exec
  have hb := B.bytes
  have hr := B.returns
  have hts := atoms_spec (ws := zws m') B.pre
  have hown : s.vm.findClass m'.2.1.cls = some m.cls := findClass_of_methodNamed B.named
  have hlocks := B.notSynchronized
  have hname : meth.name = m'.2.1.name := (name_of_methodNamed B.named B.method).1
  have hmo := zev_heap X n hev
  have C : zCx p s m ((as.map (zcV G)).toArray) meth c G X (va_A (zcW G h) s.heap.size) m' h := ⟨hx, hb, hml, by rw [hk.1]; exact hown, fun w hw => hts w (List.mem_cons_of_mem _ hw), fun q => hname.trans q, hK, hSh, hSv, fun q hq => Or.inr hq, hsz⟩
  rw [lg_entry_eq]
  refine ih (A := va_A (zcW G h) s.heap.size) (h0 := h) hev C hl ⟨Nat.le_refl _, Nat.le_refl _⟩ ?_ ?_ ?_ s.heap [] 0 0 _ hP (hD0.self (sz := s.heap.size)) va_S.rf (zLv.entry G hn) (by simp) (by simp)
  · show h'.length ≤ h.length + (h'.length - h.length)
    omega
  · show zsz h' ≤ zsz h + (zsz h' - zsz h)
    omega
  · intro pc ls st hst H locs cells slots lr a1 a2 a3 a4 a5 a6
    have ec : h'.length - h.length = cells := by omega
    have es : zsz h' - zsz h = slots := by omega
    rw [ec, es, ← hsz]
    have hq : ∀ (w : Option Value) (t : State), w = v.map (zcV G) → t.heap = H → s.WarmedH t.vm → zQ G h v h' ((as.map (zcV G)).toArray) s (.returned w) t := by
      intro w t hw ht hW
      exact ⟨by rw [hw], ⟨by rw [ht]; exact a1, a2⟩, a3.F ht⟩
    unfold zstep at hst
    split at hst
    · next q hd =>
      obtain ⟨i, len⟩ := q
      dsimp only at hst
      cases i
      case ireturn =>
        have e0 := (zL_inv hst).1
        replace hst := (zL_inv hst).2
        subst e0
        split at hst
        · next x ty h1 =>
          have hn2 := of_decide_eq_true (zif_inv hst).1
          have hst := (zif_inv hst).2
          cases hst
          exact W.zret hx hb (hr.trans h1) hn2 (fun t ht hW => hq _ t rfl ht hW) a3.2.2 hd hlocks
        · cases hst
      case lreturn =>
        have e0 := (zL_inv hst).1
        replace hst := (zL_inv hst).2
        subst e0
        split at hst
        · next x h1 =>
          cases hst
          exact W.lret hx hb (hr.trans h1) (fun t ht hW => hq _ t rfl ht hW) a3.2.2 hd hlocks
        · cases hst
      case return_ =>
        have e0 := (zL_inv hst).1
        replace hst := (zL_inv hst).2
        subst e0
        split at hst
        · next h1 =>
          cases hst
          exact W.vret hx hb (hr.trans h1) (fun t ht hW => hq _ t rfl ht hW) a3.2.2 hd hlocks
        · cases hst
      case invokevirtual idx =>
        replace hst : zcallV m'.1 idx len pc st h' = some (.inr (.inr v)) := hst
        unfold zcallV at hst
        obtain ⟨_, _, hst⟩ := zof_inv (zL_inv hst).2
        obtain ⟨_, _, hst⟩ := zof_inv (zif_inv hst).2
        obtain ⟨_, _, _, hst⟩ := z1r_inv hst
        exact absurd (zif_inv hst).2 (by intro q; cases q)
      case invokestatic idx => exact absurd hst zinvS_nr
      case invokespecial idx => exact absurd hst zinvI_nr
      all_goals exact absurd hst (zP1_nr (zplain X m' _ len pc ls st h' (by intro _ q; cases q) (by intro _ q; cases q) (by intro _ q; cases q) (by intro q; cases q) (by intro q; cases q) (by intro q; cases q)))
    · cases hst
/-- SOUNDNESS -/
theorem zsound (l : Launch) (G : zG) (X : zX) : ∀ n, zSnd l G X n := by
  intro n
  induction n with
  | zero => intro p e R s m args below meth c Q A M h0 d pc ls st h v hf he; simp [zev] at he
  | succ n ih =>
    intro p e R s m args below meth c Q A M h0 d pc ls st h v hf he C hl hR hb1 hb2 hret
    unfold zev at he
    revert he
    cases hs : zstep X M pc ls st h with
    | none => intro he; cases he
    | some q =>
      have hs0 := hs
      unfold zstep at hs
      split at hs
      · next q0 hd =>
        obtain ⟨i, len⟩ := q0
        dsimp only at hs
        rcases q with ⟨pc', ls', st', h1⟩ | ⟨m', as, rest, pc'⟩ | w
        · intro he
          have hg := zev_heap X n he
          exact zo_next C ⟨by omega, by omega⟩ (by omega) (by omega) hd hs (ih he C hl hR hb1 hb2 hret)
        · cases d with
          | zero => intro he; cases he
          | succ d' =>
            dsimp only
            cases hc : zev X n d' m' 0 (zpad as m'.2.2.2.1) [] h with
            | none => intro he; cases he
            | some q =>
              intro he
              obtain ⟨v1, h1⟩ := q
              replace he : zev X n (d' + 1) M pc' ls (v1.toList ++ rest) h1 = some (v, hf) := he
              have g1 := zev_heap X n hc
              have g2 := zev_heap X n he
              obtain ⟨hk, hn⟩ := zcall_any hs
              exact zo_call C (by omega) ⟨by omega, by omega⟩ (by omega) (by omega) g1.1 g1.2 hd hs (zmet_of ih hc hk hn (by omega)) (ih he C hl hR hb1 hb2 hret)
        · intro he
          cases he
          exact hret pc ls st hs0
      · cases hs
end ZPZ
