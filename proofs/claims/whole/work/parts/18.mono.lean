/-! the heap only grows -/
def zMn (h0 : zH) (r : zR4) : Prop := ∀ pc ls st h, r = some (.inl (pc, ls, st, h)) → h0.length ≤ h.length ∧ zsz h0 ≤ zsz h
theorem zMn_none {h0 : zH} : zMn h0 none := fun _ _ _ _ e => by cases e
theorem zMn_go {h0 : zH} {pc : Nat} {ls st : List Value} : zMn h0 (zgo pc ls st h0) := fun _ _ _ _ e => by cases e; exact ⟨Nat.le_refl _, Nat.le_refl _⟩
theorem zMn_L {h0 : zH} {len n : Nat} {r : zR4} (k : zMn h0 r) : zMn h0 (zL len n r) := by unfold zL; split; exact k; exact zMn_none
theorem zMn_1i {h0 : zH} {st : List Value} {k : Int32 → List Value → zR4} (hk : ∀ x r, zMn h0 (k x r)) : zMn h0 (z1i st k) := by unfold z1i; split; exact hk _ _; exact zMn_none
theorem zMn_1l {h0 : zH} {st : List Value} {k : Int64 → List Value → zR4} (hk : ∀ x r, zMn h0 (k x r)) : zMn h0 (z1l st k) := by unfold z1l; split; exact hk _ _; exact zMn_none
theorem zMn_1r {h0 : zH} {st : List Value} {k : Nat → List Value → zR4} (hk : ∀ x r, zMn h0 (k x r)) : zMn h0 (z1r st k) := by unfold z1r; split; exact hk _ _; exact zMn_none
theorem zMn_2i {h0 : zH} {st : List Value} {k : Int32 → Int32 → List Value → zR4} (hk : ∀ x y r, zMn h0 (k x y r)) : zMn h0 (z2i st k) := zMn_1i (fun y _ => zMn_1i (fun x r => hk x y r))
theorem zMn_2l {h0 : zH} {st : List Value} {k : Int64 → Int64 → List Value → zR4} (hk : ∀ x y r, zMn h0 (k x y r)) : zMn h0 (z2l st k) := zMn_1l (fun y _ => zMn_1l (fun x r => hk x y r))
theorem zMn_ldi {h0 : zH} {ls : List Value} {i : Nat} {k : Value → zR4} (hk : ∀ v, zMn h0 (k v)) : zMn h0 (zldi ls i k) := by unfold zldi; split; exact hk _; exact zMn_none
theorem zMn_ldl {h0 : zH} {ls : List Value} {i : Nat} {k : Value → zR4} (hk : ∀ v, zMn h0 (k v)) : zMn h0 (zldl ls i k) := by unfold zldl; split; exact hk _; exact zMn_none
theorem zMn_ldr {h0 : zH} {ls : List Value} {i : Nat} {k : Value → zR4} (hk : ∀ v, zMn h0 (k v)) : zMn h0 (zldr ls i k) := by unfold zldr; split; exact hk _; exact zMn_none
theorem zMn_if {h0 : zH} {b : Bool} {r : zR4} (k : zMn h0 r) : zMn h0 (zif b r) := by cases b; exact zMn_none; exact k
theorem zMn_of {h0 : zH} {α : Type} {o : Option α} {k : α → zR4} (hk : ∀ q, zMn h0 (k q)) : zMn h0 (zof o k) := by cases o; exact zMn_none; exact hk _
theorem zMn_top {h0 : zH} {st : List Value} {k : Value → List Value → zR4} (hk : ∀ v r, zMn h0 (k v r)) : zMn h0 (ztop st k) := by
  unfold ztop
  split
  · next v r =>
    by_cases hc : v.category = 1
    · rw [decide_eq_true hc]; exact hk _ _
    · rw [decide_eq_false hc]; exact zMn_none
  · exact zMn_none
theorem zMn_br {h0 : zH} {pc : Nat} {off : Int} {b : Bool} {ls st : List Value} : zMn h0 (zbr pc off b ls st h0) := by unfold zbr; split; exact zMn_go; exact zMn_none
theorem zMn_jmp {h0 : zH} {pc : Nat} {off : Int} {ls st : List Value} : zMn h0 (zjmp pc off ls st h0) := by unfold zjmp; split; exact zMn_go; exact zMn_none
theorem zMn_ald {h : zH} {X : zX} {t len pc : Nat} {ls st : List Value} : zMn h (zald X t len pc ls st h) := zMn_L (zMn_1i (fun _ _ => zMn_1r (fun _ _ => zMn_of (fun _ => zMn_if zMn_go))))
theorem zMn_set {h : zH} {pc : Nat} {ls st : List Value} {a : Nat} {x x' : zE} (hx : h[a]? = some x) (hz : zone x' = zone x) : zMn h (zgo pc ls st (h.set a x')) := fun _ _ _ _ e => by
  cases e
  rw [List.length_set, zsz_set hx hz]
  exact ⟨Nat.le_refl _, Nat.le_refl _⟩
theorem zMn_push {h : zH} {pc : Nat} {ls st : List Value} {x : zE} : zMn h (zgo pc ls st (h ++ [x])) := fun _ _ _ _ e => by
  cases e
  rw [zsz_push, List.length_append]
  omega
theorem zMn_ast {h : zH} {t len pc : Nat} {ls st : List Value} : zMn h (zast t len pc ls st h) := by
  intro pc' ls' st' h' hs
  obtain ⟨x, i, a, r, n, f, -, -, -, hh, -, -, -, -, rfl⟩ := zast_inv hs
  rw [List.length_set, zsz_set hh (by rfl)]
  exact ⟨Nat.le_refl _, Nat.le_refl _⟩
theorem zMn_put {h : zH} {m : zM} {idx len pc : Nat} {ls st : List Value} : zMn h (zput m idx len pc ls st h) := by
  unfold zput
  refine zMn_L ?_
  split
  · refine zMn_of (fun q => zMn_if ?_)
    intro pc' ls' st' h' hs
    obtain ⟨h2, hh, hs⟩ := zof_inv hs
    obtain ⟨-, -, -, rfl⟩ := zgo_inv hs
    unfold zpf at hh
    split at hh
    · split at hh
      · next c2 fs hx =>
        split at hh
        · cases hh
          rw [List.length_set, zsz_set hx (by simp [zone])]
          exact ⟨Nat.le_refl _, Nat.le_refl _⟩
        · cases hh
      · cases hh
    · cases hh
  · exact zMn_none
theorem zMn_last {h : zH} {len pc : Nat} {ls st : List Value} : zMn h (zL len 1 (z1l st (fun x r => z1i r (fun i r => z1r r (fun a r => zof (zla h a) (fun q => zif (zin i q.1) (zof (zpl h a i.toNatClampNeg x) (fun h' => zgo (pc + 1) ls r h')))))))) := by
  refine zMn_L (zMn_1l (fun x r => zMn_1i (fun i r => zMn_1r (fun a r => zMn_of (fun q => zMn_if ?_)))))
  intro pc' ls' st' h' hs
  obtain ⟨h2, hh, hs⟩ := zof_inv hs
  obtain ⟨-, -, -, rfl⟩ := zgo_inv hs
  unfold zpl at hh
  split at hh
  · split at hh
    · next u n f hx =>
      split at hh
      · cases hh
        rw [List.length_set, zsz_set hx (by rfl)]
        exact ⟨Nat.le_refl _, Nat.le_refl _⟩
      · cases hh
    · cases hh
  · cases hh
theorem zMn_aast {h : zH} {len pc : Nat} {ls st : List Value} : zMn h (zL len 1 (z1r st (fun x r => z1i r (fun i r => z1r r (fun a r => zof (zra h a) (fun q => zif (zin i q.2.1 && zrecv h (if q.1 = 4 then 8 else 2) x && decide (x < 1000)) (zof (zpr h a i.toNatClampNeg x) (fun h' => zgo (pc + 1) ls r h')))))))) := by
  refine zMn_L (zMn_1r (fun x r => zMn_1i (fun i r => zMn_1r (fun a r => zMn_of (fun q => zMn_if ?_)))))
  intro pc' ls' st' h' hs
  obtain ⟨h2, hh, hs⟩ := zof_inv hs
  obtain ⟨-, -, -, rfl⟩ := zgo_inv hs
  unfold zpr at hh
  split at hh
  · split at hh
    · next u n f hx =>
      split at hh
      · cases hh
        rw [List.length_set, zsz_set hx (by rfl)]
        exact ⟨Nat.le_refl _, Nat.le_refl _⟩
      · cases hh
    · cases hh
  · cases hh
theorem zMn_copy {h : zH} {X : zX} {len pc : Nat} {ls st : List Value} : zMn h (zcopy X len pc ls st h) := by
  intro pc' ls' st' h' hs
  obtain ⟨n, dp, b, sp, a, r, rfl, rfl, q1, q2, q3, q4, q5, q6, rfl, rfl, rfl, hq⟩ := zcopy_inv hs
  rcases hq with ⟨n0, f, n1, g, g1, g2, g3, g4, rfl⟩ | ⟨n0, f, n1, g, g1, g2, g3, g4, rfl⟩
  · have w2 : h[b]? = some (.inl (0, n1, .inl g)) := by
      rcases zia_inv g2 with ⟨-, hh⟩ | ⟨hr, -⟩ | ⟨hr, -⟩
      · exact hh
      · exact absurd q3 hr
      · exact absurd q3 hr
    rw [List.length_set, zsz_set w2 (by rfl)]
    exact ⟨Nat.le_refl _, Nat.le_refl _⟩
  · rw [List.length_set, zsz_set (zla_inv g2).2 (by rfl)]
    exact ⟨Nat.le_refl _, Nat.le_refl _⟩
theorem zMn_S {h : zH} {X : zX} {m : zM} {idx len pc : Nat} {ls st : List Value} : zMn h (zinvS X m idx len pc ls st h) := by
  unfold zinvS
  split
  · split
    · exact zMn_copy
    · split
      · exact zMn_L (zMn_2i (fun _ _ _ => zMn_if zMn_go))
      · split
        · exact zMn_L (zMn_2i (fun _ _ _ => zMn_if zMn_go))
        · split
          · exact zMn_L (zMn_1i (fun _ _ => zMn_if zMn_go))
          · exact zMn_none
  · refine zMn_L (zMn_of (fun _ => zMn_if (zMn_of (fun _ => zMn_if ?_))))
    intro _ _ _ _ e
    cases e
theorem zMn_I {h : zH} {m : zM} {idx len pc : Nat} {ls st : List Value} : zMn h (zinvI m idx len pc ls st h) := by
  unfold zinvI
  split
  · split
    · exact zMn_L (zMn_1r (fun _ _ => zMn_if zMn_go))
    · exact zMn_none
  · refine zMn_L (zMn_of (fun _ => zMn_if (zMn_of (fun _ => zMn_1r (fun _ _ => zMn_if ?_)))))
    intro _ _ _ _ e
    cases e
theorem zMn_V {h : zH} {own idx len pc : Nat} {st : List Value} : zMn h (zcallV own idx len pc st h) := by
  refine zMn_L (zMn_of (fun _ => zMn_if (zMn_of (fun _ => zMn_1r (fun _ _ => zMn_if ?_)))))
  intro _ _ _ _ e
  cases e
set_option maxHeartbeats 4000000 in
theorem zmono (X : zX) (M : zM) (i : Instr) (len pc : Nat) (ls st : List Value) (h : zH) : zMn h (zins X M i len pc ls st h) := by
  cases i
  case invokevirtual idx => exact zMn_V
  case invokestatic idx => exact zMn_S
  case invokespecial idx => exact zMn_I
  case ireturn =>
    refine zMn_L ?_
    split
    · refine zMn_if ?_
      intro _ _ _ _ e
      cases e
    · exact zMn_none
  case lreturn =>
    refine zMn_L ?_
    split
    · intro _ _ _ _ e
      cases e
    · exact zMn_none
  case return_ =>
    refine zMn_L ?_
    split
    · intro _ _ _ _ e
      cases e
    · exact zMn_none
  case iconst => exact zMn_L zMn_go
  case bipush => exact zMn_L zMn_go
  case sipush => exact zMn_L zMn_go
  case lconst => exact zMn_L zMn_go
  case iload_n => exact zMn_L (zMn_ldi (fun _ => zMn_go))
  case iload => exact zMn_L (zMn_ldi (fun _ => zMn_go))
  case lload_n => exact zMn_L (zMn_ldl (fun _ => zMn_go))
  case lload => exact zMn_L (zMn_ldl (fun _ => zMn_go))
  case aload_n => exact zMn_L (zMn_ldr (fun _ => zMn_go))
  case aload => exact zMn_L (zMn_ldr (fun _ => zMn_go))
  case istore_n => exact zMn_L (zMn_1i (fun _ _ => zMn_if zMn_go))
  case istore => exact zMn_L (zMn_1i (fun _ _ => zMn_if zMn_go))
  case astore_n => exact zMn_L (zMn_1r (fun _ _ => zMn_if zMn_go))
  case astore => exact zMn_L (zMn_1r (fun _ _ => zMn_if zMn_go))
  case lstore => exact zMn_L (zMn_1l (fun _ _ => zMn_if zMn_go))
  case iinc =>
    refine zMn_L ?_
    split
    · exact zMn_go
    · exact zMn_none
  case iadd => exact zMn_L (zMn_2i (fun _ _ _ => zMn_go))
  case isub => exact zMn_L (zMn_2i (fun _ _ _ => zMn_go))
  case imul => exact zMn_L (zMn_2i (fun _ _ _ => zMn_go))
  case iand => exact zMn_L (zMn_2i (fun _ _ _ => zMn_go))
  case ior => exact zMn_L (zMn_2i (fun _ _ _ => zMn_go))
  case ixor => exact zMn_L (zMn_2i (fun _ _ _ => zMn_go))
  case idiv => exact zMn_L (zMn_2i (fun _ _ _ => zMn_if zMn_go))
  case irem => exact zMn_L (zMn_2i (fun _ _ _ => zMn_if zMn_go))
  case ishl => exact zMn_L (zMn_2i (fun _ _ _ => zMn_go))
  case ishr => exact zMn_L (zMn_2i (fun _ _ _ => zMn_go))
  case iushr => exact zMn_L (zMn_2i (fun _ _ _ => zMn_go))
  case ineg => exact zMn_L (zMn_1i (fun _ _ => zMn_go))
  case ladd => exact zMn_L (zMn_2l (fun _ _ _ => zMn_go))
  case land => exact zMn_L (zMn_2l (fun _ _ _ => zMn_go))
  case lor => exact zMn_L (zMn_2l (fun _ _ _ => zMn_go))
  case lshl => exact zMn_L (zMn_1i (fun _ _ => zMn_1l (fun _ _ => zMn_go)))
  case lcmp => exact zMn_L (zMn_2l (fun _ _ _ => zMn_go))
  case i2l => exact zMn_L (zMn_1i (fun _ _ => zMn_go))
  case l2i => exact zMn_L (zMn_1l (fun _ _ => zMn_go))
  case i2b => exact zMn_L (zMn_1i (fun _ _ => zMn_go))
  case i2s => exact zMn_L (zMn_1i (fun _ _ => zMn_go))
  case i2c => exact zMn_L (zMn_1i (fun _ _ => zMn_go))
  case dup => exact zMn_L (zMn_top (fun _ _ => zMn_go))
  case pop => exact zMn_L (zMn_top (fun _ _ => zMn_go))
  case dup_x1 => exact zMn_L (zMn_top (fun _ _ => zMn_top (fun _ _ => zMn_go)))
  case dup2 => exact zMn_L (zMn_top (fun _ _ => zMn_top (fun _ _ => zMn_go)))
  case ifCond => exact zMn_L (zMn_1i (fun _ _ => zMn_br))
  case if_icmp => exact zMn_L (zMn_2i (fun _ _ _ => zMn_br))
  case goto => exact zMn_L zMn_jmp
  case tableswitch => exact zMn_1i (fun _ _ => zMn_of (fun _ => zMn_jmp))
  case lookupswitch => exact zMn_if (zMn_1i (fun _ _ => zMn_jmp))
  case getfield => exact zMn_L (zMn_1r (fun _ _ => zMn_of (fun _ => zMn_of (fun _ => zMn_go))))
  case putfield => exact zMn_put
  case getstatic => exact zMn_L (zMn_of (fun _ => zMn_go))
  case ldc =>
    refine zMn_L (zMn_of (fun q => ?_))
    split
    · exact zMn_go
    · exact zMn_go
    · exact zMn_none
  case ldc_w =>
    refine zMn_L (zMn_of (fun q => ?_))
    split
    · exact zMn_go
    · exact zMn_none
  case ldc2_w =>
    refine zMn_L (zMn_of (fun q => ?_))
    split
    · exact zMn_go
    · exact zMn_none
  case iaload => exact zMn_ald
  case baload => exact zMn_ald
  case saload => exact zMn_ald
  case iastore => exact zMn_ast
  case bastore => exact zMn_ast
  case sastore => exact zMn_ast
  case laload => exact zMn_L (zMn_1i (fun _ _ => zMn_1r (fun _ _ => zMn_of (fun _ => zMn_if zMn_go))))
  case lastore => exact zMn_last
  case aaload => exact zMn_L (zMn_1i (fun _ _ => zMn_1r (fun _ _ => zMn_of (fun _ => zMn_if (zMn_of (fun _ => zMn_go))))))
  case aastore => exact zMn_aast
  case arraylength => exact zMn_L (zMn_1r (fun _ _ => zMn_of (fun _ => zMn_go)))
  case newarray => exact zMn_L (zMn_1i (fun _ _ => zMn_of (fun _ => zMn_if zMn_push)))
  case anewarray => exact zMn_L (zMn_1i (fun _ _ => zMn_of (fun _ => zMn_if zMn_push)))
  case new => exact zMn_L (zMn_of (fun _ => zMn_if zMn_push))
  all_goals exact zMn_none
theorem zev_heap (X : zX) : ∀ (n : Nat) {d : Nat} {m : zM} {pc : Nat} {ls st : List Value} {h : zH} {v : Option Value} {h' : zH}, zev X n d m pc ls st h = some (v, h') → h.length ≤ h'.length ∧ zsz h ≤ zsz h' := by
  intro n
  induction n with
  | zero => intro d m pc ls st h v h' he; simp [zev] at he
  | succ n ih =>
    intro d m pc ls st h v h' he
    unfold zev at he
    revert he
    cases hs : zstep X m pc ls st h with
    | none => intro he; cases he
    | some q =>
      rcases q with ⟨pc', ls', st', h1⟩ | ⟨m', as, rest, pc'⟩ | w
      · intro he
        have h2 := ih he
        unfold zstep at hs
        split at hs
        · next q hq =>
          have h3 := zmono X m q.1 q.2 pc ls st h _ _ _ _ hs
          omega
        · cases hs
      · cases d with
        | zero => intro he; cases he
        | succ d' =>
          dsimp only
          cases hc : zev X n d' m' 0 (zpad as m'.2.2.2.1) [] h with
          | none => intro he; cases he
          | some q =>
            intro he
            have h1 := ih hc
            have h2 := ih he
            exact ⟨Nat.le_trans h1.1 h2.1, Nat.le_trans h1.2 h2.2⟩
      · intro he
        cases he
        exact ⟨Nat.le_refl _, Nat.le_refl _⟩
