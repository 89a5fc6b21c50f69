section ZP
variable {p : Program} {l : Launch} {e : Env} {R : Room} {s : State} {m : MethodId} {args : Array Value} {below : List Frame} {meth : Method} {c : Code} {Q : State → Prop} {G : zG} {X : zX} {A : Nat → Prop} {M : zM} {h0 : zH}
variable {pc pc' len : Nat} {ls ls' st st' : List Value} {h h' : zH}

theorem zo_iconst {n : Int} (C : zCx p s m args meth c G X A M h0) (hd : decode M.2.2.1 pc = .ok (.iconst n, len)) (hs : zins X M (.iconst n) len pc ls st h = some (.inl (pc', ls', st', h'))) (k : zGo p l e R s m args below meth c Q G A M h0 pc' ls' st' h') : zGo p l e R s m args below meth c Q G A M h0 pc ls st h := by
  have e0 := (zL_inv hs).1
  replace hs := (zL_inv hs).2
  subst e0
  obtain ⟨rfl, rfl, rfl, rfl⟩ := zgo_inv hs
  intro H locs cells slots lr a1 a2 a3 a4 a5 a6
  exact lv_iconst C.1 C.2.1 hd rfl (k H locs cells slots lr a1 a2 a3 a4 a5 a6)

theorem zo_bipush {n : Int} (C : zCx p s m args meth c G X A M h0) (hd : decode M.2.2.1 pc = .ok (.bipush n, len)) (hs : zins X M (.bipush n) len pc ls st h = some (.inl (pc', ls', st', h'))) (k : zGo p l e R s m args below meth c Q G A M h0 pc' ls' st' h') : zGo p l e R s m args below meth c Q G A M h0 pc ls st h := by
  have e0 := (zL_inv hs).1
  replace hs := (zL_inv hs).2
  subst e0
  obtain ⟨rfl, rfl, rfl, rfl⟩ := zgo_inv hs
  intro H locs cells slots lr a1 a2 a3 a4 a5 a6
  exact lv_bipush C.1 C.2.1 hd rfl (k H locs cells slots lr a1 a2 a3 a4 a5 a6)

theorem zo_sipush {n : Int} (C : zCx p s m args meth c G X A M h0) (hd : decode M.2.2.1 pc = .ok (.sipush n, len)) (hs : zins X M (.sipush n) len pc ls st h = some (.inl (pc', ls', st', h'))) (k : zGo p l e R s m args below meth c Q G A M h0 pc' ls' st' h') : zGo p l e R s m args below meth c Q G A M h0 pc ls st h := by
  have e0 := (zL_inv hs).1
  replace hs := (zL_inv hs).2
  subst e0
  obtain ⟨rfl, rfl, rfl, rfl⟩ := zgo_inv hs
  intro H locs cells slots lr a1 a2 a3 a4 a5 a6
  exact lv_sipush C.1 C.2.1 hd rfl (k H locs cells slots lr a1 a2 a3 a4 a5 a6)

theorem zo_lconst {n : Fin 2} (C : zCx p s m args meth c G X A M h0) (hd : decode M.2.2.1 pc = .ok (.lconst n, len)) (hs : zins X M (.lconst n) len pc ls st h = some (.inl (pc', ls', st', h'))) (k : zGo p l e R s m args below meth c Q G A M h0 pc' ls' st' h') : zGo p l e R s m args below meth c Q G A M h0 pc ls st h := by
  have e0 := (zL_inv hs).1
  replace hs := (zL_inv hs).2
  subst e0
  obtain ⟨rfl, rfl, rfl, rfl⟩ := zgo_inv hs
  intro H locs cells slots lr a1 a2 a3 a4 a5 a6
  exact lv_lconst C.1 C.2.1 hd rfl (k H locs cells slots lr a1 a2 a3 a4 a5 a6)

theorem zo_iload_n {k0 : Fin 4} (C : zCx p s m args meth c G X A M h0) (hd : decode M.2.2.1 pc = .ok (.iload_n k0, len)) (hs : zins X M (.iload_n k0) len pc ls st h = some (.inl (pc', ls', st', h'))) (k : zGo p l e R s m args below meth c Q G A M h0 pc' ls' st' h') : zGo p l e R s m args below meth c Q G A M h0 pc ls st h := by
  have e0 := (zL_inv hs).1
  replace hs := (zL_inv hs).2
  subst e0
  obtain ⟨v, hv, hs⟩ := zldi_inv hs
  obtain ⟨rfl, rfl, rfl, rfl⟩ := zgo_inv hs
  intro H locs cells slots lr a1 a2 a3 a4 a5 a6
  exact lv_iload_n C.1 C.2.1 hd rfl (a4.2.2.2 _ _ hv (by intro q; cases q)) (k H locs cells slots lr a1 a2 a3 a4 a5 a6)

theorem zo_iload {k0 : Nat} (C : zCx p s m args meth c G X A M h0) (hd : decode M.2.2.1 pc = .ok (.iload k0, len)) (hs : zins X M (.iload k0) len pc ls st h = some (.inl (pc', ls', st', h'))) (k : zGo p l e R s m args below meth c Q G A M h0 pc' ls' st' h') : zGo p l e R s m args below meth c Q G A M h0 pc ls st h := by
  have e0 := (zL_inv hs).1
  replace hs := (zL_inv hs).2
  subst e0
  obtain ⟨v, hv, hs⟩ := zldi_inv hs
  obtain ⟨rfl, rfl, rfl, rfl⟩ := zgo_inv hs
  intro H locs cells slots lr a1 a2 a3 a4 a5 a6
  exact lv_iload C.1 C.2.1 hd (a4.2.2.2 _ _ hv (by intro q; cases q)) (k H locs cells slots lr a1 a2 a3 a4 a5 a6)

theorem zo_lload_n {k0 : Fin 4} (C : zCx p s m args meth c G X A M h0) (hd : decode M.2.2.1 pc = .ok (.lload_n k0, len)) (hs : zins X M (.lload_n k0) len pc ls st h = some (.inl (pc', ls', st', h'))) (k : zGo p l e R s m args below meth c Q G A M h0 pc' ls' st' h') : zGo p l e R s m args below meth c Q G A M h0 pc ls st h := by
  have e0 := (zL_inv hs).1
  replace hs := (zL_inv hs).2
  subst e0
  obtain ⟨v, hv, hs⟩ := zldl_inv hs
  obtain ⟨rfl, rfl, rfl, rfl⟩ := zgo_inv hs
  intro H locs cells slots lr a1 a2 a3 a4 a5 a6
  exact lv_lload_n C.1 C.2.1 hd rfl (a4.2.2.2 _ _ hv (by intro q; cases q)) (k H locs cells slots lr a1 a2 a3 a4 a5 a6)

theorem zo_lload {k0 : Nat} (C : zCx p s m args meth c G X A M h0) (hd : decode M.2.2.1 pc = .ok (.lload k0, len)) (hs : zins X M (.lload k0) len pc ls st h = some (.inl (pc', ls', st', h'))) (k : zGo p l e R s m args below meth c Q G A M h0 pc' ls' st' h') : zGo p l e R s m args below meth c Q G A M h0 pc ls st h := by
  have e0 := (zL_inv hs).1
  replace hs := (zL_inv hs).2
  subst e0
  obtain ⟨v, hv, hs⟩ := zldl_inv hs
  obtain ⟨rfl, rfl, rfl, rfl⟩ := zgo_inv hs
  intro H locs cells slots lr a1 a2 a3 a4 a5 a6
  exact lv_lload C.1 C.2.1 hd (a4.2.2.2 _ _ hv (by intro q; cases q)) (k H locs cells slots lr a1 a2 a3 a4 a5 a6)

theorem zo_aload_n {k0 : Fin 4} (C : zCx p s m args meth c G X A M h0) (hd : decode M.2.2.1 pc = .ok (.aload_n k0, len)) (hs : zins X M (.aload_n k0) len pc ls st h = some (.inl (pc', ls', st', h'))) (k : zGo p l e R s m args below meth c Q G A M h0 pc' ls' st' h') : zGo p l e R s m args below meth c Q G A M h0 pc ls st h := by
  have e0 := (zL_inv hs).1
  replace hs := (zL_inv hs).2
  subst e0
  obtain ⟨v, hv, hs⟩ := zldr_inv hs
  obtain ⟨rfl, rfl, rfl, rfl⟩ := zgo_inv hs
  intro H locs cells slots lr a1 a2 a3 a4 a5 a6
  exact lv_aload_n C.1 C.2.1 hd rfl (a4.2.2.2 _ _ hv (by intro q; cases q)) (k H locs cells slots lr a1 a2 a3 a4 a5 a6)

theorem zo_aload {k0 : Nat} (C : zCx p s m args meth c G X A M h0) (hd : decode M.2.2.1 pc = .ok (.aload k0, len)) (hs : zins X M (.aload k0) len pc ls st h = some (.inl (pc', ls', st', h'))) (k : zGo p l e R s m args below meth c Q G A M h0 pc' ls' st' h') : zGo p l e R s m args below meth c Q G A M h0 pc ls st h := by
  have e0 := (zL_inv hs).1
  replace hs := (zL_inv hs).2
  subst e0
  obtain ⟨v, hv, hs⟩ := zldr_inv hs
  obtain ⟨rfl, rfl, rfl, rfl⟩ := zgo_inv hs
  intro H locs cells slots lr a1 a2 a3 a4 a5 a6
  exact lv_aload C.1 C.2.1 hd (a4.2.2.2 _ _ hv (by intro q; cases q)) (k H locs cells slots lr a1 a2 a3 a4 a5 a6)

theorem zo_istore_n {k0 : Fin 4} (C : zCx p s m args meth c G X A M h0) (hd : decode M.2.2.1 pc = .ok (.istore_n k0, len)) (hs : zins X M (.istore_n k0) len pc ls st h = some (.inl (pc', ls', st', h'))) (k : zGo p l e R s m args below meth c Q G A M h0 pc' ls' st' h') : zGo p l e R s m args below meth c Q G A M h0 pc ls st h := by
  have e0 := (zL_inv hs).1
  replace hs := (zL_inv hs).2
  subst e0
  obtain ⟨v, r, rfl, hs⟩ := z1i_inv hs
  obtain ⟨hb, hs⟩ := zif_inv hs
  have hb := of_decide_eq_true hb
  obtain ⟨rfl, rfl, rfl, rfl⟩ := zgo_inv hs
  intro H locs cells slots lr a1 a2 a3 a4 a5 a6
  exact lv_istore_n C.1 C.2.1 hd rfl a4.has (by rw [← a4.1]; exact hb) rfl (fun lr2 q => k H locs cells slots lr2 a1 a2 a3 (zLv.st1 a4 hb q) a5 a6)

theorem zo_istore {k0 : Nat} (C : zCx p s m args meth c G X A M h0) (hd : decode M.2.2.1 pc = .ok (.istore k0, len)) (hs : zins X M (.istore k0) len pc ls st h = some (.inl (pc', ls', st', h'))) (k : zGo p l e R s m args below meth c Q G A M h0 pc' ls' st' h') : zGo p l e R s m args below meth c Q G A M h0 pc ls st h := by
  have e0 := (zL_inv hs).1
  replace hs := (zL_inv hs).2
  subst e0
  obtain ⟨v, r, rfl, hs⟩ := z1i_inv hs
  obtain ⟨hb, hs⟩ := zif_inv hs
  have hb := of_decide_eq_true hb
  obtain ⟨rfl, rfl, rfl, rfl⟩ := zgo_inv hs
  intro H locs cells slots lr a1 a2 a3 a4 a5 a6
  exact lv_istore C.1 C.2.1 hd a4.has (by rw [← a4.1]; exact hb) rfl (fun lr2 q => k H locs cells slots lr2 a1 a2 a3 (zLv.st1 a4 hb q) a5 a6)

theorem zo_astore_n {k0 : Fin 4} (C : zCx p s m args meth c G X A M h0) (hd : decode M.2.2.1 pc = .ok (.astore_n k0, len)) (hs : zins X M (.astore_n k0) len pc ls st h = some (.inl (pc', ls', st', h'))) (k : zGo p l e R s m args below meth c Q G A M h0 pc' ls' st' h') : zGo p l e R s m args below meth c Q G A M h0 pc ls st h := by
  have e0 := (zL_inv hs).1
  replace hs := (zL_inv hs).2
  subst e0
  obtain ⟨v, r, rfl, hs⟩ := z1r_inv hs
  obtain ⟨hb, hs⟩ := zif_inv hs
  have hb := of_decide_eq_true hb
  obtain ⟨rfl, rfl, rfl, rfl⟩ := zgo_inv hs
  intro H locs cells slots lr a1 a2 a3 a4 a5 a6
  exact lv_astore_n C.1 C.2.1 hd rfl a4.has (by rw [← a4.1]; exact hb) rfl (fun lr2 q => k H locs cells slots lr2 a1 a2 a3 (zLv.st1 a4 hb q) a5 a6)

theorem zo_astore {k0 : Nat} (C : zCx p s m args meth c G X A M h0) (hd : decode M.2.2.1 pc = .ok (.astore k0, len)) (hs : zins X M (.astore k0) len pc ls st h = some (.inl (pc', ls', st', h'))) (k : zGo p l e R s m args below meth c Q G A M h0 pc' ls' st' h') : zGo p l e R s m args below meth c Q G A M h0 pc ls st h := by
  have e0 := (zL_inv hs).1
  replace hs := (zL_inv hs).2
  subst e0
  obtain ⟨v, r, rfl, hs⟩ := z1r_inv hs
  obtain ⟨hb, hs⟩ := zif_inv hs
  have hb := of_decide_eq_true hb
  obtain ⟨rfl, rfl, rfl, rfl⟩ := zgo_inv hs
  intro H locs cells slots lr a1 a2 a3 a4 a5 a6
  exact lv_astore C.1 C.2.1 hd a4.has (by rw [← a4.1]; exact hb) rfl (fun lr2 q => k H locs cells slots lr2 a1 a2 a3 (zLv.st1 a4 hb q) a5 a6)

theorem zo_lstore {k0 : Nat} (C : zCx p s m args meth c G X A M h0) (hd : decode M.2.2.1 pc = .ok (.lstore k0, len)) (hs : zins X M (.lstore k0) len pc ls st h = some (.inl (pc', ls', st', h'))) (k : zGo p l e R s m args below meth c Q G A M h0 pc' ls' st' h') : zGo p l e R s m args below meth c Q G A M h0 pc ls st h := by
  have e0 := (zL_inv hs).1
  replace hs := (zL_inv hs).2
  subst e0
  obtain ⟨v, r, rfl, hs⟩ := z1l_inv hs
  obtain ⟨hb, hs⟩ := zif_inv hs
  have hb := of_decide_eq_true hb
  obtain ⟨rfl, rfl, rfl, rfl⟩ := zgo_inv hs
  intro H locs cells slots lr a1 a2 a3 a4 a5 a6
  exact lv_lstore C.1 C.2.1 hd a4.has (by rw [← a4.1]; exact hb) rfl (fun lr2 q => k H locs cells slots lr2 a1 a2 a3 (zLv.st2 a4 hb q) a5 a6)

theorem zo_iinc {k0 : Nat} {n : Int} (C : zCx p s m args meth c G X A M h0) (hd : decode M.2.2.1 pc = .ok (.iinc k0 n, len)) (hs : zins X M (.iinc k0 n) len pc ls st h = some (.inl (pc', ls', st', h'))) (k : zGo p l e R s m args below meth c Q G A M h0 pc' ls' st' h') : zGo p l e R s m args below meth c Q G A M h0 pc ls st h := by
  have e0 := (zL_inv hs).1
  replace hs := (zL_inv hs).2
  subst e0
  split at hs
  · next v hv =>
    obtain ⟨rfl, rfl, rfl, rfl⟩ := zgo_inv hs
    intro H locs cells slots lr a1 a2 a3 a4 a5 a6
    obtain ⟨j, hj⟩ := List.getElem?_of_mem ((zlv_mem (G := G) (q := (k0, .int v))).mpr ⟨.int v, hv, (by intro q; cases q), rfl⟩)
    have hb : k0 < ls.length := (List.getElem?_eq_some_iff.mp hv).1
    exact lv_iinc C.1 C.2.1 hd a4.has hj rfl (by rw [← a4.1]; exact hb) rfl (fun lr2 q => k H locs cells slots lr2 a1 a2 a3 (zLv.st1 a4 hb q) a5 a6)
  · cases hs

theorem zo_iadd  (C : zCx p s m args meth c G X A M h0) (hd : decode M.2.2.1 pc = .ok (.iadd, len)) (hs : zins X M (.iadd) len pc ls st h = some (.inl (pc', ls', st', h'))) (k : zGo p l e R s m args below meth c Q G A M h0 pc' ls' st' h') : zGo p l e R s m args below meth c Q G A M h0 pc ls st h := by
  have e0 := (zL_inv hs).1
  replace hs := (zL_inv hs).2
  subst e0
  obtain ⟨x, y, r, rfl, hs⟩ := z2i_inv hs
  obtain ⟨rfl, rfl, rfl, rfl⟩ := zgo_inv hs
  intro H locs cells slots lr a1 a2 a3 a4 a5 a6
  exact lv_iadd C.1 C.2.1 hd (k H locs cells slots lr a1 a2 a3 a4 a5 a6)

theorem zo_isub  (C : zCx p s m args meth c G X A M h0) (hd : decode M.2.2.1 pc = .ok (.isub, len)) (hs : zins X M (.isub) len pc ls st h = some (.inl (pc', ls', st', h'))) (k : zGo p l e R s m args below meth c Q G A M h0 pc' ls' st' h') : zGo p l e R s m args below meth c Q G A M h0 pc ls st h := by
  have e0 := (zL_inv hs).1
  replace hs := (zL_inv hs).2
  subst e0
  obtain ⟨x, y, r, rfl, hs⟩ := z2i_inv hs
  obtain ⟨rfl, rfl, rfl, rfl⟩ := zgo_inv hs
  intro H locs cells slots lr a1 a2 a3 a4 a5 a6
  exact lv_isub C.1 C.2.1 hd (k H locs cells slots lr a1 a2 a3 a4 a5 a6)

theorem zo_imul  (C : zCx p s m args meth c G X A M h0) (hd : decode M.2.2.1 pc = .ok (.imul, len)) (hs : zins X M (.imul) len pc ls st h = some (.inl (pc', ls', st', h'))) (k : zGo p l e R s m args below meth c Q G A M h0 pc' ls' st' h') : zGo p l e R s m args below meth c Q G A M h0 pc ls st h := by
  have e0 := (zL_inv hs).1
  replace hs := (zL_inv hs).2
  subst e0
  obtain ⟨x, y, r, rfl, hs⟩ := z2i_inv hs
  obtain ⟨rfl, rfl, rfl, rfl⟩ := zgo_inv hs
  intro H locs cells slots lr a1 a2 a3 a4 a5 a6
  exact lv_imul C.1 C.2.1 hd (k H locs cells slots lr a1 a2 a3 a4 a5 a6)

theorem zo_iand  (C : zCx p s m args meth c G X A M h0) (hd : decode M.2.2.1 pc = .ok (.iand, len)) (hs : zins X M (.iand) len pc ls st h = some (.inl (pc', ls', st', h'))) (k : zGo p l e R s m args below meth c Q G A M h0 pc' ls' st' h') : zGo p l e R s m args below meth c Q G A M h0 pc ls st h := by
  have e0 := (zL_inv hs).1
  replace hs := (zL_inv hs).2
  subst e0
  obtain ⟨x, y, r, rfl, hs⟩ := z2i_inv hs
  obtain ⟨rfl, rfl, rfl, rfl⟩ := zgo_inv hs
  intro H locs cells slots lr a1 a2 a3 a4 a5 a6
  exact lv_iand C.1 C.2.1 hd (k H locs cells slots lr a1 a2 a3 a4 a5 a6)

theorem zo_ior  (C : zCx p s m args meth c G X A M h0) (hd : decode M.2.2.1 pc = .ok (.ior, len)) (hs : zins X M (.ior) len pc ls st h = some (.inl (pc', ls', st', h'))) (k : zGo p l e R s m args below meth c Q G A M h0 pc' ls' st' h') : zGo p l e R s m args below meth c Q G A M h0 pc ls st h := by
  have e0 := (zL_inv hs).1
  replace hs := (zL_inv hs).2
  subst e0
  obtain ⟨x, y, r, rfl, hs⟩ := z2i_inv hs
  obtain ⟨rfl, rfl, rfl, rfl⟩ := zgo_inv hs
  intro H locs cells slots lr a1 a2 a3 a4 a5 a6
  exact lv_ior C.1 C.2.1 hd (k H locs cells slots lr a1 a2 a3 a4 a5 a6)

theorem zo_ixor  (C : zCx p s m args meth c G X A M h0) (hd : decode M.2.2.1 pc = .ok (.ixor, len)) (hs : zins X M (.ixor) len pc ls st h = some (.inl (pc', ls', st', h'))) (k : zGo p l e R s m args below meth c Q G A M h0 pc' ls' st' h') : zGo p l e R s m args below meth c Q G A M h0 pc ls st h := by
  have e0 := (zL_inv hs).1
  replace hs := (zL_inv hs).2
  subst e0
  obtain ⟨x, y, r, rfl, hs⟩ := z2i_inv hs
  obtain ⟨rfl, rfl, rfl, rfl⟩ := zgo_inv hs
  intro H locs cells slots lr a1 a2 a3 a4 a5 a6
  exact lv_ixor C.1 C.2.1 hd (k H locs cells slots lr a1 a2 a3 a4 a5 a6)

theorem zo_ishl  (C : zCx p s m args meth c G X A M h0) (hd : decode M.2.2.1 pc = .ok (.ishl, len)) (hs : zins X M (.ishl) len pc ls st h = some (.inl (pc', ls', st', h'))) (k : zGo p l e R s m args below meth c Q G A M h0 pc' ls' st' h') : zGo p l e R s m args below meth c Q G A M h0 pc ls st h := by
  have e0 := (zL_inv hs).1
  replace hs := (zL_inv hs).2
  subst e0
  obtain ⟨x, y, r, rfl, hs⟩ := z2i_inv hs
  obtain ⟨rfl, rfl, rfl, rfl⟩ := zgo_inv hs
  intro H locs cells slots lr a1 a2 a3 a4 a5 a6
  exact lv_ishl C.1 C.2.1 hd (k H locs cells slots lr a1 a2 a3 a4 a5 a6)

theorem zo_ishr  (C : zCx p s m args meth c G X A M h0) (hd : decode M.2.2.1 pc = .ok (.ishr, len)) (hs : zins X M (.ishr) len pc ls st h = some (.inl (pc', ls', st', h'))) (k : zGo p l e R s m args below meth c Q G A M h0 pc' ls' st' h') : zGo p l e R s m args below meth c Q G A M h0 pc ls st h := by
  have e0 := (zL_inv hs).1
  replace hs := (zL_inv hs).2
  subst e0
  obtain ⟨x, y, r, rfl, hs⟩ := z2i_inv hs
  obtain ⟨rfl, rfl, rfl, rfl⟩ := zgo_inv hs
  intro H locs cells slots lr a1 a2 a3 a4 a5 a6
  exact lv_ishr C.1 C.2.1 hd (k H locs cells slots lr a1 a2 a3 a4 a5 a6)

theorem zo_idiv  (C : zCx p s m args meth c G X A M h0) (hd : decode M.2.2.1 pc = .ok (.idiv, len)) (hs : zins X M (.idiv) len pc ls st h = some (.inl (pc', ls', st', h'))) (k : zGo p l e R s m args below meth c Q G A M h0 pc' ls' st' h') : zGo p l e R s m args below meth c Q G A M h0 pc ls st h := by
  have e0 := (zL_inv hs).1
  replace hs := (zL_inv hs).2
  subst e0
  obtain ⟨x, y, r, rfl, hs⟩ := z2i_inv hs
  obtain ⟨hb, hs⟩ := zif_inv hs
  have hb := of_decide_eq_true hb
  obtain ⟨rfl, rfl, rfl, rfl⟩ := zgo_inv hs
  intro H locs cells slots lr a1 a2 a3 a4 a5 a6
  exact lv_idiv C.1 C.2.1 hd hb (k H locs cells slots lr a1 a2 a3 a4 a5 a6)

theorem zo_irem  (C : zCx p s m args meth c G X A M h0) (hd : decode M.2.2.1 pc = .ok (.irem, len)) (hs : zins X M (.irem) len pc ls st h = some (.inl (pc', ls', st', h'))) (k : zGo p l e R s m args below meth c Q G A M h0 pc' ls' st' h') : zGo p l e R s m args below meth c Q G A M h0 pc ls st h := by
  have e0 := (zL_inv hs).1
  replace hs := (zL_inv hs).2
  subst e0
  obtain ⟨x, y, r, rfl, hs⟩ := z2i_inv hs
  obtain ⟨hb, hs⟩ := zif_inv hs
  have hb := of_decide_eq_true hb
  obtain ⟨rfl, rfl, rfl, rfl⟩ := zgo_inv hs
  intro H locs cells slots lr a1 a2 a3 a4 a5 a6
  exact lv_irem C.1 C.2.1 hd hb (k H locs cells slots lr a1 a2 a3 a4 a5 a6)

theorem zo_iushr  (C : zCx p s m args meth c G X A M h0) (hd : decode M.2.2.1 pc = .ok (.iushr, len)) (hs : zins X M (.iushr) len pc ls st h = some (.inl (pc', ls', st', h'))) (k : zGo p l e R s m args below meth c Q G A M h0 pc' ls' st' h') : zGo p l e R s m args below meth c Q G A M h0 pc ls st h := by
  have e0 := (zL_inv hs).1
  replace hs := (zL_inv hs).2
  subst e0
  obtain ⟨x, y, r, rfl, hs⟩ := z2i_inv hs
  obtain ⟨rfl, rfl, rfl, rfl⟩ := zgo_inv hs
  intro H locs cells slots lr a1 a2 a3 a4 a5 a6
  exact lv_iushr C.1 C.2.1 hd rfl (k H locs cells slots lr a1 a2 a3 a4 a5 a6)

theorem zo_ineg  (C : zCx p s m args meth c G X A M h0) (hd : decode M.2.2.1 pc = .ok (.ineg, len)) (hs : zins X M (.ineg) len pc ls st h = some (.inl (pc', ls', st', h'))) (k : zGo p l e R s m args below meth c Q G A M h0 pc' ls' st' h') : zGo p l e R s m args below meth c Q G A M h0 pc ls st h := by
  have e0 := (zL_inv hs).1
  replace hs := (zL_inv hs).2
  subst e0
  obtain ⟨x, r, rfl, hs⟩ := z1i_inv hs
  obtain ⟨rfl, rfl, rfl, rfl⟩ := zgo_inv hs
  intro H locs cells slots lr a1 a2 a3 a4 a5 a6
  exact lv_ineg C.1 C.2.1 hd (k H locs cells slots lr a1 a2 a3 a4 a5 a6)

theorem zo_ladd  (C : zCx p s m args meth c G X A M h0) (hd : decode M.2.2.1 pc = .ok (.ladd, len)) (hs : zins X M (.ladd) len pc ls st h = some (.inl (pc', ls', st', h'))) (k : zGo p l e R s m args below meth c Q G A M h0 pc' ls' st' h') : zGo p l e R s m args below meth c Q G A M h0 pc ls st h := by
  have e0 := (zL_inv hs).1
  replace hs := (zL_inv hs).2
  subst e0
  obtain ⟨x, y, r, rfl, hs⟩ := z2l_inv hs
  obtain ⟨rfl, rfl, rfl, rfl⟩ := zgo_inv hs
  intro H locs cells slots lr a1 a2 a3 a4 a5 a6
  exact lv_ladd C.1 C.2.1 hd (k H locs cells slots lr a1 a2 a3 a4 a5 a6)

theorem zo_land  (C : zCx p s m args meth c G X A M h0) (hd : decode M.2.2.1 pc = .ok (.land, len)) (hs : zins X M (.land) len pc ls st h = some (.inl (pc', ls', st', h'))) (k : zGo p l e R s m args below meth c Q G A M h0 pc' ls' st' h') : zGo p l e R s m args below meth c Q G A M h0 pc ls st h := by
  have e0 := (zL_inv hs).1
  replace hs := (zL_inv hs).2
  subst e0
  obtain ⟨x, y, r, rfl, hs⟩ := z2l_inv hs
  obtain ⟨rfl, rfl, rfl, rfl⟩ := zgo_inv hs
  intro H locs cells slots lr a1 a2 a3 a4 a5 a6
  exact lv_land C.1 C.2.1 hd (k H locs cells slots lr a1 a2 a3 a4 a5 a6)

theorem zo_lor  (C : zCx p s m args meth c G X A M h0) (hd : decode M.2.2.1 pc = .ok (.lor, len)) (hs : zins X M (.lor) len pc ls st h = some (.inl (pc', ls', st', h'))) (k : zGo p l e R s m args below meth c Q G A M h0 pc' ls' st' h') : zGo p l e R s m args below meth c Q G A M h0 pc ls st h := by
  have e0 := (zL_inv hs).1
  replace hs := (zL_inv hs).2
  subst e0
  obtain ⟨x, y, r, rfl, hs⟩ := z2l_inv hs
  obtain ⟨rfl, rfl, rfl, rfl⟩ := zgo_inv hs
  intro H locs cells slots lr a1 a2 a3 a4 a5 a6
  exact lv_lor C.1 C.2.1 hd (k H locs cells slots lr a1 a2 a3 a4 a5 a6)

theorem zo_lcmp  (C : zCx p s m args meth c G X A M h0) (hd : decode M.2.2.1 pc = .ok (.lcmp, len)) (hs : zins X M (.lcmp) len pc ls st h = some (.inl (pc', ls', st', h'))) (k : zGo p l e R s m args below meth c Q G A M h0 pc' ls' st' h') : zGo p l e R s m args below meth c Q G A M h0 pc ls st h := by
  have e0 := (zL_inv hs).1
  replace hs := (zL_inv hs).2
  subst e0
  obtain ⟨x, y, r, rfl, hs⟩ := z2l_inv hs
  obtain ⟨rfl, rfl, rfl, rfl⟩ := zgo_inv hs
  intro H locs cells slots lr a1 a2 a3 a4 a5 a6
  exact W.lcmp C.1 C.2.1 hd (k H locs cells slots lr a1 a2 a3 a4 a5 a6)

theorem zo_lshl  (C : zCx p s m args meth c G X A M h0) (hd : decode M.2.2.1 pc = .ok (.lshl, len)) (hs : zins X M (.lshl) len pc ls st h = some (.inl (pc', ls', st', h'))) (k : zGo p l e R s m args below meth c Q G A M h0 pc' ls' st' h') : zGo p l e R s m args below meth c Q G A M h0 pc ls st h := by
  have e0 := (zL_inv hs).1
  replace hs := (zL_inv hs).2
  subst e0
  obtain ⟨y, r, rfl, hs⟩ := z1i_inv hs
  obtain ⟨x, r, rfl, hs⟩ := z1l_inv hs
  obtain ⟨rfl, rfl, rfl, rfl⟩ := zgo_inv hs
  intro H locs cells slots lr a1 a2 a3 a4 a5 a6
  exact lv_lshl C.1 C.2.1 hd rfl (k H locs cells slots lr a1 a2 a3 a4 a5 a6)

theorem zo_i2l  (C : zCx p s m args meth c G X A M h0) (hd : decode M.2.2.1 pc = .ok (.i2l, len)) (hs : zins X M (.i2l) len pc ls st h = some (.inl (pc', ls', st', h'))) (k : zGo p l e R s m args below meth c Q G A M h0 pc' ls' st' h') : zGo p l e R s m args below meth c Q G A M h0 pc ls st h := by
  have e0 := (zL_inv hs).1
  replace hs := (zL_inv hs).2
  subst e0
  obtain ⟨x, r, rfl, hs⟩ := z1i_inv hs
  obtain ⟨rfl, rfl, rfl, rfl⟩ := zgo_inv hs
  intro H locs cells slots lr a1 a2 a3 a4 a5 a6
  exact lv_i2l C.1 C.2.1 hd rfl (k H locs cells slots lr a1 a2 a3 a4 a5 a6)

theorem zo_l2i  (C : zCx p s m args meth c G X A M h0) (hd : decode M.2.2.1 pc = .ok (.l2i, len)) (hs : zins X M (.l2i) len pc ls st h = some (.inl (pc', ls', st', h'))) (k : zGo p l e R s m args below meth c Q G A M h0 pc' ls' st' h') : zGo p l e R s m args below meth c Q G A M h0 pc ls st h := by
  have e0 := (zL_inv hs).1
  replace hs := (zL_inv hs).2
  subst e0
  obtain ⟨x, r, rfl, hs⟩ := z1l_inv hs
  obtain ⟨rfl, rfl, rfl, rfl⟩ := zgo_inv hs
  intro H locs cells slots lr a1 a2 a3 a4 a5 a6
  exact lv_l2i C.1 C.2.1 hd rfl (k H locs cells slots lr a1 a2 a3 a4 a5 a6)

theorem zo_i2b  (C : zCx p s m args meth c G X A M h0) (hd : decode M.2.2.1 pc = .ok (.i2b, len)) (hs : zins X M (.i2b) len pc ls st h = some (.inl (pc', ls', st', h'))) (k : zGo p l e R s m args below meth c Q G A M h0 pc' ls' st' h') : zGo p l e R s m args below meth c Q G A M h0 pc ls st h := by
  have e0 := (zL_inv hs).1
  replace hs := (zL_inv hs).2
  subst e0
  obtain ⟨x, r, rfl, hs⟩ := z1i_inv hs
  obtain ⟨rfl, rfl, rfl, rfl⟩ := zgo_inv hs
  intro H locs cells slots lr a1 a2 a3 a4 a5 a6
  exact lv_i2b C.1 C.2.1 hd rfl (k H locs cells slots lr a1 a2 a3 a4 a5 a6)

theorem zo_i2s  (C : zCx p s m args meth c G X A M h0) (hd : decode M.2.2.1 pc = .ok (.i2s, len)) (hs : zins X M (.i2s) len pc ls st h = some (.inl (pc', ls', st', h'))) (k : zGo p l e R s m args below meth c Q G A M h0 pc' ls' st' h') : zGo p l e R s m args below meth c Q G A M h0 pc ls st h := by
  have e0 := (zL_inv hs).1
  replace hs := (zL_inv hs).2
  subst e0
  obtain ⟨x, r, rfl, hs⟩ := z1i_inv hs
  obtain ⟨rfl, rfl, rfl, rfl⟩ := zgo_inv hs
  intro H locs cells slots lr a1 a2 a3 a4 a5 a6
  exact lv_i2s C.1 C.2.1 hd rfl (k H locs cells slots lr a1 a2 a3 a4 a5 a6)

theorem zo_i2c  (C : zCx p s m args meth c G X A M h0) (hd : decode M.2.2.1 pc = .ok (.i2c, len)) (hs : zins X M (.i2c) len pc ls st h = some (.inl (pc', ls', st', h'))) (k : zGo p l e R s m args below meth c Q G A M h0 pc' ls' st' h') : zGo p l e R s m args below meth c Q G A M h0 pc ls st h := by
  have e0 := (zL_inv hs).1
  replace hs := (zL_inv hs).2
  subst e0
  obtain ⟨x, r, rfl, hs⟩ := z1i_inv hs
  obtain ⟨rfl, rfl, rfl, rfl⟩ := zgo_inv hs
  intro H locs cells slots lr a1 a2 a3 a4 a5 a6
  exact lv_i2c C.1 C.2.1 hd rfl (k H locs cells slots lr a1 a2 a3 a4 a5 a6)

theorem zo_dup  (C : zCx p s m args meth c G X A M h0) (hd : decode M.2.2.1 pc = .ok (.dup, len)) (hs : zins X M (.dup) len pc ls st h = some (.inl (pc', ls', st', h'))) (k : zGo p l e R s m args below meth c Q G A M h0 pc' ls' st' h') : zGo p l e R s m args below meth c Q G A M h0 pc ls st h := by
  have e0 := (zL_inv hs).1
  replace hs := (zL_inv hs).2
  subst e0
  obtain ⟨v, r, rfl, hv, hs⟩ := ztop_inv hs
  obtain ⟨rfl, rfl, rfl, rfl⟩ := zgo_inv hs
  intro H locs cells slots lr a1 a2 a3 a4 a5 a6
  exact lv_dup C.1 C.2.1 hd (by rw [zcV_cat]; exact hv) (k H locs cells slots lr a1 a2 a3 a4 a5 a6)

theorem zo_pop  (C : zCx p s m args meth c G X A M h0) (hd : decode M.2.2.1 pc = .ok (.pop, len)) (hs : zins X M (.pop) len pc ls st h = some (.inl (pc', ls', st', h'))) (k : zGo p l e R s m args below meth c Q G A M h0 pc' ls' st' h') : zGo p l e R s m args below meth c Q G A M h0 pc ls st h := by
  have e0 := (zL_inv hs).1
  replace hs := (zL_inv hs).2
  subst e0
  obtain ⟨v, r, rfl, hv, hs⟩ := ztop_inv hs
  obtain ⟨rfl, rfl, rfl, rfl⟩ := zgo_inv hs
  intro H locs cells slots lr a1 a2 a3 a4 a5 a6
  exact lv_pop C.1 C.2.1 hd (by rw [zcV_cat]; exact hv) (k H locs cells slots lr a1 a2 a3 a4 a5 a6)

theorem zo_dup_x1  (C : zCx p s m args meth c G X A M h0) (hd : decode M.2.2.1 pc = .ok (.dup_x1, len)) (hs : zins X M (.dup_x1) len pc ls st h = some (.inl (pc', ls', st', h'))) (k : zGo p l e R s m args below meth c Q G A M h0 pc' ls' st' h') : zGo p l e R s m args below meth c Q G A M h0 pc ls st h := by
  have e0 := (zL_inv hs).1
  replace hs := (zL_inv hs).2
  subst e0
  obtain ⟨v, r, rfl, hv, hs⟩ := ztop_inv hs
  obtain ⟨w, r, rfl, hw, hs⟩ := ztop_inv hs
  obtain ⟨rfl, rfl, rfl, rfl⟩ := zgo_inv hs
  intro H locs cells slots lr a1 a2 a3 a4 a5 a6
  exact lv_dup_x1 C.1 C.2.1 hd (by rw [zcV_cat]; exact hv) (by rw [zcV_cat]; exact hw) (k H locs cells slots lr a1 a2 a3 a4 a5 a6)

theorem zo_dup2  (C : zCx p s m args meth c G X A M h0) (hd : decode M.2.2.1 pc = .ok (.dup2, len)) (hs : zins X M (.dup2) len pc ls st h = some (.inl (pc', ls', st', h'))) (k : zGo p l e R s m args below meth c Q G A M h0 pc' ls' st' h') : zGo p l e R s m args below meth c Q G A M h0 pc ls st h := by
  have e0 := (zL_inv hs).1
  replace hs := (zL_inv hs).2
  subst e0
  obtain ⟨v, r, rfl, hv, hs⟩ := ztop_inv hs
  obtain ⟨w, r, rfl, hw, hs⟩ := ztop_inv hs
  obtain ⟨rfl, rfl, rfl, rfl⟩ := zgo_inv hs
  intro H locs cells slots lr a1 a2 a3 a4 a5 a6
  exact lv_dup2_11 C.1 C.2.1 hd (by rw [zcV_cat]; exact hv) (by rw [zcV_cat]; exact hw) (k H locs cells slots lr a1 a2 a3 a4 a5 a6)

theorem zo_ifCond {cd : Jvm.ClassFile.Cond} {off : Int} (C : zCx p s m args meth c G X A M h0) (hd : decode M.2.2.1 pc = .ok (.ifCond cd off, len)) (hs : zins X M (.ifCond cd off) len pc ls st h = some (.inl (pc', ls', st', h'))) (k : zGo p l e R s m args below meth c Q G A M h0 pc' ls' st' h') : zGo p l e R s m args below meth c Q G A M h0 pc ls st h := by
  have e0 := (zL_inv hs).1
  replace hs := (zL_inv hs).2
  subst e0
  obtain ⟨x, r, rfl, hs⟩ := z1i_inv hs
  obtain ⟨tgt, ht, ha, hb, rfl, rfl, rfl⟩ := zbr_inv hs
  intro H locs cells slots lr a1 a2 a3 a4 a5 a6
  cases cd with
  | eq => exact lv_if_eq C.1 C.2.1 hd ht (fun q => by rw [← ha (decide_eq_true q)]; exact k H locs cells slots lr a1 a2 a3 a4 a5 a6) (fun q => by rw [← hb (decide_eq_false q)]; exact k H locs cells slots lr a1 a2 a3 a4 a5 a6)
  | ne => exact lv_if_ne C.1 C.2.1 hd ht (fun q => by rw [← ha (decide_eq_true q)]; exact k H locs cells slots lr a1 a2 a3 a4 a5 a6) (fun q => by rw [← hb (decide_eq_false (fun z => z q))]; exact k H locs cells slots lr a1 a2 a3 a4 a5 a6)
  | lt => exact lv_if_lt C.1 C.2.1 hd ht (fun q => by rw [← ha (decide_eq_true q)]; exact k H locs cells slots lr a1 a2 a3 a4 a5 a6) (fun q => by rw [← hb (decide_eq_false q)]; exact k H locs cells slots lr a1 a2 a3 a4 a5 a6)
  | ge => exact lv_if_ge C.1 C.2.1 hd ht (fun q => by rw [← ha (decide_eq_true q)]; exact k H locs cells slots lr a1 a2 a3 a4 a5 a6) (fun q => by rw [← hb (decide_eq_false q)]; exact k H locs cells slots lr a1 a2 a3 a4 a5 a6)
  | gt => exact lv_if_gt C.1 C.2.1 hd ht (fun q => by rw [← ha (decide_eq_true q)]; exact k H locs cells slots lr a1 a2 a3 a4 a5 a6) (fun q => by rw [← hb (decide_eq_false q)]; exact k H locs cells slots lr a1 a2 a3 a4 a5 a6)
  | le => exact lv_if_le C.1 C.2.1 hd ht (fun q => by rw [← ha (decide_eq_true q)]; exact k H locs cells slots lr a1 a2 a3 a4 a5 a6) (fun q => by rw [← hb (decide_eq_false q)]; exact k H locs cells slots lr a1 a2 a3 a4 a5 a6)

theorem zo_if_icmp {cd : Jvm.ClassFile.Cond} {off : Int} (C : zCx p s m args meth c G X A M h0) (hd : decode M.2.2.1 pc = .ok (.if_icmp cd off, len)) (hs : zins X M (.if_icmp cd off) len pc ls st h = some (.inl (pc', ls', st', h'))) (k : zGo p l e R s m args below meth c Q G A M h0 pc' ls' st' h') : zGo p l e R s m args below meth c Q G A M h0 pc ls st h := by
  have e0 := (zL_inv hs).1
  replace hs := (zL_inv hs).2
  subst e0
  obtain ⟨x, y, r, rfl, hs⟩ := z2i_inv hs
  obtain ⟨tgt, ht, ha, hb, rfl, rfl, rfl⟩ := zbr_inv hs
  intro H locs cells slots lr a1 a2 a3 a4 a5 a6
  cases cd with
  | eq => exact lv_icmp_eq C.1 C.2.1 hd ht (fun q => by rw [← ha (decide_eq_true q)]; exact k H locs cells slots lr a1 a2 a3 a4 a5 a6) (fun q => by rw [← hb (decide_eq_false q)]; exact k H locs cells slots lr a1 a2 a3 a4 a5 a6)
  | ne => exact lv_icmp_ne C.1 C.2.1 hd ht (fun q => by rw [← ha (decide_eq_true q)]; exact k H locs cells slots lr a1 a2 a3 a4 a5 a6) (fun q => by rw [← hb (decide_eq_false (fun z => z q))]; exact k H locs cells slots lr a1 a2 a3 a4 a5 a6)
  | lt => exact lv_icmp_lt C.1 C.2.1 hd ht (fun q => by rw [← ha (decide_eq_true q)]; exact k H locs cells slots lr a1 a2 a3 a4 a5 a6) (fun q => by rw [← hb (decide_eq_false q)]; exact k H locs cells slots lr a1 a2 a3 a4 a5 a6)
  | ge => exact lv_icmp_ge C.1 C.2.1 hd ht (fun q => by rw [← ha (decide_eq_true q)]; exact k H locs cells slots lr a1 a2 a3 a4 a5 a6) (fun q => by rw [← hb (decide_eq_false q)]; exact k H locs cells slots lr a1 a2 a3 a4 a5 a6)
  | gt => exact lv_icmp_gt C.1 C.2.1 hd ht (fun q => by rw [← ha (decide_eq_true q)]; exact k H locs cells slots lr a1 a2 a3 a4 a5 a6) (fun q => by rw [← hb (decide_eq_false q)]; exact k H locs cells slots lr a1 a2 a3 a4 a5 a6)
  | le => exact lv_icmp_le C.1 C.2.1 hd ht (fun q => by rw [← ha (decide_eq_true q)]; exact k H locs cells slots lr a1 a2 a3 a4 a5 a6) (fun q => by rw [← hb (decide_eq_false q)]; exact k H locs cells slots lr a1 a2 a3 a4 a5 a6)

theorem zo_goto {off : Int} (C : zCx p s m args meth c G X A M h0) (hd : decode M.2.2.1 pc = .ok (.goto off, len)) (hs : zins X M (.goto off) len pc ls st h = some (.inl (pc', ls', st', h'))) (k : zGo p l e R s m args below meth c Q G A M h0 pc' ls' st' h') : zGo p l e R s m args below meth c Q G A M h0 pc ls st h := by
  have e0 := (zL_inv hs).1
  replace hs := (zL_inv hs).2
  subst e0
  obtain ⟨ht, rfl, rfl, rfl⟩ := zjmp_inv hs
  intro H locs cells slots lr a1 a2 a3 a4 a5 a6
  exact lv_goto C.1 C.2.1 hd ht (k H locs cells slots lr a1 a2 a3 a4 a5 a6)

theorem zo_tableswitch {df lo hi : Int} {offs : Array Int} (C : zCx p s m args meth c G X A M h0) (hd : decode M.2.2.1 pc = .ok (.tableswitch df lo hi offs, len)) (hs : zins X M (.tableswitch df lo hi offs) len pc ls st h = some (.inl (pc', ls', st', h'))) (k : zGo p l e R s m args below meth c Q G A M h0 pc' ls' st' h') : zGo p l e R s m args below meth c Q G A M h0 pc ls st h := by
  obtain ⟨x, r, rfl, hs⟩ := z1i_inv hs
  obtain ⟨off, ho, hs⟩ := zof_inv hs
  obtain ⟨ht, rfl, rfl, rfl⟩ := zjmp_inv hs
  intro H locs cells slots lr a1 a2 a3 a4 a5 a6
  unfold zswT at ho
  split at ho
  · next hq => cases ho; exact lv_tableOut C.1 C.2.1 hd hq ht (k H locs cells slots lr a1 a2 a3 a4 a5 a6)
  · next hq => exact lv_tableIn C.1 C.2.1 hd (fun z => hq (Or.inl z)) (fun z => hq (Or.inr z)) ho ht (k H locs cells slots lr a1 a2 a3 a4 a5 a6)

theorem zo_lookupswitch {df : Int} {ps : Array (Int × Int)} (C : zCx p s m args meth c G X A M h0) (hd : decode M.2.2.1 pc = .ok (.lookupswitch df ps, len)) (hs : zins X M (.lookupswitch df ps) len pc ls st h = some (.inl (pc', ls', st', h'))) (k : zGo p l e R s m args below meth c Q G A M h0 pc' ls' st' h') : zGo p l e R s m args below meth c Q G A M h0 pc ls st h := by
  obtain ⟨hb, hs⟩ := zif_inv hs
  obtain ⟨x, r, rfl, hs⟩ := z1i_inv hs
  obtain ⟨ht, rfl, rfl, rfl⟩ := zjmp_inv hs
  intro H locs cells slots lr a1 a2 a3 a4 a5 a6
  exact lv_lookup C.1 C.2.1 hd hb rfl ht (k H locs cells slots lr a1 a2 a3 a4 a5 a6)

end ZP
