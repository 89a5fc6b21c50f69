section ZPN
variable {p : Program} {l : Launch} {e : Env} {R : Room} {s : State} {m : MethodId} {args : Array Value} {below : List Frame} {meth : Method} {c : Code} {Q : State → Prop} {G : zG} {X : zX} {A : Nat → Prop} {M : zM} {h0 : zH}
variable {pc pc' len : Nat} {ls ls' st st' : List Value} {h h' : zH}
/-- behind a new cell -/
theorem zpush_go {H H1 : Heap} {locs : List Loc} {cells slots n : Nat} {lr : Array Slot} {x : zE} (C : zCx p s m args meth c G X A M h0) (hl : h.length < 1000) (hn : zone x = n) (k : zGo p l e R s m args below meth c Q G A M h0 pc' ls (.ref h.length :: st') (h ++ [x])) (hsz : H.size = G.2.2.1 + h.length) (z1 : H1.size = H.size + 1) (o1 : ∀ q : Nat, q < H.size → H1[q]? = H[q]?) (hx : va_at G.1 zcl (H.size, zcE G x) H1)
    (a1 : va_P G.1 zcl (zcW G h) H) (a2 : va_D A (zcW G h)) (a3 : va_S A s.heap H locs) (a4 : zLv G ls lr M.2.2.2.1) (a5 : cells + h0.length = h.length) (a6 : slots + zsz h0 = zsz h) : W p l e R s m args below meth c H1 locs (cells + 1) (slots + n) Q (F0 m pc' lr (.ref H.size :: st'.map (zcV G))) := by
  have hk : ∀ (k : Nat) (y : Nat × va_E), (zcW G h)[k]? = some y → H1[y.1]? = H[y.1]? := fun k y hy => o1 y.1 ((a1 k y hy).lt)
  have ea : zad G h.length = H.size := by rw [zad_lt hl, hsz]
  have b1 : va_P G.1 zcl (zcW G (h ++ [x])) H1 := by
    rw [zcW_push, ea]
    refine (a1.kept hk).app (fun k y hy => ?_)
    have hz : k < 1 := (List.getElem?_eq_some_iff.mp hy).1
    rw [show k = 0 by omega] at hy
    cases hy
    exact hx
  have b2 : va_D A (zcW G (h ++ [x])) := by
    rw [zcW_push, ea]
    exact a2.push a1 rfl (C.2.2.2.2.2.2.2.2.2.1 _ a3.1)
  have b3 : va_S A s.heap H1 locs := ⟨Nat.le_trans a3.1 (by omega), fun y h1 h2 => (o1 y (Nat.lt_of_lt_of_le h1 a3.1)).trans (a3.2.1 y h1 h2), a3.2.2⟩
  have := k H1 locs (cells + 1) (slots + n) lr b1 b2 b3 a4 (by simp; omega) (by rw [zsz_push, hn]; omega)
  have e2 : (Value.ref h.length :: st').map (zcV G) = .ref H.size :: st'.map (zcV G) := by
    show Value.ref (zad G h.length) :: _ = _
    rw [ea]
  rw [e2] at this
  exact this
theorem zo_newarray {ty : ArrayType} (C : zCx p s m args meth c G X A M h0) (hd : decode M.2.2.1 pc = .ok (.newarray ty, len)) (hs : zins X M (.newarray ty) len pc ls st h = some (.inl (pc', ls', st', h'))) (hb1 : h'.length ≤ h0.length + R.cells) (hb2 : zsz h' ≤ zsz h0 + R.slots) (k : zGo p l e R s m args below meth c Q G A M h0 pc' ls' st' h') : zGo p l e R s m args below meth c Q G A M h0 pc ls st h := by
  have e0 := (zL_inv hs).1
  replace hs := (zL_inv hs).2
  subst e0
  have tz := z1i_inv hs
  clear hs
  obtain ⟨n, r, rfl, hs⟩ := tz
  have tz := zof_inv hs
  clear hs
  obtain ⟨t, ht, hs⟩ := tz
  have tz := zif_inv hs
  clear hs
  obtain ⟨hb, hs⟩ := tz
  have tz := zgo_inv hs
  clear hs
  obtain ⟨rfl, rfl, rfl, rfl⟩ := tz
  simp only [Bool.and_eq_true, decide_eq_true_eq] at hb
  obtain ⟨⟨hl, hn⟩, hN⟩ := hb
  intro H locs cells slots lr a1 a2 a3 a4 a5 a6
  refine zw_size C a1 a3 a5 (by omega) (fun hsz => ?_)
  have hone : zone (.inl (t, zarr t n.toNatClampNeg)) = n.toNatClampNeg := by
    cases ty <;> simp [zat] at ht <;> subst ht <;> rfl
  rw [zsz_push, hone] at hb2
  have hlen : (h ++ [(Sum.inl (t, zarr t n.toNatClampNeg) : zE)]).length = h.length + 1 := by simp
  rw [hlen] at hb1
  have hK := C.2.2.2.2.2.2.1
  have go : ∀ (H' : Heap) (cA : ClassId), H'[H.size]? = some (arrV cA n.toNatClampNeg (fun _ => defaultValue (newarray.typeOf ty))) → H'.size = H.size + 1 → (∀ q, q < H.size → H'[q]? = H[q]?) → vp_cell cA (zcA G (zarr t n.toNatClampNeg)) = arrV cA n.toNatClampNeg (fun _ => defaultValue (newarray.typeOf ty)) → cA = G.2.1 t → W p l e R s m args below meth c H' locs (cells + 1) (slots + n.toNatClampNeg) Q (F0 m (pc + 2) lr (.ref H.size :: r.map (zcV G))) := by
    intro H' cA e1 z1 o1 ec ecA
    refine zpush_go C hl hone k hsz z1 o1 ?_ a1 a2 a3 a4 a5 a6
    show H'[H.size]? = some (vp_cell (G.2.1 t) (zcA G (zarr t n.toNatClampNeg)))
    rw [← ecA, ec]
    exact e1
  have hcb : cells + 1 ≤ R.cells := by omega
  have hsb : slots + n.toNatClampNeg ≤ R.slots := by omega
  cases ty with
  | int =>
    cases ht
    refine va_newaK C.1 C.2.1 (atype := .int) (C.2.2.2.2.1 _ zw_int) rfl hd rfl hn rfl (by show n.toNatClampNeg * 4 ≤ _; omega) hcb hsb rfl (fun H' cA e1 z1 o1 hAr hNm => ?_)
    have hR := (hK.2 0 _ (ztys_at G (by decide))).2
    exact go H' cA e1 z1 o1 rfl (Option.some.inj (hNm.symm.trans hR))
  | long =>
    cases ht
    refine va_newaK C.1 C.2.1 (atype := .long) (C.2.2.2.2.1 _ zw_long) rfl hd rfl hn rfl (by show n.toNatClampNeg * 8 ≤ _; omega) hcb hsb rfl (fun H' cA e1 z1 o1 hAr hNm => ?_)
    have hR := (hK.2 1 _ (ztys_at G (by decide))).2
    exact go H' cA e1 z1 o1 rfl (Option.some.inj (hNm.symm.trans hR))
  | byte =>
    cases ht
    refine va_newaK C.1 C.2.1 (atype := .byte) (C.2.2.2.2.1 _ zw_byte) rfl hd rfl hn rfl (by show n.toNatClampNeg * 1 ≤ _; omega) hcb hsb rfl (fun H' cA e1 z1 o1 hAr hNm => ?_)
    have hR := (hK.2 2 _ (ztys_at G (by decide))).2
    exact go H' cA e1 z1 o1 rfl (Option.some.inj (hNm.symm.trans hR))
  | short =>
    cases ht
    refine va_newaK C.1 C.2.1 (atype := .short) (C.2.2.2.2.1 _ zw_short) rfl hd rfl hn rfl (by show n.toNatClampNeg * 2 ≤ _; omega) hcb hsb rfl (fun H' cA e1 z1 o1 hAr hNm => ?_)
    have hR := (hK.2 3 _ (ztys_at G (by decide))).2
    exact go H' cA e1 z1 o1 rfl (Option.some.inj (hNm.symm.trans hR))
  | _ => cases ht
theorem zo_anewarray {idx : Nat} (C : zCx p s m args meth c G X A M h0) (hd : decode M.2.2.1 pc = .ok (.anewarray idx, len)) (hs : zins X M (.anewarray idx) len pc ls st h = some (.inl (pc', ls', st', h'))) (hb1 : h'.length ≤ h0.length + R.cells) (hb2 : zsz h' ≤ zsz h0 + R.slots) (k : zGo p l e R s m args below meth c Q G A M h0 pc' ls' st' h') : zGo p l e R s m args below meth c Q G A M h0 pc ls st h := by
  have e0 := (zL_inv hs).1
  replace hs := (zL_inv hs).2
  subst e0
  have tz := z1i_inv hs
  clear hs
  obtain ⟨n, r, rfl, hs⟩ := tz
  have tz := zof_inv hs
  clear hs
  obtain ⟨t, ht, hs⟩ := tz
  have tz := zif_inv hs
  clear hs
  obtain ⟨hb, hs⟩ := tz
  have tz := zgo_inv hs
  clear hs
  obtain ⟨rfl, rfl, rfl, rfl⟩ := tz
  simp only [Bool.and_eq_true, decide_eq_true_eq] at hb
  obtain ⟨⟨hl, hn⟩, hN⟩ := hb
  intro H locs cells slots lr a1 a2 a3 a4 a5 a6
  refine zw_size C a1 a3 a5 (by omega) (fun hsz => ?_)
  have hK := C.2.2.2.2.2.2.1
  have hlen : ∀ x : zE, (h ++ [x]).length = h.length + 1 := fun x => by simp
  rw [hlen] at hb1
  have main : ∀ Cn : String, zty t = .object Cn → t < 6 → Cond.classLink (zR M.1) idx Cn ∈ zTB → va_AO Cn s → zarr t n.toNatClampNeg = (n.toNatClampNeg, .inr (.inr (.inr (.inr (fun _ => none))))) → W p l e R s m args below meth c H locs cells slots Q (F0 m pc lr (.int n :: r.map (zcV G))) := by
    intro Cn ety t6 hm hover ea
    have hone : zone (.inl (t, zarr t n.toNatClampNeg)) = n.toNatClampNeg := by rw [ea]; rfl
    rw [zsz_push, hone] at hb2
    refine W.anew C.1 C.2.1 C.2.2.2.1 (C.2.2.2.2.1 _ hm) (va_AO.use hover) rfl hd rfl hn (by omega) (by omega) (by omega) fun cA kA comp f1 f2 f3 f4 => ?_
    generalize hH1 : H.push ({ cls := cA, slots := Array.replicate n.toNatClampNeg .null, vm := .none } : Cell) = H1
    have z1 : H1.size = H.size + 1 := by rw [← hH1, Array.size_push]
    have e1 : H1[H.size]? = some (arrV cA n.toNatClampNeg (fun _ => .null)) := by rw [← hH1, Array.getElem?_push_size, ← arrV_new]
    have o1 : ∀ q : Nat, q < H.size → H1[q]? = H[q]? := fun q hq => by rw [← hH1, Array.getElem?_push, if_neg (Nat.ne_of_lt hq)]
    have hR := (hK.2 t _ (ztys_at G t6)).2
    dsimp only at hR
    rw [ety] at hR
    obtain ⟨kA', comp', g1, g2, g3, g4⟩ := hR
    have ecA : cA = G.2.1 t := Option.some.inj (f1.symm.trans g4)
    refine zpush_go C hl hone k hsz z1 o1 ?_ a1 a2 a3 a4 a5 a6
    show H1[H.size]? = some (vp_cell (G.2.1 t) (zcA G (zarr t n.toNatClampNeg)))
    rw [← ecA, ea]
    exact e1
  rcases zana_all _ (zfind_mem ht) with ⟨h4, hm⟩ | ⟨h4, hm⟩
  · dsimp only at h4; subst h4
    exact main RX8 rfl (by decide) hm C.2.2.2.2.2.2.2.2.1.2.2.2.1 rfl
  · dsimp only at h4; subst h4
    exact main RX2 rfl (by decide) hm C.2.2.2.2.2.2.2.2.1.2.2.2.2 rfl
theorem zborn_at {cc k : Nat} (hk : k < znum cc) : (zborn cc)[k]? = some (defaultValue (ztyX cc k)) := by
  unfold zborn
  rw [List.getElem?_map, List.getElem?_range hk]
  rfl
theorem zo_new {idx : Nat} (C : zCx p s m args meth c G X A M h0) (hd : decode M.2.2.1 pc = .ok (.new idx, len)) (hs : zins X M (.new idx) len pc ls st h = some (.inl (pc', ls', st', h'))) (hb1 : h'.length ≤ h0.length + R.cells) (hb2 : zsz h' ≤ zsz h0 + R.slots) (k : zGo p l e R s m args below meth c Q G A M h0 pc' ls' st' h') : zGo p l e R s m args below meth c Q G A M h0 pc ls st h := by
  have e0 := (zL_inv hs).1
  replace hs := (zL_inv hs).2
  subst e0
  have tz := zof_inv hs
  clear hs
  obtain ⟨ci, ht, hs⟩ := tz
  have tz := zif_inv hs
  clear hs
  obtain ⟨hb, hs⟩ := tz
  have tz := zgo_inv hs
  clear hs
  obtain ⟨rfl, rfl, rfl, rfl⟩ := tz
  have hl := of_decide_eq_true hb
  intro H locs cells slots lr a1 a2 a3 a4 a5 a6
  refine zw_size C a1 a3 a5 (by omega) (fun hsz => ?_)
  have hK := C.2.2.2.2.2.2.1
  have hts := C.2.2.2.2.1
  obtain ⟨⟨q, hc⟩, hm1, hm2, hm3⟩ := znew_all _ (zfind_mem ht)
  dsimp only at hc hm1 hm2 hm3
  obtain ⟨C1, T1, N1⟩ := q
  obtain ⟨e1, e2, e3, e4, e5, e6⟩ := zcl_at hc
  dsimp only at e2 e3 e4 e5 e6
  have hone : zone (.inr (ci, zborn ci)) = N1 := by
    show (zborn ci).length = N1
    unfold zborn
    rw [List.length_map, List.length_range, e3]
  have hlen : ∀ x : zE, (h ++ [x]).length = h.length + 1 := fun x => by simp
  rw [hlen] at hb1
  rw [zsz_push, hone] at hb2
  have hKn := hK.1 ci _ hc
  rw [← e2] at hm1 hm2 hm3
  rw [← e3] at hm2
  refine W.newcK C.1 C.2.1 C.2.2.2.1 (hts _ hm1) (hts _ hm2) (hts _ hm3) rfl hd (by omega) (by omega) hKn.2.1 rfl fun H1 kC hkC g1 z1 o1 => ?_
  refine zpush_go C hl hone k hsz z1 o1 ?_ a1 a2 a3 a4 a5 a6
  refine ⟨_, hc, (u_born (ztyX ci) hts e4 hKn hkC g1 e5).to (fun j hj => ?_)⟩
  show defaultValue (ztyX ci j) = vp_V ((zborn ci).map (zcV G)) j
  unfold vp_V
  rw [List.getD_eq_getElem?_getD, List.getElem?_map, zborn_at (by rw [← e3]; exact hj)]
  show defaultValue (ztyX ci j) = zcV G (defaultValue (ztyX ci j))
  cases ztyX ci j <;> rfl
end ZPN
