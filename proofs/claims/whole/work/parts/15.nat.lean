section ZPR
variable {p : Program} {l : Launch} {e : Env} {R : Room} {s : State} {m : MethodId} {args : Array Value} {below : List Frame} {meth : Method} {c : Code} {Q : State → Prop} {G : zG} {X : zX} {A : Nat → Prop} {M : zM} {h0 : zH}
variable {pc pc' len : Nat} {ls ls' st st' : List Value} {h h' : zH}
theorem zcopy_inv (hs : zcopy X len pc ls st h = some (.inl (pc', ls', st', h'))) : ∃ n dp b sp a r, len = 3 ∧ st = .int n :: .int dp :: .ref b :: .int sp :: .ref a :: r ∧ zcat r ≤ 8 ∧ a < 1000 ∧ b < 1000 ∧ ¬ sp < 0 ∧ ¬ dp < 0 ∧ ¬ n < 0 ∧ pc' = pc + 3 ∧ ls' = ls ∧ st' = r ∧
    ((∃ n0 f n1 g, zia X h 0 a = some (n0, f) ∧ zia X h 0 b = some (n1, g) ∧ sp.toNatClampNeg + n.toNatClampNeg ≤ n0 ∧ dp.toNatClampNeg + n.toNatClampNeg ≤ n1 ∧ h' = h.set b (.inl (0, n1, .inl (va_cpy f g sp.toNatClampNeg dp.toNatClampNeg n.toNatClampNeg)))) ∨
     (∃ n0 f n1 g, zla h a = some (n0, f) ∧ zla h b = some (n1, g) ∧ sp.toNatClampNeg + n.toNatClampNeg ≤ n0 ∧ dp.toNatClampNeg + n.toNatClampNeg ≤ n1 ∧ h' = h.set b (.inl (1, n1, .inr (.inl (va_cpy f g sp.toNatClampNeg dp.toNatClampNeg n.toNatClampNeg)))))) := by
  unfold zcopy at hs
  have e0 := (zL_inv hs).1
  replace hs := (zL_inv hs).2
  subst e0
  have tz := z1i_inv hs
  clear hs
  obtain ⟨n, r, rfl, hs⟩ := tz
  have tz := z1i_inv hs
  clear hs
  obtain ⟨dp, r, rfl, hs⟩ := tz
  have tz := z1r_inv hs
  clear hs
  obtain ⟨b, r, rfl, hs⟩ := tz
  have tz := z1i_inv hs
  clear hs
  obtain ⟨sp, r, rfl, hs⟩ := tz
  have tz := z1r_inv hs
  clear hs
  obtain ⟨a, r, rfl, hs⟩ := tz
  have tz := zif_inv hs
  clear hs
  obtain ⟨hb, hs⟩ := tz
  simp only [Bool.and_eq_true, decide_eq_true_eq] at hb
  obtain ⟨⟨⟨⟨⟨q1, q2⟩, q3⟩, q4⟩, q5⟩, q6⟩ := hb
  split at hs
  · next n0 f n1 g g1 g2 =>
    have tz := zif_inv hs
    clear hs
    obtain ⟨hb, hs⟩ := tz
    simp only [Bool.and_eq_true, decide_eq_true_eq] at hb
    have tz := zgo_inv hs
    clear hs
    obtain ⟨rfl, rfl, rfl, rfl⟩ := tz
    exact ⟨n, dp, b, sp, a, r, rfl, rfl, q1, q2, q3, q4, q5, q6, rfl, rfl, rfl, Or.inl ⟨n0, f, n1, g, g1, g2, hb.1, hb.2, rfl⟩⟩
  · next n0 f n1 g g1 g2 _ =>
    have tz := zif_inv hs
    clear hs
    obtain ⟨hb, hs⟩ := tz
    simp only [Bool.and_eq_true, decide_eq_true_eq] at hb
    have tz := zgo_inv hs
    clear hs
    obtain ⟨rfl, rfl, rfl, rfl⟩ := tz
    exact ⟨n, dp, b, sp, a, r, rfl, rfl, q1, q2, q3, q4, q5, q6, rfl, rfl, rfl, Or.inr ⟨n0, f, n1, g, g1, g2, hb.1, hb.2, rfl⟩⟩
  · cases hs
theorem zo_copy {idx : Nat} (C : zCx p s m args meth c G X A M h0) (hR : 1 ≤ R.frames ∧ 100 ≤ R.locals) (hd : decode M.2.2.1 pc = .ok (.invokestatic idx, len)) (hm : Cond.methodLink (zR M.1) idx arraycopyName ∈ zTB) (hs : zcopy X len pc ls st h = some (.inl (pc', ls', st', h'))) (k : zGo p l e R s m args below meth c Q G A M h0 pc' ls' st' h') : zGo p l e R s m args below meth c Q G A M h0 pc ls st h := by
  obtain ⟨n, dp, b, sp, a, r, rfl, rfl, q1, q2, q3, q4, q5, q6, rfl, rfl, rfl, hq⟩ := zcopy_inv hs
  intro H locs cells slots lr a1 a2 a3 a4 a5 a6
  have hK := C.2.2.2.2.2.2.1
  have hts := C.2.2.2.2.1
  have hloc : ((st'.map (zcV G)).map fun v => v.category).sum + (nativeFrameWords "java/lang/System" "arraycopy" 5 + 11) ≤ R.locals := by
    rw [zcat_map]
    have : nativeFrameWords "java/lang/System" "arraycopy" 5 = 7 := by decide +kernel
    rw [this]
    omega
  rcases hq with ⟨n0, f, n1, g, g1, g2, g3, g4, rfl⟩ | ⟨n0, f, n1, g, g1, g2, g3, g4, rfl⟩
  · have w1 : h[a]? = some (.inl (0, n0, .inl f)) := by
      rcases zia_inv g1 with ⟨-, hh⟩ | ⟨hr, -⟩ | ⟨hr, -⟩
      · exact hh
      · exact absurd q2 hr
      · exact absurd q2 hr
    have w2 : h[b]? = some (.inl (0, n1, .inl g)) := by
      rcases zia_inv g2 with ⟨-, hh⟩ | ⟨hr, -⟩ | ⟨hr, -⟩
      · exact hh
      · exact absurd q3 hr
      · exact absurd q3 hr
    exact va_copyi (D := G.1) (cl := zcl) (ty := .int) C.1 C.2.1 (C.2.2.1.trans a4.2.1.symm) C.2.2.2.1 (hts _ hm) (hts _ zw_native) (hts _ zw_static) (hts _ zw_sys) hK a1 a2 a3 a b 0 0 (zcW_at w1) (zcW_at w2) (ztys_at G (by decide)) (ztys_at G (by decide)) rfl q4 q5 q6 g3 g4 (fun i _ => rfl) hR.1 hloc hd
      (fun H1 locs1 b1 b2 b3 => zset_go (x' := .inl (0, n1, .inl (va_cpy f g sp.toNatClampNeg dp.toNatClampNeg n.toNatClampNeg))) w2 rfl k b1 b2 b3 a4 a5 a6)
  · have w1 := (zla_inv g1).2
    have w2 := (zla_inv g2).2
    exact va_copyl (D := G.1) (cl := zcl) C.1 C.2.1 (C.2.2.1.trans a4.2.1.symm) C.2.2.2.1 (hts _ hm) (hts _ zw_native) (hts _ zw_static) (hts _ zw_sys) hK a1 a2 a3 a b 1 1 (zcW_at w1) (zcW_at w2) (ztys_at G (by decide)) (ztys_at G (by decide)) rfl q4 q5 q6 g3 g4 (fun i _ => rfl) hR.1 hloc hd
      (fun H1 locs1 b1 b2 b3 => zset_go (x' := .inl (1, n1, .inr (.inl (va_cpy f g sp.toNatClampNeg dp.toNatClampNeg n.toNatClampNeg)))) w2 rfl k b1 b2 b3 a4 a5 a6)
theorem zo_static {idx kk : Nat} (C : zCx p s m args meth c G X A M h0) (hR : 1 ≤ R.frames ∧ 100 ≤ R.locals) (hc1 : h.length ≤ h0.length + R.cells) (hc2 : zsz h ≤ zsz h0 + R.slots) (hd : decode M.2.2.1 pc = .ok (.invokestatic idx, len)) (hf : zfind zspT M.1 idx = some kk) (hs : zins X M (.invokestatic idx) len pc ls st h = some (.inl (pc', ls', st', h'))) (k : zGo p l e R s m args below meth c Q G A M h0 pc' ls' st' h') : zGo p l e R s m args below meth c Q G A M h0 pc ls st h := by
  have hts := C.2.2.2.2.1
  obtain ⟨h5, hm⟩ := zsp_all _ (zfind_mem hf)
  dsimp only at h5 hm
  replace hs : zinvS X M idx len pc ls st h = some (.inl (pc', ls', st', h')) := hs
  unfold zinvS at hs
  rw [hf] at hs
  dsimp only at hs
  split at hs
  · next e1 =>
    subst e1
    exact zo_copy C hR hd hm hs k
  · split at hs
    · next e1 =>
      subst e1
      have e0 := (zL_inv hs).1
      replace hs := (zL_inv hs).2
      subst e0
      have tz := z2i_inv hs
      clear hs
      obtain ⟨x, y, r, rfl, hs⟩ := tz
      have tz := zif_inv hs
      clear hs
      obtain ⟨hb, hs⟩ := tz
      have tz := zgo_inv hs
      clear hs
      obtain ⟨rfl, rfl, rfl, rfl⟩ := tz
      have hb := of_decide_eq_true hb
      intro H locs cells slots lr a1 a2 a3 a4 a5 a6
      exact va_mmax C.1 C.2.1 (C.2.2.1.trans a4.2.1.symm) C.2.2.2.1 (hts _ hm) (hts _ zw_smax) (hts _ zw_math) (hts _ zw_cmax) hR.1 (by rw [zcat_map]; omega) (by omega) (by omega) hd (k H locs cells slots lr a1 a2 a3 a4 a5 a6)
    · split at hs
      · next e1 =>
        subst e1
        have e0 := (zL_inv hs).1
        replace hs := (zL_inv hs).2
        subst e0
        have tz := z2i_inv hs
        clear hs
        obtain ⟨x, y, r, rfl, hs⟩ := tz
        have tz := zif_inv hs
        clear hs
        obtain ⟨hb, hs⟩ := tz
        have tz := zgo_inv hs
        clear hs
        obtain ⟨rfl, rfl, rfl, rfl⟩ := tz
        have hb := of_decide_eq_true hb
        intro H locs cells slots lr a1 a2 a3 a4 a5 a6
        exact va_mmin C.1 C.2.1 (C.2.2.1.trans a4.2.1.symm) C.2.2.2.1 (hts _ hm) (hts _ zw_smin) (hts _ zw_math) (hts _ zw_cmin) hR.1 (by rw [zcat_map]; omega) (by omega) (by omega) hd (k H locs cells slots lr a1 a2 a3 a4 a5 a6)
      · split at hs
        · next e1 =>
          subst e1
          have e0 := (zL_inv hs).1
          replace hs := (zL_inv hs).2
          subst e0
          have tz := z1i_inv hs
          clear hs
          obtain ⟨x, r, rfl, hs⟩ := tz
          have tz := zif_inv hs
          clear hs
          obtain ⟨hb, hs⟩ := tz
          have tz := zgo_inv hs
          clear hs
          obtain ⟨rfl, rfl, rfl, rfl⟩ := tz
          have hb := of_decide_eq_true hb
          intro H locs cells slots lr a1 a2 a3 a4 a5 a6
          exact va_mabs C.1 C.2.1 (C.2.2.1.trans a4.2.1.symm) C.2.2.2.1 (hts _ hm) (hts _ zw_sabs) (hts _ zw_math) (hts _ zw_cabs) hR.1 (by rw [zcat_map]; omega) (by omega) (by omega) hd (k H locs cells slots lr a1 a2 a3 a4 a5 a6)
        · cases hs
theorem zo_special {idx kk : Nat} (C : zCx p s m args meth c G X A M h0) (hR : 1 ≤ R.frames ∧ 100 ≤ R.locals) (hd : decode M.2.2.1 pc = .ok (.invokespecial idx, len)) (hf : zfind zspT M.1 idx = some kk) (hs : zins X M (.invokespecial idx) len pc ls st h = some (.inl (pc', ls', st', h'))) (k : zGo p l e R s m args below meth c Q G A M h0 pc' ls' st' h') : zGo p l e R s m args below meth c Q G A M h0 pc ls st h := by
  have hts := C.2.2.2.2.1
  obtain ⟨h5, hm⟩ := zsp_all _ (zfind_mem hf)
  dsimp only at h5 hm
  replace hs : zinvI M idx len pc ls st h = some (.inl (pc', ls', st', h')) := hs
  unfold zinvI at hs
  rw [hf] at hs
  dsimp only at hs
  split at hs
  · next e1 =>
    subst e1
    have e0 := (zL_inv hs).1
    replace hs := (zL_inv hs).2
    subst e0
    have tz := z1r_inv hs
    clear hs
    obtain ⟨a, r, rfl, hs⟩ := tz
    have tz := zif_inv hs
    clear hs
    obtain ⟨hb, hs⟩ := tz
    have tz := zgo_inv hs
    clear hs
    obtain ⟨rfl, rfl, rfl, rfl⟩ := tz
    have hb := of_decide_eq_true hb
    intro H locs cells slots lr a1 a2 a3 a4 a5 a6
    refine W.objInit C.1 C.2.1 C.2.2.2.1 (hts _ hm) (hts _ zw_objI) (hts _ zw_objC) rfl (a4.2.1.trans C.2.2.1.symm) (a := zad G a) (rest := r.map (zcV G)) rfl hd hR.1 ?_ (k H locs cells slots lr a1 a2 a3 a4 a5 a6)
    rw [zcat_map]
    show 2 * 0 + _ + 12 ≤ _
    omega
  · cases hs
end ZPR
