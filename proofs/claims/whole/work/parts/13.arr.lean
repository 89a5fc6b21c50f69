section ZPA
variable {p : Program} {l : Launch} {e : Env} {R : Room} {s : State} {m : MethodId} {args : Array Value} {below : List Frame} {meth : Method} {c : Code} {Q : State → Prop} {G : zG} {X : zX} {A : Nat → Prop} {M : zM} {h0 : zH}
variable {pc pc' len : Nat} {ls ls' st st' : List Value} {h h' : zH}
theorem zia_inv {X : zX} {h : zH} {t r n : Nat} {f : Nat → Int32} (hv : zia X h t r = some (n, f)) : (r < 1000 ∧ h[r]? = some (.inl (t, n, .inl f))) ∨ (¬ r < 1000 ∧ t = 0 ∧ zsi X r = some (n, f)) ∨ (¬ r < 1000 ∧ t = 2 ∧ zsb r = some (n, f)) := by
  unfold zia at hv
  split at hv
  · next hr =>
    split at hv
    · next u n' f' hq =>
      split at hv
      · next eu => subst eu; cases hv; exact Or.inl ⟨hr, hq⟩
      · cases hv
    · cases hv
  · next hr =>
    split at hv
    · next ht => exact Or.inr (Or.inl ⟨hr, ht, hv⟩)
    · split at hv
      · next ht => exact Or.inr (Or.inr ⟨hr, ht, hv⟩)
      · cases hv
theorem zla_inv {h : zH} {r n : Nat} {f : Nat → Int64} (hv : zla h r = some (n, f)) : r < 1000 ∧ h[r]? = some (.inl (1, n, .inr (.inl f))) := by
  unfold zla at hv
  split at hv
  · next hr =>
    split at hv
    · next u n' f' hq =>
      split at hv
      · next eu => subst eu; cases hv; exact ⟨hr, hq⟩
      · cases hv
    · cases hv
  · cases hv
theorem zra_inv {h : zH} {r u n : Nat} {f : Nat → Option Nat} (hv : zra h r = some (u, n, f)) : r < 1000 ∧ (u = 4 ∨ u = 5) ∧ h[r]? = some (.inl (u, n, .inr (.inr (.inr (.inr f))))) := by
  unfold zra at hv
  split at hv
  · next hr =>
    split at hv
    · next u n' f' hq =>
      split at hv
      · next eu => cases hv; exact ⟨hr, eu, hq⟩
      · cases hv
    · cases hv
  · cases hv
theorem zo_iaload (C : zCx p s m args meth c G X A M h0) (hd : decode M.2.2.1 pc = .ok (.iaload, len)) (hs : zins X M .iaload len pc ls st h = some (.inl (pc', ls', st', h'))) (k : zGo p l e R s m args below meth c Q G A M h0 pc' ls' st' h') : zGo p l e R s m args below meth c Q G A M h0 pc ls st h := by
  replace hs : zald X 0 len pc ls st h = some (.inl (pc', ls', st', h')) := hs
  unfold zald at hs
  have e0 := (zL_inv hs).1
  replace hs := (zL_inv hs).2
  subst e0
  have tz := z1i_inv hs
  clear hs
  obtain ⟨i, r, rfl, hs⟩ := tz
  have tz := z1r_inv hs
  clear hs
  obtain ⟨a, r, rfl, hs⟩ := tz
  have tz := zof_inv hs
  clear hs
  obtain ⟨⟨n, f⟩, hq, hs⟩ := tz
  have tz := zif_inv hs
  clear hs
  obtain ⟨hb, hs⟩ := tz
  obtain ⟨rfl, rfl, rfl, rfl⟩ := zgo_inv hs
  have hb := zin_iff.mp hb
  intro H locs cells slots lr a1 a2 a3 a4 a5 a6
  have kk := k H locs cells slots lr a1 a2 a3 a4 a5 a6
  rcases zia_inv hq with ⟨hr, hh⟩ | ⟨hr, -, hh⟩ | ⟨-, h2, -⟩
  · exact va_iald (D := G.1) (cl := zcl) C.1 C.2.1 C.2.2.2.2.2.2.1 a1 a 0 (zcW_at hh) (ztys_at G (by decide)) hb hd kk
  · exact va_ti C.1 C.2.1 (C.2.2.2.2.2.2.2.1.2.2.1 a n f hh) a3 hb rfl hd kk
  · cases h2
theorem zo_baload (C : zCx p s m args meth c G X A M h0) (hd : decode M.2.2.1 pc = .ok (.baload, len)) (hs : zins X M .baload len pc ls st h = some (.inl (pc', ls', st', h'))) (k : zGo p l e R s m args below meth c Q G A M h0 pc' ls' st' h') : zGo p l e R s m args below meth c Q G A M h0 pc ls st h := by
  replace hs : zald X 2 len pc ls st h = some (.inl (pc', ls', st', h')) := hs
  unfold zald at hs
  have e0 := (zL_inv hs).1
  replace hs := (zL_inv hs).2
  subst e0
  have tz := z1i_inv hs
  clear hs
  obtain ⟨i, r, rfl, hs⟩ := tz
  have tz := z1r_inv hs
  clear hs
  obtain ⟨a, r, rfl, hs⟩ := tz
  have tz := zof_inv hs
  clear hs
  obtain ⟨⟨n, f⟩, hq, hs⟩ := tz
  have tz := zif_inv hs
  clear hs
  obtain ⟨hb, hs⟩ := tz
  obtain ⟨rfl, rfl, rfl, rfl⟩ := zgo_inv hs
  have hb := zin_iff.mp hb
  intro H locs cells slots lr a1 a2 a3 a4 a5 a6
  have kk := k H locs cells slots lr a1 a2 a3 a4 a5 a6
  rcases zia_inv hq with ⟨hr, hh⟩ | ⟨-, h2, -⟩ | ⟨hr, -, hh⟩
  · exact va_bald (D := G.1) (cl := zcl) C.1 C.2.1 C.2.2.2.2.2.2.1 a1 a 2 (zcW_at hh) (ztys_at G (by decide)) hb hd kk
  · cases h2
  · exact va_tb C.1 C.2.1 (C.2.2.2.2.2.2.2.1.2.2.2.1 a n f hh) a3 hb rfl hd kk
theorem zo_saload (C : zCx p s m args meth c G X A M h0) (hd : decode M.2.2.1 pc = .ok (.saload, len)) (hs : zins X M .saload len pc ls st h = some (.inl (pc', ls', st', h'))) (k : zGo p l e R s m args below meth c Q G A M h0 pc' ls' st' h') : zGo p l e R s m args below meth c Q G A M h0 pc ls st h := by
  replace hs : zald X 3 len pc ls st h = some (.inl (pc', ls', st', h')) := hs
  unfold zald at hs
  have e0 := (zL_inv hs).1
  replace hs := (zL_inv hs).2
  subst e0
  have tz := z1i_inv hs
  clear hs
  obtain ⟨i, r, rfl, hs⟩ := tz
  have tz := z1r_inv hs
  clear hs
  obtain ⟨a, r, rfl, hs⟩ := tz
  have tz := zof_inv hs
  clear hs
  obtain ⟨⟨n, f⟩, hq, hs⟩ := tz
  have tz := zif_inv hs
  clear hs
  obtain ⟨hb, hs⟩ := tz
  obtain ⟨rfl, rfl, rfl, rfl⟩ := zgo_inv hs
  have hb := zin_iff.mp hb
  intro H locs cells slots lr a1 a2 a3 a4 a5 a6
  have kk := k H locs cells slots lr a1 a2 a3 a4 a5 a6
  rcases zia_inv hq with ⟨hr, hh⟩ | ⟨-, h2, -⟩ | ⟨-, h2, -⟩
  · exact va_sald (D := G.1) (cl := zcl) C.1 C.2.1 C.2.2.2.2.2.2.1 a1 a 3 (zcW_at hh) (ztys_at G (by decide)) hb hd kk
  · cases h2
  · cases h2
/-- behind a write into an array of ints, bytes, shorts -/
theorem zset_go {H1 : Heap} {locs1 : List Loc} {cells slots : Nat} {lr : Array Slot} {a : Nat} {x x' : zE} (hx : h[a]? = some x) (hz : zone x' = zone x) (k : zGo p l e R s m args below meth c Q G A M h0 pc' ls st' (h.set a x')) (b1 : va_P G.1 zcl ((zcW G h).set a (zad G a, zcE G x')) H1) (b2 : va_D A ((zcW G h).set a (zad G a, zcE G x'))) (b3 : va_S A s.heap H1 locs1) (a4 : zLv G ls lr M.2.2.2.1) (a5 : cells + h0.length = h.length) (a6 : slots + zsz h0 = zsz h) : W p l e R s m args below meth c H1 locs1 cells slots Q (F0 m pc' lr (st'.map (zcV G))) := by
  rw [← zcW_set] at b1 b2
  exact k H1 locs1 cells slots lr b1 b2 b3 a4 (by rw [List.length_set]; exact a5) (by rw [zsz_set hx hz]; exact a6)
theorem zast_inv {t : Nat} (hs : zast t len pc ls st h = some (.inl (pc', ls', st', h'))) : ∃ x i a r n f, len = 1 ∧ st = .int x :: .int i :: .ref a :: r ∧ a < 1000 ∧ h[a]? = some (.inl (t, n, .inl f)) ∧ vp_in i n ∧ pc' = pc + 1 ∧ ls' = ls ∧ st' = r ∧ h' = h.set a (.inl (t, n, .inl (upd f i.toNatClampNeg (znarT t x)))) := by
  unfold zast at hs
  have e0 := (zL_inv hs).1
  replace hs := (zL_inv hs).2
  subst e0
  have tz := z1i_inv hs
  clear hs
  obtain ⟨x, r, rfl, hs⟩ := tz
  have tz := z1i_inv hs
  clear hs
  obtain ⟨i, r, rfl, hs⟩ := tz
  have tz := z1r_inv hs
  clear hs
  obtain ⟨a, r, rfl, hs⟩ := tz
  have tz := zof_inv hs
  clear hs
  obtain ⟨⟨n, f⟩, hq, hs⟩ := tz
  have tz := zif_inv hs
  clear hs
  obtain ⟨hb, hs⟩ := tz
  have tz := zof_inv hs
  clear hs
  obtain ⟨h2, hp, hs⟩ := tz
  obtain ⟨rfl, rfl, rfl, rfl⟩ := zgo_inv hs
  have hb := zin_iff.mp hb
  split at hq
  · next ha =>
    rcases zia_inv hq with ⟨hr, hh⟩ | ⟨hr, -, -⟩ | ⟨hr, -, -⟩
    · unfold zpi at hp
      rw [if_pos hr, hh] at hp
      dsimp only at hp
      rw [if_pos rfl] at hp
      cases hp
      exact ⟨x, i, a, r, n, f, rfl, rfl, ha, hh, hb, rfl, rfl, rfl, rfl⟩
    · exact absurd ha hr
    · exact absurd ha hr
  · cases hq
theorem zo_iastore (C : zCx p s m args meth c G X A M h0) (hd : decode M.2.2.1 pc = .ok (.iastore, len)) (hs : zins X M .iastore len pc ls st h = some (.inl (pc', ls', st', h'))) (k : zGo p l e R s m args below meth c Q G A M h0 pc' ls' st' h') : zGo p l e R s m args below meth c Q G A M h0 pc ls st h := by
  obtain ⟨x, i, a, r, n, f, rfl, rfl, ha, hh, hb, rfl, rfl, rfl, rfl⟩ := zast_inv hs
  intro H locs cells slots lr a1 a2 a3 a4 a5 a6
  exact va_iast (D := G.1) (cl := zcl) C.1 C.2.1 C.2.2.2.2.2.2.1 a1 a2 a3 a 0 (zcW_at hh) (ztys_at G (by decide)) hb hd (fun H1 locs1 b1 b2 b3 => zset_go (x' := .inl (0, n, .inl (upd f i.toNatClampNeg x))) hh rfl k b1 b2 b3 a4 a5 a6)
theorem zo_bastore (C : zCx p s m args meth c G X A M h0) (hd : decode M.2.2.1 pc = .ok (.bastore, len)) (hs : zins X M .bastore len pc ls st h = some (.inl (pc', ls', st', h'))) (k : zGo p l e R s m args below meth c Q G A M h0 pc' ls' st' h') : zGo p l e R s m args below meth c Q G A M h0 pc ls st h := by
  obtain ⟨x, i, a, r, n, f, rfl, rfl, ha, hh, hb, rfl, rfl, rfl, rfl⟩ := zast_inv hs
  intro H locs cells slots lr a1 a2 a3 a4 a5 a6
  refine va_bast (D := G.1) (cl := zcl) C.1 C.2.1 C.2.2.2.2.2.2.1 a1 a2 a3 a 2 (zcW_at hh) (ztys_at G (by decide)) hb hd (fun H1 locs1 b1 b2 b3 => ?_)
  rw [vp_nar_byte] at b1 b2
  exact zset_go (x' := .inl (2, n, .inl (upd f i.toNatClampNeg x.toInt8.toInt32))) hh rfl k b1 b2 b3 a4 a5 a6
theorem zo_sastore (C : zCx p s m args meth c G X A M h0) (hd : decode M.2.2.1 pc = .ok (.sastore, len)) (hs : zins X M .sastore len pc ls st h = some (.inl (pc', ls', st', h'))) (k : zGo p l e R s m args below meth c Q G A M h0 pc' ls' st' h') : zGo p l e R s m args below meth c Q G A M h0 pc ls st h := by
  obtain ⟨x, i, a, r, n, f, rfl, rfl, ha, hh, hb, rfl, rfl, rfl, rfl⟩ := zast_inv hs
  intro H locs cells slots lr a1 a2 a3 a4 a5 a6
  refine va_sast (D := G.1) (cl := zcl) C.1 C.2.1 C.2.2.2.2.2.2.1 a1 a2 a3 a 3 (zcW_at hh) (ztys_at G (by decide)) hb hd (fun H1 locs1 b1 b2 b3 => ?_)
  rw [vp_nar_short] at b1 b2
  exact zset_go (x' := .inl (3, n, .inl (upd f i.toNatClampNeg x.toInt16.toInt32))) hh rfl k b1 b2 b3 a4 a5 a6
theorem zo_laload (C : zCx p s m args meth c G X A M h0) (hd : decode M.2.2.1 pc = .ok (.laload, len)) (hs : zins X M .laload len pc ls st h = some (.inl (pc', ls', st', h'))) (k : zGo p l e R s m args below meth c Q G A M h0 pc' ls' st' h') : zGo p l e R s m args below meth c Q G A M h0 pc ls st h := by
  have e0 := (zL_inv hs).1
  replace hs := (zL_inv hs).2
  subst e0
  have tz := z1i_inv hs
  clear hs
  obtain ⟨i, r, rfl, hs⟩ := tz
  have tz := z1r_inv hs
  clear hs
  obtain ⟨a, r, rfl, hs⟩ := tz
  have tz := zof_inv hs
  clear hs
  obtain ⟨⟨n, f⟩, hq, hs⟩ := tz
  have tz := zif_inv hs
  clear hs
  obtain ⟨hb, hs⟩ := tz
  obtain ⟨rfl, rfl, rfl, rfl⟩ := zgo_inv hs
  intro H locs cells slots lr a1 a2 a3 a4 a5 a6
  exact va_lald (D := G.1) (cl := zcl) C.1 C.2.1 C.2.2.2.2.2.2.1 a1 a 1 (zcW_at (zla_inv hq).2) (ztys_at G (by decide)) (zin_iff.mp hb) hd (k H locs cells slots lr a1 a2 a3 a4 a5 a6)
theorem zo_lastore (C : zCx p s m args meth c G X A M h0) (hd : decode M.2.2.1 pc = .ok (.lastore, len)) (hs : zins X M .lastore len pc ls st h = some (.inl (pc', ls', st', h'))) (k : zGo p l e R s m args below meth c Q G A M h0 pc' ls' st' h') : zGo p l e R s m args below meth c Q G A M h0 pc ls st h := by
  have e0 := (zL_inv hs).1
  replace hs := (zL_inv hs).2
  subst e0
  have tz := z1l_inv hs
  clear hs
  obtain ⟨x, r, rfl, hs⟩ := tz
  have tz := z1i_inv hs
  clear hs
  obtain ⟨i, r, rfl, hs⟩ := tz
  have tz := z1r_inv hs
  clear hs
  obtain ⟨a, r, rfl, hs⟩ := tz
  have tz := zof_inv hs
  clear hs
  obtain ⟨⟨n, f⟩, hq, hs⟩ := tz
  have tz := zif_inv hs
  clear hs
  obtain ⟨hb, hs⟩ := tz
  have tz := zof_inv hs
  clear hs
  obtain ⟨h2, hp, hs⟩ := tz
  obtain ⟨rfl, rfl, rfl, rfl⟩ := zgo_inv hs
  obtain ⟨ha, hh⟩ := zla_inv hq
  unfold zpl at hp
  rw [if_pos ha, hh] at hp
  dsimp only at hp
  rw [if_pos rfl] at hp
  cases hp
  intro H locs cells slots lr a1 a2 a3 a4 a5 a6
  exact va_last (D := G.1) (cl := zcl) C.1 C.2.1 C.2.2.2.2.2.2.1 a1 a2 a3 a 1 (zcW_at hh) (ztys_at G (by decide)) (zin_iff.mp hb) hd (fun H1 locs1 b1 b2 b3 => zset_go (x' := .inl (1, n, .inr (.inl (vp_updL f i.toNatClampNeg x)))) hh rfl k b1 b2 b3 a4 a5 a6)
theorem zo_aaload (C : zCx p s m args meth c G X A M h0) (hd : decode M.2.2.1 pc = .ok (.aaload, len)) (hs : zins X M .aaload len pc ls st h = some (.inl (pc', ls', st', h'))) (k : zGo p l e R s m args below meth c Q G A M h0 pc' ls' st' h') : zGo p l e R s m args below meth c Q G A M h0 pc ls st h := by
  have e0 := (zL_inv hs).1
  replace hs := (zL_inv hs).2
  subst e0
  have tz := z1i_inv hs
  clear hs
  obtain ⟨i, r, rfl, hs⟩ := tz
  have tz := z1r_inv hs
  clear hs
  obtain ⟨a, r, rfl, hs⟩ := tz
  have tz := zof_inv hs
  clear hs
  obtain ⟨⟨u, n, f⟩, hq, hs⟩ := tz
  have tz := zif_inv hs
  clear hs
  obtain ⟨hb, hs⟩ := tz
  have tz := zof_inv hs
  clear hs
  obtain ⟨b, hf, hs⟩ := tz
  obtain ⟨rfl, rfl, rfl, rfl⟩ := zgo_inv hs
  obtain ⟨ha, hu, hh⟩ := zra_inv hq
  dsimp only at hf hb
  intro H locs cells slots lr a1 a2 a3 a4 a5 a6
  have kk := k H locs cells slots lr a1 a2 a3 a4 a5 a6
  have hw : (zcW G h)[a]? = some (zad G a, .inl (G.2.1 u, n, .inr (.inr (.inr (.inr (fun j => (f j).map (zad G))))))) := zcW_at hh
  have kk2 : W p l e R s m args below meth c H locs cells slots Q (F0 m (pc + 1) lr (va_rf ((f i.toNatClampNeg).map (zad G)) :: r.map (zcV G))) := by rw [hf]; exact kk
  rcases hu with rfl | rfl
  · exact va_aldq (D := G.1) (cl := zcl) C.1 C.2.1 C.2.2.2.2.2.2.1 a1 a 4 hw (ztys_at G (by decide)) (zin_iff.mp hb) hd kk2
  · exact va_aldq (D := G.1) (cl := zcl) C.1 C.2.1 C.2.2.2.2.2.2.1 a1 a 5 hw (ztys_at G (by decide)) (zin_iff.mp hb) hd kk2
theorem zo_aastore (C : zCx p s m args meth c G X A M h0) (hd : decode M.2.2.1 pc = .ok (.aastore, len)) (hs : zins X M .aastore len pc ls st h = some (.inl (pc', ls', st', h'))) (k : zGo p l e R s m args below meth c Q G A M h0 pc' ls' st' h') : zGo p l e R s m args below meth c Q G A M h0 pc ls st h := by
  have e0 := (zL_inv hs).1
  replace hs := (zL_inv hs).2
  subst e0
  have tz := z1r_inv hs
  clear hs
  obtain ⟨x, r, rfl, hs⟩ := tz
  have tz := z1i_inv hs
  clear hs
  obtain ⟨i, r, rfl, hs⟩ := tz
  have tz := z1r_inv hs
  clear hs
  obtain ⟨a, r, rfl, hs⟩ := tz
  have tz := zof_inv hs
  clear hs
  obtain ⟨⟨u, n, f⟩, hq, hs⟩ := tz
  have tz := zif_inv hs
  clear hs
  obtain ⟨hb, hs⟩ := tz
  have tz := zof_inv hs
  clear hs
  obtain ⟨h2, hp, hs⟩ := tz
  obtain ⟨rfl, rfl, rfl, rfl⟩ := zgo_inv hs
  obtain ⟨ha, hu, hh⟩ := zra_inv hq
  dsimp only at hb
  simp only [Bool.and_eq_true, decide_eq_true_eq] at hb
  obtain ⟨⟨hb, hr⟩, hx⟩ := hb
  unfold zpr at hp
  rw [if_pos ha, hh] at hp
  dsimp only at hp
  rw [if_pos hu] at hp
  cases hp
  unfold zrecv at hr
  rw [if_pos hx] at hr
  split at hr
  · next c2 fs hy =>
    have hr := of_decide_eq_true hr
    intro H locs cells slots lr a1 a2 a3 a4 a5 a6
    have hw : (zcW G h)[a]? = some (zad G a, .inl (G.2.1 u, n, .inr (.inr (.inr (.inr (fun j => (f j).map (zad G))))))) := zcW_at hh
    have hv : (zcW G h)[x]? = some (zad G x, .inr (c2, fs.map (zcV G))) := zcW_at hy
    have go : ∀ (H1 : Heap) (locs1 : List Loc), va_P G.1 zcl ((zcW G h).set a (zad G a, .inl (G.2.1 u, n, .inr (.inr (.inr (.inr (va_up (fun j => (f j).map (zad G)) i.toNatClampNeg (some (zad G x)))))))) ) H1 → va_D A ((zcW G h).set a (zad G a, .inl (G.2.1 u, n, .inr (.inr (.inr (.inr (va_up (fun j => (f j).map (zad G)) i.toNatClampNeg (some (zad G x))))))))) → va_S A s.heap H1 locs1 → W p l e R s m args below meth c H1 locs1 cells slots Q (F0 m (pc + 1) lr (r.map (zcV G))) := by
      intro H1 locs1 b1 b2 b3
      have ef : va_up (fun j => (f j).map (zad G)) i.toNatClampNeg (some (zad G x)) = fun j => (va_up f i.toNatClampNeg (some x) j).map (zad G) := by
        funext j
        unfold va_up
        by_cases hj : j = i.toNatClampNeg
        · rw [if_pos hj, if_pos hj]; rfl
        · rw [if_neg hj, if_neg hj]
      rw [ef] at b1 b2
      exact zset_go (x' := .inl (u, n, .inr (.inr (.inr (.inr (va_up f i.toNatClampNeg (some x))))))) hh rfl k b1 b2 b3 a4 a5 a6
    rcases hu with rfl | rfl
    · rw [if_pos rfl] at hr
      subst hr
      exact va_astq (D := G.1) (cl := zcl) C.1 C.2.1 C.2.2.2.2.2.2.1 a1 a2 a3 a 4 x 8 (r := (RX8, TX8, 5)) hw (ztys_at G (by decide)) hv rfl (zin_iff.mp hb) hd go
    · rw [if_neg (by decide)] at hr
      subst hr
      exact va_astq (D := G.1) (cl := zcl) C.1 C.2.1 C.2.2.2.2.2.2.1 a1 a2 a3 a 5 x 2 (r := (RX2, TX2, 1)) hw (ztys_at G (by decide)) hv rfl (zin_iff.mp hb) hd go
  · cases hr
theorem zo_arraylength (C : zCx p s m args meth c G X A M h0) (hd : decode M.2.2.1 pc = .ok (.arraylength, len)) (hs : zins X M .arraylength len pc ls st h = some (.inl (pc', ls', st', h'))) (k : zGo p l e R s m args below meth c Q G A M h0 pc' ls' st' h') : zGo p l e R s m args below meth c Q G A M h0 pc ls st h := by
  have e0 := (zL_inv hs).1
  replace hs := (zL_inv hs).2
  subst e0
  have tz := z1r_inv hs
  clear hs
  obtain ⟨a, r, rfl, hs⟩ := tz
  have tz := zof_inv hs
  clear hs
  obtain ⟨n, hq, hs⟩ := tz
  obtain ⟨rfl, rfl, rfl, rfl⟩ := zgo_inv hs
  intro H locs cells slots lr a1 a2 a3 a4 a5 a6
  have kk := k H locs cells slots lr a1 a2 a3 a4 a5 a6
  unfold zlen at hq
  split at hq
  · split at hq
    · next u n' x hh =>
      split at hq
      · next hu =>
        cases hq
        have hw := zcW_at (G := G) hh
        refine va_alen (D := G.1) (cl := zcl) C.1 C.2.1 C.2.2.2.2.2.2.1 a1 a u hw (ztys_at G hu) ?_ hd kk
        congr 1
        rcases x with f | f | f | f | f <;> rfl
      · cases hq
    · cases hq
  · split at hq
    · next n' f hh => cases hq; exact va_tlen C.1 C.2.1 (C.2.2.2.2.2.2.2.1.2.2.1 a n f hh) a3 rfl hd kk
    · split at hq
      · next n' f hh => cases hq; exact va_tlen C.1 C.2.1 (C.2.2.2.2.2.2.2.1.2.2.2.1 a n f hh) a3 rfl hd kk
      · cases hq
end ZPA
