section ZPH
variable {p : Program} {l : Launch} {e : Env} {R : Room} {s : State} {m : MethodId} {args : Array Value} {below : List Frame} {meth : Method} {c : Code} {Q : State → Prop} {G : zG} {X : zX} {A : Nat → Prop} {M : zM} {h0 : zH}
variable {pc pc' len : Nat} {ls ls' st st' : List Value} {h h' : zH}
theorem zad_lt {G : zG} {r : Nat} (hr : r < 1000) : zad G r = G.2.2.1 + r := by unfold zad; rw [if_pos hr]
/-- reads of fields -/
theorem zrf_inv {h : zH} {ci k r : Nat} {v : Value} (hv : zrf h ci k r = some v) : (ci = 100 ∧ zsf r k = some v) ∨ (ci ≠ 100 ∧ r < 1000 ∧ ∃ fs, h[r]? = some (.inr (ci, fs)) ∧ fs[k]? = some v) := by
  unfold zrf at hv
  split at hv
  · next e => exact Or.inl ⟨e, hv⟩
  · next e =>
    split at hv
    · next hr =>
      split at hv
      · next cc fs hq =>
        split at hv
        · next ec => subst ec; exact Or.inr ⟨e, hr, fs, hq, hv⟩
        · cases hv
      · cases hv
    · cases hv
theorem zo_getfield {idx : Nat} (C : zCx p s m args meth c G X A M h0) (hd : decode M.2.2.1 pc = .ok (.getfield idx, len)) (hs : zins X M (.getfield idx) len pc ls st h = some (.inl (pc', ls', st', h'))) (k : zGo p l e R s m args below meth c Q G A M h0 pc' ls' st' h') : zGo p l e R s m args below meth c Q G A M h0 pc ls st h := by
  have e0 := (zL_inv hs).1
  replace hs := (zL_inv hs).2
  subst e0
  have tz := z1r_inv hs
  clear hs
  obtain ⟨a, r, rfl, hs⟩ := tz
  have tz := zof_inv hs
  clear hs
  obtain ⟨q, hq, hs⟩ := tz
  have tz := zof_inv hs
  clear hs
  obtain ⟨v, hv, hs⟩ := tz
  obtain ⟨rfl, rfl, rfl, rfl⟩ := zgo_inv hs
  intro H locs cells slots lr a1 a2 a3 a4 a5 a6
  obtain ⟨ci, kf⟩ := q
  dsimp only at hv
  have kk := k H locs cells slots lr a1 a2 a3 a4 a5 a6
  rcases zfld_ok hq with ⟨w, hc, hk, hm⟩ | ⟨hc, hm⟩
  · dsimp only at hc hk hm
    obtain ⟨C1, T1, N1⟩ := w
    obtain ⟨e1, e2, e3, e4, e5, e6⟩ := zcl_at hc
    rcases zrf_inv hv with ⟨rfl, -⟩ | ⟨-, hr, fs, hh, hf⟩
    · omega
    · exact va_get (D := G.1) (cl := zcl) (ci := ci) (own := zR M.1) (ref := (T1 kf).1) (C := C1) (T := T1) (N := N1) (v := zcV G v) (a := zad G a) C.1 C.2.1 C.2.2.2.2.1 e4 C.2.2.2.1 C.2.2.2.2.2.2.1 a1 a (fs := fs.map (zcV G)) (zcW_at hh) hc kf hk (C.2.2.2.2.1 _ hm) (fun _ z => z) (by rw [List.getElem?_map, hf]; rfl) hd kk
  · dsimp only at hc hm
    subst hc
    rcases zrf_inv hv with ⟨-, hf⟩ | ⟨hc, -⟩
    · have hS := C.2.2.2.2.2.2.2.1
      unfold zsf at hf
      rcases hm with ⟨rfl, hm⟩ | ⟨rfl, hm⟩
      · split at hf
        · next hx => cases hf; obtain ⟨rfl, -⟩ := hx; exact vk_getf C.1 C.2.1 hS.2.2.2.2.2.1 a3 C.2.2.2.1 (C.2.2.2.2.1 _ hm) (fun _ z => z) hd kk
        · split at hf
          · next hx => cases hf; obtain ⟨rfl, -⟩ := hx; exact vk_getf C.1 C.2.1 hS.2.2.2.2.2.2 a3 C.2.2.2.1 (C.2.2.2.2.1 _ hm) (fun _ z => z) hd kk
          · split at hf
            · next hx => exact absurd hx.2 (by decide)
            · cases hf
      · split at hf
        · next hx => exact absurd hx.2 (by decide)
        · split at hf
          · next hx => exact absurd hx.2 (by decide)
          · split at hf
            · next hx => cases hf; exact vk_getf C.1 C.2.1 (hS.2.2.2.2.1 a hx.1).2 a3 C.2.2.2.1 (C.2.2.2.2.1 _ hm) (fun _ z => z) hd kk
            · cases hf
    · exact absurd rfl hc
theorem zfits_cV {ty : FieldType} {v : Value} (hz : zfits ty v = true) : narrow ty (zcV G v) = zcV G v ∧ fits ty (zcV G v) = true := by
  unfold zfits at hz
  rw [Bool.and_eq_true, decide_eq_true_eq] at hz
  cases v with
  | ref r =>
    obtain ⟨h1, h2⟩ := hz
    cases ty <;> simp_all [narrow, fits, zcV]
  | _ => exact hz
theorem zo_putfield {idx : Nat} (C : zCx p s m args meth c G X A M h0) (hd : decode M.2.2.1 pc = .ok (.putfield idx, len)) (hs : zins X M (.putfield idx) len pc ls st h = some (.inl (pc', ls', st', h'))) (k : zGo p l e R s m args below meth c Q G A M h0 pc' ls' st' h') : zGo p l e R s m args below meth c Q G A M h0 pc ls st h := by
  replace hs : zput M idx len pc ls st h = some (.inl (pc', ls', st', h')) := hs
  unfold zput at hs
  have e0 := (zL_inv hs).1
  replace hs := (zL_inv hs).2
  subst e0
  split at hs
  · next v a r =>
    have tz := zof_inv hs
    clear hs
    obtain ⟨q, hq, hs⟩ := tz
    have tz := zif_inv hs
    clear hs
    obtain ⟨hb, hs⟩ := tz
    have tz := zof_inv hs
    clear hs
    obtain ⟨h2, hh, hs⟩ := tz
    obtain ⟨rfl, rfl, rfl, rfl⟩ := zgo_inv hs
    obtain ⟨ci, kf⟩ := q
    dsimp only at hb hh
    simp only [Bool.and_eq_true, decide_eq_true_eq] at hb
    obtain ⟨⟨⟨hb1, hb2⟩, hb3⟩, hb4⟩ := hb
    intro H locs cells slots lr a1 a2 a3 a4 a5 a6
    rcases zfld_ok hq with ⟨w, hc, hk, hm⟩ | ⟨hc, hm⟩
    · dsimp only at hc hk hm
      obtain ⟨C1, T1, N1⟩ := w
      obtain ⟨e1, e2, e3, e4, e5, e6⟩ := zcl_at hc
      unfold zpf at hh
      split at hh
      · split at hh
        · next c2 fs hx =>
          split at hh
          · next hy =>
            obtain ⟨rfl, hl⟩ := hy
            cases hh
            obtain ⟨n1, n2⟩ := zfits_cV (G := G) hb3
            have kk : ∀ (H1 : Heap) (locs1 : List Loc), va_P G.1 zcl ((zcW G h).set a (zad G a, .inr (c2, (fs.map (zcV G)).set kf (zcV G v)))) H1 → va_D A ((zcW G h).set a (zad G a, .inr (c2, (fs.map (zcV G)).set kf (zcV G v)))) → va_S A s.heap H1 locs1 → W p l e R s m args below meth c H1 locs1 cells slots Q (F0 m (pc + 3) lr (r.map (zcV G))) := by
              intro H1 locs1 b1 b2 b3
              have ew : (zcW G h).set a (zad G a, .inr (c2, (fs.map (zcV G)).set kf (zcV G v))) = zcW G (h.set a (.inr (c2, fs.set kf v))) := by
                rw [zcW_set]
                simp only [zcE, List.map_set]
              rw [ew] at b1 b2
              exact k H1 locs1 cells slots lr b1 b2 b3 a4 (by rw [List.length_set]; exact a5) (by rw [zsz_set hx (by simp [zone])]; exact a6)
            have hl' : kf < (fs.map (zcV G)).length := by rw [List.length_map]; exact hl
            by_cases hf : (T1 kf).2.2.2 = true
            · have hfin : zfin c2 kf = true := by unfold zfin; rw [hc]; exact hf
              rw [hfin] at hb4
              simp only [Bool.not_true, Bool.false_or, Bool.and_eq_true, decide_eq_true_eq] at hb4
              obtain ⟨i1, i2⟩ := hb4
              have hdecl : (T1 kf).1 = zR M.1 := by
                rw [← i2]
                match c2, hc, hk with
                | 0, hc, hk => cases hc; match kf, hk with
                  | 0, _ => rfl | 1, _ => rfl | 2, _ => rfl | 3, _ => rfl | 4, _ => rfl | 5, _ => rfl | _ + 6, _ => rfl
                | 1, hc, hk => cases hc; match kf, hk with
                  | 0, _ => rfl | 1, _ => rfl | 2, _ => rfl | 3, _ => rfl | 4, _ => rfl | _ + 5, _ => rfl
                | 2, hc, hk => cases hc; rfl
                | 3, hc, hk => cases hc; match kf, hk with
                  | 0, _ => rfl | 1, _ => rfl | 2, _ => rfl | 3, _ => rfl | _ + 4, _ => rfl
                | 4, hc, hk => cases hc; match kf, hk with
                  | 0, _ => rfl | 1, _ => rfl | 2, _ => rfl | 3, _ => rfl | _ + 4, _ => rfl
                | 5, hc, hk => cases hc; match kf, hk with
                  | 0, _ => rfl | 1, _ => rfl | 2, _ => rfl | _ + 3, _ => rfl
                | 6, hc, hk => cases hc; match kf, hk with
                  | 0, _ => rfl | 1, _ => rfl | 2, _ => rfl | 3, _ => rfl | _ + 4, _ => rfl
                | 7, hc, hk => cases hc; match kf, hk with
                  | 0, _ => rfl | 1, _ => rfl | 2, _ => rfl | 3, _ => rfl | 4, _ => rfl | _ + 5, _ => rfl
                | 8, hc, hk => cases hc; match kf, hk with
                  | 0, _ => rfl | 1, _ => rfl | 2, _ => rfl | 3, _ => rfl | _ + 4, _ => rfl
                | 9, hc, hk => cases hc; match kf, hk with
                  | 0, _ => rfl | 1, _ => rfl | 2, _ => rfl | _ + 3, _ => rfl
                | 10, hc, hk => cases hc; match kf, hk with
                  | 0, _ => rfl | 1, _ => rfl | 2, _ => rfl | 3, _ => rfl | 4, _ => rfl | 5, _ => rfl | _ + 6, _ => rfl
                | 11, hc, hk => cases hc; match kf, hk with
                  | 0, _ => rfl | 1, _ => rfl | 2, _ => rfl | 3, _ => rfl | 4, _ => rfl | 5, _ => rfl | 6, _ => rfl | 7, _ => rfl | 8, _ => rfl | _ + 9, _ => rfl
                | 12, hc, hk =>
                  have hall : ∀ j, j < 57 → (TX12 j).1 = RX12 := by decide +kernel
                  cases hc
                  exact hall kf hk
                | n + 13, hc, _ => simp [zcl] at hc
              exact va_putF (D := G.1) (cl := zcl) (ci := c2) (own := zR M.1) (ref := (T1 kf).1) (C := C1) (T := T1) (N := N1) (ty := ztyX c2 kf) (v := zcV G v) C.1 C.2.1 C.2.2.2.2.1 e4 (ztyX c2) e5 e6 C.2.2.2.1 C.2.2.2.2.2.2.1 a1 a2 a3 a (zcW_at hx) hc kf hk (C.2.2.2.2.1 _ hm) (fun _ z => z) hf (C.2.2.2.2.2.1 i1) hdecl (e5 kf hk) n1 n2 hl' hd kk
            · have hf : (T1 kf).2.2.2 = false := by cases hx : (T1 kf).2.2.2 <;> simp_all
              exact va_put (D := G.1) (cl := zcl) (ci := c2) (own := zR M.1) (ref := (T1 kf).1) (C := C1) (T := T1) (N := N1) (ty := ztyX c2 kf) (v := zcV G v) C.1 C.2.1 C.2.2.2.2.1 e4 (ztyX c2) e5 e6 C.2.2.2.1 C.2.2.2.2.2.2.1 a1 a2 a3 a (zcW_at hx) hc kf hk (C.2.2.2.2.1 _ hm) (fun _ z => z) hf (e5 kf hk) n1 n2 hl' hd kk
          · cases hh
        · cases hh
      · cases hh
    · dsimp only at hc
      omega
  · cases hs
theorem zo_getstatic {idx : Nat} (C : zCx p s m args meth c G X A M h0) (hd : decode M.2.2.1 pc = .ok (.getstatic idx, len)) (hs : zins X M (.getstatic idx) len pc ls st h = some (.inl (pc', ls', st', h'))) (k : zGo p l e R s m args below meth c Q G A M h0 pc' ls' st' h') : zGo p l e R s m args below meth c Q G A M h0 pc ls st h := by
  have e0 := (zL_inv hs).1
  replace hs := (zL_inv hs).2
  subst e0
  have tz := zof_inv hs
  clear hs
  obtain ⟨q, hq, hs⟩ := tz
  obtain ⟨rfl, rfl, rfl, rfl⟩ := zgo_inv hs
  intro H locs cells slots lr a1 a2 a3 a4 a5 a6
  have kk := k H locs cells slots lr a1 a2 a3 a4 a5 a6
  have hS := C.2.2.2.2.2.2.2.1
  rcases zgs_all _ (zfind_mem hq) with ⟨h8, ho, hi⟩ | ⟨h5, hm⟩
  · dsimp only at h8 ho hi
    subst h8; subst hi
    rw [if_neg (by decide), if_pos rfl] at kk
    have hw : va_Nw (.fieldLinkNest RX10 117 RX5 "MOST" "[I" RX11) s := C.2.2.2.2.2.2.2.2.1.2.2.1 _ (by simp [zNw])
    have hown := C.2.2.2.1
    rw [ho] at hown
    exact va_getsN C.1 C.2.1 (hS.1 1 (by decide)) a3 hown (va_Nw.use rfl hw) (fun _ z => z) hd kk
  · dsimp only at h5 hm
    rcases h5 with h5 | rfl
    · rw [if_neg (by omega), if_neg (by omega)] at kk
      exact va_gets C.1 C.2.1 (hS.1 q h5) a3 C.2.2.2.1 (C.2.2.2.2.1 _ hm) (fun _ z => z) hd kk
    · rw [if_pos rfl] at kk
      exact va_gets C.1 C.2.1 hS.2.1 a3 C.2.2.2.1 (C.2.2.2.2.1 _ hm) (fun _ z => z) hd kk
theorem zo_ldc {idx : Nat} (C : zCx p s m args meth c G X A M h0) (hd : decode M.2.2.1 pc = .ok (.ldc idx, len)) (hs : zins X M (.ldc idx) len pc ls st h = some (.inl (pc', ls', st', h'))) (k : zGo p l e R s m args below meth c Q G A M h0 pc' ls' st' h') : zGo p l e R s m args below meth c Q G A M h0 pc ls st h := by
  have e0 := (zL_inv hs).1
  replace hs := (zL_inv hs).2
  subst e0
  have tz := zof_inv hs
  clear hs
  obtain ⟨q, hq, hs⟩ := tz
  intro H locs cells slots lr a1 a2 a3 a4 a5 a6
  rcases zcst_all _ (zfind_mem hq) with ⟨v, hv, hm⟩ | ⟨v, hv, hm⟩ | ⟨ho, hi, hv⟩ | ⟨ho, hi, hv⟩
  · dsimp only at hv; subst hv
    obtain ⟨rfl, rfl, rfl, rfl⟩ := zgo_inv hs
    exact lv_ldc C.1 C.2.1 C.2.2.2.1 (C.2.2.2.2.1 _ hm) hd (k H locs cells slots lr a1 a2 a3 a4 a5 a6)
  · dsimp only at hv; subst hv
    cases hs
  · dsimp only at hv ho hi; subst hv; subst hi
    obtain ⟨rfl, rfl, rfl, rfl⟩ := zgo_inv hs
    have hown := C.2.2.2.1
    rw [ho] at hown
    exact va_ldcS C.1 C.2.1 hown C.2.2.2.2.2.2.2.2.1.1 hd (k H locs cells slots lr a1 a2 a3 a4 a5 a6)
  · dsimp only at hv ho hi; subst hv; subst hi
    obtain ⟨rfl, rfl, rfl, rfl⟩ := zgo_inv hs
    have hown := C.2.2.2.1
    rw [ho] at hown
    exact va_ldcS C.1 C.2.1 hown C.2.2.2.2.2.2.2.2.1.2.1 hd (k H locs cells slots lr a1 a2 a3 a4 a5 a6)
theorem zo_ldc_w {idx : Nat} (C : zCx p s m args meth c G X A M h0) (hd : decode M.2.2.1 pc = .ok (.ldc_w idx, len)) (hs : zins X M (.ldc_w idx) len pc ls st h = some (.inl (pc', ls', st', h'))) (k : zGo p l e R s m args below meth c Q G A M h0 pc' ls' st' h') : zGo p l e R s m args below meth c Q G A M h0 pc ls st h := by
  have e0 := (zL_inv hs).1
  replace hs := (zL_inv hs).2
  subst e0
  have tz := zof_inv hs
  clear hs
  obtain ⟨q, hq, hs⟩ := tz
  intro H locs cells slots lr a1 a2 a3 a4 a5 a6
  rcases zcst_all _ (zfind_mem hq) with ⟨v, hv, hm⟩ | ⟨v, hv, hm⟩ | ⟨ho, hi, hv⟩ | ⟨ho, hi, hv⟩
  · dsimp only at hv; subst hv
    obtain ⟨rfl, rfl, rfl, rfl⟩ := zgo_inv hs
    exact lv_ldcw C.1 C.2.1 C.2.2.2.1 (C.2.2.2.2.1 _ hm) hd (k H locs cells slots lr a1 a2 a3 a4 a5 a6)
  · dsimp only at hv; subst hv; cases hs
  · dsimp only at hv; subst hv; cases hs
  · dsimp only at hv; subst hv; cases hs
theorem zo_ldc2_w {idx : Nat} (C : zCx p s m args meth c G X A M h0) (hd : decode M.2.2.1 pc = .ok (.ldc2_w idx, len)) (hs : zins X M (.ldc2_w idx) len pc ls st h = some (.inl (pc', ls', st', h'))) (k : zGo p l e R s m args below meth c Q G A M h0 pc' ls' st' h') : zGo p l e R s m args below meth c Q G A M h0 pc ls st h := by
  have e0 := (zL_inv hs).1
  replace hs := (zL_inv hs).2
  subst e0
  have tz := zof_inv hs
  clear hs
  obtain ⟨q, hq, hs⟩ := tz
  intro H locs cells slots lr a1 a2 a3 a4 a5 a6
  rcases zcst_all _ (zfind_mem hq) with ⟨v, hv, hm⟩ | ⟨v, hv, hm⟩ | ⟨ho, hi, hv⟩ | ⟨ho, hi, hv⟩
  · dsimp only at hv; subst hv; cases hs
  · dsimp only at hv; subst hv
    obtain ⟨rfl, rfl, rfl, rfl⟩ := zgo_inv hs
    exact lv_ldc2 C.1 C.2.1 C.2.2.2.1 (C.2.2.2.2.1 _ hm) hd (k H locs cells slots lr a1 a2 a3 a4 a5 a6)
  · dsimp only at hv; subst hv; cases hs
  · dsimp only at hv; subst hv; cases hs
end ZPH
