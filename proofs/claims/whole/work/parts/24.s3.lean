set_option maxRecDepth 100000
theorem dX6_become_0 : decode cX6_become 0 = .ok (.aload_n 0, 1) := by decide +kernel
theorem dX6_become_1 : decode cX6_become 1 = .ok (.aload_n 1, 1) := by decide +kernel
theorem dX6_become_2 : decode cX6_become 2 = .ok (.getfield 21, 3) := by decide +kernel
theorem dX6_become_5 : decode cX6_become 5 = .ok (.putfield 21, 3) := by decide +kernel
theorem dX6_become_8 : decode cX6_become 8 = .ok (.aload_n 0, 1) := by decide +kernel
theorem dX6_become_9 : decode cX6_become 9 = .ok (.aload_n 1, 1) := by decide +kernel
theorem dX6_become_10 : decode cX6_become 10 = .ok (.getfield 25, 3) := by decide +kernel
theorem dX6_become_13 : decode cX6_become 13 = .ok (.putfield 25, 3) := by decide +kernel
theorem dX6_become_16 : decode cX6_become 16 = .ok (.aload_n 1, 1) := by decide +kernel
theorem dX6_become_17 : decode cX6_become 17 = .ok (.getfield 11, 3) := by decide +kernel
theorem dX6_become_20 : decode cX6_become 20 = .ok (.iconst 0, 1) := by decide +kernel
theorem dX6_become_21 : decode cX6_become 21 = .ok (.aload_n 0, 1) := by decide +kernel
theorem dX6_become_22 : decode cX6_become 22 = .ok (.getfield 11, 3) := by decide +kernel
theorem dX6_become_25 : decode cX6_become 25 = .ok (.iconst 0, 1) := by decide +kernel
theorem dX6_become_26 : decode cX6_become 26 = .ok (.aload_n 0, 1) := by decide +kernel
theorem dX6_become_27 : decode cX6_become 27 = .ok (.getfield 21, 3) := by decide +kernel
theorem dX6_become_30 : decode cX6_become 30 = .ok (.invokestatic 33, 3) := by decide +kernel
theorem dX6_become_33 : decode cX6_become 33 = .ok (.aload_n 1, 1) := by decide +kernel
theorem dX6_become_34 : decode cX6_become 34 = .ok (.getfield 15, 3) := by decide +kernel
theorem dX6_become_37 : decode cX6_become 37 = .ok (.iconst 0, 1) := by decide +kernel
theorem dX6_become_38 : decode cX6_become 38 = .ok (.aload_n 0, 1) := by decide +kernel
theorem dX6_become_39 : decode cX6_become 39 = .ok (.getfield 15, 3) := by decide +kernel
theorem dX6_become_42 : decode cX6_become 42 = .ok (.iconst 0, 1) := by decide +kernel
theorem dX6_become_43 : decode cX6_become 43 = .ok (.aload_n 0, 1) := by decide +kernel
theorem dX6_become_44 : decode cX6_become 44 = .ok (.getfield 21, 3) := by decide +kernel
theorem dX6_become_47 : decode cX6_become 47 = .ok (.invokestatic 33, 3) := by decide +kernel
theorem dX6_become_50 : decode cX6_become 50 = .ok (.return_, 1) := by decide +kernel
theorem dX6_clear_0 : decode cX6_clear 0 = .ok (.aload_n 0, 1) := by decide +kernel
theorem dX6_clear_1 : decode cX6_clear 1 = .ok (.iconst 0, 1) := by decide +kernel
theorem dX6_clear_2 : decode cX6_clear 2 = .ok (.putfield 21, 3) := by decide +kernel
theorem dX6_clear_5 : decode cX6_clear 5 = .ok (.aload_n 0, 1) := by decide +kernel
theorem dX6_clear_6 : decode cX6_clear 6 = .ok (.iconst 0, 1) := by decide +kernel
theorem dX6_clear_7 : decode cX6_clear 7 = .ok (.putfield 25, 3) := by decide +kernel
theorem dX6_clear_10 : decode cX6_clear 10 = .ok (.return_, 1) := by decide +kernel
theorem dX6_endLine_0 : decode cX6_endLine 0 = .ok (.iload_n 1, 1) := by decide +kernel
theorem dX6_endLine_1 : decode cX6_endLine 1 = .ok (.ifCond .lt 19, 3) := by decide +kernel
theorem dX6_endLine_4 : decode cX6_endLine 4 = .ok (.iload_n 1, 1) := by decide +kernel
theorem dX6_endLine_5 : decode cX6_endLine 5 = .ok (.bipush 121, 2) := by decide +kernel
theorem dX6_endLine_7 : decode cX6_endLine 7 = .ok (.if_icmp .ge 13, 3) := by decide +kernel
theorem dX6_endLine_10 : decode cX6_endLine 10 = .ok (.aload_n 0, 1) := by decide +kernel
theorem dX6_endLine_11 : decode cX6_endLine 11 = .ok (.getfield 15, 3) := by decide +kernel
theorem dX6_endLine_14 : decode cX6_endLine 14 = .ok (.iload_n 1, 1) := by decide +kernel
theorem dX6_endLine_15 : decode cX6_endLine 15 = .ok (.aload_n 0, 1) := by decide +kernel
theorem dX6_endLine_16 : decode cX6_endLine 16 = .ok (.getfield 21, 3) := by decide +kernel
theorem dX6_endLine_19 : decode cX6_endLine 19 = .ok (.iastore, 1) := by decide +kernel
theorem dX6_endLine_20 : decode cX6_endLine 20 = .ok (.aload_n 0, 1) := by decide +kernel
theorem dX6_endLine_21 : decode cX6_endLine 21 = .ok (.sipush 10019, 3) := by decide +kernel
theorem dX6_endLine_24 : decode cX6_endLine 24 = .ok (.invokevirtual 29, 3) := by decide +kernel
theorem dX6_endLine_27 : decode cX6_endLine 27 = .ok (.return_, 1) := by decide +kernel
theorem dX7_choose_0 : decode cX7_choose 0 = .ok (.aload_n 0, 1) := by decide +kernel
theorem dX7_choose_1 : decode cX7_choose 1 = .ok (.getfield 17, 3) := by decide +kernel
theorem dX7_choose_4 : decode cX7_choose 4 = .ok (.iconst 0, 1) := by decide +kernel
theorem dX7_choose_5 : decode cX7_choose 5 = .ok (.aload_n 0, 1) := by decide +kernel
theorem dX7_choose_6 : decode cX7_choose 6 = .ok (.getfield 21, 3) := by decide +kernel
theorem dX7_choose_9 : decode cX7_choose 9 = .ok (.iconst 0, 1) := by decide +kernel
theorem dX7_choose_10 : decode cX7_choose 10 = .ok (.bipush 6, 2) := by decide +kernel
theorem dX7_choose_12 : decode cX7_choose 12 = .ok (.invokestatic 93, 3) := by decide +kernel
theorem dX7_choose_15 : decode cX7_choose 15 = .ok (.return_, 1) := by decide +kernel
theorem dX7_swap_0 : decode cX7_swap 0 = .ok (.aload_n 0, 1) := by decide +kernel
theorem dX7_swap_1 : decode cX7_swap 1 = .ok (.getfield 17, 3) := by decide +kernel
theorem dX7_swap_4 : decode cX7_swap 4 = .ok (.iload_n 1, 1) := by decide +kernel
theorem dX7_swap_5 : decode cX7_swap 5 = .ok (.iaload, 1) := by decide +kernel
theorem dX7_swap_6 : decode cX7_swap 6 = .ok (.istore_n 3, 1) := by decide +kernel
theorem dX7_swap_7 : decode cX7_swap 7 = .ok (.aload_n 0, 1) := by decide +kernel
theorem dX7_swap_8 : decode cX7_swap 8 = .ok (.getfield 17, 3) := by decide +kernel
theorem dX7_swap_11 : decode cX7_swap 11 = .ok (.iload_n 1, 1) := by decide +kernel
theorem dX7_swap_12 : decode cX7_swap 12 = .ok (.aload_n 0, 1) := by decide +kernel
theorem dX7_swap_13 : decode cX7_swap 13 = .ok (.getfield 17, 3) := by decide +kernel
theorem dX7_swap_16 : decode cX7_swap 16 = .ok (.iload_n 2, 1) := by decide +kernel
theorem dX7_swap_17 : decode cX7_swap 17 = .ok (.iaload, 1) := by decide +kernel
theorem dX7_swap_18 : decode cX7_swap 18 = .ok (.iastore, 1) := by decide +kernel
theorem dX7_swap_19 : decode cX7_swap 19 = .ok (.aload_n 0, 1) := by decide +kernel
theorem dX7_swap_20 : decode cX7_swap 20 = .ok (.getfield 17, 3) := by decide +kernel
theorem dX7_swap_23 : decode cX7_swap 23 = .ok (.iload_n 2, 1) := by decide +kernel
theorem dX7_swap_24 : decode cX7_swap 24 = .ok (.iload_n 3, 1) := by decide +kernel
theorem dX7_swap_25 : decode cX7_swap 25 = .ok (.iastore, 1) := by decide +kernel
theorem dX7_swap_26 : decode cX7_swap 26 = .ok (.return_, 1) := by decide +kernel
theorem dX9_isDigit_0 : decode cX9_isDigit 0 = .ok (.iload_n 0, 1) := by decide +kernel
theorem dX9_isDigit_1 : decode cX9_isDigit 1 = .ok (.bipush 48, 2) := by decide +kernel
theorem dX9_isDigit_3 : decode cX9_isDigit 3 = .ok (.if_icmp .lt 13, 3) := by decide +kernel
theorem dX9_isDigit_6 : decode cX9_isDigit 6 = .ok (.iload_n 0, 1) := by decide +kernel
theorem dX9_isDigit_7 : decode cX9_isDigit 7 = .ok (.bipush 57, 2) := by decide +kernel
theorem dX9_isDigit_9 : decode cX9_isDigit 9 = .ok (.if_icmp .gt 7, 3) := by decide +kernel
theorem dX9_isDigit_12 : decode cX9_isDigit 12 = .ok (.iconst 1, 1) := by decide +kernel
theorem dX9_isDigit_13 : decode cX9_isDigit 13 = .ok (.goto 4, 3) := by decide +kernel
theorem dX9_isDigit_16 : decode cX9_isDigit 16 = .ok (.iconst 0, 1) := by decide +kernel
theorem dX9_isDigit_17 : decode cX9_isDigit 17 = .ok (.ireturn, 1) := by decide +kernel
theorem dX9_take_0 : decode cX9_take 0 = .ok (.aload_n 0, 1) := by decide +kernel
theorem dX9_take_1 : decode cX9_take 1 = .ok (.getfield 26, 3) := by decide +kernel
theorem dX9_take_4 : decode cX9_take 4 = .ok (.aload_n 0, 1) := by decide +kernel
theorem dX9_take_5 : decode cX9_take 5 = .ok (.getfield 22, 3) := by decide +kernel
theorem dX9_take_8 : decode cX9_take 8 = .ok (.if_icmp .ge 28, 3) := by decide +kernel
theorem dX9_take_11 : decode cX9_take 11 = .ok (.aload_n 0, 1) := by decide +kernel
theorem dX9_take_12 : decode cX9_take 12 = .ok (.getfield 9, 3) := by decide +kernel
theorem dX9_take_15 : decode cX9_take 15 = .ok (.aload_n 0, 1) := by decide +kernel
theorem dX9_take_16 : decode cX9_take 16 = .ok (.getfield 26, 3) := by decide +kernel
theorem dX9_take_19 : decode cX9_take 19 = .ok (.iaload, 1) := by decide +kernel
theorem dX9_take_20 : decode cX9_take 20 = .ok (.iload_n 1, 1) := by decide +kernel
theorem dX9_take_21 : decode cX9_take 21 = .ok (.if_icmp .ne 15, 3) := by decide +kernel
theorem dX9_take_24 : decode cX9_take 24 = .ok (.aload_n 0, 1) := by decide +kernel
theorem dX9_take_25 : decode cX9_take 25 = .ok (.dup, 1) := by decide +kernel
theorem dX9_take_26 : decode cX9_take 26 = .ok (.getfield 26, 3) := by decide +kernel
theorem dX9_take_29 : decode cX9_take 29 = .ok (.iconst 1, 1) := by decide +kernel
theorem dX9_take_30 : decode cX9_take 30 = .ok (.iadd, 1) := by decide +kernel
theorem dX9_take_31 : decode cX9_take 31 = .ok (.putfield 26, 3) := by decide +kernel
theorem dX9_take_34 : decode cX9_take 34 = .ok (.iconst 1, 1) := by decide +kernel
theorem dX9_take_35 : decode cX9_take 35 = .ok (.ireturn, 1) := by decide +kernel
theorem dX9_take_36 : decode cX9_take 36 = .ok (.iconst 0, 1) := by decide +kernel
theorem dX9_take_37 : decode cX9_take 37 = .ok (.ireturn, 1) := by decide +kernel
def p_X6_become (σ : zS) : Prop := (zfits .boolean (.int (gi σ 9 4)) = true ∧ (zcok 0 0 (gi σ 9 3) 121 121 ∧ zcok 0 0 (gi σ 9 3) 121 121))
def g_X6_become (σ : zS) : zS := (sA (sA (si (si σ 3 3 (gi σ 9 3)) 3 4 (gi σ 9 4)) 4 (va_cpy ((si (si σ 3 3 (gi σ 9 3)) 3 4 (gi σ 9 4)).1 10) ((si (si σ 3 3 (gi σ 9 3)) 3 4 (gi σ 9 4)).1 4) (ix 0) (ix 0) (ix (gi σ 9 3)))) 5 (va_cpy ((sA (si (si σ 3 3 (gi σ 9 3)) 3 4 (gi σ 9 4)) 4 (va_cpy ((si (si σ 3 3 (gi σ 9 3)) 3 4 (gi σ 9 4)).1 10) ((si (si σ 3 3 (gi σ 9 3)) 3 4 (gi σ 9 4)).1 4) (ix 0) (ix 0) (ix (gi σ 9 3)))).1 11) ((sA (si (si σ 3 3 (gi σ 9 3)) 3 4 (gi σ 9 4)) 4 (va_cpy ((si (si σ 3 3 (gi σ 9 3)) 3 4 (gi σ 9 4)).1 10) ((si (si σ 3 3 (gi σ 9 3)) 3 4 (gi σ 9 4)).1 4) (ix 0) (ix 0) (ix (gi σ 9 3)))).1 5) (ix 0) (ix 0) (ix (gi σ 9 3))))
theorem s_X6_become {X : zX} {d : Nat} {Q : Option Value → zH → Prop} (σ : zS)  : zwp X d MX6_become 0 [.ref 3, .ref 9] [] (zen σ) Q = (p_X6_become σ ∧ Q none (zen (g_X6_become σ))) :=
  Eq.trans (q_aload_n (pc := 0) dX6_become_0 rfl rfl) (Eq.trans (q_aload_n (pc := 1) dX6_become_1 rfl rfl) (Eq.trans (q_getf (pc := 2) dX6_become_2 zF_6_21 (z_rfiE (x := (gi σ 9 3)) zl_9 zh_9 (by decide) rfl rfl)) (Eq.trans (q_pf (pc := 5) dX6_become_5 zF_6_21 zPF_6_3 (z_pf zl_3 zh_3 rfl)) (Eq.trans (q_aload_n (pc := 8) dX6_become_8 rfl rfl) (Eq.trans (q_aload_n (pc := 9) dX6_become_9 rfl rfl) (Eq.trans (q_getf (pc := 10) dX6_become_10 zF_6_25 (z_rfiE (x := (gi σ 9 4)) zl_9 zh_9 (by decide) rfl rfl)) (Eq.trans (Eq.trans (q_pz (pc := 13) dX6_become_13 zF_6_25 zPZ_6_4 rfl (z_pf zl_3 zh_3 rfl)) (zand fun hz1 => Eq.trans (q_aload_n (pc := 16) dX6_become_16 rfl rfl) (Eq.trans (q_getf (pc := 17) dX6_become_17 zF_6_11 (z_rfr zl_9 zh_9 (by decide) rfl)) (Eq.trans (q_iconst (v := 0) (pc := 20) dX6_become_20 rfl) (Eq.trans (q_aload_n (pc := 21) dX6_become_21 rfl rfl) (Eq.trans (q_getf (pc := 22) dX6_become_22 zF_6_11 (z_rfr zl_3 zh_3 (by decide) rfl)) (Eq.trans (q_iconst (v := 0) (pc := 25) dX6_become_25 rfl) (Eq.trans (q_aload_n (pc := 26) dX6_become_26 rfl rfl) (Eq.trans (q_getf (pc := 27) dX6_become_27 zF_6_21 (z_rfiE (x := (gi σ 9 3)) zl_3 zh_3 (by decide) rfl rfl)) (Eq.trans (Eq.trans (q_cpyi (pc := 30) dX6_become_30 zSP_6_33 (Nat.le_of_ble_eq_true rfl) (zN_lt zl_10) (zN_lt zl_4) (z_ia zl_10 zh_10 (by decide)) (z_ia zl_4 zh_4 (by decide)) (z_cpyi zl_4 zh_4)) (zand fun hz2 => Eq.trans (q_aload_n (pc := 33) dX6_become_33 rfl rfl) (Eq.trans (q_getf (pc := 34) dX6_become_34 zF_6_15 (z_rfr zl_9 zh_9 (by decide) rfl)) (Eq.trans (q_iconst (v := 0) (pc := 37) dX6_become_37 rfl) (Eq.trans (q_aload_n (pc := 38) dX6_become_38 rfl rfl) (Eq.trans (q_getf (pc := 39) dX6_become_39 zF_6_15 (z_rfr zl_3 zh_3 (by decide) rfl)) (Eq.trans (q_iconst (v := 0) (pc := 42) dX6_become_42 rfl) (Eq.trans (q_aload_n (pc := 43) dX6_become_43 rfl rfl) (Eq.trans (q_getf (pc := 44) dX6_become_44 zF_6_21 (z_rfiE (x := (gi σ 9 3)) zl_3 zh_3 (by decide) rfl rfl)) (Eq.trans (q_cpyi (pc := 47) dX6_become_47 zSP_6_33 (Nat.le_of_ble_eq_true rfl) (zN_lt zl_11) (zN_lt zl_5) (z_ia zl_11 zh_11 (by decide)) (z_ia zl_5 zh_5 (by decide)) (z_cpyi zl_5 zh_5)) (zand fun hz3 => q_vret (pc := 50) dX6_become_50 rfl))))))))))) zassoc)))))))))) zassoc)))))))
def g_X6_clear (σ : zS) : zS := (si (si σ 9 3 0) 9 4 0)
theorem s_X6_clear {X : zX} {d : Nat} {Q : Option Value → zH → Prop} (σ : zS)  : zwp X d MX6_clear 0 [.ref 9] [] (zen σ) Q = Q none (zen (g_X6_clear σ)) :=
  Eq.trans (q_aload_n (pc := 0) dX6_clear_0 rfl rfl) (Eq.trans (q_iconst (v := 0) (pc := 1) dX6_clear_1 rfl) (Eq.trans (q_pf (pc := 2) dX6_clear_2 zF_6_21 zPF_6_3 (z_pf zl_9 zh_9 rfl)) (Eq.trans (q_aload_n (pc := 5) dX6_clear_5 rfl rfl) (Eq.trans (q_iconst (v := 0) (pc := 6) dX6_clear_6 rfl) (Eq.trans (Eq.trans (q_pz (pc := 7) dX6_clear_7 zF_6_25 zPZ_6_4 rfl (z_pf zl_9 zh_9 rfl)) (ztrue_and (by decide))) (q_vret (pc := 10) dX6_clear_10 rfl))))))
def p_X6_endLine (σ : zS) (a2 : Int32) : Prop := (if a2 < 0 then p_X6_add σ 10019 else (if 121 ≤ a2 then p_X6_add σ 10019 else (zin a2 121 = true ∧ p_X6_add (si σ 11 (ix a2) (gi σ 9 3)) 10019)))
def g_X6_endLine (σ : zS) (a2 : Int32) : zS := (if a2 < 0 then (g_X6_add σ 10019) else (if 121 ≤ a2 then (g_X6_add σ 10019) else (g_X6_add (si σ 11 (ix a2) (gi σ 9 3)) 10019)))
theorem s_X6_endLine {X : zX} {d : Nat} {Q : Option Value → zH → Prop} (hd : 1 ≤ d) (σ : zS) (a2 : Int32)  : zwp X d MX6_endLine 0 [.ref 9, .int a2] [] (zen σ) Q = (p_X6_endLine σ a2 ∧ Q none (zen (g_X6_endLine σ a2))) :=
  Eq.trans (q_iload_n (pc := 0) dX6_endLine_0 rfl rfl) (Eq.trans (q_if_lt (tgt := 20) (pc := 1) dX6_endLine_1 rfl) (zitpns (fun hz1 => Eq.trans (q_aload_n (pc := 20) dX6_endLine_20 rfl rfl) (Eq.trans (q_sipush (v := 10019) (pc := 21) dX6_endLine_21 rfl) (Eq.trans (q_sumNP (q_callV (as := [.int 10019]) (rest := []) (l0 := [.ref 9, .int 10019]) (pc := 24) dX6_endLine_24 zC_6_29 rfl (z_recv zl_9 zh_9) rfl rfl) (by omega) (s_X6_add σ 10019)) (zand fun hz2 => q_vret (pc := 27) dX6_endLine_27 rfl)))) (fun hz1 => Eq.trans (q_iload_n (pc := 4) dX6_endLine_4 rfl rfl) (Eq.trans (q_bipush (v := 121) (pc := 5) dX6_endLine_5 rfl) (Eq.trans (q_icmp_ge (tgt := 20) (pc := 7) dX6_endLine_7 rfl) (zitpns (fun hz3 => Eq.trans (q_aload_n (pc := 20) dX6_endLine_20 rfl rfl) (Eq.trans (q_sipush (v := 10019) (pc := 21) dX6_endLine_21 rfl) (Eq.trans (q_sumNP (q_callV (as := [.int 10019]) (rest := []) (l0 := [.ref 9, .int 10019]) (pc := 24) dX6_endLine_24 zC_6_29 rfl (z_recv zl_9 zh_9) rfl rfl) (by omega) (s_X6_add σ 10019)) (zand fun hz4 => q_vret (pc := 27) dX6_endLine_27 rfl)))) (fun hz3 => Eq.trans (q_aload_n (pc := 10) dX6_endLine_10 rfl rfl) (Eq.trans (q_getf (pc := 11) dX6_endLine_11 zF_6_15 (z_rfr zl_9 zh_9 (by decide) rfl)) (Eq.trans (q_iload_n (pc := 14) dX6_endLine_14 rfl rfl) (Eq.trans (q_aload_n (pc := 15) dX6_endLine_15 rfl rfl) (Eq.trans (q_getf (pc := 16) dX6_endLine_16 zF_6_21 (z_rfiE (x := (gi σ 9 3)) zl_9 zh_9 (by decide) rfl rfl)) (Eq.trans (Eq.trans (q_iastore (pc := 19) dX6_endLine_19 (zN_lt zl_11) (z_ia zl_11 zh_11 (by decide)) (z_pi zl_11 zh_11 (by decide))) (zand fun hz5 => Eq.trans (q_aload_n (pc := 20) dX6_endLine_20 rfl rfl) (Eq.trans (q_sipush (v := 10019) (pc := 21) dX6_endLine_21 rfl) (Eq.trans (q_sumNP (q_callV (as := [.int 10019]) (rest := []) (l0 := [.ref 9, .int 10019]) (pc := 24) dX6_endLine_24 zC_6_29 rfl (z_recv zl_9 zh_9) rfl rfl) (by omega) (s_X6_add (si σ 11 (ix a2) (gi σ 9 3)) 10019)) (zand fun hz6 => q_vret (pc := 27) dX6_endLine_27 rfl))))) zassoc))))))))))))
def g_X7_choose (σ : zS) : zS := (sA σ 48 (va_cpy (σ.1 47) (σ.1 48) (ix 0) (ix 0) (ix 6)))
theorem s_X7_choose {X : zX} {d : Nat} {Q : Option Value → zH → Prop} (σ : zS)  : zwp X d MX7_choose 0 [.ref 45] [] (zen σ) Q = Q none (zen (g_X7_choose σ)) :=
  Eq.trans (q_aload_n (pc := 0) dX7_choose_0 rfl rfl) (Eq.trans (q_getf (pc := 1) dX7_choose_1 zF_7_17 (z_rfr zl_45 zh_45 (by decide) rfl)) (Eq.trans (q_iconst (v := 0) (pc := 4) dX7_choose_4 rfl) (Eq.trans (q_aload_n (pc := 5) dX7_choose_5 rfl rfl) (Eq.trans (q_getf (pc := 6) dX7_choose_6 zF_7_21 (z_rfr zl_45 zh_45 (by decide) rfl)) (Eq.trans (q_iconst (v := 0) (pc := 9) dX7_choose_9 rfl) (Eq.trans (q_bipush (v := 6) (pc := 10) dX7_choose_10 rfl) (Eq.trans (Eq.trans (q_cpyi (pc := 12) dX7_choose_12 zSP_7_93 (Nat.le_of_ble_eq_true rfl) (zN_lt zl_47) (zN_lt zl_48) (z_ia zl_47 zh_47 (by decide)) (z_ia zl_48 zh_48 (by decide)) (z_cpyi zl_48 zh_48)) (ztrue_and ⟨by decide, by decide, by decide, by decide, by decide⟩)) (q_vret (pc := 15) dX7_choose_15 rfl))))))))
def p_X7_swap (σ : zS) (a2 : Int32) (a3 : Int32) : Prop := (zin a2 6 = true ∧ (zin a3 6 = true ∧ (zin a2 6 = true ∧ zin a3 6 = true)))
def g_X7_swap (σ : zS) (a2 : Int32) (a3 : Int32) : zS := (si (si σ 47 (ix a2) (gi σ 47 (ix a3))) 47 (ix a3) (gi σ 47 (ix a2)))
theorem s_X7_swap {X : zX} {d : Nat} {Q : Option Value → zH → Prop} (σ : zS) (a2 : Int32) (a3 : Int32)  : zwp X d MX7_swap 0 [.ref 45, .int a2, .int a3, .null] [] (zen σ) Q = (p_X7_swap σ a2 a3 ∧ Q none (zen (g_X7_swap σ a2 a3))) :=
  Eq.trans (q_aload_n (pc := 0) dX7_swap_0 rfl rfl) (Eq.trans (q_getf (pc := 1) dX7_swap_1 zF_7_17 (z_rfr zl_45 zh_45 (by decide) rfl)) (Eq.trans (q_iload_n (pc := 4) dX7_swap_4 rfl rfl) (Eq.trans (Eq.trans (qe_iaload (x := (gi σ 47 (ix a2))) (pc := 5) dX7_swap_5 (z_ia zl_47 zh_47 (by decide)) rfl) (zand fun hz1 => Eq.trans (q_istore_n (ls' := [.ref 45, .int a2, .int a3, .int (gi σ 47 (ix a2))]) (pc := 6) dX7_swap_6 rfl (Nat.le_of_ble_eq_true rfl) rfl) (Eq.trans (q_aload_n (pc := 7) dX7_swap_7 rfl rfl) (Eq.trans (q_getf (pc := 8) dX7_swap_8 zF_7_17 (z_rfr zl_45 zh_45 (by decide) rfl)) (Eq.trans (q_iload_n (pc := 11) dX7_swap_11 rfl rfl) (Eq.trans (q_aload_n (pc := 12) dX7_swap_12 rfl rfl) (Eq.trans (q_getf (pc := 13) dX7_swap_13 zF_7_17 (z_rfr zl_45 zh_45 (by decide) rfl)) (Eq.trans (q_iload_n (pc := 16) dX7_swap_16 rfl rfl) (Eq.trans (Eq.trans (qe_iaload (x := (gi σ 47 (ix a3))) (pc := 17) dX7_swap_17 (z_ia zl_47 zh_47 (by decide)) rfl) (zand fun hz2 => Eq.trans (Eq.trans (q_iastore (pc := 18) dX7_swap_18 (zN_lt zl_47) (z_ia zl_47 zh_47 (by decide)) (z_pi zl_47 zh_47 (by decide))) (zand fun hz3 => Eq.trans (q_aload_n (pc := 19) dX7_swap_19 rfl rfl) (Eq.trans (q_getf (pc := 20) dX7_swap_20 zF_7_17 (z_rfr zl_45 zh_45 (by decide) rfl)) (Eq.trans (q_iload_n (pc := 23) dX7_swap_23 rfl rfl) (Eq.trans (q_iload_n (pc := 24) dX7_swap_24 rfl rfl) (Eq.trans (q_iastore (pc := 25) dX7_swap_25 (zN_lt zl_47) (z_ia zl_47 zh_47 (by decide)) (z_pi zl_47 zh_47 (by decide))) (zand fun hz4 => q_vret (pc := 26) dX7_swap_26 rfl))))))) zassoc)) zassoc))))))))) zassoc)))
def f_X9_isDigit (σ : zS) (a1 : Int32) : Int32 := (if a1 < 48 then 0 else (if 57 < a1 then 0 else 1))
theorem s_X9_isDigit {X : zX} {d : Nat} {Q : Option Value → zH → Prop} (σ : zS) (a1 : Int32)  : zwp X d MX9_isDigit 0 [.int a1] [] (zen σ) Q = Q (some (.int (f_X9_isDigit σ a1))) (zen σ) :=
  Eq.trans (q_iload_n (pc := 0) dX9_isDigit_0 rfl rfl) (Eq.trans (q_bipush (v := 48) (pc := 1) dX9_isDigit_1 rfl) (Eq.trans (q_icmp_lt (tgt := 16) (pc := 3) dX9_isDigit_3 rfl) (ziti (fun hz1 => Eq.trans (q_iconst (v := 0) (pc := 16) dX9_isDigit_16 rfl) (q_zretK (pc := 17) dX9_isDigit_17 rfl (by decide))) (fun hz1 => Eq.trans (q_iload_n (pc := 6) dX9_isDigit_6 rfl rfl) (Eq.trans (q_bipush (v := 57) (pc := 7) dX9_isDigit_7 rfl) (Eq.trans (q_icmp_gt (tgt := 16) (pc := 9) dX9_isDigit_9 rfl) (ziti (fun hz2 => Eq.trans (q_iconst (v := 0) (pc := 16) dX9_isDigit_16 rfl) (q_zretK (pc := 17) dX9_isDigit_17 rfl (by decide))) (fun hz2 => Eq.trans (q_iconst (v := 1) (pc := 12) dX9_isDigit_12 rfl) (Eq.trans (q_goto (tgt := 17) (pc := 13) dX9_isDigit_13 rfl) (q_zretK (pc := 17) dX9_isDigit_17 rfl (by decide)))))))))))
theorem zb_X9_isDigit (σ : zS) (a1 : Int32) : f_X9_isDigit σ a1 = 0 ∨ f_X9_isDigit σ a1 = 1 := by
  unfold f_X9_isDigit
  repeat' split
  all_goals first | exact Or.inl rfl | exact Or.inr rfl
def f_X9_take (σ : zS) (a2 : Int32) : Int32 := (if (gi σ 7 2) ≤ (gi σ 7 3) then 0 else (if ¬ (gi σ 8 (ix (gi σ 7 3))) = a2 then 0 else 1))
def p_X9_take (σ : zS) (a2 : Int32) : Prop := (if (gi σ 7 2) ≤ (gi σ 7 3) then True else zin (gi σ 7 3) 120 = true)
def g_X9_take (σ : zS) (a2 : Int32) : zS := (if (gi σ 7 2) ≤ (gi σ 7 3) then σ else (if ¬ (gi σ 8 (ix (gi σ 7 3))) = a2 then σ else (si σ 7 3 ((gi σ 7 3) + 1))))
theorem s_X9_take {X : zX} {d : Nat} {Q : Option Value → zH → Prop} (σ : zS) (a2 : Int32)  : zwp X d MX9_take 0 [.ref 7, .int a2] [] (zen σ) Q = (p_X9_take σ a2 ∧ Q (some (.int (f_X9_take σ a2))) (zen (g_X9_take σ a2))) :=
  Eq.trans (q_aload_n (pc := 0) dX9_take_0 rfl rfl) (Eq.trans (q_getf (pc := 1) dX9_take_1 zF_9_26 (z_rfiE (x := (gi σ 7 3)) zl_7 zh_7 (by decide) rfl rfl)) (Eq.trans (q_aload_n (pc := 4) dX9_take_4 rfl rfl) (Eq.trans (q_getf (pc := 5) dX9_take_5 zF_9_22 (z_rfiE (x := (gi σ 7 2)) zl_7 zh_7 (by decide) rfl rfl)) (Eq.trans (q_icmp_ge (tgt := 36) (pc := 8) dX9_take_8 rfl) (zitpis (fun hz1 => Eq.trans (Eq.trans (q_iconst (v := 0) (pc := 36) dX9_take_36 rfl) (q_zretK (pc := 37) dX9_take_37 rfl (by decide))) (true_and _).symm) (fun hz1 => Eq.trans (q_aload_n (pc := 11) dX9_take_11 rfl rfl) (Eq.trans (q_getf (pc := 12) dX9_take_12 zF_9_9 (z_rfr zl_7 zh_7 (by decide) rfl)) (Eq.trans (q_aload_n (pc := 15) dX9_take_15 rfl rfl) (Eq.trans (q_getf (pc := 16) dX9_take_16 zF_9_26 (z_rfiE (x := (gi σ 7 3)) zl_7 zh_7 (by decide) rfl rfl)) (Eq.trans (qe_iaload (x := (gi σ 8 (ix (gi σ 7 3)))) (pc := 19) dX9_take_19 (z_ia zl_8 zh_8 (by decide)) rfl) (zand fun hz2 => Eq.trans (q_iload_n (pc := 20) dX9_take_20 rfl rfl) (Eq.trans (q_icmp_ne (tgt := 36) (pc := 21) dX9_take_21 rfl) (zitis (fun hz3 => Eq.trans (q_iconst (v := 0) (pc := 36) dX9_take_36 rfl) (q_zretK (pc := 37) dX9_take_37 rfl (by decide))) (fun hz3 => Eq.trans (q_aload_n (pc := 24) dX9_take_24 rfl rfl) (Eq.trans (q_dup_ref (pc := 25) dX9_take_25) (Eq.trans (q_getf (pc := 26) dX9_take_26 zF_9_26 (z_rfiE (x := (gi σ 7 3)) zl_7 zh_7 (by decide) rfl rfl)) (Eq.trans (q_iconst (v := 1) (pc := 29) dX9_take_29 rfl) (Eq.trans (q_iadd (pc := 30) dX9_take_30) (Eq.trans (q_pf (pc := 31) dX9_take_31 zF_9_26 zPF_9_3 (z_pf zl_7 zh_7 rfl)) (Eq.trans (q_iconst (v := 1) (pc := 34) dX9_take_34 rfl) (q_zretK (pc := 35) dX9_take_35 rfl (by decide))))))))))))))))))))))
theorem zb_X9_take (σ : zS) (a2 : Int32) : f_X9_take σ a2 = 0 ∨ f_X9_take σ a2 = 1 := by
  unfold f_X9_take
  repeat' split
  all_goals first | exact Or.inl rfl | exact Or.inr rfl
