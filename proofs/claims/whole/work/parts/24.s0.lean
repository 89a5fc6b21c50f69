set_option maxRecDepth 100000
theorem dJ0_coder_7d493_0 : decode cJ0_coder_7d493 0 = .ok (.getstatic 38, 3) := by decide +kernel
theorem dJ0_coder_7d493_3 : decode cJ0_coder_7d493 3 = .ok (.ifCond .eq 10, 3) := by decide +kernel
theorem dJ0_coder_7d493_6 : decode cJ0_coder_7d493 6 = .ok (.aload_n 0, 1) := by decide +kernel
theorem dJ0_coder_7d493_7 : decode cJ0_coder_7d493 7 = .ok (.getfield 15, 3) := by decide +kernel
theorem dJ0_coder_7d493_10 : decode cJ0_coder_7d493 10 = .ok (.goto 4, 3) := by decide +kernel
theorem dJ0_coder_7d493_14 : decode cJ0_coder_7d493 14 = .ok (.ireturn, 1) := by decide +kernel
theorem dJ0_isLatin1_aae02_0 : decode cJ0_isLatin1_aae02 0 = .ok (.getstatic 38, 3) := by decide +kernel
theorem dJ0_isLatin1_aae02_3 : decode cJ0_isLatin1_aae02 3 = .ok (.ifCond .eq 14, 3) := by decide +kernel
theorem dJ0_isLatin1_aae02_6 : decode cJ0_isLatin1_aae02 6 = .ok (.aload_n 0, 1) := by decide +kernel
theorem dJ0_isLatin1_aae02_7 : decode cJ0_isLatin1_aae02 7 = .ok (.getfield 15, 3) := by decide +kernel
theorem dJ0_isLatin1_aae02_10 : decode cJ0_isLatin1_aae02 10 = .ok (.ifCond .ne 7, 3) := by decide +kernel
theorem dJ0_isLatin1_aae02_13 : decode cJ0_isLatin1_aae02 13 = .ok (.iconst 1, 1) := by decide +kernel
theorem dJ0_isLatin1_aae02_14 : decode cJ0_isLatin1_aae02 14 = .ok (.goto 4, 3) := by decide +kernel
theorem dJ0_isLatin1_aae02_18 : decode cJ0_isLatin1_aae02 18 = .ok (.ireturn, 1) := by decide +kernel
theorem dJ1_canEncode_9a6ad_0 : decode cJ1_canEncode_9a6ad 0 = .ok (.iload_n 0, 1) := by decide +kernel
theorem dJ1_canEncode_9a6ad_1 : decode cJ1_canEncode_9a6ad 1 = .ok (.ifCond .lt 14, 3) := by decide +kernel
theorem dJ1_canEncode_9a6ad_4 : decode cJ1_canEncode_9a6ad 4 = .ok (.iload_n 0, 1) := by decide +kernel
theorem dJ1_canEncode_9a6ad_5 : decode cJ1_canEncode_9a6ad 5 = .ok (.sipush 255, 3) := by decide +kernel
theorem dJ1_canEncode_9a6ad_8 : decode cJ1_canEncode_9a6ad 8 = .ok (.if_icmp .gt 7, 3) := by decide +kernel
theorem dJ1_canEncode_9a6ad_11 : decode cJ1_canEncode_9a6ad 11 = .ok (.iconst 1, 1) := by decide +kernel
theorem dJ1_canEncode_9a6ad_12 : decode cJ1_canEncode_9a6ad 12 = .ok (.goto 4, 3) := by decide +kernel
theorem dJ1_canEncode_9a6ad_15 : decode cJ1_canEncode_9a6ad 15 = .ok (.iconst 0, 1) := by decide +kernel
theorem dJ1_canEncode_9a6ad_16 : decode cJ1_canEncode_9a6ad 16 = .ok (.ireturn, 1) := by decide +kernel
theorem dX0_givenWithoutText_0 : decode cX0_givenWithoutText 0 = .ok (.aload_n 0, 1) := by decide +kernel
theorem dX0_givenWithoutText_1 : decode cX0_givenWithoutText 1 = .ok (.getfield 9, 3) := by decide +kernel
theorem dX0_givenWithoutText_4 : decode cX0_givenWithoutText 4 = .ok (.iconst 0, 1) := by decide +kernel
theorem dX0_givenWithoutText_5 : decode cX0_givenWithoutText 5 = .ok (.iaload, 1) := by decide +kernel
theorem dX0_givenWithoutText_6 : decode cX0_givenWithoutText 6 = .ok (.aload_n 0, 1) := by decide +kernel
theorem dX0_givenWithoutText_7 : decode cX0_givenWithoutText 7 = .ok (.getfield 9, 3) := by decide +kernel
theorem dX0_givenWithoutText_10 : decode cX0_givenWithoutText 10 = .ok (.iconst 3, 1) := by decide +kernel
theorem dX0_givenWithoutText_11 : decode cX0_givenWithoutText 11 = .ok (.iaload, 1) := by decide +kernel
theorem dX0_givenWithoutText_12 : decode cX0_givenWithoutText 12 = .ok (.isub, 1) := by decide +kernel
theorem dX0_givenWithoutText_13 : decode cX0_givenWithoutText 13 = .ok (.aload_n 0, 1) := by decide +kernel
theorem dX0_givenWithoutText_14 : decode cX0_givenWithoutText 14 = .ok (.getfield 9, 3) := by decide +kernel
theorem dX0_givenWithoutText_17 : decode cX0_givenWithoutText 17 = .ok (.iconst 1, 1) := by decide +kernel
theorem dX0_givenWithoutText_18 : decode cX0_givenWithoutText 18 = .ok (.iaload, 1) := by decide +kernel
theorem dX0_givenWithoutText_19 : decode cX0_givenWithoutText 19 = .ok (.imul, 1) := by decide +kernel
theorem dX0_givenWithoutText_20 : decode cX0_givenWithoutText 20 = .ok (.aload_n 0, 1) := by decide +kernel
theorem dX0_givenWithoutText_21 : decode cX0_givenWithoutText 21 = .ok (.getfield 9, 3) := by decide +kernel
theorem dX0_givenWithoutText_24 : decode cX0_givenWithoutText 24 = .ok (.iconst 4, 1) := by decide +kernel
theorem dX0_givenWithoutText_25 : decode cX0_givenWithoutText 25 = .ok (.iaload, 1) := by decide +kernel
theorem dX0_givenWithoutText_26 : decode cX0_givenWithoutText 26 = .ok (.iconst 1, 1) := by decide +kernel
theorem dX0_givenWithoutText_27 : decode cX0_givenWithoutText 27 = .ok (.iadd, 1) := by decide +kernel
theorem dX0_givenWithoutText_28 : decode cX0_givenWithoutText 28 = .ok (.idiv, 1) := by decide +kernel
theorem dX0_givenWithoutText_29 : decode cX0_givenWithoutText 29 = .ok (.iconst 4, 1) := by decide +kernel
theorem dX0_givenWithoutText_30 : decode cX0_givenWithoutText 30 = .ok (.idiv, 1) := by decide +kernel
theorem dX0_givenWithoutText_31 : decode cX0_givenWithoutText 31 = .ok (.ireturn, 1) := by decide +kernel
theorem dX2_become_0 : decode cX2_become 0 = .ok (.aload_n 1, 1) := by decide +kernel
theorem dX2_become_1 : decode cX2_become 1 = .ok (.getfield 9, 3) := by decide +kernel
theorem dX2_become_4 : decode cX2_become 4 = .ok (.iconst 0, 1) := by decide +kernel
theorem dX2_become_5 : decode cX2_become 5 = .ok (.aload_n 0, 1) := by decide +kernel
theorem dX2_become_6 : decode cX2_become 6 = .ok (.getfield 9, 3) := by decide +kernel
theorem dX2_become_9 : decode cX2_become 9 = .ok (.iconst 0, 1) := by decide +kernel
theorem dX2_become_10 : decode cX2_become 10 = .ok (.bipush 16, 2) := by decide +kernel
theorem dX2_become_12 : decode cX2_become 12 = .ok (.invokestatic 15, 3) := by decide +kernel
theorem dX2_become_15 : decode cX2_become 15 = .ok (.return_, 1) := by decide +kernel
theorem dX10_begin_0 : decode cX10_begin 0 = .ok (.aload_n 0, 1) := by decide +kernel
theorem dX10_begin_1 : decode cX10_begin 1 = .ok (.getfield 18, 3) := by decide +kernel
theorem dX10_begin_4 : decode cX10_begin 4 = .ok (.aload_n 0, 1) := by decide +kernel
theorem dX10_begin_5 : decode cX10_begin 5 = .ok (.getfield 30, 3) := by decide +kernel
theorem dX10_begin_8 : decode cX10_begin 8 = .ok (.invokevirtual 61, 3) := by decide +kernel
theorem dX10_begin_11 : decode cX10_begin 11 = .ok (.aload_n 0, 1) := by decide +kernel
theorem dX10_begin_12 : decode cX10_begin 12 = .ok (.iconst 0, 1) := by decide +kernel
theorem dX10_begin_13 : decode cX10_begin 13 = .ok (.putfield 65, 3) := by decide +kernel
theorem dX10_begin_16 : decode cX10_begin 16 = .ok (.return_, 1) := by decide +kernel
theorem dX10_isTurn_0 : decode cX10_isTurn 0 = .ok (.iload_n 1, 1) := by decide +kernel
theorem dX10_isTurn_1 : decode cX10_isTurn 1 = .ok (.ifCond .lt 18, 3) := by decide +kernel
theorem dX10_isTurn_4 : decode cX10_isTurn 4 = .ok (.iload_n 1, 1) := by decide +kernel
theorem dX10_isTurn_5 : decode cX10_isTurn 5 = .ok (.aload_n 0, 1) := by decide +kernel
theorem dX10_isTurn_6 : decode cX10_isTurn 6 = .ok (.getfield 22, 3) := by decide +kernel
theorem dX10_isTurn_9 : decode cX10_isTurn 9 = .ok (.getfield 56, 3) := by decide +kernel
theorem dX10_isTurn_12 : decode cX10_isTurn 12 = .ok (.if_icmp .ge 7, 3) := by decide +kernel
theorem dX10_isTurn_15 : decode cX10_isTurn 15 = .ok (.iconst 1, 1) := by decide +kernel
theorem dX10_isTurn_16 : decode cX10_isTurn 16 = .ok (.goto 4, 3) := by decide +kernel
theorem dX10_isTurn_19 : decode cX10_isTurn 19 = .ok (.iconst 0, 1) := by decide +kernel
theorem dX10_isTurn_20 : decode cX10_isTurn 20 = .ok (.ireturn, 1) := by decide +kernel
theorem dX4_layBack_0 : decode cX4_layBack 0 = .ok (.aload_n 0, 1) := by decide +kernel
theorem dX4_layBack_1 : decode cX4_layBack 1 = .ok (.getfield 12, 3) := by decide +kernel
theorem dX4_layBack_4 : decode cX4_layBack 4 = .ok (.aload_n 0, 1) := by decide +kernel
theorem dX4_layBack_5 : decode cX4_layBack 5 = .ok (.getfield 22, 3) := by decide +kernel
theorem dX4_layBack_8 : decode cX4_layBack 8 = .ok (.invokevirtual 45, 3) := by decide +kernel
theorem dX4_layBack_11 : decode cX4_layBack 11 = .ok (.aload_n 0, 1) := by decide +kernel
theorem dX4_layBack_12 : decode cX4_layBack 12 = .ok (.getfield 25, 3) := by decide +kernel
theorem dX4_layBack_15 : decode cX4_layBack 15 = .ok (.iconst 0, 1) := by decide +kernel
theorem dX4_layBack_16 : decode cX4_layBack 16 = .ok (.aload_n 0, 1) := by decide +kernel
theorem dX4_layBack_17 : decode cX4_layBack 17 = .ok (.getfield 18, 3) := by decide +kernel
theorem dX4_layBack_20 : decode cX4_layBack 20 = .ok (.iconst 0, 1) := by decide +kernel
theorem dX4_layBack_21 : decode cX4_layBack 21 = .ok (.aload_n 0, 1) := by decide +kernel
theorem dX4_layBack_22 : decode cX4_layBack 22 = .ok (.getfield 18, 3) := by decide +kernel
theorem dX4_layBack_25 : decode cX4_layBack 25 = .ok (.arraylength, 1) := by decide +kernel
theorem dX4_layBack_26 : decode cX4_layBack 26 = .ok (.invokestatic 49, 3) := by decide +kernel
theorem dX4_layBack_29 : decode cX4_layBack 29 = .ok (.return_, 1) := by decide +kernel
theorem dX11_back_0 : decode cX11_back 0 = .ok (.aload_n 0, 1) := by decide +kernel
theorem dX11_back_1 : decode cX11_back 1 = .ok (.getfield 42, 3) := by decide +kernel
theorem dX11_back_4 : decode cX11_back 4 = .ok (.getfield 259, 3) := by decide +kernel
theorem dX11_back_7 : decode cX11_back 7 = .ok (.ifCond .ne 6, 3) := by decide +kernel
theorem dX11_back_10 : decode cX11_back 10 = .ok (.bipush (-5), 2) := by decide +kernel
theorem dX11_back_12 : decode cX11_back 12 = .ok (.ireturn, 1) := by decide +kernel
theorem dX11_back_13 : decode cX11_back 13 = .ok (.aload_n 0, 1) := by decide +kernel
theorem dX11_back_14 : decode cX11_back 14 = .ok (.getfield 42, 3) := by decide +kernel
theorem dX11_back_17 : decode cX11_back 17 = .ok (.invokevirtual 263, 3) := by decide +kernel
theorem dX11_back_20 : decode cX11_back 20 = .ok (.aload_n 0, 1) := by decide +kernel
theorem dX11_back_21 : decode cX11_back 21 = .ok (.getfield 42, 3) := by decide +kernel
theorem dX11_back_24 : decode cX11_back 24 = .ok (.getfield 243, 3) := by decide +kernel
theorem dX11_back_27 : decode cX11_back 27 = .ok (.iconst 0, 1) := by decide +kernel
theorem dX11_back_28 : decode cX11_back 28 = .ok (.iaload, 1) := by decide +kernel
theorem dX11_back_29 : decode cX11_back 29 = .ok (.ireturn, 1) := by decide +kernel
theorem dX1_add_0 : decode cX1_add 0 = .ok (.aload_n 0, 1) := by decide +kernel
theorem dX1_add_1 : decode cX1_add 1 = .ok (.getfield 9, 3) := by decide +kernel
theorem dX1_add_4 : decode cX1_add 4 = .ok (.aload_n 0, 1) := by decide +kernel
theorem dX1_add_5 : decode cX1_add 5 = .ok (.getfield 16, 3) := by decide +kernel
theorem dX1_add_8 : decode cX1_add 8 = .ok (.iload_n 1, 1) := by decide +kernel
theorem dX1_add_9 : decode cX1_add 9 = .ok (.iastore, 1) := by decide +kernel
theorem dX1_add_10 : decode cX1_add 10 = .ok (.aload_n 0, 1) := by decide +kernel
theorem dX1_add_11 : decode cX1_add 11 = .ok (.dup, 1) := by decide +kernel
theorem dX1_add_12 : decode cX1_add 12 = .ok (.getfield 16, 3) := by decide +kernel
theorem dX1_add_15 : decode cX1_add 15 = .ok (.dup_x1, 1) := by decide +kernel
theorem dX1_add_16 : decode cX1_add 16 = .ok (.iconst 1, 1) := by decide +kernel
theorem dX1_add_17 : decode cX1_add 17 = .ok (.iadd, 1) := by decide +kernel
theorem dX1_add_18 : decode cX1_add 18 = .ok (.putfield 16, 3) := by decide +kernel
theorem dX1_add_21 : decode cX1_add 21 = .ok (.ireturn, 1) := by decide +kernel
theorem dX11_body_0 : decode cX11_body 0 = .ok (.iload_n 1, 1) := by decide +kernel
theorem dX11_body_1 : decode cX11_body 1 = .ok (.ifCond .lt 9, 3) := by decide +kernel
theorem dX11_body_4 : decode cX11_body 4 = .ok (.iload_n 1, 1) := by decide +kernel
theorem dX11_body_5 : decode cX11_body 5 = .ok (.bipush 8, 2) := by decide +kernel
theorem dX11_body_7 : decode cX11_body 7 = .ok (.if_icmp .lt 5, 3) := by decide +kernel
theorem dX11_body_10 : decode cX11_body 10 = .ok (.iconst (-1), 1) := by decide +kernel
theorem dX11_body_11 : decode cX11_body 11 = .ok (.ireturn, 1) := by decide +kernel
theorem dX11_body_12 : decode cX11_body 12 = .ok (.aload_n 0, 1) := by decide +kernel
theorem dX11_body_13 : decode cX11_body 13 = .ok (.getfield 83, 3) := by decide +kernel
theorem dX11_body_16 : decode cX11_body 16 = .ok (.getfield 279, 3) := by decide +kernel
theorem dX11_body_19 : decode cX11_body 19 = .ok (.bipush 50, 2) := by decide +kernel
theorem dX11_body_21 : decode cX11_body 21 = .ok (.if_icmp .ne 8, 3) := by decide +kernel
theorem dX11_body_24 : decode cX11_body 24 = .ok (.bipush (-3), 2) := by decide +kernel
theorem dX11_body_26 : decode cX11_body 26 = .ok (.goto 11, 3) := by decide +kernel
theorem dX11_body_29 : decode cX11_body 29 = .ok (.aload_n 0, 1) := by decide +kernel
theorem dX11_body_30 : decode cX11_body 30 = .ok (.getfield 83, 3) := by decide +kernel
theorem dX11_body_33 : decode cX11_body 33 = .ok (.iload_n 1, 1) := by decide +kernel
theorem dX11_body_34 : decode cX11_body 34 = .ok (.invokevirtual 282, 3) := by decide +kernel
theorem dX11_body_37 : decode cX11_body 37 = .ok (.ireturn, 1) := by decide +kernel
theorem dX11_count_0 : decode cX11_count 0 = .ok (.iload_n 1, 1) := by decide +kernel
theorem dX11_count_1 : decode cX11_count 1 = .ok (.tableswitch 87 0 5 #[39, 47, 55, 63, 71, 79], 39) := by decide +kernel
theorem dX11_count_40 : decode cX11_count 40 = .ok (.aload_n 0, 1) := by decide +kernel
theorem dX11_count_41 : decode cX11_count 41 = .ok (.getfield 10, 3) := by decide +kernel
theorem dX11_count_44 : decode cX11_count 44 = .ok (.getfield 91, 3) := by decide +kernel
theorem dX11_count_47 : decode cX11_count 47 = .ok (.ireturn, 1) := by decide +kernel
theorem dX11_count_48 : decode cX11_count 48 = .ok (.aload_n 0, 1) := by decide +kernel
theorem dX11_count_49 : decode cX11_count 49 = .ok (.getfield 10, 3) := by decide +kernel
theorem dX11_count_52 : decode cX11_count 52 = .ok (.getfield 107, 3) := by decide +kernel
theorem dX11_count_55 : decode cX11_count 55 = .ok (.ireturn, 1) := by decide +kernel
theorem dX11_count_56 : decode cX11_count 56 = .ok (.aload_n 0, 1) := by decide +kernel
theorem dX11_count_57 : decode cX11_count 57 = .ok (.getfield 26, 3) := by decide +kernel
theorem dX11_count_60 : decode cX11_count 60 = .ok (.getfield 133, 3) := by decide +kernel
theorem dX11_count_63 : decode cX11_count 63 = .ok (.ireturn, 1) := by decide +kernel
theorem dX11_count_64 : decode cX11_count 64 = .ok (.aload_n 0, 1) := by decide +kernel
theorem dX11_count_65 : decode cX11_count 65 = .ok (.getfield 49, 3) := by decide +kernel
theorem dX11_count_68 : decode cX11_count 68 = .ok (.getfield 266, 3) := by decide +kernel
theorem dX11_count_71 : decode cX11_count 71 = .ok (.ireturn, 1) := by decide +kernel
theorem dX11_count_72 : decode cX11_count 72 = .ok (.aload_n 0, 1) := by decide +kernel
theorem dX11_count_73 : decode cX11_count 73 = .ok (.getfield 83, 3) := by decide +kernel
theorem dX11_count_76 : decode cX11_count 76 = .ok (.getfield 279, 3) := by decide +kernel
theorem dX11_count_79 : decode cX11_count 79 = .ok (.ireturn, 1) := by decide +kernel
theorem dX11_count_80 : decode cX11_count 80 = .ok (.aload_n 0, 1) := by decide +kernel
theorem dX11_count_81 : decode cX11_count 81 = .ok (.getfield 83, 3) := by decide +kernel
theorem dX11_count_84 : decode cX11_count 84 = .ok (.getfield 283, 3) := by decide +kernel
theorem dX11_count_87 : decode cX11_count 87 = .ok (.ireturn, 1) := by decide +kernel
theorem dX11_count_88 : decode cX11_count 88 = .ok (.iconst (-1), 1) := by decide +kernel
theorem dX11_count_89 : decode cX11_count 89 = .ok (.ireturn, 1) := by decide +kernel
theorem dX11_isShelf_0 : decode cX11_isShelf 0 = .ok (.iload_n 0, 1) := by decide +kernel
theorem dX11_isShelf_1 : decode cX11_isShelf 1 = .ok (.ifCond .lt 13, 3) := by decide +kernel
theorem dX11_isShelf_4 : decode cX11_isShelf 4 = .ok (.iload_n 0, 1) := by decide +kernel
theorem dX11_isShelf_5 : decode cX11_isShelf 5 = .ok (.bipush 6, 2) := by decide +kernel
theorem dX11_isShelf_7 : decode cX11_isShelf 7 = .ok (.if_icmp .ge 7, 3) := by decide +kernel
theorem dX11_isShelf_10 : decode cX11_isShelf 10 = .ok (.iconst 1, 1) := by decide +kernel
theorem dX11_isShelf_11 : decode cX11_isShelf 11 = .ok (.goto 4, 3) := by decide +kernel
theorem dX11_isShelf_14 : decode cX11_isShelf 14 = .ok (.iconst 0, 1) := by decide +kernel
theorem dX11_isShelf_15 : decode cX11_isShelf 15 = .ok (.ireturn, 1) := by decide +kernel
theorem dX11_refusal_0 : decode cX11_refusal 0 = .ok (.iload_n 1, 1) := by decide +kernel
theorem dX11_refusal_1 : decode cX11_refusal 1 = .ok (.invokestatic 300, 3) := by decide +kernel
theorem dX11_refusal_4 : decode cX11_refusal 4 = .ok (.ifCond .ne 5, 3) := by decide +kernel
theorem dX11_refusal_7 : decode cX11_refusal 7 = .ok (.iconst (-1), 1) := by decide +kernel
theorem dX11_refusal_8 : decode cX11_refusal 8 = .ok (.ireturn, 1) := by decide +kernel
theorem dX11_refusal_9 : decode cX11_refusal 9 = .ok (.aload_n 0, 1) := by decide +kernel
theorem dX11_refusal_10 : decode cX11_refusal 10 = .ok (.getfield 55, 3) := by decide +kernel
theorem dX11_refusal_13 : decode cX11_refusal 13 = .ok (.iload_n 1, 1) := by decide +kernel
theorem dX11_refusal_14 : decode cX11_refusal 14 = .ok (.aaload, 1) := by decide +kernel
theorem dX11_refusal_15 : decode cX11_refusal 15 = .ok (.astore_n 3, 1) := by decide +kernel
theorem dX11_refusal_16 : decode cX11_refusal 16 = .ok (.aload_n 3, 1) := by decide +kernel
theorem dX11_refusal_17 : decode cX11_refusal 17 = .ok (.getfield 335, 3) := by decide +kernel
theorem dX11_refusal_20 : decode cX11_refusal 20 = .ok (.ifCond .ne 6, 3) := by decide +kernel
theorem dX11_refusal_23 : decode cX11_refusal 23 = .ok (.bipush (-11), 2) := by decide +kernel
theorem dX11_refusal_25 : decode cX11_refusal 25 = .ok (.ireturn, 1) := by decide +kernel
theorem dX11_refusal_26 : decode cX11_refusal 26 = .ok (.aload_n 3, 1) := by decide +kernel
theorem dX11_refusal_27 : decode cX11_refusal 27 = .ok (.getfield 335, 3) := by decide +kernel
theorem dX11_refusal_30 : decode cX11_refusal 30 = .ok (.iconst 2, 1) := by decide +kernel
theorem dX11_refusal_31 : decode cX11_refusal 31 = .ok (.if_icmp .ne 15, 3) := by decide +kernel
theorem dX11_refusal_34 : decode cX11_refusal 34 = .ok (.aload_n 3, 1) := by decide +kernel
theorem dX11_refusal_35 : decode cX11_refusal 35 = .ok (.getfield 347, 3) := by decide +kernel
theorem dX11_refusal_38 : decode cX11_refusal 38 = .ok (.iload_n 2, 1) := by decide +kernel
theorem dX11_refusal_39 : decode cX11_refusal 39 = .ok (.if_icmp .ne 7, 3) := by decide +kernel
theorem dX11_refusal_42 : decode cX11_refusal 42 = .ok (.iconst 0, 1) := by decide +kernel
theorem dX11_refusal_43 : decode cX11_refusal 43 = .ok (.goto 5, 3) := by decide +kernel
theorem dX11_refusal_46 : decode cX11_refusal 46 = .ok (.bipush (-12), 2) := by decide +kernel
theorem dX11_refusal_48 : decode cX11_refusal 48 = .ok (.ireturn, 1) := by decide +kernel
theorem dX8_hasPlaces_0 : decode cX8_hasPlaces 0 = .ok (.iload_n 2, 1) := by decide +kernel
theorem dX8_hasPlaces_1 : decode cX8_hasPlaces 1 = .ok (.ifCond .lt 21, 3) := by decide +kernel
theorem dX8_hasPlaces_4 : decode cX8_hasPlaces 4 = .ok (.iload_n 1, 1) := by decide +kernel
theorem dX8_hasPlaces_5 : decode cX8_hasPlaces 5 = .ok (.ifCond .lt 17, 3) := by decide +kernel
theorem dX8_hasPlaces_8 : decode cX8_hasPlaces 8 = .ok (.iload_n 1, 1) := by decide +kernel
theorem dX8_hasPlaces_9 : decode cX8_hasPlaces 9 = .ok (.aload_n 0, 1) := by decide +kernel
theorem dX8_hasPlaces_10 : decode cX8_hasPlaces 10 = .ok (.getfield 25, 3) := by decide +kernel
theorem dX8_hasPlaces_13 : decode cX8_hasPlaces 13 = .ok (.iload_n 2, 1) := by decide +kernel
theorem dX8_hasPlaces_14 : decode cX8_hasPlaces 14 = .ok (.isub, 1) := by decide +kernel
theorem dX8_hasPlaces_15 : decode cX8_hasPlaces 15 = .ok (.if_icmp .gt 7, 3) := by decide +kernel
theorem dX8_hasPlaces_18 : decode cX8_hasPlaces 18 = .ok (.iconst 1, 1) := by decide +kernel
theorem dX8_hasPlaces_19 : decode cX8_hasPlaces 19 = .ok (.goto 4, 3) := by decide +kernel
theorem dX8_hasPlaces_22 : decode cX8_hasPlaces 22 = .ok (.iconst 0, 1) := by decide +kernel
theorem dX8_hasPlaces_23 : decode cX8_hasPlaces 23 = .ok (.ireturn, 1) := by decide +kernel
theorem dX11_refusalOfPlace_0 : decode cX11_refusalOfPlace 0 = .ok (.iload_n 1, 1) := by decide +kernel
theorem dX11_refusalOfPlace_1 : decode cX11_refusalOfPlace 1 = .ok (.invokestatic 300, 3) := by decide +kernel
theorem dX11_refusalOfPlace_4 : decode cX11_refusalOfPlace 4 = .ok (.ifCond .eq 20, 3) := by decide +kernel
theorem dX11_refusalOfPlace_7 : decode cX11_refusalOfPlace 7 = .ok (.aload_n 0, 1) := by decide +kernel
theorem dX11_refusalOfPlace_8 : decode cX11_refusalOfPlace 8 = .ok (.iload_n 1, 1) := by decide +kernel
theorem dX11_refusalOfPlace_9 : decode cX11_refusalOfPlace 9 = .ok (.aload_n 0, 1) := by decide +kernel
theorem dX11_refusalOfPlace_10 : decode cX11_refusalOfPlace 10 = .ok (.getfield 55, 3) := by decide +kernel
theorem dX11_refusalOfPlace_13 : decode cX11_refusalOfPlace 13 = .ok (.iload_n 1, 1) := by decide +kernel
theorem dX11_refusalOfPlace_14 : decode cX11_refusalOfPlace 14 = .ok (.aaload, 1) := by decide +kernel
theorem dX11_refusalOfPlace_15 : decode cX11_refusalOfPlace 15 = .ok (.getfield 347, 3) := by decide +kernel
theorem dX11_refusalOfPlace_18 : decode cX11_refusalOfPlace 18 = .ok (.invokevirtual 99, 3) := by decide +kernel
theorem dX11_refusalOfPlace_21 : decode cX11_refusalOfPlace 21 = .ok (.goto 4, 3) := by decide +kernel
theorem dX11_refusalOfPlace_24 : decode cX11_refusalOfPlace 24 = .ok (.iconst (-1), 1) := by decide +kernel
theorem dX11_refusalOfPlace_25 : decode cX11_refusalOfPlace 25 = .ok (.istore_n 3, 1) := by decide +kernel
theorem dX11_refusalOfPlace_26 : decode cX11_refusalOfPlace 26 = .ok (.iload_n 3, 1) := by decide +kernel
theorem dX11_refusalOfPlace_27 : decode cX11_refusalOfPlace 27 = .ok (.ifCond .eq 5, 3) := by decide +kernel
theorem dX11_refusalOfPlace_30 : decode cX11_refusalOfPlace 30 = .ok (.iload_n 3, 1) := by decide +kernel
theorem dX11_refusalOfPlace_31 : decode cX11_refusalOfPlace 31 = .ok (.ireturn, 1) := by decide +kernel
theorem dX11_refusalOfPlace_32 : decode cX11_refusalOfPlace 32 = .ok (.aload_n 0, 1) := by decide +kernel
theorem dX11_refusalOfPlace_33 : decode cX11_refusalOfPlace 33 = .ok (.getfield 55, 3) := by decide +kernel
theorem dX11_refusalOfPlace_36 : decode cX11_refusalOfPlace 36 = .ok (.iload_n 1, 1) := by decide +kernel
theorem dX11_refusalOfPlace_37 : decode cX11_refusalOfPlace 37 = .ok (.aaload, 1) := by decide +kernel
theorem dX11_refusalOfPlace_38 : decode cX11_refusalOfPlace 38 = .ok (.iload_n 2, 1) := by decide +kernel
theorem dX11_refusalOfPlace_39 : decode cX11_refusalOfPlace 39 = .ok (.iconst 1, 1) := by decide +kernel
theorem dX11_refusalOfPlace_40 : decode cX11_refusalOfPlace 40 = .ok (.invokevirtual 326, 3) := by decide +kernel
theorem dX11_refusalOfPlace_43 : decode cX11_refusalOfPlace 43 = .ok (.ifCond .eq 7, 3) := by decide +kernel
theorem dX11_refusalOfPlace_46 : decode cX11_refusalOfPlace 46 = .ok (.iconst 0, 1) := by decide +kernel
theorem dX11_refusalOfPlace_47 : decode cX11_refusalOfPlace 47 = .ok (.goto 5, 3) := by decide +kernel
theorem dX11_refusalOfPlace_50 : decode cX11_refusalOfPlace 50 = .ok (.bipush (-13), 2) := by decide +kernel
theorem dX11_refusalOfPlace_52 : decode cX11_refusalOfPlace 52 = .ok (.ireturn, 1) := by decide +kernel
theorem dX11_element_0 : decode cX11_element 0 = .ok (.aload_n 0, 1) := by decide +kernel
theorem dX11_element_1 : decode cX11_element 1 = .ok (.iload_n 1, 1) := by decide +kernel
theorem dX11_element_2 : decode cX11_element 2 = .ok (.iload_n 2, 1) := by decide +kernel
theorem dX11_element_3 : decode cX11_element 3 = .ok (.invokevirtual 310, 3) := by decide +kernel
theorem dX11_element_6 : decode cX11_element 6 = .ok (.ifCond .eq 9, 3) := by decide +kernel
theorem dX11_element_9 : decode cX11_element 9 = .ok (.ldc2_w 317, 3) := by decide +kernel
theorem dX11_element_12 : decode cX11_element 12 = .ok (.goto 14, 3) := by decide +kernel
theorem dX11_element_15 : decode cX11_element 15 = .ok (.aload_n 0, 1) := by decide +kernel
theorem dX11_element_16 : decode cX11_element 16 = .ok (.getfield 55, 3) := by decide +kernel
theorem dX11_element_19 : decode cX11_element 19 = .ok (.iload_n 1, 1) := by decide +kernel
theorem dX11_element_20 : decode cX11_element 20 = .ok (.aaload, 1) := by decide +kernel
theorem dX11_element_21 : decode cX11_element 21 = .ok (.getfield 319, 3) := by decide +kernel
theorem dX11_element_24 : decode cX11_element 24 = .ok (.iload_n 2, 1) := by decide +kernel
theorem dX11_element_25 : decode cX11_element 25 = .ok (.laload, 1) := by decide +kernel
theorem dX11_element_26 : decode cX11_element 26 = .ok (.lreturn, 1) := by decide +kernel
theorem dX9_add_0 : decode cX9_add 0 = .ok (.aload_n 0, 1) := by decide +kernel
theorem dX9_add_1 : decode cX9_add 1 = .ok (.getfield 9, 3) := by decide +kernel
theorem dX9_add_4 : decode cX9_add 4 = .ok (.aload_n 0, 1) := by decide +kernel
theorem dX9_add_5 : decode cX9_add 5 = .ok (.getfield 22, 3) := by decide +kernel
theorem dX9_add_8 : decode cX9_add 8 = .ok (.iload_n 1, 1) := by decide +kernel
theorem dX9_add_9 : decode cX9_add 9 = .ok (.iastore, 1) := by decide +kernel
theorem dX9_add_10 : decode cX9_add 10 = .ok (.aload_n 0, 1) := by decide +kernel
theorem dX9_add_11 : decode cX9_add 11 = .ok (.dup, 1) := by decide +kernel
theorem dX9_add_12 : decode cX9_add 12 = .ok (.getfield 22, 3) := by decide +kernel
theorem dX9_add_15 : decode cX9_add 15 = .ok (.iconst 1, 1) := by decide +kernel
theorem dX9_add_16 : decode cX9_add 16 = .ok (.iadd, 1) := by decide +kernel
theorem dX9_add_17 : decode cX9_add 17 = .ok (.putfield 22, 3) := by decide +kernel
theorem dX9_add_20 : decode cX9_add 20 = .ok (.aload_n 0, 1) := by decide +kernel
theorem dX9_add_21 : decode cX9_add 21 = .ok (.getfield 22, 3) := by decide +kernel
theorem dX9_add_24 : decode cX9_add 24 = .ok (.ireturn, 1) := by decide +kernel
theorem dX11_feed_0 : decode cX11_feed 0 = .ok (.iload_n 1, 1) := by decide +kernel
theorem dX11_feed_1 : decode cX11_feed 1 = .ok (.ifCond .lt 10, 3) := by decide +kernel
theorem dX11_feed_4 : decode cX11_feed 4 = .ok (.iload_n 1, 1) := by decide +kernel
theorem dX11_feed_5 : decode cX11_feed 5 = .ok (.sipush 255, 3) := by decide +kernel
theorem dX11_feed_8 : decode cX11_feed 8 = .ok (.if_icmp .le 5, 3) := by decide +kernel
theorem dX11_feed_11 : decode cX11_feed 11 = .ok (.iconst (-1), 1) := by decide +kernel
theorem dX11_feed_12 : decode cX11_feed 12 = .ok (.ireturn, 1) := by decide +kernel
theorem dX11_feed_13 : decode cX11_feed 13 = .ok (.aload_n 0, 1) := by decide +kernel
theorem dX11_feed_14 : decode cX11_feed 14 = .ok (.getfield 26, 3) := by decide +kernel
theorem dX11_feed_17 : decode cX11_feed 17 = .ok (.getfield 133, 3) := by decide +kernel
theorem dX11_feed_20 : decode cX11_feed 20 = .ok (.bipush 120, 2) := by decide +kernel
theorem dX11_feed_22 : decode cX11_feed 22 = .ok (.if_icmp .ne 8, 3) := by decide +kernel
theorem dX11_feed_25 : decode cX11_feed 25 = .ok (.bipush (-3), 2) := by decide +kernel
theorem dX11_feed_27 : decode cX11_feed 27 = .ok (.goto 11, 3) := by decide +kernel
theorem dX11_feed_30 : decode cX11_feed 30 = .ok (.aload_n 0, 1) := by decide +kernel
theorem dX11_feed_31 : decode cX11_feed 31 = .ok (.getfield 26, 3) := by decide +kernel
theorem dX11_feed_34 : decode cX11_feed 34 = .ok (.iload_n 1, 1) := by decide +kernel
theorem dX11_feed_35 : decode cX11_feed 35 = .ok (.invokevirtual 136, 3) := by decide +kernel
theorem dX11_feed_38 : decode cX11_feed 38 = .ok (.ireturn, 1) := by decide +kernel
theorem dX11_firstNamed_0 : decode cX11_firstNamed 0 = .ok (.iload_n 0, 1) := by decide +kernel
theorem dX11_firstNamed_1 : decode cX11_firstNamed 1 = .ok (.ifCond .ne 7, 3) := by decide +kernel
theorem dX11_firstNamed_4 : decode cX11_firstNamed 4 = .ok (.iload_n 1, 1) := by decide +kernel
theorem dX11_firstNamed_5 : decode cX11_firstNamed 5 = .ok (.goto 16, 3) := by decide +kernel
theorem dX11_firstNamed_8 : decode cX11_firstNamed 8 = .ok (.iload_n 1, 1) := by decide +kernel
theorem dX11_firstNamed_9 : decode cX11_firstNamed 9 = .ok (.ifCond .ne 7, 3) := by decide +kernel
theorem dX11_firstNamed_12 : decode cX11_firstNamed 12 = .ok (.iload_n 0, 1) := by decide +kernel
theorem dX11_firstNamed_13 : decode cX11_firstNamed 13 = .ok (.goto 8, 3) := by decide +kernel
theorem dX11_firstNamed_16 : decode cX11_firstNamed 16 = .ok (.iload_n 0, 1) := by decide +kernel
theorem dX11_firstNamed_17 : decode cX11_firstNamed 17 = .ok (.iload_n 1, 1) := by decide +kernel
theorem dX11_firstNamed_18 : decode cX11_firstNamed 18 = .ok (.invokestatic 353, 3) := by decide +kernel
theorem dX11_firstNamed_21 : decode cX11_firstNamed 21 = .ok (.ireturn, 1) := by decide +kernel
theorem dX5_fits_0 : decode cX5_fits 0 = .ok (.iload_n 0, 1) := by decide +kernel
theorem dX5_fits_1 : decode cX5_fits 1 = .ok (.ifCond .lt 31, 3) := by decide +kernel
theorem dX5_fits_4 : decode cX5_fits 4 = .ok (.iload_n 0, 1) := by decide +kernel
theorem dX5_fits_5 : decode cX5_fits 5 = .ok (.bipush 9, 2) := by decide +kernel
theorem dX5_fits_7 : decode cX5_fits 7 = .ok (.if_icmp .gt 25, 3) := by decide +kernel
theorem dX5_fits_10 : decode cX5_fits 10 = .ok (.iload_n 1, 1) := by decide +kernel
theorem dX5_fits_11 : decode cX5_fits 11 = .ok (.getstatic 15, 3) := by decide +kernel
theorem dX5_fits_14 : decode cX5_fits 14 = .ok (.iload_n 0, 1) := by decide +kernel
theorem dX5_fits_15 : decode cX5_fits 15 = .ok (.iaload, 1) := by decide +kernel
theorem dX5_fits_16 : decode cX5_fits 16 = .ok (.if_icmp .lt 16, 3) := by decide +kernel
theorem dX5_fits_19 : decode cX5_fits 19 = .ok (.iload_n 1, 1) := by decide +kernel
theorem dX5_fits_20 : decode cX5_fits 20 = .ok (.getstatic 18, 3) := by decide +kernel
theorem dX5_fits_23 : decode cX5_fits 23 = .ok (.iload_n 0, 1) := by decide +kernel
theorem dX5_fits_24 : decode cX5_fits 24 = .ok (.iaload, 1) := by decide +kernel
theorem dX5_fits_25 : decode cX5_fits 25 = .ok (.if_icmp .gt 7, 3) := by decide +kernel
theorem dX5_fits_28 : decode cX5_fits 28 = .ok (.iconst 1, 1) := by decide +kernel
theorem dX5_fits_29 : decode cX5_fits 29 = .ok (.goto 4, 3) := by decide +kernel
theorem dX5_fits_32 : decode cX5_fits 32 = .ok (.iconst 0, 1) := by decide +kernel
theorem dX5_fits_33 : decode cX5_fits 33 = .ok (.ireturn, 1) := by decide +kernel
theorem dX5_addRow_0 : decode cX5_addRow 0 = .ok (.aload_n 0, 1) := by decide +kernel
theorem dX5_addRow_1 : decode cX5_addRow 1 = .ok (.getfield 11, 3) := by decide +kernel
theorem dX5_addRow_4 : decode cX5_addRow 4 = .ok (.iconst 0, 1) := by decide +kernel
theorem dX5_addRow_5 : decode cX5_addRow 5 = .ok (.aload_n 0, 1) := by decide +kernel
theorem dX5_addRow_6 : decode cX5_addRow 6 = .ok (.getfield 21, 3) := by decide +kernel
theorem dX5_addRow_9 : decode cX5_addRow 9 = .ok (.iadd, 1) := by decide +kernel
theorem dX5_addRow_10 : decode cX5_addRow 10 = .ok (.iload_n 1, 1) := by decide +kernel
theorem dX5_addRow_11 : decode cX5_addRow 11 = .ok (.iastore, 1) := by decide +kernel
theorem dX5_addRow_12 : decode cX5_addRow 12 = .ok (.aload_n 0, 1) := by decide +kernel
theorem dX5_addRow_13 : decode cX5_addRow 13 = .ok (.getfield 11, 3) := by decide +kernel
theorem dX5_addRow_16 : decode cX5_addRow 16 = .ok (.bipush 8, 2) := by decide +kernel
theorem dX5_addRow_18 : decode cX5_addRow 18 = .ok (.aload_n 0, 1) := by decide +kernel
theorem dX5_addRow_19 : decode cX5_addRow 19 = .ok (.getfield 21, 3) := by decide +kernel
theorem dX5_addRow_22 : decode cX5_addRow 22 = .ok (.iadd, 1) := by decide +kernel
theorem dX5_addRow_23 : decode cX5_addRow 23 = .ok (.iload_n 2, 1) := by decide +kernel
theorem dX5_addRow_24 : decode cX5_addRow 24 = .ok (.iastore, 1) := by decide +kernel
theorem dX5_addRow_25 : decode cX5_addRow 25 = .ok (.aload_n 0, 1) := by decide +kernel
theorem dX5_addRow_26 : decode cX5_addRow 26 = .ok (.getfield 11, 3) := by decide +kernel
theorem dX5_addRow_29 : decode cX5_addRow 29 = .ok (.bipush 16, 2) := by decide +kernel
theorem dX5_addRow_31 : decode cX5_addRow 31 = .ok (.aload_n 0, 1) := by decide +kernel
theorem dX5_addRow_32 : decode cX5_addRow 32 = .ok (.getfield 21, 3) := by decide +kernel
theorem dX5_addRow_35 : decode cX5_addRow 35 = .ok (.iadd, 1) := by decide +kernel
theorem dX5_addRow_36 : decode cX5_addRow 36 = .ok (.iconst 5, 1) := by decide +kernel
theorem dX5_addRow_37 : decode cX5_addRow 37 = .ok (.iastore, 1) := by decide +kernel
theorem dX5_addRow_38 : decode cX5_addRow 38 = .ok (.aload_n 0, 1) := by decide +kernel
theorem dX5_addRow_39 : decode cX5_addRow 39 = .ok (.getfield 11, 3) := by decide +kernel
theorem dX5_addRow_42 : decode cX5_addRow 42 = .ok (.bipush 24, 2) := by decide +kernel
theorem dX5_addRow_44 : decode cX5_addRow 44 = .ok (.aload_n 0, 1) := by decide +kernel
theorem dX5_addRow_45 : decode cX5_addRow 45 = .ok (.getfield 21, 3) := by decide +kernel
theorem dX5_addRow_48 : decode cX5_addRow 48 = .ok (.iadd, 1) := by decide +kernel
theorem dX5_addRow_49 : decode cX5_addRow 49 = .ok (.iload_n 3, 1) := by decide +kernel
theorem dX5_addRow_50 : decode cX5_addRow 50 = .ok (.iastore, 1) := by decide +kernel
theorem dX5_addRow_51 : decode cX5_addRow 51 = .ok (.aload_n 0, 1) := by decide +kernel
theorem dX5_addRow_52 : decode cX5_addRow 52 = .ok (.dup, 1) := by decide +kernel
theorem dX5_addRow_53 : decode cX5_addRow 53 = .ok (.getfield 28, 3) := by decide +kernel
theorem dX5_addRow_56 : decode cX5_addRow 56 = .ok (.iconst 1, 1) := by decide +kernel
theorem dX5_addRow_57 : decode cX5_addRow 57 = .ok (.iadd, 1) := by decide +kernel
theorem dX5_addRow_58 : decode cX5_addRow 58 = .ok (.putfield 28, 3) := by decide +kernel
theorem dX5_addRow_61 : decode cX5_addRow 61 = .ok (.aload_n 0, 1) := by decide +kernel
theorem dX5_addRow_62 : decode cX5_addRow 62 = .ok (.dup, 1) := by decide +kernel
theorem dX5_addRow_63 : decode cX5_addRow 63 = .ok (.getfield 21, 3) := by decide +kernel
theorem dX5_addRow_66 : decode cX5_addRow 66 = .ok (.dup_x1, 1) := by decide +kernel
theorem dX5_addRow_67 : decode cX5_addRow 67 = .ok (.iconst 1, 1) := by decide +kernel
theorem dX5_addRow_68 : decode cX5_addRow 68 = .ok (.iadd, 1) := by decide +kernel
theorem dX5_addRow_69 : decode cX5_addRow 69 = .ok (.putfield 21, 3) := by decide +kernel
theorem dX5_addRow_72 : decode cX5_addRow 72 = .ok (.ireturn, 1) := by decide +kernel
theorem dX11_hands_0 : decode cX11_hands 0 = .ok (.iconst 0, 1) := by decide +kernel
theorem dX11_hands_1 : decode cX11_hands 1 = .ok (.iload_n 1, 1) := by decide +kernel
theorem dX11_hands_2 : decode cX11_hands 2 = .ok (.invokestatic 87, 3) := by decide +kernel
theorem dX11_hands_5 : decode cX11_hands 5 = .ok (.ifCond .eq 11, 3) := by decide +kernel
theorem dX11_hands_8 : decode cX11_hands 8 = .ok (.iconst 1, 1) := by decide +kernel
theorem dX11_hands_9 : decode cX11_hands 9 = .ok (.iload_n 2, 1) := by decide +kernel
theorem dX11_hands_10 : decode cX11_hands 10 = .ok (.invokestatic 87, 3) := by decide +kernel
theorem dX11_hands_13 : decode cX11_hands 13 = .ok (.ifCond .ne 5, 3) := by decide +kernel
theorem dX11_hands_16 : decode cX11_hands 16 = .ok (.iconst (-1), 1) := by decide +kernel
theorem dX11_hands_17 : decode cX11_hands 17 = .ok (.ireturn, 1) := by decide +kernel
theorem dX11_hands_18 : decode cX11_hands 18 = .ok (.aload_n 0, 1) := by decide +kernel
theorem dX11_hands_19 : decode cX11_hands 19 = .ok (.getfield 10, 3) := by decide +kernel
theorem dX11_hands_22 : decode cX11_hands 22 = .ok (.getfield 91, 3) := by decide +kernel
theorem dX11_hands_25 : decode cX11_hands 25 = .ok (.bipush 6, 2) := by decide +kernel
theorem dX11_hands_27 : decode cX11_hands 27 = .ok (.if_icmp .ne 8, 3) := by decide +kernel
theorem dX11_hands_30 : decode cX11_hands 30 = .ok (.bipush (-3), 2) := by decide +kernel
theorem dX11_hands_32 : decode cX11_hands 32 = .ok (.goto 13, 3) := by decide +kernel
theorem dX11_hands_35 : decode cX11_hands 35 = .ok (.aload_n 0, 1) := by decide +kernel
theorem dX11_hands_36 : decode cX11_hands 36 = .ok (.getfield 10, 3) := by decide +kernel
theorem dX11_hands_39 : decode cX11_hands 39 = .ok (.iload_n 1, 1) := by decide +kernel
theorem dX11_hands_40 : decode cX11_hands 40 = .ok (.iload_n 2, 1) := by decide +kernel
theorem dX11_hands_41 : decode cX11_hands 41 = .ok (.iconst 0, 1) := by decide +kernel
theorem dX11_hands_42 : decode cX11_hands 42 = .ok (.invokevirtual 95, 3) := by decide +kernel
theorem dX11_hands_45 : decode cX11_hands 45 = .ok (.ireturn, 1) := by decide +kernel
theorem dX4_keepImage_0 : decode cX4_keepImage 0 = .ok (.aload_n 0, 1) := by decide +kernel
theorem dX4_keepImage_1 : decode cX4_keepImage 1 = .ok (.getfield 22, 3) := by decide +kernel
theorem dX4_keepImage_4 : decode cX4_keepImage 4 = .ok (.aload_n 0, 1) := by decide +kernel
theorem dX4_keepImage_5 : decode cX4_keepImage 5 = .ok (.getfield 12, 3) := by decide +kernel
theorem dX4_keepImage_8 : decode cX4_keepImage 8 = .ok (.invokevirtual 45, 3) := by decide +kernel
theorem dX4_keepImage_11 : decode cX4_keepImage 11 = .ok (.aload_n 0, 1) := by decide +kernel
theorem dX4_keepImage_12 : decode cX4_keepImage 12 = .ok (.getfield 18, 3) := by decide +kernel
theorem dX4_keepImage_15 : decode cX4_keepImage 15 = .ok (.iconst 0, 1) := by decide +kernel
theorem dX4_keepImage_16 : decode cX4_keepImage 16 = .ok (.aload_n 0, 1) := by decide +kernel
theorem dX4_keepImage_17 : decode cX4_keepImage 17 = .ok (.getfield 25, 3) := by decide +kernel
theorem dX4_keepImage_20 : decode cX4_keepImage 20 = .ok (.iconst 0, 1) := by decide +kernel
theorem dX4_keepImage_21 : decode cX4_keepImage 21 = .ok (.aload_n 0, 1) := by decide +kernel
theorem dX4_keepImage_22 : decode cX4_keepImage 22 = .ok (.getfield 18, 3) := by decide +kernel
theorem dX4_keepImage_25 : decode cX4_keepImage 25 = .ok (.arraylength, 1) := by decide +kernel
theorem dX4_keepImage_26 : decode cX4_keepImage 26 = .ok (.invokestatic 49, 3) := by decide +kernel
theorem dX4_keepImage_29 : decode cX4_keepImage 29 = .ok (.aload_n 0, 1) := by decide +kernel
theorem dX4_keepImage_30 : decode cX4_keepImage 30 = .ok (.iconst 1, 1) := by decide +kernel
theorem dX4_keepImage_31 : decode cX4_keepImage 31 = .ok (.putfield 55, 3) := by decide +kernel
theorem dX4_keepImage_34 : decode cX4_keepImage 34 = .ok (.return_, 1) := by decide +kernel
theorem dX11_image_0 : decode cX11_image 0 = .ok (.aload_n 0, 1) := by decide +kernel
theorem dX11_image_1 : decode cX11_image 1 = .ok (.getfield 42, 3) := by decide +kernel
theorem dX11_image_4 : decode cX11_image 4 = .ok (.invokevirtual 256, 3) := by decide +kernel
theorem dX11_image_7 : decode cX11_image 7 = .ok (.aload_n 0, 1) := by decide +kernel
theorem dX11_image_8 : decode cX11_image 8 = .ok (.getfield 42, 3) := by decide +kernel
theorem dX11_image_11 : decode cX11_image 11 = .ok (.getfield 243, 3) := by decide +kernel
theorem dX11_image_14 : decode cX11_image 14 = .ok (.iconst 0, 1) := by decide +kernel
theorem dX11_image_15 : decode cX11_image 15 = .ok (.iaload, 1) := by decide +kernel
theorem dX11_image_16 : decode cX11_image 16 = .ok (.ireturn, 1) := by decide +kernel
theorem dX11_isHalf_0 : decode cX11_isHalf 0 = .ok (.iload_n 0, 1) := by decide +kernel
theorem dX11_isHalf_1 : decode cX11_isHalf 1 = .ok (.ifCond .eq 8, 3) := by decide +kernel
theorem dX11_isHalf_4 : decode cX11_isHalf 4 = .ok (.iload_n 0, 1) := by decide +kernel
theorem dX11_isHalf_5 : decode cX11_isHalf 5 = .ok (.iconst 1, 1) := by decide +kernel
theorem dX11_isHalf_6 : decode cX11_isHalf 6 = .ok (.if_icmp .ne 7, 3) := by decide +kernel
theorem dX11_isHalf_9 : decode cX11_isHalf 9 = .ok (.iconst 1, 1) := by decide +kernel
theorem dX11_isHalf_10 : decode cX11_isHalf 10 = .ok (.goto 4, 3) := by decide +kernel
theorem dX11_isHalf_13 : decode cX11_isHalf 13 = .ok (.iconst 0, 1) := by decide +kernel
theorem dX11_isHalf_14 : decode cX11_isHalf 14 = .ok (.ireturn, 1) := by decide +kernel
theorem dX11_isWeightAndPace_0 : decode cX11_isWeightAndPace 0 = .ok (.iload_n 0, 1) := by decide +kernel
theorem dX11_isWeightAndPace_1 : decode cX11_isWeightAndPace 1 = .ok (.ifCond .lt 14, 3) := by decide +kernel
theorem dX11_isWeightAndPace_4 : decode cX11_isWeightAndPace 4 = .ok (.iload_n 0, 1) := by decide +kernel
theorem dX11_isWeightAndPace_5 : decode cX11_isWeightAndPace 5 = .ok (.sipush 9999, 3) := by decide +kernel
theorem dX11_isWeightAndPace_8 : decode cX11_isWeightAndPace 8 = .ok (.if_icmp .gt 7, 3) := by decide +kernel
theorem dX11_isWeightAndPace_11 : decode cX11_isWeightAndPace 11 = .ok (.iconst 1, 1) := by decide +kernel
theorem dX11_isWeightAndPace_12 : decode cX11_isWeightAndPace 12 = .ok (.goto 4, 3) := by decide +kernel
theorem dX11_isWeightAndPace_15 : decode cX11_isWeightAndPace 15 = .ok (.iconst 0, 1) := by decide +kernel
theorem dX11_isWeightAndPace_16 : decode cX11_isWeightAndPace 16 = .ok (.ireturn, 1) := by decide +kernel
theorem dX1_has_0 : decode cX1_has 0 = .ok (.iload_n 1, 1) := by decide +kernel
theorem dX1_has_1 : decode cX1_has 1 = .ok (.ifCond .lt 15, 3) := by decide +kernel
theorem dX1_has_4 : decode cX1_has 4 = .ok (.iload_n 1, 1) := by decide +kernel
theorem dX1_has_5 : decode cX1_has 5 = .ok (.aload_n 0, 1) := by decide +kernel
theorem dX1_has_6 : decode cX1_has 6 = .ok (.getfield 16, 3) := by decide +kernel
theorem dX1_has_9 : decode cX1_has 9 = .ok (.if_icmp .ge 7, 3) := by decide +kernel
theorem dX1_has_12 : decode cX1_has 12 = .ok (.iconst 1, 1) := by decide +kernel
theorem dX1_has_13 : decode cX1_has 13 = .ok (.goto 4, 3) := by decide +kernel
theorem dX1_has_16 : decode cX1_has 16 = .ok (.iconst 0, 1) := by decide +kernel
theorem dX1_has_17 : decode cX1_has 17 = .ok (.ireturn, 1) := by decide +kernel
theorem dX8_hold_0 : decode cX8_hold 0 = .ok (.aload_n 0, 1) := by decide +kernel
theorem dX8_hold_1 : decode cX8_hold 1 = .ok (.iload_n 1, 1) := by decide +kernel
theorem dX8_hold_2 : decode cX8_hold 2 = .ok (.iconst (-1), 1) := by decide +kernel
theorem dX8_hold_3 : decode cX8_hold 3 = .ok (.if_icmp .ne 7, 3) := by decide +kernel
theorem dX8_hold_6 : decode cX8_hold 6 = .ok (.iconst 0, 1) := by decide +kernel
theorem dX8_hold_7 : decode cX8_hold 7 = .ok (.goto 4, 3) := by decide +kernel
theorem dX8_hold_10 : decode cX8_hold 10 = .ok (.iconst 1, 1) := by decide +kernel
theorem dX8_hold_11 : decode cX8_hold 11 = .ok (.putfield 15, 3) := by decide +kernel
theorem dX8_hold_14 : decode cX8_hold 14 = .ok (.aload_n 0, 1) := by decide +kernel
theorem dX8_hold_15 : decode cX8_hold 15 = .ok (.iload_n 1, 1) := by decide +kernel
theorem dX8_hold_16 : decode cX8_hold 16 = .ok (.putfield 19, 3) := by decide +kernel
theorem dX8_hold_19 : decode cX8_hold 19 = .ok (.return_, 1) := by decide +kernel
theorem dX11_keep_0 : decode cX11_keep 0 = .ok (.iload_n 1, 1) := by decide +kernel
theorem dX11_keep_1 : decode cX11_keep 1 = .ok (.invokestatic 300, 3) := by decide +kernel
theorem dX11_keep_4 : decode cX11_keep 4 = .ok (.ifCond .eq 19, 3) := by decide +kernel
theorem dX11_keep_7 : decode cX11_keep 7 = .ok (.iload_n 2, 1) := by decide +kernel
theorem dX11_keep_8 : decode cX11_keep 8 = .ok (.iconst (-1), 1) := by decide +kernel
theorem dX11_keep_9 : decode cX11_keep 9 = .ok (.if_icmp .eq 16, 3) := by decide +kernel
theorem dX11_keep_12 : decode cX11_keep 12 = .ok (.aload_n 0, 1) := by decide +kernel
theorem dX11_keep_13 : decode cX11_keep 13 = .ok (.getfield 83, 3) := by decide +kernel
theorem dX11_keep_16 : decode cX11_keep 16 = .ok (.iload_n 2, 1) := by decide +kernel
theorem dX11_keep_17 : decode cX11_keep 17 = .ok (.invokevirtual 286, 3) := by decide +kernel
theorem dX11_keep_20 : decode cX11_keep 20 = .ok (.ifCond .ne 5, 3) := by decide +kernel
theorem dX11_keep_23 : decode cX11_keep 23 = .ok (.iconst (-1), 1) := by decide +kernel
theorem dX11_keep_24 : decode cX11_keep 24 = .ok (.ireturn, 1) := by decide +kernel
theorem dX11_keep_25 : decode cX11_keep 25 = .ok (.aload_n 0, 1) := by decide +kernel
theorem dX11_keep_26 : decode cX11_keep 26 = .ok (.getfield 55, 3) := by decide +kernel
theorem dX11_keep_29 : decode cX11_keep 29 = .ok (.iload_n 1, 1) := by decide +kernel
theorem dX11_keep_30 : decode cX11_keep 30 = .ok (.aaload, 1) := by decide +kernel
theorem dX11_keep_31 : decode cX11_keep 31 = .ok (.iload_n 2, 1) := by decide +kernel
theorem dX11_keep_32 : decode cX11_keep 32 = .ok (.invokevirtual 303, 3) := by decide +kernel
theorem dX11_keep_35 : decode cX11_keep 35 = .ok (.iconst 1, 1) := by decide +kernel
theorem dX11_keep_36 : decode cX11_keep 36 = .ok (.ireturn, 1) := by decide +kernel
theorem dX11_led_0 : decode cX11_led 0 = .ok (.iload_n 1, 1) := by decide +kernel
theorem dX11_led_1 : decode cX11_led 1 = .ok (.ifCond .lt 8, 3) := by decide +kernel
theorem dX11_led_4 : decode cX11_led 4 = .ok (.iload_n 1, 1) := by decide +kernel
theorem dX11_led_5 : decode cX11_led 5 = .ok (.iconst 4, 1) := by decide +kernel
theorem dX11_led_6 : decode cX11_led 6 = .ok (.if_icmp .le 7, 3) := by decide +kernel
theorem dX11_led_9 : decode cX11_led 9 = .ok (.iconst (-1), 1) := by decide +kernel
theorem dX11_led_10 : decode cX11_led 10 = .ok (.goto 12, 3) := by decide +kernel
theorem dX11_led_13 : decode cX11_led 13 = .ok (.aload_n 0, 1) := by decide +kernel
theorem dX11_led_14 : decode cX11_led 14 = .ok (.getfield 42, 3) := by decide +kernel
theorem dX11_led_17 : decode cX11_led 17 = .ok (.getfield 243, 3) := by decide +kernel
theorem dX11_led_20 : decode cX11_led 20 = .ok (.iload_n 1, 1) := by decide +kernel
theorem dX11_led_21 : decode cX11_led 21 = .ok (.iaload, 1) := by decide +kernel
theorem dX11_led_22 : decode cX11_led 22 = .ok (.ireturn, 1) := by decide +kernel
theorem dX5_placeOf_0 : decode cX5_placeOf 0 = .ok (.iload_n 2, 1) := by decide +kernel
theorem dX5_placeOf_1 : decode cX5_placeOf 1 = .ok (.ifCond .lt 13, 3) := by decide +kernel
theorem dX5_placeOf_4 : decode cX5_placeOf 4 = .ok (.iload_n 2, 1) := by decide +kernel
theorem dX5_placeOf_5 : decode cX5_placeOf 5 = .ok (.bipush 9, 2) := by decide +kernel
theorem dX5_placeOf_7 : decode cX5_placeOf 7 = .ok (.if_icmp .gt 7, 3) := by decide +kernel
theorem dX5_placeOf_10 : decode cX5_placeOf 10 = .ok (.iload_n 1, 1) := by decide +kernel
theorem dX5_placeOf_11 : decode cX5_placeOf 11 = .ok (.ifCond .ge 5, 3) := by decide +kernel
theorem dX5_placeOf_14 : decode cX5_placeOf 14 = .ok (.iconst (-1), 1) := by decide +kernel
theorem dX5_placeOf_15 : decode cX5_placeOf 15 = .ok (.ireturn, 1) := by decide +kernel
theorem dX5_placeOf_16 : decode cX5_placeOf 16 = .ok (.iload_n 2, 1) := by decide +kernel
theorem dX5_placeOf_17 : decode cX5_placeOf 17 = .ok (.iconst 3, 1) := by decide +kernel
theorem dX5_placeOf_18 : decode cX5_placeOf 18 = .ok (.if_icmp .gt 10, 3) := by decide +kernel
theorem dX5_placeOf_21 : decode cX5_placeOf 21 = .ok (.aload_n 0, 1) := by decide +kernel
theorem dX5_placeOf_22 : decode cX5_placeOf 22 = .ok (.getfield 21, 3) := by decide +kernel
theorem dX5_placeOf_25 : decode cX5_placeOf 25 = .ok (.goto 16, 3) := by decide +kernel
theorem dX5_placeOf_28 : decode cX5_placeOf 28 = .ok (.iload_n 2, 1) := by decide +kernel
theorem dX5_placeOf_29 : decode cX5_placeOf 29 = .ok (.iconst 5, 1) := by decide +kernel
theorem dX5_placeOf_30 : decode cX5_placeOf 30 = .ok (.if_icmp .gt 10, 3) := by decide +kernel
theorem dX5_placeOf_33 : decode cX5_placeOf 33 = .ok (.aload_n 0, 1) := by decide +kernel
theorem dX5_placeOf_34 : decode cX5_placeOf 34 = .ok (.getfield 25, 3) := by decide +kernel
theorem dX5_placeOf_37 : decode cX5_placeOf 37 = .ok (.goto 4, 3) := by decide +kernel
theorem dX5_placeOf_40 : decode cX5_placeOf 40 = .ok (.iconst 1, 1) := by decide +kernel
theorem dX5_placeOf_41 : decode cX5_placeOf 41 = .ok (.istore_n 3, 1) := by decide +kernel
theorem dX5_placeOf_42 : decode cX5_placeOf 42 = .ok (.iload_n 1, 1) := by decide +kernel
theorem dX5_placeOf_43 : decode cX5_placeOf 43 = .ok (.iload_n 3, 1) := by decide +kernel
theorem dX5_placeOf_44 : decode cX5_placeOf 44 = .ok (.if_icmp .ge 12, 3) := by decide +kernel
theorem dX5_placeOf_47 : decode cX5_placeOf 47 = .ok (.iload_n 2, 1) := by decide +kernel
theorem dX5_placeOf_48 : decode cX5_placeOf 48 = .ok (.bipush 8, 2) := by decide +kernel
theorem dX5_placeOf_50 : decode cX5_placeOf 50 = .ok (.imul, 1) := by decide +kernel
theorem dX5_placeOf_51 : decode cX5_placeOf 51 = .ok (.iload_n 1, 1) := by decide +kernel
theorem dX5_placeOf_52 : decode cX5_placeOf 52 = .ok (.iadd, 1) := by decide +kernel
theorem dX5_placeOf_53 : decode cX5_placeOf 53 = .ok (.goto 4, 3) := by decide +kernel
theorem dX5_placeOf_56 : decode cX5_placeOf 56 = .ok (.iconst (-1), 1) := by decide +kernel
theorem dX5_placeOf_57 : decode cX5_placeOf 57 = .ok (.ireturn, 1) := by decide +kernel
theorem dX3_dropOldest_0 : decode cX3_dropOldest 0 = .ok (.aload_n 0, 1) := by decide +kernel
theorem dX3_dropOldest_1 : decode cX3_dropOldest 1 = .ok (.getfield 9, 3) := by decide +kernel
theorem dX3_dropOldest_4 : decode cX3_dropOldest 4 = .ok (.iconst 1, 1) := by decide +kernel
theorem dX3_dropOldest_5 : decode cX3_dropOldest 5 = .ok (.aload_n 0, 1) := by decide +kernel
theorem dX3_dropOldest_6 : decode cX3_dropOldest 6 = .ok (.getfield 9, 3) := by decide +kernel
theorem dX3_dropOldest_9 : decode cX3_dropOldest 9 = .ok (.iconst 0, 1) := by decide +kernel
theorem dX3_dropOldest_10 : decode cX3_dropOldest 10 = .ok (.bipush 39, 2) := by decide +kernel
theorem dX3_dropOldest_12 : decode cX3_dropOldest 12 = .ok (.invokestatic 29, 3) := by decide +kernel
theorem dX3_dropOldest_15 : decode cX3_dropOldest 15 = .ok (.aload_n 0, 1) := by decide +kernel
theorem dX3_dropOldest_16 : decode cX3_dropOldest 16 = .ok (.getfield 13, 3) := by decide +kernel
theorem dX3_dropOldest_19 : decode cX3_dropOldest 19 = .ok (.iconst 1, 1) := by decide +kernel
theorem dX3_dropOldest_20 : decode cX3_dropOldest 20 = .ok (.aload_n 0, 1) := by decide +kernel
theorem dX3_dropOldest_21 : decode cX3_dropOldest 21 = .ok (.getfield 13, 3) := by decide +kernel
theorem dX3_dropOldest_24 : decode cX3_dropOldest 24 = .ok (.iconst 0, 1) := by decide +kernel
theorem dX3_dropOldest_25 : decode cX3_dropOldest 25 = .ok (.bipush 39, 2) := by decide +kernel
theorem dX3_dropOldest_27 : decode cX3_dropOldest 27 = .ok (.invokestatic 29, 3) := by decide +kernel
theorem dX3_dropOldest_30 : decode cX3_dropOldest 30 = .ok (.aload_n 0, 1) := by decide +kernel
theorem dX3_dropOldest_31 : decode cX3_dropOldest 31 = .ok (.getfield 16, 3) := by decide +kernel
theorem dX3_dropOldest_34 : decode cX3_dropOldest 34 = .ok (.iconst 1, 1) := by decide +kernel
theorem dX3_dropOldest_35 : decode cX3_dropOldest 35 = .ok (.aload_n 0, 1) := by decide +kernel
theorem dX3_dropOldest_36 : decode cX3_dropOldest 36 = .ok (.getfield 16, 3) := by decide +kernel
theorem dX3_dropOldest_39 : decode cX3_dropOldest 39 = .ok (.iconst 0, 1) := by decide +kernel
theorem dX3_dropOldest_40 : decode cX3_dropOldest 40 = .ok (.bipush 39, 2) := by decide +kernel
theorem dX3_dropOldest_42 : decode cX3_dropOldest 42 = .ok (.invokestatic 29, 3) := by decide +kernel
theorem dX3_dropOldest_45 : decode cX3_dropOldest 45 = .ok (.aload_n 0, 1) := by decide +kernel
theorem dX3_dropOldest_46 : decode cX3_dropOldest 46 = .ok (.dup, 1) := by decide +kernel
theorem dX3_dropOldest_47 : decode cX3_dropOldest 47 = .ok (.getfield 19, 3) := by decide +kernel
theorem dX3_dropOldest_50 : decode cX3_dropOldest 50 = .ok (.iconst 1, 1) := by decide +kernel
theorem dX3_dropOldest_51 : decode cX3_dropOldest 51 = .ok (.isub, 1) := by decide +kernel
theorem dX3_dropOldest_52 : decode cX3_dropOldest 52 = .ok (.putfield 19, 3) := by decide +kernel
theorem dX3_dropOldest_55 : decode cX3_dropOldest 55 = .ok (.return_, 1) := by decide +kernel
theorem dX3_note_0 : decode cX3_note 0 = .ok (.aload_n 0, 1) := by decide +kernel
theorem dX3_note_1 : decode cX3_note 1 = .ok (.getfield 19, 3) := by decide +kernel
theorem dX3_note_4 : decode cX3_note 4 = .ok (.bipush 40, 2) := by decide +kernel
theorem dX3_note_6 : decode cX3_note 6 = .ok (.if_icmp .ne 7, 3) := by decide +kernel
theorem dX3_note_9 : decode cX3_note 9 = .ok (.aload_n 0, 1) := by decide +kernel
theorem dX3_note_10 : decode cX3_note 10 = .ok (.invokevirtual 23, 3) := by decide +kernel
theorem dX3_note_13 : decode cX3_note 13 = .ok (.aload_n 0, 1) := by decide +kernel
theorem dX3_note_14 : decode cX3_note 14 = .ok (.getfield 9, 3) := by decide +kernel
theorem dX3_note_17 : decode cX3_note 17 = .ok (.aload_n 0, 1) := by decide +kernel
theorem dX3_note_18 : decode cX3_note 18 = .ok (.getfield 19, 3) := by decide +kernel
theorem dX3_note_21 : decode cX3_note 21 = .ok (.iload_n 1, 1) := by decide +kernel
theorem dX3_note_22 : decode cX3_note 22 = .ok (.iastore, 1) := by decide +kernel
theorem dX3_note_23 : decode cX3_note 23 = .ok (.aload_n 0, 1) := by decide +kernel
theorem dX3_note_24 : decode cX3_note 24 = .ok (.getfield 13, 3) := by decide +kernel
theorem dX3_note_27 : decode cX3_note 27 = .ok (.aload_n 0, 1) := by decide +kernel
theorem dX3_note_28 : decode cX3_note 28 = .ok (.getfield 19, 3) := by decide +kernel
theorem dX3_note_31 : decode cX3_note 31 = .ok (.iload_n 2, 1) := by decide +kernel
theorem dX3_note_32 : decode cX3_note 32 = .ok (.iastore, 1) := by decide +kernel
theorem dX3_note_33 : decode cX3_note 33 = .ok (.aload_n 0, 1) := by decide +kernel
theorem dX3_note_34 : decode cX3_note 34 = .ok (.getfield 16, 3) := by decide +kernel
theorem dX3_note_37 : decode cX3_note 37 = .ok (.aload_n 0, 1) := by decide +kernel
theorem dX3_note_38 : decode cX3_note 38 = .ok (.getfield 19, 3) := by decide +kernel
theorem dX3_note_41 : decode cX3_note 41 = .ok (.iload_n 3, 1) := by decide +kernel
theorem dX3_note_42 : decode cX3_note 42 = .ok (.iastore, 1) := by decide +kernel
theorem dX3_note_43 : decode cX3_note 43 = .ok (.aload_n 0, 1) := by decide +kernel
theorem dX3_note_44 : decode cX3_note 44 = .ok (.dup, 1) := by decide +kernel
theorem dX3_note_45 : decode cX3_note 45 = .ok (.getfield 19, 3) := by decide +kernel
theorem dX3_note_48 : decode cX3_note 48 = .ok (.iconst 1, 1) := by decide +kernel
theorem dX3_note_49 : decode cX3_note 49 = .ok (.iadd, 1) := by decide +kernel
theorem dX3_note_50 : decode cX3_note 50 = .ok (.putfield 19, 3) := by decide +kernel
theorem dX3_note_53 : decode cX3_note 53 = .ok (.aload_n 0, 1) := by decide +kernel
theorem dX3_note_54 : decode cX3_note 54 = .ok (.aload_n 0, 1) := by decide +kernel
theorem dX3_note_55 : decode cX3_note 55 = .ok (.getfield 19, 3) := by decide +kernel
theorem dX3_note_58 : decode cX3_note 58 = .ok (.putfield 26, 3) := by decide +kernel
theorem dX3_note_61 : decode cX3_note 61 = .ok (.return_, 1) := by decide +kernel
theorem dX5_change_0 : decode cX5_change 0 = .ok (.aload_n 0, 1) := by decide +kernel
theorem dX5_change_1 : decode cX5_change 1 = .ok (.getfield 11, 3) := by decide +kernel
theorem dX5_change_4 : decode cX5_change 4 = .ok (.iload_n 1, 1) := by decide +kernel
theorem dX5_change_5 : decode cX5_change 5 = .ok (.iload_n 2, 1) := by decide +kernel
theorem dX5_change_6 : decode cX5_change 6 = .ok (.iastore, 1) := by decide +kernel
theorem dX5_change_7 : decode cX5_change 7 = .ok (.aload_n 0, 1) := by decide +kernel
theorem dX5_change_8 : decode cX5_change 8 = .ok (.dup, 1) := by decide +kernel
theorem dX5_change_9 : decode cX5_change 9 = .ok (.getfield 28, 3) := by decide +kernel
theorem dX5_change_12 : decode cX5_change 12 = .ok (.iconst 1, 1) := by decide +kernel
theorem dX5_change_13 : decode cX5_change 13 = .ok (.iadd, 1) := by decide +kernel
theorem dX5_change_14 : decode cX5_change 14 = .ok (.putfield 28, 3) := by decide +kernel
theorem dX5_change_17 : decode cX5_change 17 = .ok (.return_, 1) := by decide +kernel
theorem dX11_mend_0 : decode cX11_mend 0 = .ok (.aload_n 0, 1) := by decide +kernel
theorem dX11_mend_1 : decode cX11_mend 1 = .ok (.getfield 10, 3) := by decide +kernel
theorem dX11_mend_4 : decode cX11_mend 4 = .ok (.iload_n 1, 1) := by decide +kernel
theorem dX11_mend_5 : decode cX11_mend 5 = .ok (.iload_n 2, 1) := by decide +kernel
theorem dX11_mend_6 : decode cX11_mend 6 = .ok (.invokevirtual 113, 3) := by decide +kernel
theorem dX11_mend_9 : decode cX11_mend 9 = .ok (.istore 4, 2) := by decide +kernel
theorem dX11_mend_11 : decode cX11_mend 11 = .ok (.iload 4, 2) := by decide +kernel
theorem dX11_mend_13 : decode cX11_mend 13 = .ok (.ifCond .lt 11, 3) := by decide +kernel
theorem dX11_mend_16 : decode cX11_mend 16 = .ok (.iload_n 2, 1) := by decide +kernel
theorem dX11_mend_17 : decode cX11_mend 17 = .ok (.iload_n 3, 1) := by decide +kernel
theorem dX11_mend_18 : decode cX11_mend 18 = .ok (.invokestatic 87, 3) := by decide +kernel
theorem dX11_mend_21 : decode cX11_mend 21 = .ok (.ifCond .ne 5, 3) := by decide +kernel
theorem dX11_mend_24 : decode cX11_mend 24 = .ok (.iconst (-1), 1) := by decide +kernel
theorem dX11_mend_25 : decode cX11_mend 25 = .ok (.ireturn, 1) := by decide +kernel
theorem dX11_mend_26 : decode cX11_mend 26 = .ok (.aload_n 0, 1) := by decide +kernel
theorem dX11_mend_27 : decode cX11_mend 27 = .ok (.getfield 10, 3) := by decide +kernel
theorem dX11_mend_30 : decode cX11_mend 30 = .ok (.getfield 116, 3) := by decide +kernel
theorem dX11_mend_33 : decode cX11_mend 33 = .ok (.iload 4, 2) := by decide +kernel
theorem dX11_mend_35 : decode cX11_mend 35 = .ok (.iaload, 1) := by decide +kernel
theorem dX11_mend_36 : decode cX11_mend 36 = .ok (.istore 5, 2) := by decide +kernel
theorem dX11_mend_38 : decode cX11_mend 38 = .ok (.iload 5, 2) := by decide +kernel
theorem dX11_mend_40 : decode cX11_mend 40 = .ok (.iload_n 3, 1) := by decide +kernel
theorem dX11_mend_41 : decode cX11_mend 41 = .ok (.if_icmp .eq 25, 3) := by decide +kernel
theorem dX11_mend_44 : decode cX11_mend 44 = .ok (.aload_n 0, 1) := by decide +kernel
theorem dX11_mend_45 : decode cX11_mend 45 = .ok (.getfield 49, 3) := by decide +kernel
theorem dX11_mend_48 : decode cX11_mend 48 = .ok (.iload 4, 2) := by decide +kernel
theorem dX11_mend_50 : decode cX11_mend 50 = .ok (.iload 5, 2) := by decide +kernel
theorem dX11_mend_52 : decode cX11_mend 52 = .ok (.iload_n 3, 1) := by decide +kernel
theorem dX11_mend_53 : decode cX11_mend 53 = .ok (.invokevirtual 120, 3) := by decide +kernel
theorem dX11_mend_56 : decode cX11_mend 56 = .ok (.aload_n 0, 1) := by decide +kernel
theorem dX11_mend_57 : decode cX11_mend 57 = .ok (.getfield 10, 3) := by decide +kernel
theorem dX11_mend_60 : decode cX11_mend 60 = .ok (.iload 4, 2) := by decide +kernel
theorem dX11_mend_62 : decode cX11_mend 62 = .ok (.iload_n 3, 1) := by decide +kernel
theorem dX11_mend_63 : decode cX11_mend 63 = .ok (.invokevirtual 124, 3) := by decide +kernel
theorem dX11_mend_66 : decode cX11_mend 66 = .ok (.iload 5, 2) := by decide +kernel
theorem dX11_mend_68 : decode cX11_mend 68 = .ok (.ireturn, 1) := by decide +kernel
theorem dX11_of_0 : decode cX11_of 0 = .ok (.iload_n 2, 1) := by decide +kernel
theorem dX11_of_1 : decode cX11_of 1 = .ok (.bipush 10, 2) := by decide +kernel
theorem dX11_of_3 : decode cX11_of 3 = .ok (.if_icmp .ne 30, 3) := by decide +kernel
theorem dX11_of_6 : decode cX11_of 6 = .ok (.iload_n 1, 1) := by decide +kernel
theorem dX11_of_7 : decode cX11_of 7 = .ok (.ifCond .lt 9, 3) := by decide +kernel
theorem dX11_of_10 : decode cX11_of 10 = .ok (.iload_n 1, 1) := by decide +kernel
theorem dX11_of_11 : decode cX11_of 11 = .ok (.bipush 16, 2) := by decide +kernel
theorem dX11_of_13 : decode cX11_of 13 = .ok (.if_icmp .lt 7, 3) := by decide +kernel
theorem dX11_of_16 : decode cX11_of 16 = .ok (.iconst (-1), 1) := by decide +kernel
theorem dX11_of_17 : decode cX11_of 17 = .ok (.goto 15, 3) := by decide +kernel
theorem dX11_of_20 : decode cX11_of 20 = .ok (.aload_n 0, 1) := by decide +kernel
theorem dX11_of_21 : decode cX11_of 21 = .ok (.getfield 42, 3) := by decide +kernel
theorem dX11_of_24 : decode cX11_of 24 = .ok (.getfield 62, 3) := by decide +kernel
theorem dX11_of_27 : decode cX11_of 27 = .ok (.getfield 128, 3) := by decide +kernel
theorem dX11_of_30 : decode cX11_of 30 = .ok (.iload_n 1, 1) := by decide +kernel
theorem dX11_of_31 : decode cX11_of 31 = .ok (.iaload, 1) := by decide +kernel
theorem dX11_of_32 : decode cX11_of 32 = .ok (.ireturn, 1) := by decide +kernel
theorem dX11_of_33 : decode cX11_of 33 = .ok (.aload_n 0, 1) := by decide +kernel
theorem dX11_of_34 : decode cX11_of 34 = .ok (.getfield 10, 3) := by decide +kernel
theorem dX11_of_37 : decode cX11_of 37 = .ok (.iload_n 1, 1) := by decide +kernel
theorem dX11_of_38 : decode cX11_of 38 = .ok (.iload_n 2, 1) := by decide +kernel
theorem dX11_of_39 : decode cX11_of 39 = .ok (.invokevirtual 113, 3) := by decide +kernel
theorem dX11_of_42 : decode cX11_of 42 = .ok (.istore_n 3, 1) := by decide +kernel
theorem dX11_of_43 : decode cX11_of 43 = .ok (.iload_n 3, 1) := by decide +kernel
theorem dX11_of_44 : decode cX11_of 44 = .ok (.ifCond .ge 7, 3) := by decide +kernel
theorem dX11_of_47 : decode cX11_of 47 = .ok (.iconst (-1), 1) := by decide +kernel
theorem dX11_of_48 : decode cX11_of 48 = .ok (.goto 12, 3) := by decide +kernel
theorem dX11_of_51 : decode cX11_of 51 = .ok (.aload_n 0, 1) := by decide +kernel
theorem dX11_of_52 : decode cX11_of 52 = .ok (.getfield 10, 3) := by decide +kernel
theorem dX11_of_55 : decode cX11_of 55 = .ok (.getfield 116, 3) := by decide +kernel
theorem dX11_of_58 : decode cX11_of 58 = .ok (.iload_n 3, 1) := by decide +kernel
theorem dX11_of_59 : decode cX11_of 59 = .ok (.iaload, 1) := by decide +kernel
theorem dX11_of_60 : decode cX11_of 60 = .ok (.ireturn, 1) := by decide +kernel
theorem dX8_held_0 : decode cX8_held 0 = .ok (.aload_n 0, 1) := by decide +kernel
theorem dX8_held_1 : decode cX8_held 1 = .ok (.getfield 22, 3) := by decide +kernel
theorem dX8_held_4 : decode cX8_held 4 = .ok (.tableswitch 62 0 4 #[36, 41, 46, 62, 50], 36) := by decide +kernel
theorem dX8_held_40 : decode cX8_held 40 = .ok (.lload_n 1, 1) := by decide +kernel
theorem dX8_held_41 : decode cX8_held 41 = .ok (.l2i, 1) := by decide +kernel
theorem dX8_held_42 : decode cX8_held 42 = .ok (.i2b, 1) := by decide +kernel
theorem dX8_held_43 : decode cX8_held 43 = .ok (.i2l, 1) := by decide +kernel
theorem dX8_held_44 : decode cX8_held 44 = .ok (.lreturn, 1) := by decide +kernel
theorem dX8_held_45 : decode cX8_held 45 = .ok (.lload_n 1, 1) := by decide +kernel
theorem dX8_held_46 : decode cX8_held 46 = .ok (.l2i, 1) := by decide +kernel
theorem dX8_held_47 : decode cX8_held 47 = .ok (.i2s, 1) := by decide +kernel
theorem dX8_held_48 : decode cX8_held 48 = .ok (.i2l, 1) := by decide +kernel
theorem dX8_held_49 : decode cX8_held 49 = .ok (.lreturn, 1) := by decide +kernel
theorem dX8_held_50 : decode cX8_held 50 = .ok (.lload_n 1, 1) := by decide +kernel
theorem dX8_held_51 : decode cX8_held 51 = .ok (.l2i, 1) := by decide +kernel
theorem dX8_held_52 : decode cX8_held 52 = .ok (.i2l, 1) := by decide +kernel
theorem dX8_held_53 : decode cX8_held 53 = .ok (.lreturn, 1) := by decide +kernel
theorem dX8_held_54 : decode cX8_held 54 = .ok (.lload_n 1, 1) := by decide +kernel
theorem dX8_held_55 : decode cX8_held 55 = .ok (.lconst 0, 1) := by decide +kernel
theorem dX8_held_56 : decode cX8_held 56 = .ok (.lcmp, 1) := by decide +kernel
theorem dX8_held_57 : decode cX8_held 57 = .ok (.ifCond .eq 7, 3) := by decide +kernel
theorem dX8_held_60 : decode cX8_held 60 = .ok (.lconst 1, 1) := by decide +kernel
theorem dX8_held_61 : decode cX8_held 61 = .ok (.goto 4, 3) := by decide +kernel
theorem dX8_held_64 : decode cX8_held 64 = .ok (.lconst 0, 1) := by decide +kernel
theorem dX8_held_65 : decode cX8_held 65 = .ok (.lreturn, 1) := by decide +kernel
theorem dX8_held_66 : decode cX8_held 66 = .ok (.lload_n 1, 1) := by decide +kernel
theorem dX8_held_67 : decode cX8_held 67 = .ok (.lreturn, 1) := by decide +kernel
theorem dX8_set_0 : decode cX8_set 0 = .ok (.aload_n 0, 1) := by decide +kernel
theorem dX8_set_1 : decode cX8_set 1 = .ok (.getfield 11, 3) := by decide +kernel
theorem dX8_set_4 : decode cX8_set 4 = .ok (.iload_n 1, 1) := by decide +kernel
theorem dX8_set_5 : decode cX8_set 5 = .ok (.aload_n 0, 1) := by decide +kernel
theorem dX8_set_6 : decode cX8_set 6 = .ok (.lload_n 2, 1) := by decide +kernel
theorem dX8_set_7 : decode cX8_set 7 = .ok (.invokevirtual 34, 3) := by decide +kernel
theorem dX8_set_10 : decode cX8_set 10 = .ok (.lastore, 1) := by decide +kernel
theorem dX8_set_11 : decode cX8_set 11 = .ok (.return_, 1) := by decide +kernel
theorem dX11_put_0 : decode cX11_put 0 = .ok (.aload_n 0, 1) := by decide +kernel
theorem dX11_put_1 : decode cX11_put 1 = .ok (.iload_n 1, 1) := by decide +kernel
theorem dX11_put_2 : decode cX11_put 2 = .ok (.iload_n 2, 1) := by decide +kernel
theorem dX11_put_3 : decode cX11_put 3 = .ok (.invokevirtual 310, 3) := by decide +kernel
theorem dX11_put_6 : decode cX11_put 6 = .ok (.istore 5, 2) := by decide +kernel
theorem dX11_put_8 : decode cX11_put 8 = .ok (.iload 5, 2) := by decide +kernel
theorem dX11_put_10 : decode cX11_put 10 = .ok (.ifCond .eq 6, 3) := by decide +kernel
theorem dX11_put_13 : decode cX11_put 13 = .ok (.iload 5, 2) := by decide +kernel
theorem dX11_put_15 : decode cX11_put 15 = .ok (.ireturn, 1) := by decide +kernel
theorem dX11_put_16 : decode cX11_put 16 = .ok (.aload_n 0, 1) := by decide +kernel
theorem dX11_put_17 : decode cX11_put 17 = .ok (.getfield 55, 3) := by decide +kernel
theorem dX11_put_20 : decode cX11_put 20 = .ok (.iload_n 1, 1) := by decide +kernel
theorem dX11_put_21 : decode cX11_put 21 = .ok (.aaload, 1) := by decide +kernel
theorem dX11_put_22 : decode cX11_put 22 = .ok (.iload_n 2, 1) := by decide +kernel
theorem dX11_put_23 : decode cX11_put 23 = .ok (.lload_n 3, 1) := by decide +kernel
theorem dX11_put_24 : decode cX11_put 24 = .ok (.invokevirtual 313, 3) := by decide +kernel
theorem dX11_put_27 : decode cX11_put 27 = .ok (.iconst 1, 1) := by decide +kernel
theorem dX11_put_28 : decode cX11_put 28 = .ok (.ireturn, 1) := by decide +kernel
theorem dX3_doAgain_0 : decode cX3_doAgain 0 = .ok (.aload_n 1, 1) := by decide +kernel
theorem dX3_doAgain_1 : decode cX3_doAgain 1 = .ok (.aload_n 0, 1) := by decide +kernel
theorem dX3_doAgain_2 : decode cX3_doAgain 2 = .ok (.getfield 9, 3) := by decide +kernel
theorem dX3_doAgain_5 : decode cX3_doAgain 5 = .ok (.aload_n 0, 1) := by decide +kernel
theorem dX3_doAgain_6 : decode cX3_doAgain 6 = .ok (.getfield 19, 3) := by decide +kernel
theorem dX3_doAgain_9 : decode cX3_doAgain 9 = .ok (.iaload, 1) := by decide +kernel
theorem dX3_doAgain_10 : decode cX3_doAgain 10 = .ok (.aload_n 0, 1) := by decide +kernel
theorem dX3_doAgain_11 : decode cX3_doAgain 11 = .ok (.getfield 16, 3) := by decide +kernel
theorem dX3_doAgain_14 : decode cX3_doAgain 14 = .ok (.aload_n 0, 1) := by decide +kernel
theorem dX3_doAgain_15 : decode cX3_doAgain 15 = .ok (.getfield 19, 3) := by decide +kernel
theorem dX3_doAgain_18 : decode cX3_doAgain 18 = .ok (.iaload, 1) := by decide +kernel
theorem dX3_doAgain_19 : decode cX3_doAgain 19 = .ok (.invokevirtual 35, 3) := by decide +kernel
theorem dX3_doAgain_22 : decode cX3_doAgain 22 = .ok (.aload_n 0, 1) := by decide +kernel
theorem dX3_doAgain_23 : decode cX3_doAgain 23 = .ok (.dup, 1) := by decide +kernel
theorem dX3_doAgain_24 : decode cX3_doAgain 24 = .ok (.getfield 19, 3) := by decide +kernel
theorem dX3_doAgain_27 : decode cX3_doAgain 27 = .ok (.iconst 1, 1) := by decide +kernel
theorem dX3_doAgain_28 : decode cX3_doAgain 28 = .ok (.iadd, 1) := by decide +kernel
theorem dX3_doAgain_29 : decode cX3_doAgain 29 = .ok (.putfield 19, 3) := by decide +kernel
theorem dX3_doAgain_32 : decode cX3_doAgain 32 = .ok (.aload_n 0, 1) := by decide +kernel
theorem dX3_doAgain_33 : decode cX3_doAgain 33 = .ok (.getfield 26, 3) := by decide +kernel
theorem dX3_doAgain_36 : decode cX3_doAgain 36 = .ok (.aload_n 0, 1) := by decide +kernel
theorem dX3_doAgain_37 : decode cX3_doAgain 37 = .ok (.getfield 19, 3) := by decide +kernel
theorem dX3_doAgain_40 : decode cX3_doAgain 40 = .ok (.isub, 1) := by decide +kernel
theorem dX3_doAgain_41 : decode cX3_doAgain 41 = .ok (.ireturn, 1) := by decide +kernel
theorem s_J0_coder_7d493_1006 {X : zX} {d : Nat} {Q : Option Value → zH → Prop} (σ : zS)  : zwp X d MJ0_coder_7d493 0 [.ref 1006] [] (zen σ) Q = Q (some (.int 0)) (zen σ) :=
  Eq.trans (q_gets (v := .int 1) (pc := 0) dJ0_coder_7d493_0 zG_21_38 rfl) (Eq.trans (Eq.trans (q_if_eq (tgt := 13) (pc := 3) dJ0_coder_7d493_3 rfl) (if_neg (by decide))) (Eq.trans (q_aload_n (pc := 6) dJ0_coder_7d493_6 rfl rfl) (Eq.trans (q_getf (pc := 7) dJ0_coder_7d493_7 zF_21_15 rfl) (Eq.trans (q_goto (tgt := 14) (pc := 10) dJ0_coder_7d493_10 rfl) (q_iret (pc := 14) dJ0_coder_7d493_14 rfl (by rfl))))))
theorem s_J0_coder_7d493_1007 {X : zX} {d : Nat} {Q : Option Value → zH → Prop} (σ : zS)  : zwp X d MJ0_coder_7d493 0 [.ref 1007] [] (zen σ) Q = Q (some (.int 0)) (zen σ) :=
  Eq.trans (q_gets (v := .int 1) (pc := 0) dJ0_coder_7d493_0 zG_21_38 rfl) (Eq.trans (Eq.trans (q_if_eq (tgt := 13) (pc := 3) dJ0_coder_7d493_3 rfl) (if_neg (by decide))) (Eq.trans (q_aload_n (pc := 6) dJ0_coder_7d493_6 rfl rfl) (Eq.trans (q_getf (pc := 7) dJ0_coder_7d493_7 zF_21_15 rfl) (Eq.trans (q_goto (tgt := 14) (pc := 10) dJ0_coder_7d493_10 rfl) (q_iret (pc := 14) dJ0_coder_7d493_14 rfl (by rfl))))))
theorem s_J0_isLatin1_aae02_1006 {X : zX} {d : Nat} {Q : Option Value → zH → Prop} (σ : zS)  : zwp X d MJ0_isLatin1_aae02 0 [.ref 1006] [] (zen σ) Q = Q (some (.int 1)) (zen σ) :=
  Eq.trans (q_gets (v := .int 1) (pc := 0) dJ0_isLatin1_aae02_0 zG_21_38 rfl) (Eq.trans (Eq.trans (q_if_eq (tgt := 17) (pc := 3) dJ0_isLatin1_aae02_3 rfl) (if_neg (by decide))) (Eq.trans (q_aload_n (pc := 6) dJ0_isLatin1_aae02_6 rfl rfl) (Eq.trans (q_getf (pc := 7) dJ0_isLatin1_aae02_7 zF_21_15 rfl) (Eq.trans (Eq.trans (q_if_ne (tgt := 17) (pc := 10) dJ0_isLatin1_aae02_10 rfl) (if_neg (by decide))) (Eq.trans (q_iconst (v := 1) (pc := 13) dJ0_isLatin1_aae02_13 rfl) (Eq.trans (q_goto (tgt := 18) (pc := 14) dJ0_isLatin1_aae02_14 rfl) (q_zretK (pc := 18) dJ0_isLatin1_aae02_18 rfl (by decide))))))))
theorem s_J0_isLatin1_aae02_1007 {X : zX} {d : Nat} {Q : Option Value → zH → Prop} (σ : zS)  : zwp X d MJ0_isLatin1_aae02 0 [.ref 1007] [] (zen σ) Q = Q (some (.int 1)) (zen σ) :=
  Eq.trans (q_gets (v := .int 1) (pc := 0) dJ0_isLatin1_aae02_0 zG_21_38 rfl) (Eq.trans (Eq.trans (q_if_eq (tgt := 17) (pc := 3) dJ0_isLatin1_aae02_3 rfl) (if_neg (by decide))) (Eq.trans (q_aload_n (pc := 6) dJ0_isLatin1_aae02_6 rfl rfl) (Eq.trans (q_getf (pc := 7) dJ0_isLatin1_aae02_7 zF_21_15 rfl) (Eq.trans (Eq.trans (q_if_ne (tgt := 17) (pc := 10) dJ0_isLatin1_aae02_10 rfl) (if_neg (by decide))) (Eq.trans (q_iconst (v := 1) (pc := 13) dJ0_isLatin1_aae02_13 rfl) (Eq.trans (q_goto (tgt := 18) (pc := 14) dJ0_isLatin1_aae02_14 rfl) (q_zretK (pc := 18) dJ0_isLatin1_aae02_18 rfl (by decide))))))))
def f_J1_canEncode_9a6ad (σ : zS) (a1 : Int32) : Int32 := (if a1 < 0 then 0 else (if 255 < a1 then 0 else 1))
theorem s_J1_canEncode_9a6ad {X : zX} {d : Nat} {Q : Option Value → zH → Prop} (σ : zS) (a1 : Int32)  : zwp X d MJ1_canEncode_9a6ad 0 [.int a1] [] (zen σ) Q = Q (some (.int (f_J1_canEncode_9a6ad σ a1))) (zen σ) :=
  Eq.trans (q_iload_n (pc := 0) dJ1_canEncode_9a6ad_0 rfl rfl) (Eq.trans (q_if_lt (tgt := 15) (pc := 1) dJ1_canEncode_9a6ad_1 rfl) (ziti (fun hz1 => Eq.trans (q_iconst (v := 0) (pc := 15) dJ1_canEncode_9a6ad_15 rfl) (q_zretK (pc := 16) dJ1_canEncode_9a6ad_16 rfl (by decide))) (fun hz1 => Eq.trans (q_iload_n (pc := 4) dJ1_canEncode_9a6ad_4 rfl rfl) (Eq.trans (q_sipush (v := 255) (pc := 5) dJ1_canEncode_9a6ad_5 rfl) (Eq.trans (q_icmp_gt (tgt := 15) (pc := 8) dJ1_canEncode_9a6ad_8 rfl) (ziti (fun hz2 => Eq.trans (q_iconst (v := 0) (pc := 15) dJ1_canEncode_9a6ad_15 rfl) (q_zretK (pc := 16) dJ1_canEncode_9a6ad_16 rfl (by decide))) (fun hz2 => Eq.trans (q_iconst (v := 1) (pc := 11) dJ1_canEncode_9a6ad_11 rfl) (Eq.trans (q_goto (tgt := 16) (pc := 12) dJ1_canEncode_9a6ad_12 rfl) (q_zretK (pc := 16) dJ1_canEncode_9a6ad_16 rfl (by decide))))))))))
theorem zb_J1_canEncode_9a6ad (σ : zS) (a1 : Int32) : f_J1_canEncode_9a6ad σ a1 = 0 ∨ f_J1_canEncode_9a6ad σ a1 = 1 := by
  unfold f_J1_canEncode_9a6ad
  repeat' split
  all_goals first | exact Or.inl rfl | exact Or.inr rfl
def f_X0_givenWithoutText (σ : zS) : Int32 := (((((gi σ 14 (ix 0)) - (gi σ 14 (ix 3))) * (gi σ 14 (ix 1))) / ((gi σ 14 (ix 4)) + 1)) / 4)
def p_X0_givenWithoutText (σ : zS) : Prop := decide (¬ ((gi σ 14 (ix 4)) + 1) = 0) = true
theorem s_X0_givenWithoutText {X : zX} {d : Nat} {Q : Option Value → zH → Prop} (σ : zS)  : zwp X d MX0_givenWithoutText 0 [.ref 13] [] (zen σ) Q = (p_X0_givenWithoutText σ ∧ Q (some (.int (f_X0_givenWithoutText σ))) (zen σ)) :=
  Eq.trans (q_aload_n (pc := 0) dX0_givenWithoutText_0 rfl rfl) (Eq.trans (q_getf (pc := 1) dX0_givenWithoutText_1 zF_0_9 (z_rfr zl_13 zh_13 (by decide) rfl)) (Eq.trans (q_iconst (v := 0) (pc := 4) dX0_givenWithoutText_4 rfl) (Eq.trans (Eq.trans (qe_iaload (x := (gi σ 14 (ix 0))) (pc := 5) dX0_givenWithoutText_5 (z_ia zl_14 zh_14 (by decide)) rfl) (ztrue_and (by decide))) (Eq.trans (q_aload_n (pc := 6) dX0_givenWithoutText_6 rfl rfl) (Eq.trans (q_getf (pc := 7) dX0_givenWithoutText_7 zF_0_9 (z_rfr zl_13 zh_13 (by decide) rfl)) (Eq.trans (q_iconst (v := 3) (pc := 10) dX0_givenWithoutText_10 rfl) (Eq.trans (Eq.trans (qe_iaload (x := (gi σ 14 (ix 3))) (pc := 11) dX0_givenWithoutText_11 (z_ia zl_14 zh_14 (by decide)) rfl) (ztrue_and (by decide))) (Eq.trans (q_isub (pc := 12) dX0_givenWithoutText_12) (Eq.trans (q_aload_n (pc := 13) dX0_givenWithoutText_13 rfl rfl) (Eq.trans (q_getf (pc := 14) dX0_givenWithoutText_14 zF_0_9 (z_rfr zl_13 zh_13 (by decide) rfl)) (Eq.trans (q_iconst (v := 1) (pc := 17) dX0_givenWithoutText_17 rfl) (Eq.trans (Eq.trans (qe_iaload (x := (gi σ 14 (ix 1))) (pc := 18) dX0_givenWithoutText_18 (z_ia zl_14 zh_14 (by decide)) rfl) (ztrue_and (by decide))) (Eq.trans (q_imul (pc := 19) dX0_givenWithoutText_19) (Eq.trans (q_aload_n (pc := 20) dX0_givenWithoutText_20 rfl rfl) (Eq.trans (q_getf (pc := 21) dX0_givenWithoutText_21 zF_0_9 (z_rfr zl_13 zh_13 (by decide) rfl)) (Eq.trans (q_iconst (v := 4) (pc := 24) dX0_givenWithoutText_24 rfl) (Eq.trans (Eq.trans (qe_iaload (x := (gi σ 14 (ix 4))) (pc := 25) dX0_givenWithoutText_25 (z_ia zl_14 zh_14 (by decide)) rfl) (ztrue_and (by decide))) (Eq.trans (q_iconst (v := 1) (pc := 26) dX0_givenWithoutText_26 rfl) (Eq.trans (q_iadd (pc := 27) dX0_givenWithoutText_27) (Eq.trans (q_idiv (pc := 28) dX0_givenWithoutText_28) (zand fun hz1 => Eq.trans (q_iconst (v := 4) (pc := 29) dX0_givenWithoutText_29 rfl) (Eq.trans (q_idivK (pc := 30) dX0_givenWithoutText_30 (by decide)) (q_iret (pc := 31) dX0_givenWithoutText_31 rfl rfl)))))))))))))))))))))))
def g_X2_become (σ : zS) (r1 : Nat) (r2 : Nat) : zS := (sA σ (r1 + 1) (va_cpy (σ.1 (r2 + 1)) (σ.1 (r1 + 1)) (ix 0) (ix 0) (ix 16)))
theorem s_X2_become {X : zX} {d : Nat} {Q : Option Value → zH → Prop} (σ : zS) (r1 : Nat) (r2 : Nat) (h1 : zisB r1 = true) (h2 : zisB r2 = true) : zwp X d MX2_become 0 [.ref r1, .ref r2] [] (zen σ) Q = Q none (zen (g_X2_become σ r1 r2)) :=
  Eq.trans (q_aload_n (pc := 0) dX2_become_0 rfl rfl) (Eq.trans (q_getf (pc := 1) dX2_become_1 zF_2_9 (z_rfr (zB_1 h2).2.2.1 (zB_1 h2).1 (by decide) rfl)) (Eq.trans (q_iconst (v := 0) (pc := 4) dX2_become_4 rfl) (Eq.trans (q_aload_n (pc := 5) dX2_become_5 rfl rfl) (Eq.trans (q_getf (pc := 6) dX2_become_6 zF_2_9 (z_rfr (zB_1 h1).2.2.1 (zB_1 h1).1 (by decide) rfl)) (Eq.trans (q_iconst (v := 0) (pc := 9) dX2_become_9 rfl) (Eq.trans (q_bipush (v := 16) (pc := 10) dX2_become_10 rfl) (Eq.trans (Eq.trans (q_cpyi (pc := 12) dX2_become_12 zSP_2_15 (Nat.le_of_ble_eq_true rfl) (zN_lt (zB_1 h2).2.2.2) (zN_lt (zB_1 h1).2.2.2) (z_ia (zB_1 h2).2.2.2 (zB_1 h2).2.1 (by decide)) (z_ia (zB_1 h1).2.2.2 (zB_1 h1).2.1 (by decide)) (z_cpyi (zB_1 h1).2.2.2 (zB_1 h1).2.1)) (ztrue_and ⟨by decide, by decide, by decide, by decide, by decide⟩)) (q_vret (pc := 15) dX2_become_15 rfl))))))))
def g_X10_begin (σ : zS) : zS := (si (g_X2_become σ 43 18) 41 5 0)
theorem s_X10_begin {X : zX} {d : Nat} {Q : Option Value → zH → Prop} (hd : 1 ≤ d) (σ : zS)  : zwp X d MX10_begin 0 [.ref 41] [] (zen σ) Q = Q none (zen (g_X10_begin σ)) :=
  Eq.trans (q_aload_n (pc := 0) dX10_begin_0 rfl rfl) (Eq.trans (q_getf (pc := 1) dX10_begin_1 zF_10_18 (z_rfr zl_41 zh_41 (by decide) rfl)) (Eq.trans (q_aload_n (pc := 4) dX10_begin_4 rfl rfl) (Eq.trans (q_getf (pc := 5) dX10_begin_5 zF_10_30 (z_rfr zl_41 zh_41 (by decide) rfl)) (Eq.trans (q_sumN (q_callV (as := [.ref 18]) (rest := []) (l0 := [.ref 43, .ref 18]) (pc := 8) dX10_begin_8 zC_10_61 rfl (z_recv zl_43 zh_43) rfl rfl) (by omega) (s_X2_become σ 43 18 zB_43 zB_18)) (Eq.trans (q_aload_n (pc := 11) dX10_begin_11 rfl rfl) (Eq.trans (q_iconst (v := 0) (pc := 12) dX10_begin_12 rfl) (Eq.trans (q_pf (pc := 13) dX10_begin_13 zF_10_65 zPF_10_5 (z_pf zl_41 zh_41 rfl)) (q_vret (pc := 16) dX10_begin_16 rfl))))))))
def f_X10_isTurn (σ : zS) (a2 : Int32) : Int32 := (if a2 < 0 then 0 else (if (gi σ 1 2) ≤ a2 then 0 else 1))
theorem s_X10_isTurn {X : zX} {d : Nat} {Q : Option Value → zH → Prop} (σ : zS) (a2 : Int32)  : zwp X d MX10_isTurn 0 [.ref 41, .int a2] [] (zen σ) Q = Q (some (.int (f_X10_isTurn σ a2))) (zen σ) :=
  Eq.trans (q_iload_n (pc := 0) dX10_isTurn_0 rfl rfl) (Eq.trans (q_if_lt (tgt := 19) (pc := 1) dX10_isTurn_1 rfl) (ziti (fun hz1 => Eq.trans (q_iconst (v := 0) (pc := 19) dX10_isTurn_19 rfl) (q_zretK (pc := 20) dX10_isTurn_20 rfl (by decide))) (fun hz1 => Eq.trans (q_iload_n (pc := 4) dX10_isTurn_4 rfl rfl) (Eq.trans (q_aload_n (pc := 5) dX10_isTurn_5 rfl rfl) (Eq.trans (q_getf (pc := 6) dX10_isTurn_6 zF_10_22 (z_rfr zl_41 zh_41 (by decide) rfl)) (Eq.trans (q_getf (pc := 9) dX10_isTurn_9 zF_10_56 (z_rfiE (x := (gi σ 1 2)) zl_1 zh_1 (by decide) rfl rfl)) (Eq.trans (q_icmp_ge (tgt := 19) (pc := 12) dX10_isTurn_12 rfl) (ziti (fun hz2 => Eq.trans (q_iconst (v := 0) (pc := 19) dX10_isTurn_19 rfl) (q_zretK (pc := 20) dX10_isTurn_20 rfl (by decide))) (fun hz2 => Eq.trans (q_iconst (v := 1) (pc := 15) dX10_isTurn_15 rfl) (Eq.trans (q_goto (tgt := 20) (pc := 16) dX10_isTurn_16 rfl) (q_zretK (pc := 20) dX10_isTurn_20 rfl (by decide))))))))))))
theorem zb_X10_isTurn (σ : zS) (a2 : Int32) : f_X10_isTurn σ a2 = 0 ∨ f_X10_isTurn σ a2 = 1 := by
  unfold f_X10_isTurn
  repeat' split
  all_goals first | exact Or.inl rfl | exact Or.inr rfl
def g_X4_layBack (σ : zS) : zS := (sA (g_X2_become σ 18 21) 20 (va_cpy ((g_X2_become σ 18 21).1 23) ((g_X2_become σ 18 21).1 20) (ix 0) (ix 0) (ix 5)))
theorem s_X4_layBack {X : zX} {d : Nat} {Q : Option Value → zH → Prop} (hd : 1 ≤ d) (σ : zS)  : zwp X d MX4_layBack 0 [.ref 17] [] (zen σ) Q = Q none (zen (g_X4_layBack σ)) :=
  Eq.trans (q_aload_n (pc := 0) dX4_layBack_0 rfl rfl) (Eq.trans (q_getf (pc := 1) dX4_layBack_1 zF_4_12 (z_rfr zl_17 zh_17 (by decide) rfl)) (Eq.trans (q_aload_n (pc := 4) dX4_layBack_4 rfl rfl) (Eq.trans (q_getf (pc := 5) dX4_layBack_5 zF_4_22 (z_rfr zl_17 zh_17 (by decide) rfl)) (Eq.trans (q_sumN (q_callV (as := [.ref 21]) (rest := []) (l0 := [.ref 18, .ref 21]) (pc := 8) dX4_layBack_8 zC_4_45 rfl (z_recv zl_18 zh_18) rfl rfl) (by omega) (s_X2_become σ 18 21 zB_18 zB_21)) (Eq.trans (q_aload_n (pc := 11) dX4_layBack_11 rfl rfl) (Eq.trans (q_getf (pc := 12) dX4_layBack_12 zF_4_25 (z_rfr zl_17 zh_17 (by decide) rfl)) (Eq.trans (q_iconst (v := 0) (pc := 15) dX4_layBack_15 rfl) (Eq.trans (q_aload_n (pc := 16) dX4_layBack_16 rfl rfl) (Eq.trans (q_getf (pc := 17) dX4_layBack_17 zF_4_18 (z_rfr zl_17 zh_17 (by decide) rfl)) (Eq.trans (q_iconst (v := 0) (pc := 20) dX4_layBack_20 rfl) (Eq.trans (q_aload_n (pc := 21) dX4_layBack_21 rfl rfl) (Eq.trans (q_getf (pc := 22) dX4_layBack_22 zF_4_18 (z_rfr zl_17 zh_17 (by decide) rfl)) (Eq.trans (q_alen (v := 5) (pc := 25) dX4_layBack_25 (z_len zl_20 zh_20 (by decide)) rfl) (Eq.trans (Eq.trans (q_cpyi (pc := 26) dX4_layBack_26 zSP_4_49 (Nat.le_of_ble_eq_true rfl) (zN_lt zl_23) (zN_lt zl_20) (z_ia zl_23 zh_23 (by decide)) (z_ia zl_20 zh_20 (by decide)) (z_cpyi zl_20 zh_20)) (ztrue_and ⟨by decide, by decide, by decide, by decide, by decide⟩)) (q_vret (pc := 29) dX4_layBack_29 rfl)))))))))))))))
def f_X11_back (σ : zS) : Int32 := (if ¬ (gi σ 17 4) = 0 then (gi (g_X4_layBack σ) 20 (ix 0)) else (-5))
def g_X11_back (σ : zS) : zS := (if ¬ (gi σ 17 4) = 0 then (g_X4_layBack σ) else σ)
theorem s_X11_back {X : zX} {d : Nat} {Q : Option Value → zH → Prop} (hd : 2 ≤ d) (σ : zS)  : zwp X d MX11_back 0 [.ref 0] [] (zen σ) Q = Q (some (.int (f_X11_back σ))) (zen (g_X11_back σ)) :=
  Eq.trans (q_aload_n (pc := 0) dX11_back_0 rfl rfl) (Eq.trans (q_getf (pc := 1) dX11_back_1 zF_11_42 (z_rfr zl_0 zh_0 (by decide) rfl)) (Eq.trans (q_getf (pc := 4) dX11_back_4 zF_11_259 (z_rfiE (x := (gi σ 17 4)) zl_17 zh_17 (by decide) rfl rfl)) (Eq.trans (q_if_ne (tgt := 13) (pc := 7) dX11_back_7 rfl) (zitis (fun hz1 => Eq.trans (q_aload_n (pc := 13) dX11_back_13 rfl rfl) (Eq.trans (q_getf (pc := 14) dX11_back_14 zF_11_42 (z_rfr zl_0 zh_0 (by decide) rfl)) (Eq.trans (q_sumN (q_callV (as := []) (rest := []) (l0 := [.ref 17]) (pc := 17) dX11_back_17 zC_11_263 rfl (z_recv zl_17 zh_17) rfl rfl) (by omega) (s_X4_layBack (hd := by omega) σ)) (Eq.trans (q_aload_n (pc := 20) dX11_back_20 rfl rfl) (Eq.trans (q_getf (pc := 21) dX11_back_21 zF_11_42 (z_rfr zl_0 zh_0 (by decide) rfl)) (Eq.trans (q_getf (pc := 24) dX11_back_24 zF_11_243 (z_rfr zl_17 zh_17 (by decide) rfl)) (Eq.trans (q_iconst (v := 0) (pc := 27) dX11_back_27 rfl) (Eq.trans (Eq.trans (qe_iaload (x := (gi (g_X4_layBack σ) 20 (ix 0))) (pc := 28) dX11_back_28 (z_ia zl_20 zh_20 (by decide)) rfl) (ztrue_and (by decide))) (q_iret (pc := 29) dX11_back_29 rfl rfl))))))))) (fun hz1 => Eq.trans (q_bipush (v := (-5)) (pc := 10) dX11_back_10 rfl) (q_iret (pc := 12) dX11_back_12 rfl rfl))))))
def f_X1_add (σ : zS) (a2 : Int32) : Int32 := (gi σ 63 2)
def p_X1_add (σ : zS) (a2 : Int32) : Prop := zin (gi σ 63 2) 50 = true
def g_X1_add (σ : zS) (a2 : Int32) : zS := (si (si σ 64 (ix (gi σ 63 2)) a2) 63 2 ((gi σ 63 2) + 1))
theorem s_X1_add {X : zX} {d : Nat} {Q : Option Value → zH → Prop} (σ : zS) (a2 : Int32)  : zwp X d MX1_add 0 [.ref 63, .int a2] [] (zen σ) Q = (p_X1_add σ a2 ∧ Q (some (.int (f_X1_add σ a2))) (zen (g_X1_add σ a2))) :=
  Eq.trans (q_aload_n (pc := 0) dX1_add_0 rfl rfl) (Eq.trans (q_getf (pc := 1) dX1_add_1 zF_1_9 (z_rfr zl_63 zh_63 (by decide) rfl)) (Eq.trans (q_aload_n (pc := 4) dX1_add_4 rfl rfl) (Eq.trans (q_getf (pc := 5) dX1_add_5 zF_1_16 (z_rfiE (x := (gi σ 63 2)) zl_63 zh_63 (by decide) rfl rfl)) (Eq.trans (q_iload_n (pc := 8) dX1_add_8 rfl rfl) (Eq.trans (q_iastore (pc := 9) dX1_add_9 (zN_lt zl_64) (z_ia zl_64 zh_64 (by decide)) (z_pi zl_64 zh_64 (by decide))) (zand fun hz1 => Eq.trans (q_aload_n (pc := 10) dX1_add_10 rfl rfl) (Eq.trans (q_dup_ref (pc := 11) dX1_add_11) (Eq.trans (q_getf (pc := 12) dX1_add_12 zF_1_16 (z_rfiE (x := (gi σ 63 2)) zl_63 zh_63 (by decide) rfl rfl)) (Eq.trans (q_dup_x1_int_ref (pc := 15) dX1_add_15) (Eq.trans (q_iconst (v := 1) (pc := 16) dX1_add_16 rfl) (Eq.trans (q_iadd (pc := 17) dX1_add_17) (Eq.trans (q_pf (pc := 18) dX1_add_18 zF_1_16 zPF_1_2 (z_pf zl_63 zh_63 rfl)) (q_iret (pc := 21) dX1_add_21 rfl rfl)))))))))))))
def f_X11_body (σ : zS) (a2 : Int32) : Int32 := (if a2 < 0 then (-1) else (if a2 < 8 then (if ¬ (gi σ 63 2) = 50 then (f_X1_add σ a2) else (-3)) else (-1)))
def p_X11_body (σ : zS) (a2 : Int32) : Prop := (if a2 < 0 then True else (if a2 < 8 then (if ¬ (gi σ 63 2) = 50 then p_X1_add σ a2 else True) else True))
def g_X11_body (σ : zS) (a2 : Int32) : zS := (if a2 < 0 then σ else (if a2 < 8 then (if ¬ (gi σ 63 2) = 50 then (g_X1_add σ a2) else σ) else σ))
theorem s_X11_body {X : zX} {d : Nat} {Q : Option Value → zH → Prop} (hd : 1 ≤ d) (σ : zS) (a2 : Int32)  : zwp X d MX11_body 0 [.ref 0, .int a2] [] (zen σ) Q = (p_X11_body σ a2 ∧ Q (some (.int (f_X11_body σ a2))) (zen (g_X11_body σ a2))) :=
  Eq.trans (q_iload_n (pc := 0) dX11_body_0 rfl rfl) (Eq.trans (q_if_lt (tgt := 10) (pc := 1) dX11_body_1 rfl) (zitpis (fun hz1 => Eq.trans (Eq.trans (q_iconst (v := (-1)) (pc := 10) dX11_body_10 rfl) (q_iret (pc := 11) dX11_body_11 rfl rfl)) (true_and _).symm) (fun hz1 => Eq.trans (q_iload_n (pc := 4) dX11_body_4 rfl rfl) (Eq.trans (q_bipush (v := 8) (pc := 5) dX11_body_5 rfl) (Eq.trans (q_icmp_lt (tgt := 12) (pc := 7) dX11_body_7 rfl) (zitpis (fun hz2 => Eq.trans (q_aload_n (pc := 12) dX11_body_12 rfl rfl) (Eq.trans (q_getf (pc := 13) dX11_body_13 zF_11_83 (z_rfr zl_0 zh_0 (by decide) rfl)) (Eq.trans (q_getf (pc := 16) dX11_body_16 zF_11_279 (z_rfiE (x := (gi σ 63 2)) zl_63 zh_63 (by decide) rfl rfl)) (Eq.trans (q_bipush (v := 50) (pc := 19) dX11_body_19 rfl) (Eq.trans (q_icmp_ne (tgt := 29) (pc := 21) dX11_body_21 rfl) (zitpis (fun hz3 => Eq.trans (q_aload_n (pc := 29) dX11_body_29 rfl rfl) (Eq.trans (q_getf (pc := 30) dX11_body_30 zF_11_83 (z_rfr zl_0 zh_0 (by decide) rfl)) (Eq.trans (q_iload_n (pc := 33) dX11_body_33 rfl rfl) (Eq.trans (q_sumIP (q_callV (as := [.int a2]) (rest := []) (l0 := [.ref 63, .int a2]) (pc := 34) dX11_body_34 zC_11_282 rfl (z_recv zl_63 zh_63) rfl rfl) (by omega) (s_X1_add σ a2)) (zand fun hz4 => q_iret (pc := 37) dX11_body_37 rfl rfl))))) (fun hz3 => Eq.trans (Eq.trans (q_bipush (v := (-3)) (pc := 24) dX11_body_24 rfl) (Eq.trans (q_goto (tgt := 37) (pc := 26) dX11_body_26 rfl) (q_iret (pc := 37) dX11_body_37 rfl rfl))) (true_and _).symm))))))) (fun hz2 => Eq.trans (Eq.trans (q_iconst (v := (-1)) (pc := 10) dX11_body_10 rfl) (q_iret (pc := 11) dX11_body_11 rfl rfl)) (true_and _).symm)))))))
def f_X11_count (σ : zS) (a2 : Int32) : Int32 := (if a2 = 0 then (gi σ 1 1) else (if a2 = 1 then (gi σ 1 2) else (if a2 = 2 then (gi σ 7 2) else (if a2 = 3 then (gi σ 24 3) else (if a2 = 4 then (gi σ 63 2) else (if a2 = 5 then (gi σ 63 3) else (-1)))))))
theorem s_X11_count {X : zX} {d : Nat} {Q : Option Value → zH → Prop} (σ : zS) (a2 : Int32)  : zwp X d MX11_count 0 [.ref 0, .int a2] [] (zen σ) Q = Q (some (.int (f_X11_count σ a2))) (zen σ) :=
  Eq.trans (q_iload_n (pc := 0) dX11_count_0 rfl rfl) (Eq.trans (q_tsw (pc := 1) dX11_count_1 rfl (by decide) (by decide) (by decide)) (Eq.trans (zif_intro (c := a2 = 0)) (ziti (fun hz1 => Eq.trans (zpc_eq (pc' := 40) (zsw_at hz1 (by decide))) (Eq.trans (q_aload_n (pc := 40) dX11_count_40 rfl rfl) (Eq.trans (q_getf (pc := 41) dX11_count_41 zF_11_10 (z_rfr zl_0 zh_0 (by decide) rfl)) (Eq.trans (q_getf (pc := 44) dX11_count_44 zF_11_91 (z_rfiE (x := (gi σ 1 1)) zl_1 zh_1 (by decide) rfl rfl)) (q_iret (pc := 47) dX11_count_47 rfl rfl))))) (fun hz1 => Eq.trans (zif_intro (c := a2 = 1)) (ziti (fun hz2 => Eq.trans (zpc_eq (pc' := 48) (zsw_at hz2 (by decide))) (Eq.trans (q_aload_n (pc := 48) dX11_count_48 rfl rfl) (Eq.trans (q_getf (pc := 49) dX11_count_49 zF_11_10 (z_rfr zl_0 zh_0 (by decide) rfl)) (Eq.trans (q_getf (pc := 52) dX11_count_52 zF_11_107 (z_rfiE (x := (gi σ 1 2)) zl_1 zh_1 (by decide) rfl rfl)) (q_iret (pc := 55) dX11_count_55 rfl rfl))))) (fun hz2 => Eq.trans (zif_intro (c := a2 = 2)) (ziti (fun hz3 => Eq.trans (zpc_eq (pc' := 56) (zsw_at hz3 (by decide))) (Eq.trans (q_aload_n (pc := 56) dX11_count_56 rfl rfl) (Eq.trans (q_getf (pc := 57) dX11_count_57 zF_11_26 (z_rfr zl_0 zh_0 (by decide) rfl)) (Eq.trans (q_getf (pc := 60) dX11_count_60 zF_11_133 (z_rfiE (x := (gi σ 7 2)) zl_7 zh_7 (by decide) rfl rfl)) (q_iret (pc := 63) dX11_count_63 rfl rfl))))) (fun hz3 => Eq.trans (zif_intro (c := a2 = 3)) (ziti (fun hz4 => Eq.trans (zpc_eq (pc' := 64) (zsw_at hz4 (by decide))) (Eq.trans (q_aload_n (pc := 64) dX11_count_64 rfl rfl) (Eq.trans (q_getf (pc := 65) dX11_count_65 zF_11_49 (z_rfr zl_0 zh_0 (by decide) rfl)) (Eq.trans (q_getf (pc := 68) dX11_count_68 zF_11_266 (z_rfiE (x := (gi σ 24 3)) zl_24 zh_24 (by decide) rfl rfl)) (q_iret (pc := 71) dX11_count_71 rfl rfl))))) (fun hz4 => Eq.trans (zif_intro (c := a2 = 4)) (ziti (fun hz5 => Eq.trans (zpc_eq (pc' := 72) (zsw_at hz5 (by decide))) (Eq.trans (q_aload_n (pc := 72) dX11_count_72 rfl rfl) (Eq.trans (q_getf (pc := 73) dX11_count_73 zF_11_83 (z_rfr zl_0 zh_0 (by decide) rfl)) (Eq.trans (q_getf (pc := 76) dX11_count_76 zF_11_279 (z_rfiE (x := (gi σ 63 2)) zl_63 zh_63 (by decide) rfl rfl)) (q_iret (pc := 79) dX11_count_79 rfl rfl))))) (fun hz5 => Eq.trans (zif_intro (c := a2 = 5)) (ziti (fun hz6 => Eq.trans (zpc_eq (pc' := 80) (zsw_at hz6 (by decide))) (Eq.trans (q_aload_n (pc := 80) dX11_count_80 rfl rfl) (Eq.trans (q_getf (pc := 81) dX11_count_81 zF_11_83 (z_rfr zl_0 zh_0 (by decide) rfl)) (Eq.trans (q_getf (pc := 84) dX11_count_84 zF_11_283 (z_rfiE (x := (gi σ 63 3)) zl_63 zh_63 (by decide) rfl rfl)) (q_iret (pc := 87) dX11_count_87 rfl rfl))))) (fun hz6 => Eq.trans (zpc_eq (pc' := 88) (zsw_df [0, 1, 2, 3, 4, 5] (by decide) (by decide) ⟨hz1, hz2, hz3, hz4, hz5, hz6, trivial⟩)) (Eq.trans (q_iconst (v := (-1)) (pc := 88) dX11_count_88 rfl) (q_iret (pc := 89) dX11_count_89 rfl rfl))))))))))))))))
def f_X11_isShelf (σ : zS) (a1 : Int32) : Int32 := (if a1 < 0 then 0 else (if 6 ≤ a1 then 0 else 1))
theorem s_X11_isShelf {X : zX} {d : Nat} {Q : Option Value → zH → Prop} (σ : zS) (a1 : Int32)  : zwp X d MX11_isShelf 0 [.int a1] [] (zen σ) Q = Q (some (.int (f_X11_isShelf σ a1))) (zen σ) :=
  Eq.trans (q_iload_n (pc := 0) dX11_isShelf_0 rfl rfl) (Eq.trans (q_if_lt (tgt := 14) (pc := 1) dX11_isShelf_1 rfl) (ziti (fun hz1 => Eq.trans (q_iconst (v := 0) (pc := 14) dX11_isShelf_14 rfl) (q_zretK (pc := 15) dX11_isShelf_15 rfl (by decide))) (fun hz1 => Eq.trans (q_iload_n (pc := 4) dX11_isShelf_4 rfl rfl) (Eq.trans (q_bipush (v := 6) (pc := 5) dX11_isShelf_5 rfl) (Eq.trans (q_icmp_ge (tgt := 14) (pc := 7) dX11_isShelf_7 rfl) (ziti (fun hz2 => Eq.trans (q_iconst (v := 0) (pc := 14) dX11_isShelf_14 rfl) (q_zretK (pc := 15) dX11_isShelf_15 rfl (by decide))) (fun hz2 => Eq.trans (q_iconst (v := 1) (pc := 10) dX11_isShelf_10 rfl) (Eq.trans (q_goto (tgt := 15) (pc := 11) dX11_isShelf_11 rfl) (q_zretK (pc := 15) dX11_isShelf_15 rfl (by decide))))))))))
theorem zb_X11_isShelf (σ : zS) (a1 : Int32) : f_X11_isShelf σ a1 = 0 ∨ f_X11_isShelf σ a1 = 1 := by
  unfold f_X11_isShelf
  repeat' split
  all_goals first | exact Or.inl rfl | exact Or.inr rfl
def f_X11_refusal (σ : zS) (a2 : Int32) (a3 : Int32) : Int32 := (if ¬ (f_X11_isShelf σ a2) = 0 then (if ¬ (gi σ (29 + 2 * ix a2) 1) = 0 then (if ¬ (gi σ (29 + 2 * ix a2) 1) = 2 then (-12) else (if ¬ (gi σ (29 + 2 * ix a2) 3) = a3 then (-12) else 0)) else (-11)) else (-1))
def p_X11_refusal (σ : zS) (a2 : Int32) (a3 : Int32) : Prop := (if ¬ (f_X11_isShelf σ a2) = 0 then zin a2 6 = true else True)
theorem s_X11_refusal {X : zX} {d : Nat} {Q : Option Value → zH → Prop} (hd : 1 ≤ d) (σ : zS) (a2 : Int32) (a3 : Int32)  : zwp X d MX11_refusal 0 [.ref 0, .int a2, .int a3, .null] [] (zen σ) Q = (p_X11_refusal σ a2 a3 ∧ Q (some (.int (f_X11_refusal σ a2 a3))) (zen σ)) :=
  Eq.trans (q_iload_n (pc := 0) dX11_refusal_0 rfl rfl) (Eq.trans (q_sumI (q_callS (as := [.int a2]) (rest := []) (l0 := [.int a2]) (pc := 1) dX11_refusal_1 zSN_11_300 zC_11_300 rfl rfl rfl) (by omega) (s_X11_isShelf σ a2)) (Eq.trans (q_if_ne (tgt := 9) (pc := 4) dX11_refusal_4 rfl) (zitpi (fun hz1 => Eq.trans (q_aload_n (pc := 9) dX11_refusal_9 rfl rfl) (Eq.trans (q_getf (pc := 10) dX11_refusal_10 zF_11_55 (z_rfr zl_0 zh_0 (by decide) rfl)) (Eq.trans (q_iload_n (pc := 13) dX11_refusal_13 rfl rfl) (Eq.trans (q_aaload (pc := 14) dX11_refusal_14 (z_ra zl_28 zh_28 (by decide)) zra28) (zand fun hz2 => Eq.trans (q_astore_n (ls' := [.ref 0, .int a2, .int a3, .ref (29 + 2 * ix a2)]) (pc := 15) dX11_refusal_15 rfl (Nat.le_of_ble_eq_true rfl) rfl) (Eq.trans (q_aload_n (pc := 16) dX11_refusal_16 rfl rfl) (Eq.trans (q_getf (pc := 17) dX11_refusal_17 zF_11_335 (z_rfiE (x := (gi σ (29 + 2 * ix a2) 1)) (zS_1 (zS_at hz2)).2.2.1 (zS_1 (zS_at hz2)).1 (by decide) rfl rfl)) (Eq.trans (q_if_ne (tgt := 26) (pc := 20) dX11_refusal_20 rfl) (ziti (fun hz3 => Eq.trans (q_aload_n (pc := 26) dX11_refusal_26 rfl rfl) (Eq.trans (q_getf (pc := 27) dX11_refusal_27 zF_11_335 (z_rfiE (x := (gi σ (29 + 2 * ix a2) 1)) (zS_1 (zS_at hz2)).2.2.1 (zS_1 (zS_at hz2)).1 (by decide) rfl rfl)) (Eq.trans (q_iconst (v := 2) (pc := 30) dX11_refusal_30 rfl) (Eq.trans (q_icmp_ne (tgt := 46) (pc := 31) dX11_refusal_31 rfl) (ziti (fun hz4 => Eq.trans (q_bipush (v := (-12)) (pc := 46) dX11_refusal_46 rfl) (q_iret (pc := 48) dX11_refusal_48 rfl rfl)) (fun hz4 => Eq.trans (q_aload_n (pc := 34) dX11_refusal_34 rfl rfl) (Eq.trans (q_getf (pc := 35) dX11_refusal_35 zF_11_347 (z_rfiE (x := (gi σ (29 + 2 * ix a2) 3)) (zS_1 (zS_at hz2)).2.2.1 (zS_1 (zS_at hz2)).1 (by decide) rfl rfl)) (Eq.trans (q_iload_n (pc := 38) dX11_refusal_38 rfl rfl) (Eq.trans (q_icmp_ne (tgt := 46) (pc := 39) dX11_refusal_39 rfl) (ziti (fun hz5 => Eq.trans (q_bipush (v := (-12)) (pc := 46) dX11_refusal_46 rfl) (q_iret (pc := 48) dX11_refusal_48 rfl rfl)) (fun hz5 => Eq.trans (q_iconst (v := 0) (pc := 42) dX11_refusal_42 rfl) (Eq.trans (q_goto (tgt := 48) (pc := 43) dX11_refusal_43 rfl) (q_iret (pc := 48) dX11_refusal_48 rfl rfl))))))))))))) (fun hz3 => Eq.trans (q_bipush (v := (-11)) (pc := 23) dX11_refusal_23 rfl) (q_iret (pc := 25) dX11_refusal_25 rfl rfl))))))))))) (fun hz1 => Eq.trans (Eq.trans (q_iconst (v := (-1)) (pc := 7) dX11_refusal_7 rfl) (q_iret (pc := 8) dX11_refusal_8 rfl rfl)) (true_and _).symm))))
def f_X8_hasPlaces (σ : zS) (r1 : Nat) (a2 : Int32) (a3 : Int32) : Int32 := (if a3 < 0 then 0 else (if a2 < 0 then 0 else (if ((gi σ r1 4) - a3) < a2 then 0 else 1)))
theorem s_X8_hasPlaces {X : zX} {d : Nat} {Q : Option Value → zH → Prop} (σ : zS) (r1 : Nat) (a2 : Int32) (a3 : Int32) (h1 : zisS r1 = true) : zwp X d MX8_hasPlaces 0 [.ref r1, .int a2, .int a3] [] (zen σ) Q = Q (some (.int (f_X8_hasPlaces σ r1 a2 a3))) (zen σ) :=
  Eq.trans (q_iload_n (pc := 0) dX8_hasPlaces_0 rfl rfl) (Eq.trans (q_if_lt (tgt := 22) (pc := 1) dX8_hasPlaces_1 rfl) (ziti (fun hz1 => Eq.trans (q_iconst (v := 0) (pc := 22) dX8_hasPlaces_22 rfl) (q_zretK (pc := 23) dX8_hasPlaces_23 rfl (by decide))) (fun hz1 => Eq.trans (q_iload_n (pc := 4) dX8_hasPlaces_4 rfl rfl) (Eq.trans (q_if_lt (tgt := 22) (pc := 5) dX8_hasPlaces_5 rfl) (ziti (fun hz2 => Eq.trans (q_iconst (v := 0) (pc := 22) dX8_hasPlaces_22 rfl) (q_zretK (pc := 23) dX8_hasPlaces_23 rfl (by decide))) (fun hz2 => Eq.trans (q_iload_n (pc := 8) dX8_hasPlaces_8 rfl rfl) (Eq.trans (q_aload_n (pc := 9) dX8_hasPlaces_9 rfl rfl) (Eq.trans (q_getf (pc := 10) dX8_hasPlaces_10 zF_8_25 (z_rfiE (x := (gi σ r1 4)) (zS_1 h1).2.2.1 (zS_1 h1).1 (by decide) rfl rfl)) (Eq.trans (q_iload_n (pc := 13) dX8_hasPlaces_13 rfl rfl) (Eq.trans (q_isub (pc := 14) dX8_hasPlaces_14) (Eq.trans (q_icmp_gt (tgt := 22) (pc := 15) dX8_hasPlaces_15 rfl) (ziti (fun hz3 => Eq.trans (q_iconst (v := 0) (pc := 22) dX8_hasPlaces_22 rfl) (q_zretK (pc := 23) dX8_hasPlaces_23 rfl (by decide))) (fun hz3 => Eq.trans (q_iconst (v := 1) (pc := 18) dX8_hasPlaces_18 rfl) (Eq.trans (q_goto (tgt := 23) (pc := 19) dX8_hasPlaces_19 rfl) (q_zretK (pc := 23) dX8_hasPlaces_23 rfl (by decide))))))))))))))))
theorem zb_X8_hasPlaces (σ : zS) (r1 : Nat) (a2 : Int32) (a3 : Int32) : f_X8_hasPlaces σ r1 a2 a3 = 0 ∨ f_X8_hasPlaces σ r1 a2 a3 = 1 := by
  unfold f_X8_hasPlaces
  repeat' split
  all_goals first | exact Or.inl rfl | exact Or.inr rfl
def f_X11_refusalOfPlace (σ : zS) (a2 : Int32) (a3 : Int32) : Int32 := (if (f_X11_isShelf σ a2) = 0 then (-1) else (if (f_X11_refusal σ a2 (gi σ (29 + 2 * ix a2) 3)) = 0 then (if (f_X8_hasPlaces σ (29 + 2 * ix a2) a3 1) = 0 then (-13) else 0) else (f_X11_refusal σ a2 (gi σ (29 + 2 * ix a2) 3))))
def p_X11_refusalOfPlace (σ : zS) (a2 : Int32) (a3 : Int32) : Prop := (if (f_X11_isShelf σ a2) = 0 then True else (zin a2 6 = true ∧ (p_X11_refusal σ a2 (gi σ (29 + 2 * ix a2) 3) ∧ (if (f_X11_refusal σ a2 (gi σ (29 + 2 * ix a2) 3)) = 0 then zin a2 6 = true else True))))
theorem s_X11_refusalOfPlace {X : zX} {d : Nat} {Q : Option Value → zH → Prop} (hd : 2 ≤ d) (σ : zS) (a2 : Int32) (a3 : Int32)  : zwp X d MX11_refusalOfPlace 0 [.ref 0, .int a2, .int a3, .null] [] (zen σ) Q = (p_X11_refusalOfPlace σ a2 a3 ∧ Q (some (.int (f_X11_refusalOfPlace σ a2 a3))) (zen σ)) :=
  Eq.trans (q_iload_n (pc := 0) dX11_refusalOfPlace_0 rfl rfl) (Eq.trans (q_sumI (q_callS (as := [.int a2]) (rest := []) (l0 := [.int a2]) (pc := 1) dX11_refusalOfPlace_1 zSN_11_300 zC_11_300 rfl rfl rfl) (by omega) (s_X11_isShelf σ a2)) (Eq.trans (q_if_eq (tgt := 24) (pc := 4) dX11_refusalOfPlace_4 rfl) (zitpi (fun hz1 => Eq.trans (Eq.trans (q_iconst (v := (-1)) (pc := 24) dX11_refusalOfPlace_24 rfl) (Eq.trans (q_istore_n (ls' := [.ref 0, .int a2, .int a3, .int (-1)]) (pc := 25) dX11_refusalOfPlace_25 rfl (Nat.le_of_ble_eq_true rfl) rfl) (Eq.trans (q_iload_n (pc := 26) dX11_refusalOfPlace_26 rfl rfl) (Eq.trans (Eq.trans (q_if_eq (tgt := 32) (pc := 27) dX11_refusalOfPlace_27 rfl) (if_neg (by decide))) (Eq.trans (q_iload_n (pc := 30) dX11_refusalOfPlace_30 rfl rfl) (q_iret (pc := 31) dX11_refusalOfPlace_31 rfl rfl)))))) (true_and _).symm) (fun hz1 => Eq.trans (q_aload_n (pc := 7) dX11_refusalOfPlace_7 rfl rfl) (Eq.trans (q_iload_n (pc := 8) dX11_refusalOfPlace_8 rfl rfl) (Eq.trans (q_aload_n (pc := 9) dX11_refusalOfPlace_9 rfl rfl) (Eq.trans (q_getf (pc := 10) dX11_refusalOfPlace_10 zF_11_55 (z_rfr zl_0 zh_0 (by decide) rfl)) (Eq.trans (q_iload_n (pc := 13) dX11_refusalOfPlace_13 rfl rfl) (Eq.trans (Eq.trans (q_aaload (pc := 14) dX11_refusalOfPlace_14 (z_ra zl_28 zh_28 (by decide)) zra28) (zand fun hz2 => Eq.trans (q_getf (pc := 15) dX11_refusalOfPlace_15 zF_11_347 (z_rfiE (x := (gi σ (29 + 2 * ix a2) 3)) (zS_1 (zS_at hz2)).2.2.1 (zS_1 (zS_at hz2)).1 (by decide) rfl rfl)) (Eq.trans (Eq.trans (q_sumIP (q_callV (as := [.int a2, .int (gi σ (29 + 2 * ix a2) 3)]) (rest := []) (l0 := [.ref 0, .int a2, .int (gi σ (29 + 2 * ix a2) 3), .null]) (pc := 18) dX11_refusalOfPlace_18 zC_11_99 rfl (z_recv zl_0 zh_0) rfl rfl) (by omega) (s_X11_refusal (hd := by omega) σ a2 (gi σ (29 + 2 * ix a2) 3))) (zand fun hz3 => Eq.trans (q_goto (tgt := 25) (pc := 21) dX11_refusalOfPlace_21 rfl) (Eq.trans (q_istore_n (ls' := [.ref 0, .int a2, .int a3, .int (f_X11_refusal σ a2 (gi σ (29 + 2 * ix a2) 3))]) (pc := 25) dX11_refusalOfPlace_25 rfl (Nat.le_of_ble_eq_true rfl) rfl) (Eq.trans (q_iload_n (pc := 26) dX11_refusalOfPlace_26 rfl rfl) (Eq.trans (q_if_eq (tgt := 32) (pc := 27) dX11_refusalOfPlace_27 rfl) (zitpi (fun hz4 => Eq.trans (q_aload_n (pc := 32) dX11_refusalOfPlace_32 rfl rfl) (Eq.trans (q_getf (pc := 33) dX11_refusalOfPlace_33 zF_11_55 (z_rfr zl_0 zh_0 (by decide) rfl)) (Eq.trans (q_iload_n (pc := 36) dX11_refusalOfPlace_36 rfl rfl) (Eq.trans (q_aaload (pc := 37) dX11_refusalOfPlace_37 (z_ra zl_28 zh_28 (by decide)) zra28) (zand fun hz5 => Eq.trans (q_iload_n (pc := 38) dX11_refusalOfPlace_38 rfl rfl) (Eq.trans (q_iconst (v := 1) (pc := 39) dX11_refusalOfPlace_39 rfl) (Eq.trans (q_sumI (q_callV (as := [.int a3, .int 1]) (rest := []) (l0 := [.ref (29 + 2 * ix a2), .int a3, .int 1]) (pc := 40) dX11_refusalOfPlace_40 zC_11_326 rfl (z_recv (zS_1 (zS_at hz5)).2.2.1 (zS_1 (zS_at hz5)).1) rfl rfl) (by omega) (s_X8_hasPlaces σ (29 + 2 * ix a2) a3 1 (zS_at hz5))) (Eq.trans (q_if_eq (tgt := 50) (pc := 43) dX11_refusalOfPlace_43 rfl) (ziti (fun hz6 => Eq.trans (q_bipush (v := (-13)) (pc := 50) dX11_refusalOfPlace_50 rfl) (q_iret (pc := 52) dX11_refusalOfPlace_52 rfl rfl)) (fun hz6 => Eq.trans (q_iconst (v := 0) (pc := 46) dX11_refusalOfPlace_46 rfl) (Eq.trans (q_goto (tgt := 52) (pc := 47) dX11_refusalOfPlace_47 rfl) (q_iret (pc := 52) dX11_refusalOfPlace_52 rfl rfl)))))))))))) (fun hz4 => Eq.trans (Eq.trans (q_iload_n (pc := 30) dX11_refusalOfPlace_30 rfl rfl) (q_iret (pc := 31) dX11_refusalOfPlace_31 rfl rfl)) (true_and _).symm))))))) zassoc))) zassoc)))))))))
def f_X11_element (σ : zS) (a2 : Int32) (a3 : Int32) : Int64 := (if (f_X11_refusalOfPlace σ a2 a3) = 0 then (gl σ ((29 + 2 * ix a2) + 1) (ix a3)) else (-9223372036854775808))
def p_X11_element (σ : zS) (a2 : Int32) (a3 : Int32) : Prop := (p_X11_refusalOfPlace σ a2 a3 ∧ (if (f_X11_refusalOfPlace σ a2 a3) = 0 then (zin a2 6 = true ∧ zin a3 60 = true) else True))
theorem s_X11_element {X : zX} {d : Nat} {Q : Option Value → zH → Prop} (hd : 3 ≤ d) (σ : zS) (a2 : Int32) (a3 : Int32)  : zwp X d MX11_element 0 [.ref 0, .int a2, .int a3] [] (zen σ) Q = (p_X11_element σ a2 a3 ∧ Q (some (.long (f_X11_element σ a2 a3))) (zen σ)) :=
  Eq.trans (q_aload_n (pc := 0) dX11_element_0 rfl rfl) (Eq.trans (q_iload_n (pc := 1) dX11_element_1 rfl rfl) (Eq.trans (q_iload_n (pc := 2) dX11_element_2 rfl rfl) (Eq.trans (Eq.trans (q_sumIP (q_callV (as := [.int a2, .int a3]) (rest := []) (l0 := [.ref 0, .int a2, .int a3, .null]) (pc := 3) dX11_element_3 zC_11_310 rfl (z_recv zl_0 zh_0) rfl rfl) (by omega) (s_X11_refusalOfPlace (hd := by omega) σ a2 a3)) (zand fun hz1 => Eq.trans (q_if_eq (tgt := 15) (pc := 6) dX11_element_6 rfl) (zitpj (fun hz2 => Eq.trans (q_aload_n (pc := 15) dX11_element_15 rfl rfl) (Eq.trans (q_getf (pc := 16) dX11_element_16 zF_11_55 (z_rfr zl_0 zh_0 (by decide) rfl)) (Eq.trans (q_iload_n (pc := 19) dX11_element_19 rfl rfl) (Eq.trans (Eq.trans (q_aaload (pc := 20) dX11_element_20 (z_ra zl_28 zh_28 (by decide)) zra28) (zand fun hz3 => Eq.trans (q_getf (pc := 21) dX11_element_21 zF_11_319 (z_rfr (zS_1 (zS_at hz3)).2.2.1 (zS_1 (zS_at hz3)).1 (by decide) rfl)) (Eq.trans (q_iload_n (pc := 24) dX11_element_24 rfl rfl) (Eq.trans (qe_laload (x := (gl σ ((29 + 2 * ix a2) + 1) (ix a3))) (pc := 25) dX11_element_25 (z_la (zS_1 (zS_at hz3)).2.2.2 (zS_1 (zS_at hz3)).2.1) rfl) (zand fun hz4 => q_lret (pc := 26) dX11_element_26 rfl))))) zassoc)))) (fun hz2 => Eq.trans (Eq.trans (q_ldc2 (v := (-9223372036854775808)) (pc := 9) dX11_element_9 zK_11_317) (Eq.trans (q_goto (tgt := 26) (pc := 12) dX11_element_12 rfl) (q_lret (pc := 26) dX11_element_26 rfl))) (true_and _).symm)))) zassoc)))
def f_X9_add (σ : zS) (a2 : Int32) : Int32 := ((gi σ 7 2) + 1)
def p_X9_add (σ : zS) (a2 : Int32) : Prop := zin (gi σ 7 2) 120 = true
def g_X9_add (σ : zS) (a2 : Int32) : zS := (si (si σ 8 (ix (gi σ 7 2)) a2) 7 2 ((gi σ 7 2) + 1))
theorem s_X9_add {X : zX} {d : Nat} {Q : Option Value → zH → Prop} (σ : zS) (a2 : Int32)  : zwp X d MX9_add 0 [.ref 7, .int a2] [] (zen σ) Q = (p_X9_add σ a2 ∧ Q (some (.int (f_X9_add σ a2))) (zen (g_X9_add σ a2))) :=
  Eq.trans (q_aload_n (pc := 0) dX9_add_0 rfl rfl) (Eq.trans (q_getf (pc := 1) dX9_add_1 zF_9_9 (z_rfr zl_7 zh_7 (by decide) rfl)) (Eq.trans (q_aload_n (pc := 4) dX9_add_4 rfl rfl) (Eq.trans (q_getf (pc := 5) dX9_add_5 zF_9_22 (z_rfiE (x := (gi σ 7 2)) zl_7 zh_7 (by decide) rfl rfl)) (Eq.trans (q_iload_n (pc := 8) dX9_add_8 rfl rfl) (Eq.trans (q_iastore (pc := 9) dX9_add_9 (zN_lt zl_8) (z_ia zl_8 zh_8 (by decide)) (z_pi zl_8 zh_8 (by decide))) (zand fun hz1 => Eq.trans (q_aload_n (pc := 10) dX9_add_10 rfl rfl) (Eq.trans (q_dup_ref (pc := 11) dX9_add_11) (Eq.trans (q_getf (pc := 12) dX9_add_12 zF_9_22 (z_rfiE (x := (gi σ 7 2)) zl_7 zh_7 (by decide) rfl rfl)) (Eq.trans (q_iconst (v := 1) (pc := 15) dX9_add_15 rfl) (Eq.trans (q_iadd (pc := 16) dX9_add_16) (Eq.trans (q_pf (pc := 17) dX9_add_17 zF_9_22 zPF_9_2 (z_pf zl_7 zh_7 rfl)) (Eq.trans (q_aload_n (pc := 20) dX9_add_20 rfl rfl) (Eq.trans (q_getf (pc := 21) dX9_add_21 zF_9_22 (z_rfiE (x := ((gi σ 7 2) + 1)) zl_7 zh_7 (by decide) rfl rfl)) (q_iret (pc := 24) dX9_add_24 rfl rfl))))))))))))))
def f_X11_feed (σ : zS) (a2 : Int32) : Int32 := (if a2 < 0 then (-1) else (if a2 ≤ 255 then (if ¬ (gi σ 7 2) = 120 then (f_X9_add σ a2) else (-3)) else (-1)))
def p_X11_feed (σ : zS) (a2 : Int32) : Prop := (if a2 < 0 then True else (if a2 ≤ 255 then (if ¬ (gi σ 7 2) = 120 then p_X9_add σ a2 else True) else True))
def g_X11_feed (σ : zS) (a2 : Int32) : zS := (if a2 < 0 then σ else (if a2 ≤ 255 then (if ¬ (gi σ 7 2) = 120 then (g_X9_add σ a2) else σ) else σ))
theorem s_X11_feed {X : zX} {d : Nat} {Q : Option Value → zH → Prop} (hd : 1 ≤ d) (σ : zS) (a2 : Int32)  : zwp X d MX11_feed 0 [.ref 0, .int a2] [] (zen σ) Q = (p_X11_feed σ a2 ∧ Q (some (.int (f_X11_feed σ a2))) (zen (g_X11_feed σ a2))) :=
  Eq.trans (q_iload_n (pc := 0) dX11_feed_0 rfl rfl) (Eq.trans (q_if_lt (tgt := 11) (pc := 1) dX11_feed_1 rfl) (zitpis (fun hz1 => Eq.trans (Eq.trans (q_iconst (v := (-1)) (pc := 11) dX11_feed_11 rfl) (q_iret (pc := 12) dX11_feed_12 rfl rfl)) (true_and _).symm) (fun hz1 => Eq.trans (q_iload_n (pc := 4) dX11_feed_4 rfl rfl) (Eq.trans (q_sipush (v := 255) (pc := 5) dX11_feed_5 rfl) (Eq.trans (q_icmp_le (tgt := 13) (pc := 8) dX11_feed_8 rfl) (zitpis (fun hz2 => Eq.trans (q_aload_n (pc := 13) dX11_feed_13 rfl rfl) (Eq.trans (q_getf (pc := 14) dX11_feed_14 zF_11_26 (z_rfr zl_0 zh_0 (by decide) rfl)) (Eq.trans (q_getf (pc := 17) dX11_feed_17 zF_11_133 (z_rfiE (x := (gi σ 7 2)) zl_7 zh_7 (by decide) rfl rfl)) (Eq.trans (q_bipush (v := 120) (pc := 20) dX11_feed_20 rfl) (Eq.trans (q_icmp_ne (tgt := 30) (pc := 22) dX11_feed_22 rfl) (zitpis (fun hz3 => Eq.trans (q_aload_n (pc := 30) dX11_feed_30 rfl rfl) (Eq.trans (q_getf (pc := 31) dX11_feed_31 zF_11_26 (z_rfr zl_0 zh_0 (by decide) rfl)) (Eq.trans (q_iload_n (pc := 34) dX11_feed_34 rfl rfl) (Eq.trans (q_sumIP (q_callV (as := [.int a2]) (rest := []) (l0 := [.ref 7, .int a2]) (pc := 35) dX11_feed_35 zC_11_136 rfl (z_recv zl_7 zh_7) rfl rfl) (by omega) (s_X9_add σ a2)) (zand fun hz4 => q_iret (pc := 38) dX11_feed_38 rfl rfl))))) (fun hz3 => Eq.trans (Eq.trans (q_bipush (v := (-3)) (pc := 25) dX11_feed_25 rfl) (Eq.trans (q_goto (tgt := 38) (pc := 27) dX11_feed_27 rfl) (q_iret (pc := 38) dX11_feed_38 rfl rfl))) (true_and _).symm))))))) (fun hz2 => Eq.trans (Eq.trans (q_iconst (v := (-1)) (pc := 11) dX11_feed_11 rfl) (q_iret (pc := 12) dX11_feed_12 rfl rfl)) (true_and _).symm)))))))
def f_X11_firstNamed (σ : zS) (a1 : Int32) (a2 : Int32) : Int32 := (if ¬ a1 = 0 then (if ¬ a2 = 0 then (zmx a1 a2) else a1) else a2)
theorem s_X11_firstNamed {X : zX} {d : Nat} {Q : Option Value → zH → Prop} (σ : zS) (a1 : Int32) (a2 : Int32)  : zwp X d MX11_firstNamed 0 [.int a1, .int a2] [] (zen σ) Q = Q (some (.int (f_X11_firstNamed σ a1 a2))) (zen σ) :=
  Eq.trans (q_iload_n (pc := 0) dX11_firstNamed_0 rfl rfl) (Eq.trans (q_if_ne (tgt := 8) (pc := 1) dX11_firstNamed_1 rfl) (ziti (fun hz1 => Eq.trans (q_iload_n (pc := 8) dX11_firstNamed_8 rfl rfl) (Eq.trans (q_if_ne (tgt := 16) (pc := 9) dX11_firstNamed_9 rfl) (ziti (fun hz2 => Eq.trans (q_iload_n (pc := 16) dX11_firstNamed_16 rfl rfl) (Eq.trans (q_iload_n (pc := 17) dX11_firstNamed_17 rfl rfl) (Eq.trans (q_zmx (pc := 18) dX11_firstNamed_18 zSP_11_353 (Nat.le_of_ble_eq_true rfl)) (q_iret (pc := 21) dX11_firstNamed_21 rfl rfl)))) (fun hz2 => Eq.trans (q_iload_n (pc := 12) dX11_firstNamed_12 rfl rfl) (Eq.trans (q_goto (tgt := 21) (pc := 13) dX11_firstNamed_13 rfl) (q_iret (pc := 21) dX11_firstNamed_21 rfl rfl)))))) (fun hz1 => Eq.trans (q_iload_n (pc := 4) dX11_firstNamed_4 rfl rfl) (Eq.trans (q_goto (tgt := 21) (pc := 5) dX11_firstNamed_5 rfl) (q_iret (pc := 21) dX11_firstNamed_21 rfl rfl)))))
def f_X5_fits (σ : zS) (a1 : Int32) (a2 : Int32) : Int32 := (if a1 < 0 then 0 else (if 9 < a1 then 0 else (if a2 < (zK0 (ix a1)) then 0 else (if (zK1 (ix a1)) < a2 then 0 else 1))))
def p_X5_fits (σ : zS) (a1 : Int32) (a2 : Int32) : Prop := (if a1 < 0 then True else (if 9 < a1 then True else (zin a1 10 = true ∧ (if a2 < (zK0 (ix a1)) then True else zin a1 10 = true))))
theorem s_X5_fits {X : zX} {d : Nat} {Q : Option Value → zH → Prop} (σ : zS) (a1 : Int32) (a2 : Int32)  : zwp X d MX5_fits 0 [.int a1, .int a2] [] (zen σ) Q = (p_X5_fits σ a1 a2 ∧ Q (some (.int (f_X5_fits σ a1 a2))) (zen σ)) :=
  Eq.trans (q_iload_n (pc := 0) dX5_fits_0 rfl rfl) (Eq.trans (q_if_lt (tgt := 32) (pc := 1) dX5_fits_1 rfl) (zitpi (fun hz1 => Eq.trans (Eq.trans (q_iconst (v := 0) (pc := 32) dX5_fits_32 rfl) (q_zretK (pc := 33) dX5_fits_33 rfl (by decide))) (true_and _).symm) (fun hz1 => Eq.trans (q_iload_n (pc := 4) dX5_fits_4 rfl rfl) (Eq.trans (q_bipush (v := 9) (pc := 5) dX5_fits_5 rfl) (Eq.trans (q_icmp_gt (tgt := 32) (pc := 7) dX5_fits_7 rfl) (zitpi (fun hz2 => Eq.trans (Eq.trans (q_iconst (v := 0) (pc := 32) dX5_fits_32 rfl) (q_zretK (pc := 33) dX5_fits_33 rfl (by decide))) (true_and _).symm) (fun hz2 => Eq.trans (q_iload_n (pc := 10) dX5_fits_10 rfl rfl) (Eq.trans (q_gets (v := .ref 1000) (pc := 11) dX5_fits_11 zG_5_15 rfl) (Eq.trans (q_iload_n (pc := 14) dX5_fits_14 rfl rfl) (Eq.trans (Eq.trans (qe_iaload (x := (zK0 (ix a1))) (pc := 15) dX5_fits_15 (rfl : zia X (zen σ) 0 1000 = some (10, zK0)) rfl) (zand fun hz3 => Eq.trans (q_icmp_lt (tgt := 32) (pc := 16) dX5_fits_16 rfl) (zitpi (fun hz4 => Eq.trans (Eq.trans (q_iconst (v := 0) (pc := 32) dX5_fits_32 rfl) (q_zretK (pc := 33) dX5_fits_33 rfl (by decide))) (true_and _).symm) (fun hz4 => Eq.trans (q_iload_n (pc := 19) dX5_fits_19 rfl rfl) (Eq.trans (q_gets (v := .ref 1001) (pc := 20) dX5_fits_20 zG_5_18 rfl) (Eq.trans (q_iload_n (pc := 23) dX5_fits_23 rfl rfl) (Eq.trans (qe_iaload (x := (zK1 (ix a1))) (pc := 24) dX5_fits_24 (rfl : zia X (zen σ) 0 1001 = some (10, zK1)) rfl) (zand fun hz5 => Eq.trans (q_icmp_gt (tgt := 32) (pc := 25) dX5_fits_25 rfl) (ziti (fun hz6 => Eq.trans (q_iconst (v := 0) (pc := 32) dX5_fits_32 rfl) (q_zretK (pc := 33) dX5_fits_33 rfl (by decide))) (fun hz6 => Eq.trans (q_iconst (v := 1) (pc := 28) dX5_fits_28 rfl) (Eq.trans (q_goto (tgt := 33) (pc := 29) dX5_fits_29 rfl) (q_zretK (pc := 33) dX5_fits_33 rfl (by decide))))))))))))) zassoc))))))))))
theorem zb_X5_fits (σ : zS) (a1 : Int32) (a2 : Int32) : f_X5_fits σ a1 a2 = 0 ∨ f_X5_fits σ a1 a2 = 1 := by
  unfold f_X5_fits
  repeat' split
  all_goals first | exact Or.inl rfl | exact Or.inr rfl
def f_X5_addRow (σ : zS) (a2 : Int32) (a3 : Int32) (a4 : Int32) : Int32 := (gi σ 1 1)
def p_X5_addRow (σ : zS) (a2 : Int32) (a3 : Int32) (a4 : Int32) : Prop := (zin (0 + (gi σ 1 1)) 80 = true ∧ (zin (8 + (gi σ 1 1)) 80 = true ∧ (zin (16 + (gi σ 1 1)) 80 = true ∧ zin (24 + (gi σ 1 1)) 80 = true)))
def g_X5_addRow (σ : zS) (a2 : Int32) (a3 : Int32) (a4 : Int32) : zS := (si (si (si (si (si (si σ 2 (ix (0 + (gi σ 1 1))) a2) 2 (ix (8 + (gi σ 1 1))) a3) 2 (ix (16 + (gi σ 1 1))) 5) 2 (ix (24 + (gi σ 1 1))) a4) 1 3 ((gi σ 1 3) + 1)) 1 1 ((gi σ 1 1) + 1))
theorem s_X5_addRow {X : zX} {d : Nat} {Q : Option Value → zH → Prop} (σ : zS) (a2 : Int32) (a3 : Int32) (a4 : Int32)  : zwp X d MX5_addRow 0 [.ref 1, .int a2, .int a3, .int a4] [] (zen σ) Q = (p_X5_addRow σ a2 a3 a4 ∧ Q (some (.int (f_X5_addRow σ a2 a3 a4))) (zen (g_X5_addRow σ a2 a3 a4))) :=
  Eq.trans (q_aload_n (pc := 0) dX5_addRow_0 rfl rfl) (Eq.trans (q_getf (pc := 1) dX5_addRow_1 zF_5_11 (z_rfr zl_1 zh_1 (by decide) rfl)) (Eq.trans (q_iconst (v := 0) (pc := 4) dX5_addRow_4 rfl) (Eq.trans (q_aload_n (pc := 5) dX5_addRow_5 rfl rfl) (Eq.trans (q_getf (pc := 6) dX5_addRow_6 zF_5_21 (z_rfiE (x := (gi σ 1 1)) zl_1 zh_1 (by decide) rfl rfl)) (Eq.trans (q_iadd (pc := 9) dX5_addRow_9) (Eq.trans (q_iload_n (pc := 10) dX5_addRow_10 rfl rfl) (Eq.trans (Eq.trans (q_iastore (pc := 11) dX5_addRow_11 (zN_lt zl_2) (z_ia zl_2 zh_2 (by decide)) (z_pi zl_2 zh_2 (by decide))) (zand fun hz1 => Eq.trans (q_aload_n (pc := 12) dX5_addRow_12 rfl rfl) (Eq.trans (q_getf (pc := 13) dX5_addRow_13 zF_5_11 (z_rfr zl_1 zh_1 (by decide) rfl)) (Eq.trans (q_bipush (v := 8) (pc := 16) dX5_addRow_16 rfl) (Eq.trans (q_aload_n (pc := 18) dX5_addRow_18 rfl rfl) (Eq.trans (q_getf (pc := 19) dX5_addRow_19 zF_5_21 (z_rfiE (x := (gi σ 1 1)) zl_1 zh_1 (by decide) rfl rfl)) (Eq.trans (q_iadd (pc := 22) dX5_addRow_22) (Eq.trans (q_iload_n (pc := 23) dX5_addRow_23 rfl rfl) (Eq.trans (Eq.trans (q_iastore (pc := 24) dX5_addRow_24 (zN_lt zl_2) (z_ia zl_2 zh_2 (by decide)) (z_pi zl_2 zh_2 (by decide))) (zand fun hz2 => Eq.trans (q_aload_n (pc := 25) dX5_addRow_25 rfl rfl) (Eq.trans (q_getf (pc := 26) dX5_addRow_26 zF_5_11 (z_rfr zl_1 zh_1 (by decide) rfl)) (Eq.trans (q_bipush (v := 16) (pc := 29) dX5_addRow_29 rfl) (Eq.trans (q_aload_n (pc := 31) dX5_addRow_31 rfl rfl) (Eq.trans (q_getf (pc := 32) dX5_addRow_32 zF_5_21 (z_rfiE (x := (gi σ 1 1)) zl_1 zh_1 (by decide) rfl rfl)) (Eq.trans (q_iadd (pc := 35) dX5_addRow_35) (Eq.trans (q_iconst (v := 5) (pc := 36) dX5_addRow_36 rfl) (Eq.trans (Eq.trans (q_iastore (pc := 37) dX5_addRow_37 (zN_lt zl_2) (z_ia zl_2 zh_2 (by decide)) (z_pi zl_2 zh_2 (by decide))) (zand fun hz3 => Eq.trans (q_aload_n (pc := 38) dX5_addRow_38 rfl rfl) (Eq.trans (q_getf (pc := 39) dX5_addRow_39 zF_5_11 (z_rfr zl_1 zh_1 (by decide) rfl)) (Eq.trans (q_bipush (v := 24) (pc := 42) dX5_addRow_42 rfl) (Eq.trans (q_aload_n (pc := 44) dX5_addRow_44 rfl rfl) (Eq.trans (q_getf (pc := 45) dX5_addRow_45 zF_5_21 (z_rfiE (x := (gi σ 1 1)) zl_1 zh_1 (by decide) rfl rfl)) (Eq.trans (q_iadd (pc := 48) dX5_addRow_48) (Eq.trans (q_iload_n (pc := 49) dX5_addRow_49 rfl rfl) (Eq.trans (q_iastore (pc := 50) dX5_addRow_50 (zN_lt zl_2) (z_ia zl_2 zh_2 (by decide)) (z_pi zl_2 zh_2 (by decide))) (zand fun hz4 => Eq.trans (q_aload_n (pc := 51) dX5_addRow_51 rfl rfl) (Eq.trans (q_dup_ref (pc := 52) dX5_addRow_52) (Eq.trans (q_getf (pc := 53) dX5_addRow_53 zF_5_28 (z_rfiE (x := (gi σ 1 3)) zl_1 zh_1 (by decide) rfl rfl)) (Eq.trans (q_iconst (v := 1) (pc := 56) dX5_addRow_56 rfl) (Eq.trans (q_iadd (pc := 57) dX5_addRow_57) (Eq.trans (q_pf (pc := 58) dX5_addRow_58 zF_5_28 zPF_5_3 (z_pf zl_1 zh_1 rfl)) (Eq.trans (q_aload_n (pc := 61) dX5_addRow_61 rfl rfl) (Eq.trans (q_dup_ref (pc := 62) dX5_addRow_62) (Eq.trans (q_getf (pc := 63) dX5_addRow_63 zF_5_21 (z_rfiE (x := (gi σ 1 1)) zl_1 zh_1 (by decide) rfl rfl)) (Eq.trans (q_dup_x1_int_ref (pc := 66) dX5_addRow_66) (Eq.trans (q_iconst (v := 1) (pc := 67) dX5_addRow_67 rfl) (Eq.trans (q_iadd (pc := 68) dX5_addRow_68) (Eq.trans (q_pf (pc := 69) dX5_addRow_69 zF_5_21 zPF_5_1 (z_pf zl_1 zh_1 rfl)) (q_iret (pc := 72) dX5_addRow_72 rfl rfl))))))))))))))))))))))) zassoc))))))))) zassoc))))))))) zassoc)))))))
def f_X11_hands (σ : zS) (a2 : Int32) (a3 : Int32) : Int32 := (if (f_X5_fits σ 0 a2) = 0 then (-1) else (if ¬ (f_X5_fits σ 1 a3) = 0 then (if ¬ (gi σ 1 1) = 6 then (f_X5_addRow σ a2 a3 0) else (-3)) else (-1)))
def p_X11_hands (σ : zS) (a2 : Int32) (a3 : Int32) : Prop := (p_X5_fits σ 0 a2 ∧ (if (f_X5_fits σ 0 a2) = 0 then True else (p_X5_fits σ 1 a3 ∧ (if ¬ (f_X5_fits σ 1 a3) = 0 then (if ¬ (gi σ 1 1) = 6 then p_X5_addRow σ a2 a3 0 else True) else True))))
def g_X11_hands (σ : zS) (a2 : Int32) (a3 : Int32) : zS := (if (f_X5_fits σ 0 a2) = 0 then σ else (if ¬ (f_X5_fits σ 1 a3) = 0 then (if ¬ (gi σ 1 1) = 6 then (g_X5_addRow σ a2 a3 0) else σ) else σ))
theorem s_X11_hands {X : zX} {d : Nat} {Q : Option Value → zH → Prop} (hd : 1 ≤ d) (σ : zS) (a2 : Int32) (a3 : Int32)  : zwp X d MX11_hands 0 [.ref 0, .int a2, .int a3] [] (zen σ) Q = (p_X11_hands σ a2 a3 ∧ Q (some (.int (f_X11_hands σ a2 a3))) (zen (g_X11_hands σ a2 a3))) :=
  Eq.trans (q_iconst (v := 0) (pc := 0) dX11_hands_0 rfl) (Eq.trans (q_iload_n (pc := 1) dX11_hands_1 rfl rfl) (Eq.trans (Eq.trans (q_sumIP (q_callS (as := [.int 0, .int a2]) (rest := []) (l0 := [.int 0, .int a2]) (pc := 2) dX11_hands_2 zSN_11_87 zC_11_87 rfl rfl rfl) (by omega) (s_X5_fits σ 0 a2)) (zand fun hz1 => Eq.trans (q_if_eq (tgt := 16) (pc := 5) dX11_hands_5 rfl) (zitpis (fun hz2 => Eq.trans (Eq.trans (q_iconst (v := (-1)) (pc := 16) dX11_hands_16 rfl) (q_iret (pc := 17) dX11_hands_17 rfl rfl)) (true_and _).symm) (fun hz2 => Eq.trans (q_iconst (v := 1) (pc := 8) dX11_hands_8 rfl) (Eq.trans (q_iload_n (pc := 9) dX11_hands_9 rfl rfl) (Eq.trans (Eq.trans (q_sumIP (q_callS (as := [.int 1, .int a3]) (rest := []) (l0 := [.int 1, .int a3]) (pc := 10) dX11_hands_10 zSN_11_87 zC_11_87 rfl rfl rfl) (by omega) (s_X5_fits σ 1 a3)) (zand fun hz3 => Eq.trans (q_if_ne (tgt := 18) (pc := 13) dX11_hands_13 rfl) (zitpis (fun hz4 => Eq.trans (q_aload_n (pc := 18) dX11_hands_18 rfl rfl) (Eq.trans (q_getf (pc := 19) dX11_hands_19 zF_11_10 (z_rfr zl_0 zh_0 (by decide) rfl)) (Eq.trans (q_getf (pc := 22) dX11_hands_22 zF_11_91 (z_rfiE (x := (gi σ 1 1)) zl_1 zh_1 (by decide) rfl rfl)) (Eq.trans (q_bipush (v := 6) (pc := 25) dX11_hands_25 rfl) (Eq.trans (q_icmp_ne (tgt := 35) (pc := 27) dX11_hands_27 rfl) (zitpis (fun hz5 => Eq.trans (q_aload_n (pc := 35) dX11_hands_35 rfl rfl) (Eq.trans (q_getf (pc := 36) dX11_hands_36 zF_11_10 (z_rfr zl_0 zh_0 (by decide) rfl)) (Eq.trans (q_iload_n (pc := 39) dX11_hands_39 rfl rfl) (Eq.trans (q_iload_n (pc := 40) dX11_hands_40 rfl rfl) (Eq.trans (q_iconst (v := 0) (pc := 41) dX11_hands_41 rfl) (Eq.trans (q_sumIP (q_callV (as := [.int a2, .int a3, .int 0]) (rest := []) (l0 := [.ref 1, .int a2, .int a3, .int 0]) (pc := 42) dX11_hands_42 zC_11_95 rfl (z_recv zl_1 zh_1) rfl rfl) (by omega) (s_X5_addRow σ a2 a3 0)) (zand fun hz6 => q_iret (pc := 45) dX11_hands_45 rfl rfl))))))) (fun hz5 => Eq.trans (Eq.trans (q_bipush (v := (-3)) (pc := 30) dX11_hands_30 rfl) (Eq.trans (q_goto (tgt := 45) (pc := 32) dX11_hands_32 rfl) (q_iret (pc := 45) dX11_hands_45 rfl rfl))) (true_and _).symm))))))) (fun hz4 => Eq.trans (Eq.trans (q_iconst (v := (-1)) (pc := 16) dX11_hands_16 rfl) (q_iret (pc := 17) dX11_hands_17 rfl rfl)) (true_and _).symm)))) zassoc)))))) zassoc))
def g_X4_keepImage (σ : zS) : zS := (si (sA (g_X2_become σ 21 18) 23 (va_cpy ((g_X2_become σ 21 18).1 20) ((g_X2_become σ 21 18).1 23) (ix 0) (ix 0) (ix 5))) 17 4 1)
theorem s_X4_keepImage {X : zX} {d : Nat} {Q : Option Value → zH → Prop} (hd : 1 ≤ d) (σ : zS)  : zwp X d MX4_keepImage 0 [.ref 17] [] (zen σ) Q = Q none (zen (g_X4_keepImage σ)) :=
  Eq.trans (q_aload_n (pc := 0) dX4_keepImage_0 rfl rfl) (Eq.trans (q_getf (pc := 1) dX4_keepImage_1 zF_4_22 (z_rfr zl_17 zh_17 (by decide) rfl)) (Eq.trans (q_aload_n (pc := 4) dX4_keepImage_4 rfl rfl) (Eq.trans (q_getf (pc := 5) dX4_keepImage_5 zF_4_12 (z_rfr zl_17 zh_17 (by decide) rfl)) (Eq.trans (q_sumN (q_callV (as := [.ref 18]) (rest := []) (l0 := [.ref 21, .ref 18]) (pc := 8) dX4_keepImage_8 zC_4_45 rfl (z_recv zl_21 zh_21) rfl rfl) (by omega) (s_X2_become σ 21 18 zB_21 zB_18)) (Eq.trans (q_aload_n (pc := 11) dX4_keepImage_11 rfl rfl) (Eq.trans (q_getf (pc := 12) dX4_keepImage_12 zF_4_18 (z_rfr zl_17 zh_17 (by decide) rfl)) (Eq.trans (q_iconst (v := 0) (pc := 15) dX4_keepImage_15 rfl) (Eq.trans (q_aload_n (pc := 16) dX4_keepImage_16 rfl rfl) (Eq.trans (q_getf (pc := 17) dX4_keepImage_17 zF_4_25 (z_rfr zl_17 zh_17 (by decide) rfl)) (Eq.trans (q_iconst (v := 0) (pc := 20) dX4_keepImage_20 rfl) (Eq.trans (q_aload_n (pc := 21) dX4_keepImage_21 rfl rfl) (Eq.trans (q_getf (pc := 22) dX4_keepImage_22 zF_4_18 (z_rfr zl_17 zh_17 (by decide) rfl)) (Eq.trans (q_alen (v := 5) (pc := 25) dX4_keepImage_25 (z_len zl_20 zh_20 (by decide)) rfl) (Eq.trans (Eq.trans (q_cpyi (pc := 26) dX4_keepImage_26 zSP_4_49 (Nat.le_of_ble_eq_true rfl) (zN_lt zl_20) (zN_lt zl_23) (z_ia zl_20 zh_20 (by decide)) (z_ia zl_23 zh_23 (by decide)) (z_cpyi zl_23 zh_23)) (ztrue_and ⟨by decide, by decide, by decide, by decide, by decide⟩)) (Eq.trans (q_aload_n (pc := 29) dX4_keepImage_29 rfl rfl) (Eq.trans (q_iconst (v := 1) (pc := 30) dX4_keepImage_30 rfl) (Eq.trans (Eq.trans (q_pz (pc := 31) dX4_keepImage_31 zF_4_55 zPZ_4_4 rfl (z_pf zl_17 zh_17 rfl)) (ztrue_and (by decide))) (q_vret (pc := 34) dX4_keepImage_34 rfl))))))))))))))))))
def f_X11_image (σ : zS) : Int32 := (gi (g_X4_keepImage σ) 20 (ix 0))
def g_X11_image (σ : zS) : zS := (g_X4_keepImage σ)
theorem s_X11_image {X : zX} {d : Nat} {Q : Option Value → zH → Prop} (hd : 2 ≤ d) (σ : zS)  : zwp X d MX11_image 0 [.ref 0] [] (zen σ) Q = Q (some (.int (f_X11_image σ))) (zen (g_X11_image σ)) :=
  Eq.trans (q_aload_n (pc := 0) dX11_image_0 rfl rfl) (Eq.trans (q_getf (pc := 1) dX11_image_1 zF_11_42 (z_rfr zl_0 zh_0 (by decide) rfl)) (Eq.trans (q_sumN (q_callV (as := []) (rest := []) (l0 := [.ref 17]) (pc := 4) dX11_image_4 zC_11_256 rfl (z_recv zl_17 zh_17) rfl rfl) (by omega) (s_X4_keepImage (hd := by omega) σ)) (Eq.trans (q_aload_n (pc := 7) dX11_image_7 rfl rfl) (Eq.trans (q_getf (pc := 8) dX11_image_8 zF_11_42 (z_rfr zl_0 zh_0 (by decide) rfl)) (Eq.trans (q_getf (pc := 11) dX11_image_11 zF_11_243 (z_rfr zl_17 zh_17 (by decide) rfl)) (Eq.trans (q_iconst (v := 0) (pc := 14) dX11_image_14 rfl) (Eq.trans (Eq.trans (qe_iaload (x := (gi (g_X4_keepImage σ) 20 (ix 0))) (pc := 15) dX11_image_15 (z_ia zl_20 zh_20 (by decide)) rfl) (ztrue_and (by decide))) (q_iret (pc := 16) dX11_image_16 rfl rfl))))))))
def f_X11_isHalf (σ : zS) (a1 : Int32) : Int32 := (if a1 = 0 then 1 else (if ¬ a1 = 1 then 0 else 1))
theorem s_X11_isHalf {X : zX} {d : Nat} {Q : Option Value → zH → Prop} (σ : zS) (a1 : Int32)  : zwp X d MX11_isHalf 0 [.int a1] [] (zen σ) Q = Q (some (.int (f_X11_isHalf σ a1))) (zen σ) :=
  Eq.trans (q_iload_n (pc := 0) dX11_isHalf_0 rfl rfl) (Eq.trans (q_if_eq (tgt := 9) (pc := 1) dX11_isHalf_1 rfl) (ziti (fun hz1 => Eq.trans (q_iconst (v := 1) (pc := 9) dX11_isHalf_9 rfl) (Eq.trans (q_goto (tgt := 14) (pc := 10) dX11_isHalf_10 rfl) (q_zretK (pc := 14) dX11_isHalf_14 rfl (by decide)))) (fun hz1 => Eq.trans (q_iload_n (pc := 4) dX11_isHalf_4 rfl rfl) (Eq.trans (q_iconst (v := 1) (pc := 5) dX11_isHalf_5 rfl) (Eq.trans (q_icmp_ne (tgt := 13) (pc := 6) dX11_isHalf_6 rfl) (ziti (fun hz2 => Eq.trans (q_iconst (v := 0) (pc := 13) dX11_isHalf_13 rfl) (q_zretK (pc := 14) dX11_isHalf_14 rfl (by decide))) (fun hz2 => Eq.trans (q_iconst (v := 1) (pc := 9) dX11_isHalf_9 rfl) (Eq.trans (q_goto (tgt := 14) (pc := 10) dX11_isHalf_10 rfl) (q_zretK (pc := 14) dX11_isHalf_14 rfl (by decide))))))))))
theorem zb_X11_isHalf (σ : zS) (a1 : Int32) : f_X11_isHalf σ a1 = 0 ∨ f_X11_isHalf σ a1 = 1 := by
  unfold f_X11_isHalf
  repeat' split
  all_goals first | exact Or.inl rfl | exact Or.inr rfl
def f_X11_isWeightAndPace (σ : zS) (a1 : Int32) : Int32 := (if a1 < 0 then 0 else (if 9999 < a1 then 0 else 1))
theorem s_X11_isWeightAndPace {X : zX} {d : Nat} {Q : Option Value → zH → Prop} (σ : zS) (a1 : Int32)  : zwp X d MX11_isWeightAndPace 0 [.int a1] [] (zen σ) Q = Q (some (.int (f_X11_isWeightAndPace σ a1))) (zen σ) :=
  Eq.trans (q_iload_n (pc := 0) dX11_isWeightAndPace_0 rfl rfl) (Eq.trans (q_if_lt (tgt := 15) (pc := 1) dX11_isWeightAndPace_1 rfl) (ziti (fun hz1 => Eq.trans (q_iconst (v := 0) (pc := 15) dX11_isWeightAndPace_15 rfl) (q_zretK (pc := 16) dX11_isWeightAndPace_16 rfl (by decide))) (fun hz1 => Eq.trans (q_iload_n (pc := 4) dX11_isWeightAndPace_4 rfl rfl) (Eq.trans (q_sipush (v := 9999) (pc := 5) dX11_isWeightAndPace_5 rfl) (Eq.trans (q_icmp_gt (tgt := 15) (pc := 8) dX11_isWeightAndPace_8 rfl) (ziti (fun hz2 => Eq.trans (q_iconst (v := 0) (pc := 15) dX11_isWeightAndPace_15 rfl) (q_zretK (pc := 16) dX11_isWeightAndPace_16 rfl (by decide))) (fun hz2 => Eq.trans (q_iconst (v := 1) (pc := 11) dX11_isWeightAndPace_11 rfl) (Eq.trans (q_goto (tgt := 16) (pc := 12) dX11_isWeightAndPace_12 rfl) (q_zretK (pc := 16) dX11_isWeightAndPace_16 rfl (by decide))))))))))
theorem zb_X11_isWeightAndPace (σ : zS) (a1 : Int32) : f_X11_isWeightAndPace σ a1 = 0 ∨ f_X11_isWeightAndPace σ a1 = 1 := by
  unfold f_X11_isWeightAndPace
  repeat' split
  all_goals first | exact Or.inl rfl | exact Or.inr rfl
def f_X1_has (σ : zS) (a2 : Int32) : Int32 := (if a2 < 0 then 0 else (if (gi σ 63 2) ≤ a2 then 0 else 1))
theorem s_X1_has {X : zX} {d : Nat} {Q : Option Value → zH → Prop} (σ : zS) (a2 : Int32)  : zwp X d MX1_has 0 [.ref 63, .int a2] [] (zen σ) Q = Q (some (.int (f_X1_has σ a2))) (zen σ) :=
  Eq.trans (q_iload_n (pc := 0) dX1_has_0 rfl rfl) (Eq.trans (q_if_lt (tgt := 16) (pc := 1) dX1_has_1 rfl) (ziti (fun hz1 => Eq.trans (q_iconst (v := 0) (pc := 16) dX1_has_16 rfl) (q_zretK (pc := 17) dX1_has_17 rfl (by decide))) (fun hz1 => Eq.trans (q_iload_n (pc := 4) dX1_has_4 rfl rfl) (Eq.trans (q_aload_n (pc := 5) dX1_has_5 rfl rfl) (Eq.trans (q_getf (pc := 6) dX1_has_6 zF_1_16 (z_rfiE (x := (gi σ 63 2)) zl_63 zh_63 (by decide) rfl rfl)) (Eq.trans (q_icmp_ge (tgt := 16) (pc := 9) dX1_has_9 rfl) (ziti (fun hz2 => Eq.trans (q_iconst (v := 0) (pc := 16) dX1_has_16 rfl) (q_zretK (pc := 17) dX1_has_17 rfl (by decide))) (fun hz2 => Eq.trans (q_iconst (v := 1) (pc := 12) dX1_has_12 rfl) (Eq.trans (q_goto (tgt := 17) (pc := 13) dX1_has_13 rfl) (q_zretK (pc := 17) dX1_has_17 rfl (by decide)))))))))))
theorem zb_X1_has (σ : zS) (a2 : Int32) : f_X1_has σ a2 = 0 ∨ f_X1_has σ a2 = 1 := by
  unfold f_X1_has
  repeat' split
  all_goals first | exact Or.inl rfl | exact Or.inr rfl
def g_X8_hold (σ : zS) (r1 : Nat) (a2 : Int32) : zS := (if ¬ a2 = (-1) then (si (si σ r1 1 1) r1 2 a2) else (si (si σ r1 1 0) r1 2 a2))
theorem s_X8_hold {X : zX} {d : Nat} {Q : Option Value → zH → Prop} (σ : zS) (r1 : Nat) (a2 : Int32) (h1 : zisS r1 = true) : zwp X d MX8_hold 0 [.ref r1, .int a2] [] (zen σ) Q = Q none (zen (g_X8_hold σ r1 a2)) :=
  Eq.trans (q_aload_n (pc := 0) dX8_hold_0 rfl rfl) (Eq.trans (q_iload_n (pc := 1) dX8_hold_1 rfl rfl) (Eq.trans (q_iconst (v := (-1)) (pc := 2) dX8_hold_2 rfl) (Eq.trans (q_icmp_ne (tgt := 10) (pc := 3) dX8_hold_3 rfl) (zitns (fun hz1 => Eq.trans (q_iconst (v := 1) (pc := 10) dX8_hold_10 rfl) (Eq.trans (q_pf (pc := 11) dX8_hold_11 zF_8_15 zPF_8_1 (z_pf (zS_1 h1).2.2.1 (zS_1 h1).1 rfl)) (Eq.trans (q_aload_n (pc := 14) dX8_hold_14 rfl rfl) (Eq.trans (q_iload_n (pc := 15) dX8_hold_15 rfl rfl) (Eq.trans (q_pf (pc := 16) dX8_hold_16 zF_8_19 zPF_8_2 (z_pf (zS_1 h1).2.2.1 (zS_1 h1).1 rfl)) (q_vret (pc := 19) dX8_hold_19 rfl)))))) (fun hz1 => Eq.trans (q_iconst (v := 0) (pc := 6) dX8_hold_6 rfl) (Eq.trans (q_goto (tgt := 11) (pc := 7) dX8_hold_7 rfl) (Eq.trans (q_pf (pc := 11) dX8_hold_11 zF_8_15 zPF_8_1 (z_pf (zS_1 h1).2.2.1 (zS_1 h1).1 rfl)) (Eq.trans (q_aload_n (pc := 14) dX8_hold_14 rfl rfl) (Eq.trans (q_iload_n (pc := 15) dX8_hold_15 rfl rfl) (Eq.trans (q_pf (pc := 16) dX8_hold_16 zF_8_19 zPF_8_2 (z_pf (zS_1 h1).2.2.1 (zS_1 h1).1 rfl)) (q_vret (pc := 19) dX8_hold_19 rfl)))))))))))
def f_X11_keep (σ : zS) (a2 : Int32) (a3 : Int32) : Int32 := (if (f_X11_isShelf σ a2) = 0 then (-1) else (if a3 = (-1) then 1 else (if ¬ (f_X1_has σ a3) = 0 then 1 else (-1))))
def p_X11_keep (σ : zS) (a2 : Int32) (a3 : Int32) : Prop := (if (f_X11_isShelf σ a2) = 0 then True else (if a3 = (-1) then zin a2 6 = true else (if ¬ (f_X1_has σ a3) = 0 then zin a2 6 = true else True)))
def g_X11_keep (σ : zS) (a2 : Int32) (a3 : Int32) : zS := (if (f_X11_isShelf σ a2) = 0 then σ else (if a3 = (-1) then (g_X8_hold σ (29 + 2 * ix a2) a3) else (if ¬ (f_X1_has σ a3) = 0 then (g_X8_hold σ (29 + 2 * ix a2) a3) else σ)))
theorem s_X11_keep {X : zX} {d : Nat} {Q : Option Value → zH → Prop} (hd : 1 ≤ d) (σ : zS) (a2 : Int32) (a3 : Int32)  : zwp X d MX11_keep 0 [.ref 0, .int a2, .int a3] [] (zen σ) Q = (p_X11_keep σ a2 a3 ∧ Q (some (.int (f_X11_keep σ a2 a3))) (zen (g_X11_keep σ a2 a3))) :=
  Eq.trans (q_iload_n (pc := 0) dX11_keep_0 rfl rfl) (Eq.trans (q_sumI (q_callS (as := [.int a2]) (rest := []) (l0 := [.int a2]) (pc := 1) dX11_keep_1 zSN_11_300 zC_11_300 rfl rfl rfl) (by omega) (s_X11_isShelf σ a2)) (Eq.trans (q_if_eq (tgt := 23) (pc := 4) dX11_keep_4 rfl) (zitpis (fun hz1 => Eq.trans (Eq.trans (q_iconst (v := (-1)) (pc := 23) dX11_keep_23 rfl) (q_iret (pc := 24) dX11_keep_24 rfl rfl)) (true_and _).symm) (fun hz1 => Eq.trans (q_iload_n (pc := 7) dX11_keep_7 rfl rfl) (Eq.trans (q_iconst (v := (-1)) (pc := 8) dX11_keep_8 rfl) (Eq.trans (q_icmp_eq (tgt := 25) (pc := 9) dX11_keep_9 rfl) (zitpis (fun hz2 => Eq.trans (q_aload_n (pc := 25) dX11_keep_25 rfl rfl) (Eq.trans (q_getf (pc := 26) dX11_keep_26 zF_11_55 (z_rfr zl_0 zh_0 (by decide) rfl)) (Eq.trans (q_iload_n (pc := 29) dX11_keep_29 rfl rfl) (Eq.trans (q_aaload (pc := 30) dX11_keep_30 (z_ra zl_28 zh_28 (by decide)) zra28) (zand fun hz3 => Eq.trans (q_iload_n (pc := 31) dX11_keep_31 rfl rfl) (Eq.trans (q_sumN (q_callV (as := [.int a3]) (rest := []) (l0 := [.ref (29 + 2 * ix a2), .int a3]) (pc := 32) dX11_keep_32 zC_11_303 rfl (z_recv (zS_1 (zS_at hz3)).2.2.1 (zS_1 (zS_at hz3)).1) rfl rfl) (by omega) (s_X8_hold σ (29 + 2 * ix a2) a3 (zS_at hz3))) (Eq.trans (q_iconst (v := 1) (pc := 35) dX11_keep_35 rfl) (q_iret (pc := 36) dX11_keep_36 rfl rfl)))))))) (fun hz2 => Eq.trans (q_aload_n (pc := 12) dX11_keep_12 rfl rfl) (Eq.trans (q_getf (pc := 13) dX11_keep_13 zF_11_83 (z_rfr zl_0 zh_0 (by decide) rfl)) (Eq.trans (q_iload_n (pc := 16) dX11_keep_16 rfl rfl) (Eq.trans (q_sumI (q_callV (as := [.int a3]) (rest := []) (l0 := [.ref 63, .int a3]) (pc := 17) dX11_keep_17 zC_11_286 rfl (z_recv zl_63 zh_63) rfl rfl) (by omega) (s_X1_has σ a3)) (Eq.trans (q_if_ne (tgt := 25) (pc := 20) dX11_keep_20 rfl) (zitpis (fun hz4 => Eq.trans (q_aload_n (pc := 25) dX11_keep_25 rfl rfl) (Eq.trans (q_getf (pc := 26) dX11_keep_26 zF_11_55 (z_rfr zl_0 zh_0 (by decide) rfl)) (Eq.trans (q_iload_n (pc := 29) dX11_keep_29 rfl rfl) (Eq.trans (q_aaload (pc := 30) dX11_keep_30 (z_ra zl_28 zh_28 (by decide)) zra28) (zand fun hz5 => Eq.trans (q_iload_n (pc := 31) dX11_keep_31 rfl rfl) (Eq.trans (q_sumN (q_callV (as := [.int a3]) (rest := []) (l0 := [.ref (29 + 2 * ix a2), .int a3]) (pc := 32) dX11_keep_32 zC_11_303 rfl (z_recv (zS_1 (zS_at hz5)).2.2.1 (zS_1 (zS_at hz5)).1) rfl rfl) (by omega) (s_X8_hold σ (29 + 2 * ix a2) a3 (zS_at hz5))) (Eq.trans (q_iconst (v := 1) (pc := 35) dX11_keep_35 rfl) (q_iret (pc := 36) dX11_keep_36 rfl rfl)))))))) (fun hz4 => Eq.trans (Eq.trans (q_iconst (v := (-1)) (pc := 23) dX11_keep_23 rfl) (q_iret (pc := 24) dX11_keep_24 rfl rfl)) (true_and _).symm))))))))))))))
def f_X11_led (σ : zS) (a2 : Int32) : Int32 := (if a2 < 0 then (-1) else (if a2 ≤ 4 then (gi σ 20 (ix a2)) else (-1)))
def p_X11_led (σ : zS) (a2 : Int32) : Prop := (if a2 < 0 then True else (if a2 ≤ 4 then zin a2 5 = true else True))
theorem s_X11_led {X : zX} {d : Nat} {Q : Option Value → zH → Prop} (σ : zS) (a2 : Int32)  : zwp X d MX11_led 0 [.ref 0, .int a2] [] (zen σ) Q = (p_X11_led σ a2 ∧ Q (some (.int (f_X11_led σ a2))) (zen σ)) :=
  Eq.trans (q_iload_n (pc := 0) dX11_led_0 rfl rfl) (Eq.trans (q_if_lt (tgt := 9) (pc := 1) dX11_led_1 rfl) (zitpi (fun hz1 => Eq.trans (Eq.trans (q_iconst (v := (-1)) (pc := 9) dX11_led_9 rfl) (Eq.trans (q_goto (tgt := 22) (pc := 10) dX11_led_10 rfl) (q_iret (pc := 22) dX11_led_22 rfl rfl))) (true_and _).symm) (fun hz1 => Eq.trans (q_iload_n (pc := 4) dX11_led_4 rfl rfl) (Eq.trans (q_iconst (v := 4) (pc := 5) dX11_led_5 rfl) (Eq.trans (q_icmp_le (tgt := 13) (pc := 6) dX11_led_6 rfl) (zitpi (fun hz2 => Eq.trans (q_aload_n (pc := 13) dX11_led_13 rfl rfl) (Eq.trans (q_getf (pc := 14) dX11_led_14 zF_11_42 (z_rfr zl_0 zh_0 (by decide) rfl)) (Eq.trans (q_getf (pc := 17) dX11_led_17 zF_11_243 (z_rfr zl_17 zh_17 (by decide) rfl)) (Eq.trans (q_iload_n (pc := 20) dX11_led_20 rfl rfl) (Eq.trans (qe_iaload (x := (gi σ 20 (ix a2))) (pc := 21) dX11_led_21 (z_ia zl_20 zh_20 (by decide)) rfl) (zand fun hz3 => q_iret (pc := 22) dX11_led_22 rfl rfl)))))) (fun hz2 => Eq.trans (Eq.trans (q_iconst (v := (-1)) (pc := 9) dX11_led_9 rfl) (Eq.trans (q_goto (tgt := 22) (pc := 10) dX11_led_10 rfl) (q_iret (pc := 22) dX11_led_22 rfl rfl))) (true_and _).symm)))))))
def f_X5_placeOf (σ : zS) (a2 : Int32) (a3 : Int32) : Int32 := (if a3 < 0 then (-1) else (if 9 < a3 then (-1) else (if 0 ≤ a2 then (if 3 < a3 then (if 5 < a3 then (if 1 ≤ a2 then (-1) else ((a3 * 8) + a2)) else (if (gi σ 1 2) ≤ a2 then (-1) else ((a3 * 8) + a2))) else (if (gi σ 1 1) ≤ a2 then (-1) else ((a3 * 8) + a2))) else (-1))))
theorem s_X5_placeOf {X : zX} {d : Nat} {Q : Option Value → zH → Prop} (σ : zS) (a2 : Int32) (a3 : Int32)  : zwp X d MX5_placeOf 0 [.ref 1, .int a2, .int a3, .null] [] (zen σ) Q = Q (some (.int (f_X5_placeOf σ a2 a3))) (zen σ) :=
  Eq.trans (q_iload_n (pc := 0) dX5_placeOf_0 rfl rfl) (Eq.trans (q_if_lt (tgt := 14) (pc := 1) dX5_placeOf_1 rfl) (ziti (fun hz1 => Eq.trans (q_iconst (v := (-1)) (pc := 14) dX5_placeOf_14 rfl) (q_iret (pc := 15) dX5_placeOf_15 rfl rfl)) (fun hz1 => Eq.trans (q_iload_n (pc := 4) dX5_placeOf_4 rfl rfl) (Eq.trans (q_bipush (v := 9) (pc := 5) dX5_placeOf_5 rfl) (Eq.trans (q_icmp_gt (tgt := 14) (pc := 7) dX5_placeOf_7 rfl) (ziti (fun hz2 => Eq.trans (q_iconst (v := (-1)) (pc := 14) dX5_placeOf_14 rfl) (q_iret (pc := 15) dX5_placeOf_15 rfl rfl)) (fun hz2 => Eq.trans (q_iload_n (pc := 10) dX5_placeOf_10 rfl rfl) (Eq.trans (q_if_ge (tgt := 16) (pc := 11) dX5_placeOf_11 rfl) (ziti (fun hz3 => Eq.trans (q_iload_n (pc := 16) dX5_placeOf_16 rfl rfl) (Eq.trans (q_iconst (v := 3) (pc := 17) dX5_placeOf_17 rfl) (Eq.trans (q_icmp_gt (tgt := 28) (pc := 18) dX5_placeOf_18 rfl) (ziti (fun hz4 => Eq.trans (q_iload_n (pc := 28) dX5_placeOf_28 rfl rfl) (Eq.trans (q_iconst (v := 5) (pc := 29) dX5_placeOf_29 rfl) (Eq.trans (q_icmp_gt (tgt := 40) (pc := 30) dX5_placeOf_30 rfl) (ziti (fun hz5 => Eq.trans (q_iconst (v := 1) (pc := 40) dX5_placeOf_40 rfl) (Eq.trans (q_istore_n (ls' := [.ref 1, .int a2, .int a3, .int 1]) (pc := 41) dX5_placeOf_41 rfl (Nat.le_of_ble_eq_true rfl) rfl) (Eq.trans (q_iload_n (pc := 42) dX5_placeOf_42 rfl rfl) (Eq.trans (q_iload_n (pc := 43) dX5_placeOf_43 rfl rfl) (Eq.trans (q_icmp_ge (tgt := 56) (pc := 44) dX5_placeOf_44 rfl) (ziti (fun hz6 => Eq.trans (q_iconst (v := (-1)) (pc := 56) dX5_placeOf_56 rfl) (q_iret (pc := 57) dX5_placeOf_57 rfl rfl)) (fun hz6 => Eq.trans (q_iload_n (pc := 47) dX5_placeOf_47 rfl rfl) (Eq.trans (q_bipush (v := 8) (pc := 48) dX5_placeOf_48 rfl) (Eq.trans (q_imul (pc := 50) dX5_placeOf_50) (Eq.trans (q_iload_n (pc := 51) dX5_placeOf_51 rfl rfl) (Eq.trans (q_iadd (pc := 52) dX5_placeOf_52) (Eq.trans (q_goto (tgt := 57) (pc := 53) dX5_placeOf_53 rfl) (q_iret (pc := 57) dX5_placeOf_57 rfl rfl))))))))))))) (fun hz5 => Eq.trans (q_aload_n (pc := 33) dX5_placeOf_33 rfl rfl) (Eq.trans (q_getf (pc := 34) dX5_placeOf_34 zF_5_25 (z_rfiE (x := (gi σ 1 2)) zl_1 zh_1 (by decide) rfl rfl)) (Eq.trans (q_goto (tgt := 41) (pc := 37) dX5_placeOf_37 rfl) (Eq.trans (q_istore_n (ls' := [.ref 1, .int a2, .int a3, .int (gi σ 1 2)]) (pc := 41) dX5_placeOf_41 rfl (Nat.le_of_ble_eq_true rfl) rfl) (Eq.trans (q_iload_n (pc := 42) dX5_placeOf_42 rfl rfl) (Eq.trans (q_iload_n (pc := 43) dX5_placeOf_43 rfl rfl) (Eq.trans (q_icmp_ge (tgt := 56) (pc := 44) dX5_placeOf_44 rfl) (ziti (fun hz7 => Eq.trans (q_iconst (v := (-1)) (pc := 56) dX5_placeOf_56 rfl) (q_iret (pc := 57) dX5_placeOf_57 rfl rfl)) (fun hz7 => Eq.trans (q_iload_n (pc := 47) dX5_placeOf_47 rfl rfl) (Eq.trans (q_bipush (v := 8) (pc := 48) dX5_placeOf_48 rfl) (Eq.trans (q_imul (pc := 50) dX5_placeOf_50) (Eq.trans (q_iload_n (pc := 51) dX5_placeOf_51 rfl rfl) (Eq.trans (q_iadd (pc := 52) dX5_placeOf_52) (Eq.trans (q_goto (tgt := 57) (pc := 53) dX5_placeOf_53 rfl) (q_iret (pc := 57) dX5_placeOf_57 rfl rfl))))))))))))))))))) (fun hz4 => Eq.trans (q_aload_n (pc := 21) dX5_placeOf_21 rfl rfl) (Eq.trans (q_getf (pc := 22) dX5_placeOf_22 zF_5_21 (z_rfiE (x := (gi σ 1 1)) zl_1 zh_1 (by decide) rfl rfl)) (Eq.trans (q_goto (tgt := 41) (pc := 25) dX5_placeOf_25 rfl) (Eq.trans (q_istore_n (ls' := [.ref 1, .int a2, .int a3, .int (gi σ 1 1)]) (pc := 41) dX5_placeOf_41 rfl (Nat.le_of_ble_eq_true rfl) rfl) (Eq.trans (q_iload_n (pc := 42) dX5_placeOf_42 rfl rfl) (Eq.trans (q_iload_n (pc := 43) dX5_placeOf_43 rfl rfl) (Eq.trans (q_icmp_ge (tgt := 56) (pc := 44) dX5_placeOf_44 rfl) (ziti (fun hz8 => Eq.trans (q_iconst (v := (-1)) (pc := 56) dX5_placeOf_56 rfl) (q_iret (pc := 57) dX5_placeOf_57 rfl rfl)) (fun hz8 => Eq.trans (q_iload_n (pc := 47) dX5_placeOf_47 rfl rfl) (Eq.trans (q_bipush (v := 8) (pc := 48) dX5_placeOf_48 rfl) (Eq.trans (q_imul (pc := 50) dX5_placeOf_50) (Eq.trans (q_iload_n (pc := 51) dX5_placeOf_51 rfl rfl) (Eq.trans (q_iadd (pc := 52) dX5_placeOf_52) (Eq.trans (q_goto (tgt := 57) (pc := 53) dX5_placeOf_53 rfl) (q_iret (pc := 57) dX5_placeOf_57 rfl rfl))))))))))))))))))) (fun hz3 => Eq.trans (q_iconst (v := (-1)) (pc := 14) dX5_placeOf_14 rfl) (q_iret (pc := 15) dX5_placeOf_15 rfl rfl)))))))))))
def g_X3_dropOldest (σ : zS) : zS := (si (sA (sA (sA σ 25 (va_cpy (σ.1 25) (σ.1 25) (ix 1) (ix 0) (ix 39))) 26 (va_cpy ((sA σ 25 (va_cpy (σ.1 25) (σ.1 25) (ix 1) (ix 0) (ix 39))).1 26) ((sA σ 25 (va_cpy (σ.1 25) (σ.1 25) (ix 1) (ix 0) (ix 39))).1 26) (ix 1) (ix 0) (ix 39))) 27 (va_cpy ((sA (sA σ 25 (va_cpy (σ.1 25) (σ.1 25) (ix 1) (ix 0) (ix 39))) 26 (va_cpy ((sA σ 25 (va_cpy (σ.1 25) (σ.1 25) (ix 1) (ix 0) (ix 39))).1 26) ((sA σ 25 (va_cpy (σ.1 25) (σ.1 25) (ix 1) (ix 0) (ix 39))).1 26) (ix 1) (ix 0) (ix 39))).1 27) ((sA (sA σ 25 (va_cpy (σ.1 25) (σ.1 25) (ix 1) (ix 0) (ix 39))) 26 (va_cpy ((sA σ 25 (va_cpy (σ.1 25) (σ.1 25) (ix 1) (ix 0) (ix 39))).1 26) ((sA σ 25 (va_cpy (σ.1 25) (σ.1 25) (ix 1) (ix 0) (ix 39))).1 26) (ix 1) (ix 0) (ix 39))).1 27) (ix 1) (ix 0) (ix 39))) 24 3 ((gi σ 24 3) - 1))
theorem s_X3_dropOldest {X : zX} {d : Nat} {Q : Option Value → zH → Prop} (σ : zS)  : zwp X d MX3_dropOldest 0 [.ref 24] [] (zen σ) Q = Q none (zen (g_X3_dropOldest σ)) :=
  Eq.trans (q_aload_n (pc := 0) dX3_dropOldest_0 rfl rfl) (Eq.trans (q_getf (pc := 1) dX3_dropOldest_1 zF_3_9 (z_rfr zl_24 zh_24 (by decide) rfl)) (Eq.trans (q_iconst (v := 1) (pc := 4) dX3_dropOldest_4 rfl) (Eq.trans (q_aload_n (pc := 5) dX3_dropOldest_5 rfl rfl) (Eq.trans (q_getf (pc := 6) dX3_dropOldest_6 zF_3_9 (z_rfr zl_24 zh_24 (by decide) rfl)) (Eq.trans (q_iconst (v := 0) (pc := 9) dX3_dropOldest_9 rfl) (Eq.trans (q_bipush (v := 39) (pc := 10) dX3_dropOldest_10 rfl) (Eq.trans (Eq.trans (q_cpyi (pc := 12) dX3_dropOldest_12 zSP_3_29 (Nat.le_of_ble_eq_true rfl) (zN_lt zl_25) (zN_lt zl_25) (z_ia zl_25 zh_25 (by decide)) (z_ia zl_25 zh_25 (by decide)) (z_cpyi zl_25 zh_25)) (ztrue_and ⟨by decide, by decide, by decide, by decide, by decide⟩)) (Eq.trans (q_aload_n (pc := 15) dX3_dropOldest_15 rfl rfl) (Eq.trans (q_getf (pc := 16) dX3_dropOldest_16 zF_3_13 (z_rfr zl_24 zh_24 (by decide) rfl)) (Eq.trans (q_iconst (v := 1) (pc := 19) dX3_dropOldest_19 rfl) (Eq.trans (q_aload_n (pc := 20) dX3_dropOldest_20 rfl rfl) (Eq.trans (q_getf (pc := 21) dX3_dropOldest_21 zF_3_13 (z_rfr zl_24 zh_24 (by decide) rfl)) (Eq.trans (q_iconst (v := 0) (pc := 24) dX3_dropOldest_24 rfl) (Eq.trans (q_bipush (v := 39) (pc := 25) dX3_dropOldest_25 rfl) (Eq.trans (Eq.trans (q_cpyi (pc := 27) dX3_dropOldest_27 zSP_3_29 (Nat.le_of_ble_eq_true rfl) (zN_lt zl_26) (zN_lt zl_26) (z_ia zl_26 zh_26 (by decide)) (z_ia zl_26 zh_26 (by decide)) (z_cpyi zl_26 zh_26)) (ztrue_and ⟨by decide, by decide, by decide, by decide, by decide⟩)) (Eq.trans (q_aload_n (pc := 30) dX3_dropOldest_30 rfl rfl) (Eq.trans (q_getf (pc := 31) dX3_dropOldest_31 zF_3_16 (z_rfr zl_24 zh_24 (by decide) rfl)) (Eq.trans (q_iconst (v := 1) (pc := 34) dX3_dropOldest_34 rfl) (Eq.trans (q_aload_n (pc := 35) dX3_dropOldest_35 rfl rfl) (Eq.trans (q_getf (pc := 36) dX3_dropOldest_36 zF_3_16 (z_rfr zl_24 zh_24 (by decide) rfl)) (Eq.trans (q_iconst (v := 0) (pc := 39) dX3_dropOldest_39 rfl) (Eq.trans (q_bipush (v := 39) (pc := 40) dX3_dropOldest_40 rfl) (Eq.trans (Eq.trans (q_cpyi (pc := 42) dX3_dropOldest_42 zSP_3_29 (Nat.le_of_ble_eq_true rfl) (zN_lt zl_27) (zN_lt zl_27) (z_ia zl_27 zh_27 (by decide)) (z_ia zl_27 zh_27 (by decide)) (z_cpyi zl_27 zh_27)) (ztrue_and ⟨by decide, by decide, by decide, by decide, by decide⟩)) (Eq.trans (q_aload_n (pc := 45) dX3_dropOldest_45 rfl rfl) (Eq.trans (q_dup_ref (pc := 46) dX3_dropOldest_46) (Eq.trans (q_getf (pc := 47) dX3_dropOldest_47 zF_3_19 (z_rfiE (x := (gi σ 24 3)) zl_24 zh_24 (by decide) rfl rfl)) (Eq.trans (q_iconst (v := 1) (pc := 50) dX3_dropOldest_50 rfl) (Eq.trans (q_isub (pc := 51) dX3_dropOldest_51) (Eq.trans (q_pf (pc := 52) dX3_dropOldest_52 zF_3_19 zPF_3_3 (z_pf zl_24 zh_24 rfl)) (q_vret (pc := 55) dX3_dropOldest_55 rfl))))))))))))))))))))))))))))))
def p_X3_note (σ : zS) (a2 : Int32) (a3 : Int32) (a4 : Int32) : Prop := (if ¬ (gi σ 24 3) = 40 then (zin (gi σ 24 3) 40 = true ∧ (zin (gi σ 24 3) 40 = true ∧ zin (gi σ 24 3) 40 = true)) else (zin (gi (g_X3_dropOldest σ) 24 3) 40 = true ∧ (zin (gi (g_X3_dropOldest σ) 24 3) 40 = true ∧ zin (gi (g_X3_dropOldest σ) 24 3) 40 = true)))
def g_X3_note (σ : zS) (a2 : Int32) (a3 : Int32) (a4 : Int32) : zS := (if ¬ (gi σ 24 3) = 40 then (si (si (si (si (si σ 25 (ix (gi σ 24 3)) a2) 26 (ix (gi σ 24 3)) a3) 27 (ix (gi σ 24 3)) a4) 24 3 ((gi σ 24 3) + 1)) 24 4 ((gi σ 24 3) + 1)) else (si (si (si (si (si (g_X3_dropOldest σ) 25 (ix (gi (g_X3_dropOldest σ) 24 3)) a2) 26 (ix (gi (g_X3_dropOldest σ) 24 3)) a3) 27 (ix (gi (g_X3_dropOldest σ) 24 3)) a4) 24 3 ((gi (g_X3_dropOldest σ) 24 3) + 1)) 24 4 ((gi (g_X3_dropOldest σ) 24 3) + 1)))
theorem s_X3_note {X : zX} {d : Nat} {Q : Option Value → zH → Prop} (hd : 1 ≤ d) (σ : zS) (a2 : Int32) (a3 : Int32) (a4 : Int32)  : zwp X d MX3_note 0 [.ref 24, .int a2, .int a3, .int a4] [] (zen σ) Q = (p_X3_note σ a2 a3 a4 ∧ Q none (zen (g_X3_note σ a2 a3 a4))) :=
  Eq.trans (q_aload_n (pc := 0) dX3_note_0 rfl rfl) (Eq.trans (q_getf (pc := 1) dX3_note_1 zF_3_19 (z_rfiE (x := (gi σ 24 3)) zl_24 zh_24 (by decide) rfl rfl)) (Eq.trans (q_bipush (v := 40) (pc := 4) dX3_note_4 rfl) (Eq.trans (q_icmp_ne (tgt := 13) (pc := 6) dX3_note_6 rfl) (zitpns (fun hz1 => Eq.trans (q_aload_n (pc := 13) dX3_note_13 rfl rfl) (Eq.trans (q_getf (pc := 14) dX3_note_14 zF_3_9 (z_rfr zl_24 zh_24 (by decide) rfl)) (Eq.trans (q_aload_n (pc := 17) dX3_note_17 rfl rfl) (Eq.trans (q_getf (pc := 18) dX3_note_18 zF_3_19 (z_rfiE (x := (gi σ 24 3)) zl_24 zh_24 (by decide) rfl rfl)) (Eq.trans (q_iload_n (pc := 21) dX3_note_21 rfl rfl) (Eq.trans (Eq.trans (q_iastore (pc := 22) dX3_note_22 (zN_lt zl_25) (z_ia zl_25 zh_25 (by decide)) (z_pi zl_25 zh_25 (by decide))) (zand fun hz2 => Eq.trans (q_aload_n (pc := 23) dX3_note_23 rfl rfl) (Eq.trans (q_getf (pc := 24) dX3_note_24 zF_3_13 (z_rfr zl_24 zh_24 (by decide) rfl)) (Eq.trans (q_aload_n (pc := 27) dX3_note_27 rfl rfl) (Eq.trans (q_getf (pc := 28) dX3_note_28 zF_3_19 (z_rfiE (x := (gi σ 24 3)) zl_24 zh_24 (by decide) rfl rfl)) (Eq.trans (q_iload_n (pc := 31) dX3_note_31 rfl rfl) (Eq.trans (Eq.trans (q_iastore (pc := 32) dX3_note_32 (zN_lt zl_26) (z_ia zl_26 zh_26 (by decide)) (z_pi zl_26 zh_26 (by decide))) (zand fun hz3 => Eq.trans (q_aload_n (pc := 33) dX3_note_33 rfl rfl) (Eq.trans (q_getf (pc := 34) dX3_note_34 zF_3_16 (z_rfr zl_24 zh_24 (by decide) rfl)) (Eq.trans (q_aload_n (pc := 37) dX3_note_37 rfl rfl) (Eq.trans (q_getf (pc := 38) dX3_note_38 zF_3_19 (z_rfiE (x := (gi σ 24 3)) zl_24 zh_24 (by decide) rfl rfl)) (Eq.trans (q_iload_n (pc := 41) dX3_note_41 rfl rfl) (Eq.trans (q_iastore (pc := 42) dX3_note_42 (zN_lt zl_27) (z_ia zl_27 zh_27 (by decide)) (z_pi zl_27 zh_27 (by decide))) (zand fun hz4 => Eq.trans (q_aload_n (pc := 43) dX3_note_43 rfl rfl) (Eq.trans (q_dup_ref (pc := 44) dX3_note_44) (Eq.trans (q_getf (pc := 45) dX3_note_45 zF_3_19 (z_rfiE (x := (gi σ 24 3)) zl_24 zh_24 (by decide) rfl rfl)) (Eq.trans (q_iconst (v := 1) (pc := 48) dX3_note_48 rfl) (Eq.trans (q_iadd (pc := 49) dX3_note_49) (Eq.trans (q_pf (pc := 50) dX3_note_50 zF_3_19 zPF_3_3 (z_pf zl_24 zh_24 rfl)) (Eq.trans (q_aload_n (pc := 53) dX3_note_53 rfl rfl) (Eq.trans (q_aload_n (pc := 54) dX3_note_54 rfl rfl) (Eq.trans (q_getf (pc := 55) dX3_note_55 zF_3_19 (z_rfiE (x := ((gi σ 24 3) + 1)) zl_24 zh_24 (by decide) rfl rfl)) (Eq.trans (q_pf (pc := 58) dX3_note_58 zF_3_26 zPF_3_4 (z_pf zl_24 zh_24 rfl)) (q_vret (pc := 61) dX3_note_61 rfl)))))))))))))))))) zassoc))))))) zassoc)))))) (fun hz1 => Eq.trans (q_aload_n (pc := 9) dX3_note_9 rfl rfl) (Eq.trans (q_sumN (q_callV (as := []) (rest := []) (l0 := [.ref 24]) (pc := 10) dX3_note_10 zC_3_23 rfl (z_recv zl_24 zh_24) rfl rfl) (by omega) (s_X3_dropOldest σ)) (Eq.trans (q_aload_n (pc := 13) dX3_note_13 rfl rfl) (Eq.trans (q_getf (pc := 14) dX3_note_14 zF_3_9 (z_rfr zl_24 zh_24 (by decide) rfl)) (Eq.trans (q_aload_n (pc := 17) dX3_note_17 rfl rfl) (Eq.trans (q_getf (pc := 18) dX3_note_18 zF_3_19 (z_rfiE (x := (gi (g_X3_dropOldest σ) 24 3)) zl_24 zh_24 (by decide) rfl rfl)) (Eq.trans (q_iload_n (pc := 21) dX3_note_21 rfl rfl) (Eq.trans (Eq.trans (q_iastore (pc := 22) dX3_note_22 (zN_lt zl_25) (z_ia zl_25 zh_25 (by decide)) (z_pi zl_25 zh_25 (by decide))) (zand fun hz5 => Eq.trans (q_aload_n (pc := 23) dX3_note_23 rfl rfl) (Eq.trans (q_getf (pc := 24) dX3_note_24 zF_3_13 (z_rfr zl_24 zh_24 (by decide) rfl)) (Eq.trans (q_aload_n (pc := 27) dX3_note_27 rfl rfl) (Eq.trans (q_getf (pc := 28) dX3_note_28 zF_3_19 (z_rfiE (x := (gi (g_X3_dropOldest σ) 24 3)) zl_24 zh_24 (by decide) rfl rfl)) (Eq.trans (q_iload_n (pc := 31) dX3_note_31 rfl rfl) (Eq.trans (Eq.trans (q_iastore (pc := 32) dX3_note_32 (zN_lt zl_26) (z_ia zl_26 zh_26 (by decide)) (z_pi zl_26 zh_26 (by decide))) (zand fun hz6 => Eq.trans (q_aload_n (pc := 33) dX3_note_33 rfl rfl) (Eq.trans (q_getf (pc := 34) dX3_note_34 zF_3_16 (z_rfr zl_24 zh_24 (by decide) rfl)) (Eq.trans (q_aload_n (pc := 37) dX3_note_37 rfl rfl) (Eq.trans (q_getf (pc := 38) dX3_note_38 zF_3_19 (z_rfiE (x := (gi (g_X3_dropOldest σ) 24 3)) zl_24 zh_24 (by decide) rfl rfl)) (Eq.trans (q_iload_n (pc := 41) dX3_note_41 rfl rfl) (Eq.trans (q_iastore (pc := 42) dX3_note_42 (zN_lt zl_27) (z_ia zl_27 zh_27 (by decide)) (z_pi zl_27 zh_27 (by decide))) (zand fun hz7 => Eq.trans (q_aload_n (pc := 43) dX3_note_43 rfl rfl) (Eq.trans (q_dup_ref (pc := 44) dX3_note_44) (Eq.trans (q_getf (pc := 45) dX3_note_45 zF_3_19 (z_rfiE (x := (gi (g_X3_dropOldest σ) 24 3)) zl_24 zh_24 (by decide) rfl rfl)) (Eq.trans (q_iconst (v := 1) (pc := 48) dX3_note_48 rfl) (Eq.trans (q_iadd (pc := 49) dX3_note_49) (Eq.trans (q_pf (pc := 50) dX3_note_50 zF_3_19 zPF_3_3 (z_pf zl_24 zh_24 rfl)) (Eq.trans (q_aload_n (pc := 53) dX3_note_53 rfl rfl) (Eq.trans (q_aload_n (pc := 54) dX3_note_54 rfl rfl) (Eq.trans (q_getf (pc := 55) dX3_note_55 zF_3_19 (z_rfiE (x := ((gi (g_X3_dropOldest σ) 24 3) + 1)) zl_24 zh_24 (by decide) rfl rfl)) (Eq.trans (q_pf (pc := 58) dX3_note_58 zF_3_26 zPF_3_4 (z_pf zl_24 zh_24 rfl)) (q_vret (pc := 61) dX3_note_61 rfl)))))))))))))))))) zassoc))))))) zassoc))))))))))))
def p_X5_change (σ : zS) (a2 : Int32) (a3 : Int32) : Prop := zin a2 80 = true
def g_X5_change (σ : zS) (a2 : Int32) (a3 : Int32) : zS := (si (si σ 2 (ix a2) a3) 1 3 ((gi σ 1 3) + 1))
theorem s_X5_change {X : zX} {d : Nat} {Q : Option Value → zH → Prop} (σ : zS) (a2 : Int32) (a3 : Int32)  : zwp X d MX5_change 0 [.ref 1, .int a2, .int a3] [] (zen σ) Q = (p_X5_change σ a2 a3 ∧ Q none (zen (g_X5_change σ a2 a3))) :=
  Eq.trans (q_aload_n (pc := 0) dX5_change_0 rfl rfl) (Eq.trans (q_getf (pc := 1) dX5_change_1 zF_5_11 (z_rfr zl_1 zh_1 (by decide) rfl)) (Eq.trans (q_iload_n (pc := 4) dX5_change_4 rfl rfl) (Eq.trans (q_iload_n (pc := 5) dX5_change_5 rfl rfl) (Eq.trans (q_iastore (pc := 6) dX5_change_6 (zN_lt zl_2) (z_ia zl_2 zh_2 (by decide)) (z_pi zl_2 zh_2 (by decide))) (zand fun hz1 => Eq.trans (q_aload_n (pc := 7) dX5_change_7 rfl rfl) (Eq.trans (q_dup_ref (pc := 8) dX5_change_8) (Eq.trans (q_getf (pc := 9) dX5_change_9 zF_5_28 (z_rfiE (x := (gi σ 1 3)) zl_1 zh_1 (by decide) rfl rfl)) (Eq.trans (q_iconst (v := 1) (pc := 12) dX5_change_12 rfl) (Eq.trans (q_iadd (pc := 13) dX5_change_13) (Eq.trans (q_pf (pc := 14) dX5_change_14 zF_5_28 zPF_5_3 (z_pf zl_1 zh_1 rfl)) (q_vret (pc := 17) dX5_change_17 rfl)))))))))))
def f_X11_mend (σ : zS) (a2 : Int32) (a3 : Int32) (a4 : Int32) : Int32 := (if (f_X5_placeOf σ a2 a3) < 0 then (-1) else (if ¬ (f_X5_fits σ a3 a4) = 0 then (gi σ 2 (ix (f_X5_placeOf σ a2 a3))) else (-1)))
def p_X11_mend (σ : zS) (a2 : Int32) (a3 : Int32) (a4 : Int32) : Prop := (if (f_X5_placeOf σ a2 a3) < 0 then True else (p_X5_fits σ a3 a4 ∧ (if ¬ (f_X5_fits σ a3 a4) = 0 then (zin (f_X5_placeOf σ a2 a3) 80 = true ∧ (if (gi σ 2 (ix (f_X5_placeOf σ a2 a3))) = a4 then True else (p_X3_note σ (f_X5_placeOf σ a2 a3) (gi σ 2 (ix (f_X5_placeOf σ a2 a3))) a4 ∧ p_X5_change (g_X3_note σ (f_X5_placeOf σ a2 a3) (gi σ 2 (ix (f_X5_placeOf σ a2 a3))) a4) (f_X5_placeOf σ a2 a3) a4))) else True)))
def g_X11_mend (σ : zS) (a2 : Int32) (a3 : Int32) (a4 : Int32) : zS := (if (f_X5_placeOf σ a2 a3) < 0 then σ else (if ¬ (f_X5_fits σ a3 a4) = 0 then (if (gi σ 2 (ix (f_X5_placeOf σ a2 a3))) = a4 then σ else (g_X5_change (g_X3_note σ (f_X5_placeOf σ a2 a3) (gi σ 2 (ix (f_X5_placeOf σ a2 a3))) a4) (f_X5_placeOf σ a2 a3) a4)) else σ))
theorem s_X11_mend {X : zX} {d : Nat} {Q : Option Value → zH → Prop} (hd : 2 ≤ d) (σ : zS) (a2 : Int32) (a3 : Int32) (a4 : Int32)  : zwp X d MX11_mend 0 [.ref 0, .int a2, .int a3, .int a4, .null, .null] [] (zen σ) Q = (p_X11_mend σ a2 a3 a4 ∧ Q (some (.int (f_X11_mend σ a2 a3 a4))) (zen (g_X11_mend σ a2 a3 a4))) :=
  Eq.trans (q_aload_n (pc := 0) dX11_mend_0 rfl rfl) (Eq.trans (q_getf (pc := 1) dX11_mend_1 zF_11_10 (z_rfr zl_0 zh_0 (by decide) rfl)) (Eq.trans (q_iload_n (pc := 4) dX11_mend_4 rfl rfl) (Eq.trans (q_iload_n (pc := 5) dX11_mend_5 rfl rfl) (Eq.trans (q_sumI (q_callV (as := [.int a2, .int a3]) (rest := []) (l0 := [.ref 1, .int a2, .int a3, .null]) (pc := 6) dX11_mend_6 zC_11_113 rfl (z_recv zl_1 zh_1) rfl rfl) (by omega) (s_X5_placeOf σ a2 a3)) (Eq.trans (q_istore (ls' := [.ref 0, .int a2, .int a3, .int a4, .int (f_X5_placeOf σ a2 a3), .null]) (pc := 9) dX11_mend_9 (Nat.le_of_ble_eq_true rfl) rfl) (Eq.trans (q_iload (pc := 11) dX11_mend_11 rfl) (Eq.trans (q_if_lt (tgt := 24) (pc := 13) dX11_mend_13 rfl) (zitpis (fun hz1 => Eq.trans (Eq.trans (q_iconst (v := (-1)) (pc := 24) dX11_mend_24 rfl) (q_iret (pc := 25) dX11_mend_25 rfl rfl)) (true_and _).symm) (fun hz1 => Eq.trans (q_iload_n (pc := 16) dX11_mend_16 rfl rfl) (Eq.trans (q_iload_n (pc := 17) dX11_mend_17 rfl rfl) (Eq.trans (Eq.trans (q_sumIP (q_callS (as := [.int a3, .int a4]) (rest := []) (l0 := [.int a3, .int a4]) (pc := 18) dX11_mend_18 zSN_11_87 zC_11_87 rfl rfl rfl) (by omega) (s_X5_fits σ a3 a4)) (zand fun hz2 => Eq.trans (q_if_ne (tgt := 26) (pc := 21) dX11_mend_21 rfl) (zitpis (fun hz3 => Eq.trans (q_aload_n (pc := 26) dX11_mend_26 rfl rfl) (Eq.trans (q_getf (pc := 27) dX11_mend_27 zF_11_10 (z_rfr zl_0 zh_0 (by decide) rfl)) (Eq.trans (q_getf (pc := 30) dX11_mend_30 zF_11_116 (z_rfr zl_1 zh_1 (by decide) rfl)) (Eq.trans (q_iload (pc := 33) dX11_mend_33 rfl) (Eq.trans (Eq.trans (qe_iaload (x := (gi σ 2 (ix (f_X5_placeOf σ a2 a3)))) (pc := 35) dX11_mend_35 (z_ia zl_2 zh_2 (by decide)) rfl) (zand fun hz4 => Eq.trans (q_istore (ls' := [.ref 0, .int a2, .int a3, .int a4, .int (f_X5_placeOf σ a2 a3), .int (gi σ 2 (ix (f_X5_placeOf σ a2 a3)))]) (pc := 36) dX11_mend_36 (Nat.le_of_ble_eq_true rfl) rfl) (Eq.trans (q_iload (pc := 38) dX11_mend_38 rfl) (Eq.trans (q_iload_n (pc := 40) dX11_mend_40 rfl rfl) (Eq.trans (q_icmp_eq (tgt := 66) (pc := 41) dX11_mend_41 rfl) (zitpiks (fun hz5 => Eq.trans (Eq.trans (q_iload (pc := 66) dX11_mend_66 rfl) (q_iret (pc := 68) dX11_mend_68 rfl rfl)) (true_and _).symm) (fun hz5 => Eq.trans (q_aload_n (pc := 44) dX11_mend_44 rfl rfl) (Eq.trans (q_getf (pc := 45) dX11_mend_45 zF_11_49 (z_rfr zl_0 zh_0 (by decide) rfl)) (Eq.trans (q_iload (pc := 48) dX11_mend_48 rfl) (Eq.trans (q_iload (pc := 50) dX11_mend_50 rfl) (Eq.trans (q_iload_n (pc := 52) dX11_mend_52 rfl rfl) (Eq.trans (Eq.trans (q_sumNP (q_callV (as := [.int (f_X5_placeOf σ a2 a3), .int (gi σ 2 (ix (f_X5_placeOf σ a2 a3))), .int a4]) (rest := []) (l0 := [.ref 24, .int (f_X5_placeOf σ a2 a3), .int (gi σ 2 (ix (f_X5_placeOf σ a2 a3))), .int a4]) (pc := 53) dX11_mend_53 zC_11_120 rfl (z_recv zl_24 zh_24) rfl rfl) (by omega) (s_X3_note (hd := by omega) σ (f_X5_placeOf σ a2 a3) (gi σ 2 (ix (f_X5_placeOf σ a2 a3))) a4)) (zand fun hz6 => Eq.trans (q_aload_n (pc := 56) dX11_mend_56 rfl rfl) (Eq.trans (q_getf (pc := 57) dX11_mend_57 zF_11_10 (z_rfr zl_0 zh_0 (by decide) rfl)) (Eq.trans (q_iload (pc := 60) dX11_mend_60 rfl) (Eq.trans (q_iload_n (pc := 62) dX11_mend_62 rfl rfl) (Eq.trans (q_sumNP (q_callV (as := [.int (f_X5_placeOf σ a2 a3), .int a4]) (rest := []) (l0 := [.ref 1, .int (f_X5_placeOf σ a2 a3), .int a4]) (pc := 63) dX11_mend_63 zC_11_124 rfl (z_recv zl_1 zh_1) rfl rfl) (by omega) (s_X5_change (g_X3_note σ (f_X5_placeOf σ a2 a3) (gi σ 2 (ix (f_X5_placeOf σ a2 a3))) a4) (f_X5_placeOf σ a2 a3) a4)) (zand fun hz7 => Eq.trans (q_iload (pc := 66) dX11_mend_66 rfl) (q_iret (pc := 68) dX11_mend_68 rfl rfl)))))))) zassoc)))))))))))) zassoc))))) (fun hz3 => Eq.trans (Eq.trans (q_iconst (v := (-1)) (pc := 24) dX11_mend_24 rfl) (q_iret (pc := 25) dX11_mend_25 rfl rfl)) (true_and _).symm)))) zassoc)))))))))))
def f_X11_of (σ : zS) (a2 : Int32) (a3 : Int32) : Int32 := (if ¬ a3 = 10 then (if 0 ≤ (f_X5_placeOf σ a2 a3) then (gi σ 2 (ix (f_X5_placeOf σ a2 a3))) else (-1)) else (if a2 < 0 then (-1) else (if a2 < 16 then (gi σ 19 (ix a2)) else (-1))))
def p_X11_of (σ : zS) (a2 : Int32) (a3 : Int32) : Prop := (if ¬ a3 = 10 then (if 0 ≤ (f_X5_placeOf σ a2 a3) then zin (f_X5_placeOf σ a2 a3) 80 = true else True) else (if a2 < 0 then True else (if a2 < 16 then zin a2 16 = true else True)))
theorem s_X11_of {X : zX} {d : Nat} {Q : Option Value → zH → Prop} (hd : 1 ≤ d) (σ : zS) (a2 : Int32) (a3 : Int32)  : zwp X d MX11_of 0 [.ref 0, .int a2, .int a3, .null] [] (zen σ) Q = (p_X11_of σ a2 a3 ∧ Q (some (.int (f_X11_of σ a2 a3))) (zen σ)) :=
  Eq.trans (q_iload_n (pc := 0) dX11_of_0 rfl rfl) (Eq.trans (q_bipush (v := 10) (pc := 1) dX11_of_1 rfl) (Eq.trans (q_icmp_ne (tgt := 33) (pc := 3) dX11_of_3 rfl) (zitpi (fun hz1 => Eq.trans (q_aload_n (pc := 33) dX11_of_33 rfl rfl) (Eq.trans (q_getf (pc := 34) dX11_of_34 zF_11_10 (z_rfr zl_0 zh_0 (by decide) rfl)) (Eq.trans (q_iload_n (pc := 37) dX11_of_37 rfl rfl) (Eq.trans (q_iload_n (pc := 38) dX11_of_38 rfl rfl) (Eq.trans (q_sumI (q_callV (as := [.int a2, .int a3]) (rest := []) (l0 := [.ref 1, .int a2, .int a3, .null]) (pc := 39) dX11_of_39 zC_11_113 rfl (z_recv zl_1 zh_1) rfl rfl) (by omega) (s_X5_placeOf σ a2 a3)) (Eq.trans (q_istore_n (ls' := [.ref 0, .int a2, .int a3, .int (f_X5_placeOf σ a2 a3)]) (pc := 42) dX11_of_42 rfl (Nat.le_of_ble_eq_true rfl) rfl) (Eq.trans (q_iload_n (pc := 43) dX11_of_43 rfl rfl) (Eq.trans (q_if_ge (tgt := 51) (pc := 44) dX11_of_44 rfl) (zitpi (fun hz2 => Eq.trans (q_aload_n (pc := 51) dX11_of_51 rfl rfl) (Eq.trans (q_getf (pc := 52) dX11_of_52 zF_11_10 (z_rfr zl_0 zh_0 (by decide) rfl)) (Eq.trans (q_getf (pc := 55) dX11_of_55 zF_11_116 (z_rfr zl_1 zh_1 (by decide) rfl)) (Eq.trans (q_iload_n (pc := 58) dX11_of_58 rfl rfl) (Eq.trans (qe_iaload (x := (gi σ 2 (ix (f_X5_placeOf σ a2 a3)))) (pc := 59) dX11_of_59 (z_ia zl_2 zh_2 (by decide)) rfl) (zand fun hz3 => q_iret (pc := 60) dX11_of_60 rfl rfl)))))) (fun hz2 => Eq.trans (Eq.trans (q_iconst (v := (-1)) (pc := 47) dX11_of_47 rfl) (Eq.trans (q_goto (tgt := 60) (pc := 48) dX11_of_48 rfl) (q_iret (pc := 60) dX11_of_60 rfl rfl))) (true_and _).symm)))))))))) (fun hz1 => Eq.trans (q_iload_n (pc := 6) dX11_of_6 rfl rfl) (Eq.trans (q_if_lt (tgt := 16) (pc := 7) dX11_of_7 rfl) (zitpi (fun hz4 => Eq.trans (Eq.trans (q_iconst (v := (-1)) (pc := 16) dX11_of_16 rfl) (Eq.trans (q_goto (tgt := 32) (pc := 17) dX11_of_17 rfl) (q_iret (pc := 32) dX11_of_32 rfl rfl))) (true_and _).symm) (fun hz4 => Eq.trans (q_iload_n (pc := 10) dX11_of_10 rfl rfl) (Eq.trans (q_bipush (v := 16) (pc := 11) dX11_of_11 rfl) (Eq.trans (q_icmp_lt (tgt := 20) (pc := 13) dX11_of_13 rfl) (zitpi (fun hz5 => Eq.trans (q_aload_n (pc := 20) dX11_of_20 rfl rfl) (Eq.trans (q_getf (pc := 21) dX11_of_21 zF_11_42 (z_rfr zl_0 zh_0 (by decide) rfl)) (Eq.trans (q_getf (pc := 24) dX11_of_24 zF_11_62 (z_rfr zl_17 zh_17 (by decide) rfl)) (Eq.trans (q_getf (pc := 27) dX11_of_27 zF_11_128 (z_rfr zl_18 zh_18 (by decide) rfl)) (Eq.trans (q_iload_n (pc := 30) dX11_of_30 rfl rfl) (Eq.trans (qe_iaload (x := (gi σ 19 (ix a2))) (pc := 31) dX11_of_31 (z_ia zl_19 zh_19 (by decide)) rfl) (zand fun hz6 => q_iret (pc := 32) dX11_of_32 rfl rfl))))))) (fun hz5 => Eq.trans (Eq.trans (q_iconst (v := (-1)) (pc := 16) dX11_of_16 rfl) (Eq.trans (q_goto (tgt := 32) (pc := 17) dX11_of_17 rfl) (q_iret (pc := 32) dX11_of_32 rfl rfl))) (true_and _).symm)))))))))))
def f_X8_held (σ : zS) (r1 : Nat) (a2 : Int64) : Int64 := (if (gi σ r1 3) = 0 then (Int32.toInt64 ((Int32.toInt8 (Int64.toInt32 a2)).toInt32)) else (if (gi σ r1 3) = 1 then (Int32.toInt64 ((Int32.toInt16 (Int64.toInt32 a2)).toInt32)) else (if (gi σ r1 3) = 2 then (Int32.toInt64 (Int64.toInt32 a2)) else (if (gi σ r1 3) = 4 then (if (lg_cmp a2 0) = 0 then 0 else 1) else a2))))
theorem s_X8_held {X : zX} {d : Nat} {Q : Option Value → zH → Prop} (σ : zS) (r1 : Nat) (a2 : Int64) (h1 : zisS r1 = true) : zwp X d MX8_held 0 [.ref r1, .long a2, .null] [] (zen σ) Q = Q (some (.long (f_X8_held σ r1 a2))) (zen σ) :=
  Eq.trans (q_aload_n (pc := 0) dX8_held_0 rfl rfl) (Eq.trans (q_getf (pc := 1) dX8_held_1 zF_8_22 (z_rfiE (x := (gi σ r1 3)) (zS_1 h1).2.2.1 (zS_1 h1).1 (by decide) rfl rfl)) (Eq.trans (q_tsw (pc := 4) dX8_held_4 rfl (by decide) (by decide) (by decide)) (Eq.trans (zif_intro (c := (gi σ r1 3) = 0)) (zitj (fun hz1 => Eq.trans (zpc_eq (pc' := 40) (zsw_at hz1 (by decide))) (Eq.trans (q_lload_n (pc := 40) dX8_held_40 rfl rfl) (Eq.trans (q_l2i (pc := 41) dX8_held_41) (Eq.trans (q_i2b (pc := 42) dX8_held_42) (Eq.trans (q_i2l (pc := 43) dX8_held_43) (q_lret (pc := 44) dX8_held_44 rfl)))))) (fun hz1 => Eq.trans (zif_intro (c := (gi σ r1 3) = 1)) (zitj (fun hz2 => Eq.trans (zpc_eq (pc' := 45) (zsw_at hz2 (by decide))) (Eq.trans (q_lload_n (pc := 45) dX8_held_45 rfl rfl) (Eq.trans (q_l2i (pc := 46) dX8_held_46) (Eq.trans (q_i2s (pc := 47) dX8_held_47) (Eq.trans (q_i2l (pc := 48) dX8_held_48) (q_lret (pc := 49) dX8_held_49 rfl)))))) (fun hz2 => Eq.trans (zif_intro (c := (gi σ r1 3) = 2)) (zitj (fun hz3 => Eq.trans (zpc_eq (pc' := 50) (zsw_at hz3 (by decide))) (Eq.trans (q_lload_n (pc := 50) dX8_held_50 rfl rfl) (Eq.trans (q_l2i (pc := 51) dX8_held_51) (Eq.trans (q_i2l (pc := 52) dX8_held_52) (q_lret (pc := 53) dX8_held_53 rfl))))) (fun hz3 => Eq.trans (zif_intro (c := (gi σ r1 3) = 4)) (zitj (fun hz4 => Eq.trans (zpc_eq (pc' := 54) (zsw_at hz4 (by decide))) (Eq.trans (q_lload_n (pc := 54) dX8_held_54 rfl rfl) (Eq.trans (q_lconst (v := 0) (pc := 55) dX8_held_55 rfl) (Eq.trans (q_lcmp (pc := 56) dX8_held_56) (Eq.trans (q_if_eq (tgt := 64) (pc := 57) dX8_held_57 rfl) (zitj (fun hz5 => Eq.trans (q_lconst (v := 0) (pc := 64) dX8_held_64 rfl) (q_lret (pc := 65) dX8_held_65 rfl)) (fun hz5 => Eq.trans (q_lconst (v := 1) (pc := 60) dX8_held_60 rfl) (Eq.trans (q_goto (tgt := 65) (pc := 61) dX8_held_61 rfl) (q_lret (pc := 65) dX8_held_65 rfl))))))))) (fun hz4 => Eq.trans (zpc_eq (pc' := 66) (zsw_df [0, 1, 2, 4] (by decide) (by decide) ⟨hz1, hz2, hz3, hz4, trivial⟩)) (Eq.trans (q_lload_n (pc := 66) dX8_held_66 rfl rfl) (q_lret (pc := 67) dX8_held_67 rfl)))))))))))))
def p_X8_set (σ : zS) (r1 : Nat) (a2 : Int32) (a3 : Int64) : Prop := zin a2 60 = true
def g_X8_set (σ : zS) (r1 : Nat) (a2 : Int32) (a3 : Int64) : zS := (sl σ (r1 + 1) (ix a2) (f_X8_held σ r1 a3))
theorem s_X8_set {X : zX} {d : Nat} {Q : Option Value → zH → Prop} (hd : 1 ≤ d) (σ : zS) (r1 : Nat) (a2 : Int32) (a3 : Int64) (h1 : zisS r1 = true) : zwp X d MX8_set 0 [.ref r1, .int a2, .long a3, .null] [] (zen σ) Q = (p_X8_set σ r1 a2 a3 ∧ Q none (zen (g_X8_set σ r1 a2 a3))) :=
  Eq.trans (q_aload_n (pc := 0) dX8_set_0 rfl rfl) (Eq.trans (q_getf (pc := 1) dX8_set_1 zF_8_11 (z_rfr (zS_1 h1).2.2.1 (zS_1 h1).1 (by decide) rfl)) (Eq.trans (q_iload_n (pc := 4) dX8_set_4 rfl rfl) (Eq.trans (q_aload_n (pc := 5) dX8_set_5 rfl rfl) (Eq.trans (q_lload_n (pc := 6) dX8_set_6 rfl rfl) (Eq.trans (q_sumJ (q_callV (as := [.long a3]) (rest := [.int a2, .ref (r1 + 1)]) (l0 := [.ref r1, .long a3, .null]) (pc := 7) dX8_set_7 zC_8_34 rfl (z_recv (zS_1 h1).2.2.1 (zS_1 h1).1) rfl rfl) (by omega) (s_X8_held σ r1 a3 h1)) (Eq.trans (q_lastore (pc := 10) dX8_set_10 (z_la (zS_1 h1).2.2.2 (zS_1 h1).2.1) (z_pl (zS_1 h1).2.2.2 (zS_1 h1).2.1)) (zand fun hz1 => q_vret (pc := 11) dX8_set_11 rfl)))))))
def f_X11_put (σ : zS) (a2 : Int32) (a3 : Int32) (a4 : Int64) : Int32 := (if (f_X11_refusalOfPlace σ a2 a3) = 0 then 1 else (f_X11_refusalOfPlace σ a2 a3))
def p_X11_put (σ : zS) (a2 : Int32) (a3 : Int32) (a4 : Int64) : Prop := (p_X11_refusalOfPlace σ a2 a3 ∧ (if (f_X11_refusalOfPlace σ a2 a3) = 0 then (zin a2 6 = true ∧ p_X8_set σ (29 + 2 * ix a2) a3 a4) else True))
def g_X11_put (σ : zS) (a2 : Int32) (a3 : Int32) (a4 : Int64) : zS := (if (f_X11_refusalOfPlace σ a2 a3) = 0 then (g_X8_set σ (29 + 2 * ix a2) a3 a4) else σ)
theorem s_X11_put {X : zX} {d : Nat} {Q : Option Value → zH → Prop} (hd : 3 ≤ d) (σ : zS) (a2 : Int32) (a3 : Int32) (a4 : Int64)  : zwp X d MX11_put 0 [.ref 0, .int a2, .int a3, .long a4, .null, .null] [] (zen σ) Q = (p_X11_put σ a2 a3 a4 ∧ Q (some (.int (f_X11_put σ a2 a3 a4))) (zen (g_X11_put σ a2 a3 a4))) :=
  Eq.trans (q_aload_n (pc := 0) dX11_put_0 rfl rfl) (Eq.trans (q_iload_n (pc := 1) dX11_put_1 rfl rfl) (Eq.trans (q_iload_n (pc := 2) dX11_put_2 rfl rfl) (Eq.trans (Eq.trans (q_sumIP (q_callV (as := [.int a2, .int a3]) (rest := []) (l0 := [.ref 0, .int a2, .int a3, .null]) (pc := 3) dX11_put_3 zC_11_310 rfl (z_recv zl_0 zh_0) rfl rfl) (by omega) (s_X11_refusalOfPlace (hd := by omega) σ a2 a3)) (zand fun hz1 => Eq.trans (q_istore (ls' := [.ref 0, .int a2, .int a3, .long a4, .null, .int (f_X11_refusalOfPlace σ a2 a3)]) (pc := 6) dX11_put_6 (Nat.le_of_ble_eq_true rfl) rfl) (Eq.trans (q_iload (pc := 8) dX11_put_8 rfl) (Eq.trans (q_if_eq (tgt := 16) (pc := 10) dX11_put_10 rfl) (zitpis (fun hz2 => Eq.trans (q_aload_n (pc := 16) dX11_put_16 rfl rfl) (Eq.trans (q_getf (pc := 17) dX11_put_17 zF_11_55 (z_rfr zl_0 zh_0 (by decide) rfl)) (Eq.trans (q_iload_n (pc := 20) dX11_put_20 rfl rfl) (Eq.trans (Eq.trans (q_aaload (pc := 21) dX11_put_21 (z_ra zl_28 zh_28 (by decide)) zra28) (zand fun hz3 => Eq.trans (q_iload_n (pc := 22) dX11_put_22 rfl rfl) (Eq.trans (q_lload_n (pc := 23) dX11_put_23 rfl rfl) (Eq.trans (q_sumNP (q_callV (as := [.int a3, .long a4]) (rest := []) (l0 := [.ref (29 + 2 * ix a2), .int a3, .long a4, .null]) (pc := 24) dX11_put_24 zC_11_313 rfl (z_recv (zS_1 (zS_at hz3)).2.2.1 (zS_1 (zS_at hz3)).1) rfl rfl) (by omega) (s_X8_set (hd := by omega) σ (29 + 2 * ix a2) a3 a4 (zS_at hz3))) (zand fun hz4 => Eq.trans (q_iconst (v := 1) (pc := 27) dX11_put_27 rfl) (q_iret (pc := 28) dX11_put_28 rfl rfl)))))) zassoc)))) (fun hz2 => Eq.trans (Eq.trans (q_iload (pc := 13) dX11_put_13 rfl) (q_iret (pc := 15) dX11_put_15 rfl rfl)) (true_and _).symm)))))) zassoc)))
def f_X3_doAgain (σ : zS) : Int32 := ((gi (g_X5_change σ (gi σ 25 (ix (gi σ 24 3))) (gi σ 27 (ix (gi σ 24 3)))) 24 4) - ((gi (g_X5_change σ (gi σ 25 (ix (gi σ 24 3))) (gi σ 27 (ix (gi σ 24 3)))) 24 3) + 1))
def p_X3_doAgain (σ : zS) : Prop := (zin (gi σ 24 3) 40 = true ∧ (zin (gi σ 24 3) 40 = true ∧ p_X5_change σ (gi σ 25 (ix (gi σ 24 3))) (gi σ 27 (ix (gi σ 24 3)))))
def g_X3_doAgain (σ : zS) : zS := (si (g_X5_change σ (gi σ 25 (ix (gi σ 24 3))) (gi σ 27 (ix (gi σ 24 3)))) 24 3 ((gi (g_X5_change σ (gi σ 25 (ix (gi σ 24 3))) (gi σ 27 (ix (gi σ 24 3)))) 24 3) + 1))
theorem s_X3_doAgain {X : zX} {d : Nat} {Q : Option Value → zH → Prop} (hd : 1 ≤ d) (σ : zS)  : zwp X d MX3_doAgain 0 [.ref 24, .ref 1] [] (zen σ) Q = (p_X3_doAgain σ ∧ Q (some (.int (f_X3_doAgain σ))) (zen (g_X3_doAgain σ))) :=
  Eq.trans (q_aload_n (pc := 0) dX3_doAgain_0 rfl rfl) (Eq.trans (q_aload_n (pc := 1) dX3_doAgain_1 rfl rfl) (Eq.trans (q_getf (pc := 2) dX3_doAgain_2 zF_3_9 (z_rfr zl_24 zh_24 (by decide) rfl)) (Eq.trans (q_aload_n (pc := 5) dX3_doAgain_5 rfl rfl) (Eq.trans (q_getf (pc := 6) dX3_doAgain_6 zF_3_19 (z_rfiE (x := (gi σ 24 3)) zl_24 zh_24 (by decide) rfl rfl)) (Eq.trans (Eq.trans (qe_iaload (x := (gi σ 25 (ix (gi σ 24 3)))) (pc := 9) dX3_doAgain_9 (z_ia zl_25 zh_25 (by decide)) rfl) (zand fun hz1 => Eq.trans (q_aload_n (pc := 10) dX3_doAgain_10 rfl rfl) (Eq.trans (q_getf (pc := 11) dX3_doAgain_11 zF_3_16 (z_rfr zl_24 zh_24 (by decide) rfl)) (Eq.trans (q_aload_n (pc := 14) dX3_doAgain_14 rfl rfl) (Eq.trans (q_getf (pc := 15) dX3_doAgain_15 zF_3_19 (z_rfiE (x := (gi σ 24 3)) zl_24 zh_24 (by decide) rfl rfl)) (Eq.trans (Eq.trans (qe_iaload (x := (gi σ 27 (ix (gi σ 24 3)))) (pc := 18) dX3_doAgain_18 (z_ia zl_27 zh_27 (by decide)) rfl) (zand fun hz2 => Eq.trans (q_sumNP (q_callV (as := [.int (gi σ 25 (ix (gi σ 24 3))), .int (gi σ 27 (ix (gi σ 24 3)))]) (rest := []) (l0 := [.ref 1, .int (gi σ 25 (ix (gi σ 24 3))), .int (gi σ 27 (ix (gi σ 24 3)))]) (pc := 19) dX3_doAgain_19 zC_3_35 rfl (z_recv zl_1 zh_1) rfl rfl) (by omega) (s_X5_change σ (gi σ 25 (ix (gi σ 24 3))) (gi σ 27 (ix (gi σ 24 3))))) (zand fun hz3 => Eq.trans (q_aload_n (pc := 22) dX3_doAgain_22 rfl rfl) (Eq.trans (q_dup_ref (pc := 23) dX3_doAgain_23) (Eq.trans (q_getf (pc := 24) dX3_doAgain_24 zF_3_19 (z_rfiE (x := (gi (g_X5_change σ (gi σ 25 (ix (gi σ 24 3))) (gi σ 27 (ix (gi σ 24 3)))) 24 3)) zl_24 zh_24 (by decide) rfl rfl)) (Eq.trans (q_iconst (v := 1) (pc := 27) dX3_doAgain_27 rfl) (Eq.trans (q_iadd (pc := 28) dX3_doAgain_28) (Eq.trans (q_pf (pc := 29) dX3_doAgain_29 zF_3_19 zPF_3_3 (z_pf zl_24 zh_24 rfl)) (Eq.trans (q_aload_n (pc := 32) dX3_doAgain_32 rfl rfl) (Eq.trans (q_getf (pc := 33) dX3_doAgain_33 zF_3_26 (z_rfiE (x := (gi (g_X5_change σ (gi σ 25 (ix (gi σ 24 3))) (gi σ 27 (ix (gi σ 24 3)))) 24 4)) zl_24 zh_24 (by decide) rfl rfl)) (Eq.trans (q_aload_n (pc := 36) dX3_doAgain_36 rfl rfl) (Eq.trans (q_getf (pc := 37) dX3_doAgain_37 zF_3_19 (z_rfiE (x := ((gi (g_X5_change σ (gi σ 25 (ix (gi σ 24 3))) (gi σ 27 (ix (gi σ 24 3)))) 24 3) + 1)) zl_24 zh_24 (by decide) rfl rfl)) (Eq.trans (q_isub (pc := 40) dX3_doAgain_40) (q_iret (pc := 41) dX3_doAgain_41 rfl rfl)))))))))))))) zassoc)))))) zassoc)))))
