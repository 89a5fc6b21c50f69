set_option maxRecDepth 100000
theorem dX12_count_0 : decode cX12_count 0 = .ok (.iload_n 1, 1) := by decide +kernel
theorem dX12_count_1 : decode cX12_count 1 = .ok (.tableswitch 69 0 5 #[39, 44, 49, 54, 59, 64], 39) := by decide +kernel
theorem dX12_count_40 : decode cX12_count 40 = .ok (.aload_n 0, 1) := by decide +kernel
theorem dX12_count_41 : decode cX12_count 41 = .ok (.getfield 125, 3) := by decide +kernel
theorem dX12_count_44 : decode cX12_count 44 = .ok (.ireturn, 1) := by decide +kernel
theorem dX12_count_45 : decode cX12_count 45 = .ok (.aload_n 0, 1) := by decide +kernel
theorem dX12_count_46 : decode cX12_count 46 = .ok (.getfield 132, 3) := by decide +kernel
theorem dX12_count_49 : decode cX12_count 49 = .ok (.ireturn, 1) := by decide +kernel
theorem dX12_count_50 : decode cX12_count 50 = .ok (.aload_n 0, 1) := by decide +kernel
theorem dX12_count_51 : decode cX12_count 51 = .ok (.getfield 178, 3) := by decide +kernel
theorem dX12_count_54 : decode cX12_count 54 = .ok (.ireturn, 1) := by decide +kernel
theorem dX12_count_55 : decode cX12_count 55 = .ok (.aload_n 0, 1) := by decide +kernel
theorem dX12_count_56 : decode cX12_count 56 = .ok (.getfield 155, 3) := by decide +kernel
theorem dX12_count_59 : decode cX12_count 59 = .ok (.ireturn, 1) := by decide +kernel
theorem dX12_count_60 : decode cX12_count 60 = .ok (.aload_n 0, 1) := by decide +kernel
theorem dX12_count_61 : decode cX12_count 61 = .ok (.getfield 364, 3) := by decide +kernel
theorem dX12_count_64 : decode cX12_count 64 = .ok (.ireturn, 1) := by decide +kernel
theorem dX12_count_65 : decode cX12_count 65 = .ok (.aload_n 0, 1) := by decide +kernel
theorem dX12_count_66 : decode cX12_count 66 = .ok (.getfield 367, 3) := by decide +kernel
theorem dX12_count_69 : decode cX12_count 69 = .ok (.ireturn, 1) := by decide +kernel
theorem dX12_count_70 : decode cX12_count 70 = .ok (.iconst (-1), 1) := by decide +kernel
theorem dX12_count_71 : decode cX12_count 71 = .ok (.ireturn, 1) := by decide +kernel
theorem dX12_whyNoPlace_0 : decode cX12_whyNoPlace 0 = .ok (.iload_n 1, 1) := by decide +kernel
theorem dX12_whyNoPlace_1 : decode cX12_whyNoPlace 1 = .ok (.invokestatic 139, 3) := by decide +kernel
theorem dX12_whyNoPlace_4 : decode cX12_whyNoPlace 4 = .ok (.ifCond .ne 5, 3) := by decide +kernel
theorem dX12_whyNoPlace_7 : decode cX12_whyNoPlace 7 = .ok (.iconst (-1), 1) := by decide +kernel
theorem dX12_whyNoPlace_8 : decode cX12_whyNoPlace 8 = .ok (.ireturn, 1) := by decide +kernel
theorem dX12_whyNoPlace_9 : decode cX12_whyNoPlace 9 = .ok (.aload_n 0, 1) := by decide +kernel
theorem dX12_whyNoPlace_10 : decode cX12_whyNoPlace 10 = .ok (.getfield 109, 3) := by decide +kernel
theorem dX12_whyNoPlace_13 : decode cX12_whyNoPlace 13 = .ok (.iload_n 1, 1) := by decide +kernel
theorem dX12_whyNoPlace_14 : decode cX12_whyNoPlace 14 = .ok (.iaload, 1) := by decide +kernel
theorem dX12_whyNoPlace_15 : decode cX12_whyNoPlace 15 = .ok (.iconst (-1), 1) := by decide +kernel
theorem dX12_whyNoPlace_16 : decode cX12_whyNoPlace 16 = .ok (.if_icmp .ne 6, 3) := by decide +kernel
theorem dX12_whyNoPlace_19 : decode cX12_whyNoPlace 19 = .ok (.bipush (-11), 2) := by decide +kernel
theorem dX12_whyNoPlace_21 : decode cX12_whyNoPlace 21 = .ok (.ireturn, 1) := by decide +kernel
theorem dX12_whyNoPlace_22 : decode cX12_whyNoPlace 22 = .ok (.aload_n 0, 1) := by decide +kernel
theorem dX12_whyNoPlace_23 : decode cX12_whyNoPlace 23 = .ok (.getfield 109, 3) := by decide +kernel
theorem dX12_whyNoPlace_26 : decode cX12_whyNoPlace 26 = .ok (.iload_n 1, 1) := by decide +kernel
theorem dX12_whyNoPlace_27 : decode cX12_whyNoPlace 27 = .ok (.iaload, 1) := by decide +kernel
theorem dX12_whyNoPlace_28 : decode cX12_whyNoPlace 28 = .ok (.ifCond .lt 6, 3) := by decide +kernel
theorem dX12_whyNoPlace_31 : decode cX12_whyNoPlace 31 = .ok (.bipush (-12), 2) := by decide +kernel
theorem dX12_whyNoPlace_33 : decode cX12_whyNoPlace 33 = .ok (.ireturn, 1) := by decide +kernel
theorem dX12_whyNoPlace_34 : decode cX12_whyNoPlace 34 = .ok (.iload_n 2, 1) := by decide +kernel
theorem dX12_whyNoPlace_35 : decode cX12_whyNoPlace 35 = .ok (.iconst 0, 1) := by decide +kernel
theorem dX12_whyNoPlace_36 : decode cX12_whyNoPlace 36 = .ok (.aload_n 0, 1) := by decide +kernel
theorem dX12_whyNoPlace_37 : decode cX12_whyNoPlace 37 = .ok (.getfield 112, 3) := by decide +kernel
theorem dX12_whyNoPlace_40 : decode cX12_whyNoPlace 40 = .ok (.iload_n 1, 1) := by decide +kernel
theorem dX12_whyNoPlace_41 : decode cX12_whyNoPlace 41 = .ok (.iaload, 1) := by decide +kernel
theorem dX12_whyNoPlace_42 : decode cX12_whyNoPlace 42 = .ok (.iconst 1, 1) := by decide +kernel
theorem dX12_whyNoPlace_43 : decode cX12_whyNoPlace 43 = .ok (.isub, 1) := by decide +kernel
theorem dX12_whyNoPlace_44 : decode cX12_whyNoPlace 44 = .ok (.invokestatic 128, 3) := by decide +kernel
theorem dX12_whyNoPlace_47 : decode cX12_whyNoPlace 47 = .ok (.ifCond .eq 7, 3) := by decide +kernel
theorem dX12_whyNoPlace_50 : decode cX12_whyNoPlace 50 = .ok (.iconst 0, 1) := by decide +kernel
theorem dX12_whyNoPlace_51 : decode cX12_whyNoPlace 51 = .ok (.goto 5, 3) := by decide +kernel
theorem dX12_whyNoPlace_54 : decode cX12_whyNoPlace 54 = .ok (.bipush (-13), 2) := by decide +kernel
theorem dX12_whyNoPlace_56 : decode cX12_whyNoPlace 56 = .ok (.ireturn, 1) := by decide +kernel
theorem dX12_element_0 : decode cX12_element 0 = .ok (.aload_n 0, 1) := by decide +kernel
theorem dX12_element_1 : decode cX12_element 1 = .ok (.iload_n 1, 1) := by decide +kernel
theorem dX12_element_2 : decode cX12_element 2 = .ok (.iload_n 2, 1) := by decide +kernel
theorem dX12_element_3 : decode cX12_element 3 = .ok (.invokevirtual 412, 3) := by decide +kernel
theorem dX12_element_6 : decode cX12_element 6 = .ok (.ifCond .ge 9, 3) := by decide +kernel
theorem dX12_element_9 : decode cX12_element 9 = .ok (.ldc2_w 417, 3) := by decide +kernel
theorem dX12_element_12 : decode cX12_element 12 = .ok (.goto 14, 3) := by decide +kernel
theorem dX12_element_15 : decode cX12_element 15 = .ok (.aload_n 0, 1) := by decide +kernel
theorem dX12_element_16 : decode cX12_element 16 = .ok (.getfield 115, 3) := by decide +kernel
theorem dX12_element_19 : decode cX12_element 19 = .ok (.bipush 60, 2) := by decide +kernel
theorem dX12_element_21 : decode cX12_element 21 = .ok (.iload_n 1, 1) := by decide +kernel
theorem dX12_element_22 : decode cX12_element 22 = .ok (.imul, 1) := by decide +kernel
theorem dX12_element_23 : decode cX12_element 23 = .ok (.iload_n 2, 1) := by decide +kernel
theorem dX12_element_24 : decode cX12_element 24 = .ok (.iadd, 1) := by decide +kernel
theorem dX12_element_25 : decode cX12_element 25 = .ok (.laload, 1) := by decide +kernel
theorem dX12_element_26 : decode cX12_element 26 = .ok (.lreturn, 1) := by decide +kernel
theorem dX12_feed_0 : decode cX12_feed 0 = .ok (.iload_n 1, 1) := by decide +kernel
theorem dX12_feed_1 : decode cX12_feed 1 = .ok (.iconst 0, 1) := by decide +kernel
theorem dX12_feed_2 : decode cX12_feed 2 = .ok (.sipush 255, 3) := by decide +kernel
theorem dX12_feed_5 : decode cX12_feed 5 = .ok (.invokestatic 128, 3) := by decide +kernel
theorem dX12_feed_8 : decode cX12_feed 8 = .ok (.ifCond .ne 5, 3) := by decide +kernel
theorem dX12_feed_11 : decode cX12_feed 11 = .ok (.iconst (-1), 1) := by decide +kernel
theorem dX12_feed_12 : decode cX12_feed 12 = .ok (.ireturn, 1) := by decide +kernel
theorem dX12_feed_13 : decode cX12_feed 13 = .ok (.aload_n 0, 1) := by decide +kernel
theorem dX12_feed_14 : decode cX12_feed 14 = .ok (.getfield 178, 3) := by decide +kernel
theorem dX12_feed_17 : decode cX12_feed 17 = .ok (.bipush 120, 2) := by decide +kernel
theorem dX12_feed_19 : decode cX12_feed 19 = .ok (.if_icmp .ne 6, 3) := by decide +kernel
theorem dX12_feed_22 : decode cX12_feed 22 = .ok (.bipush (-3), 2) := by decide +kernel
theorem dX12_feed_24 : decode cX12_feed 24 = .ok (.ireturn, 1) := by decide +kernel
theorem dX12_feed_25 : decode cX12_feed 25 = .ok (.aload_n 0, 1) := by decide +kernel
theorem dX12_feed_26 : decode cX12_feed 26 = .ok (.getfield 50, 3) := by decide +kernel
theorem dX12_feed_29 : decode cX12_feed 29 = .ok (.aload_n 0, 1) := by decide +kernel
theorem dX12_feed_30 : decode cX12_feed 30 = .ok (.getfield 178, 3) := by decide +kernel
theorem dX12_feed_33 : decode cX12_feed 33 = .ok (.iload_n 1, 1) := by decide +kernel
theorem dX12_feed_34 : decode cX12_feed 34 = .ok (.i2b, 1) := by decide +kernel
theorem dX12_feed_35 : decode cX12_feed 35 = .ok (.bastore, 1) := by decide +kernel
theorem dX12_feed_36 : decode cX12_feed 36 = .ok (.aload_n 0, 1) := by decide +kernel
theorem dX12_feed_37 : decode cX12_feed 37 = .ok (.dup, 1) := by decide +kernel
theorem dX12_feed_38 : decode cX12_feed 38 = .ok (.getfield 178, 3) := by decide +kernel
theorem dX12_feed_41 : decode cX12_feed 41 = .ok (.iconst 1, 1) := by decide +kernel
theorem dX12_feed_42 : decode cX12_feed 42 = .ok (.iadd, 1) := by decide +kernel
theorem dX12_feed_43 : decode cX12_feed 43 = .ok (.putfield 178, 3) := by decide +kernel
theorem dX12_feed_46 : decode cX12_feed 46 = .ok (.aload_n 0, 1) := by decide +kernel
theorem dX12_feed_47 : decode cX12_feed 47 = .ok (.getfield 178, 3) := by decide +kernel
theorem dX12_feed_50 : decode cX12_feed 50 = .ok (.ireturn, 1) := by decide +kernel
theorem dX12_hands_0 : decode cX12_hands 0 = .ok (.iload_n 1, 1) := by decide +kernel
theorem dX12_hands_1 : decode cX12_hands 1 = .ok (.iconst 0, 1) := by decide +kernel
theorem dX12_hands_2 : decode cX12_hands 2 = .ok (.bipush 99, 2) := by decide +kernel
theorem dX12_hands_4 : decode cX12_hands 4 = .ok (.invokestatic 128, 3) := by decide +kernel
theorem dX12_hands_7 : decode cX12_hands 7 = .ok (.ifCond .eq 13, 3) := by decide +kernel
theorem dX12_hands_10 : decode cX12_hands 10 = .ok (.iload_n 2, 1) := by decide +kernel
theorem dX12_hands_11 : decode cX12_hands 11 = .ok (.iconst 0, 1) := by decide +kernel
theorem dX12_hands_12 : decode cX12_hands 12 = .ok (.bipush 15, 2) := by decide +kernel
theorem dX12_hands_14 : decode cX12_hands 14 = .ok (.invokestatic 128, 3) := by decide +kernel
theorem dX12_hands_17 : decode cX12_hands 17 = .ok (.ifCond .ne 5, 3) := by decide +kernel
theorem dX12_hands_20 : decode cX12_hands 20 = .ok (.iconst (-1), 1) := by decide +kernel
theorem dX12_hands_21 : decode cX12_hands 21 = .ok (.ireturn, 1) := by decide +kernel
theorem dX12_hands_22 : decode cX12_hands 22 = .ok (.aload_n 0, 1) := by decide +kernel
theorem dX12_hands_23 : decode cX12_hands 23 = .ok (.getfield 125, 3) := by decide +kernel
theorem dX12_hands_26 : decode cX12_hands 26 = .ok (.bipush 6, 2) := by decide +kernel
theorem dX12_hands_28 : decode cX12_hands 28 = .ok (.if_icmp .ne 8, 3) := by decide +kernel
theorem dX12_hands_31 : decode cX12_hands 31 = .ok (.bipush (-3), 2) := by decide +kernel
theorem dX12_hands_33 : decode cX12_hands 33 = .ok (.goto 10, 3) := by decide +kernel
theorem dX12_hands_36 : decode cX12_hands 36 = .ok (.aload_n 0, 1) := by decide +kernel
theorem dX12_hands_37 : decode cX12_hands 37 = .ok (.iload_n 1, 1) := by decide +kernel
theorem dX12_hands_38 : decode cX12_hands 38 = .ok (.iload_n 2, 1) := by decide +kernel
theorem dX12_hands_39 : decode cX12_hands 39 = .ok (.iconst 0, 1) := by decide +kernel
theorem dX12_hands_40 : decode cX12_hands 40 = .ok (.invokevirtual 135, 3) := by decide +kernel
theorem dX12_hands_43 : decode cX12_hands 43 = .ok (.ireturn, 1) := by decide +kernel
theorem dX12_isRow_0 : decode cX12_isRow 0 = .ok (.iload_n 1, 1) := by decide +kernel
theorem dX12_isRow_1 : decode cX12_isRow 1 = .ok (.iconst 0, 1) := by decide +kernel
theorem dX12_isRow_2 : decode cX12_isRow 2 = .ok (.aload_n 0, 1) := by decide +kernel
theorem dX12_isRow_3 : decode cX12_isRow 3 = .ok (.getfield 125, 3) := by decide +kernel
theorem dX12_isRow_6 : decode cX12_isRow 6 = .ok (.iconst 1, 1) := by decide +kernel
theorem dX12_isRow_7 : decode cX12_isRow 7 = .ok (.isub, 1) := by decide +kernel
theorem dX12_isRow_8 : decode cX12_isRow 8 = .ok (.invokestatic 128, 3) := by decide +kernel
theorem dX12_isRow_11 : decode cX12_isRow 11 = .ok (.ireturn, 1) := by decide +kernel
theorem dX12_isTurn_0 : decode cX12_isTurn 0 = .ok (.iload_n 1, 1) := by decide +kernel
theorem dX12_isTurn_1 : decode cX12_isTurn 1 = .ok (.iconst 0, 1) := by decide +kernel
theorem dX12_isTurn_2 : decode cX12_isTurn 2 = .ok (.aload_n 0, 1) := by decide +kernel
theorem dX12_isTurn_3 : decode cX12_isTurn 3 = .ok (.getfield 132, 3) := by decide +kernel
theorem dX12_isTurn_6 : decode cX12_isTurn 6 = .ok (.iconst 1, 1) := by decide +kernel
theorem dX12_isTurn_7 : decode cX12_isTurn 7 = .ok (.isub, 1) := by decide +kernel
theorem dX12_isTurn_8 : decode cX12_isTurn 8 = .ok (.invokestatic 128, 3) := by decide +kernel
theorem dX12_isTurn_11 : decode cX12_isTurn 11 = .ok (.ireturn, 1) := by decide +kernel
theorem dX12_isOne_0 : decode cX12_isOne 0 = .ok (.iload_n 2, 1) := by decide +kernel
theorem dX12_isOne_1 : decode cX12_isOne 1 = .ok (.iconst 0, 1) := by decide +kernel
theorem dX12_isOne_2 : decode cX12_isOne 2 = .ok (.iconst 3, 1) := by decide +kernel
theorem dX12_isOne_3 : decode cX12_isOne 3 = .ok (.invokestatic 128, 3) := by decide +kernel
theorem dX12_isOne_6 : decode cX12_isOne 6 = .ok (.ifCond .eq 11, 3) := by decide +kernel
theorem dX12_isOne_9 : decode cX12_isOne 9 = .ok (.aload_n 0, 1) := by decide +kernel
theorem dX12_isOne_10 : decode cX12_isOne 10 = .ok (.iload_n 1, 1) := by decide +kernel
theorem dX12_isOne_11 : decode cX12_isOne 11 = .ok (.invokevirtual 162, 3) := by decide +kernel
theorem dX12_isOne_14 : decode cX12_isOne 14 = .ok (.goto 40, 3) := by decide +kernel
theorem dX12_isOne_17 : decode cX12_isOne 17 = .ok (.iload_n 2, 1) := by decide +kernel
theorem dX12_isOne_18 : decode cX12_isOne 18 = .ok (.iconst 4, 1) := by decide +kernel
theorem dX12_isOne_19 : decode cX12_isOne 19 = .ok (.iconst 5, 1) := by decide +kernel
theorem dX12_isOne_20 : decode cX12_isOne 20 = .ok (.invokestatic 128, 3) := by decide +kernel
theorem dX12_isOne_23 : decode cX12_isOne 23 = .ok (.ifCond .eq 11, 3) := by decide +kernel
theorem dX12_isOne_26 : decode cX12_isOne 26 = .ok (.aload_n 0, 1) := by decide +kernel
theorem dX12_isOne_27 : decode cX12_isOne 27 = .ok (.iload_n 1, 1) := by decide +kernel
theorem dX12_isOne_28 : decode cX12_isOne 28 = .ok (.invokevirtual 165, 3) := by decide +kernel
theorem dX12_isOne_31 : decode cX12_isOne 31 = .ok (.goto 23, 3) := by decide +kernel
theorem dX12_isOne_34 : decode cX12_isOne 34 = .ok (.iload_n 2, 1) := by decide +kernel
theorem dX12_isOne_35 : decode cX12_isOne 35 = .ok (.bipush 6, 2) := by decide +kernel
theorem dX12_isOne_37 : decode cX12_isOne 37 = .ok (.bipush 9, 2) := by decide +kernel
theorem dX12_isOne_39 : decode cX12_isOne 39 = .ok (.invokestatic 128, 3) := by decide +kernel
theorem dX12_isOne_42 : decode cX12_isOne 42 = .ok (.ifCond .eq 11, 3) := by decide +kernel
theorem dX12_isOne_45 : decode cX12_isOne 45 = .ok (.iload_n 1, 1) := by decide +kernel
theorem dX12_isOne_46 : decode cX12_isOne 46 = .ok (.ifCond .ne 7, 3) := by decide +kernel
theorem dX12_isOne_49 : decode cX12_isOne 49 = .ok (.iconst 1, 1) := by decide +kernel
theorem dX12_isOne_50 : decode cX12_isOne 50 = .ok (.goto 4, 3) := by decide +kernel
theorem dX12_isOne_53 : decode cX12_isOne 53 = .ok (.iconst 0, 1) := by decide +kernel
theorem dX12_isOne_54 : decode cX12_isOne 54 = .ok (.ireturn, 1) := by decide +kernel
theorem dX12_isPlank_0 : decode cX12_isPlank 0 = .ok (.iload_n 1, 1) := by decide +kernel
theorem dX12_isPlank_1 : decode cX12_isPlank 1 = .ok (.iconst 0, 1) := by decide +kernel
theorem dX12_isPlank_2 : decode cX12_isPlank 2 = .ok (.aload_n 0, 1) := by decide +kernel
theorem dX12_isPlank_3 : decode cX12_isPlank 3 = .ok (.getfield 28, 3) := by decide +kernel
theorem dX12_isPlank_6 : decode cX12_isPlank 6 = .ok (.iconst 1, 1) := by decide +kernel
theorem dX12_isPlank_7 : decode cX12_isPlank 7 = .ok (.isub, 1) := by decide +kernel
theorem dX12_isPlank_8 : decode cX12_isPlank 8 = .ok (.invokestatic 128, 3) := by decide +kernel
theorem dX12_isPlank_11 : decode cX12_isPlank 11 = .ok (.ireturn, 1) := by decide +kernel
theorem dX12_keep_0 : decode cX12_keep 0 = .ok (.iload_n 1, 1) := by decide +kernel
theorem dX12_keep_1 : decode cX12_keep 1 = .ok (.invokestatic 139, 3) := by decide +kernel
theorem dX12_keep_4 : decode cX12_keep 4 = .ok (.ifCond .eq 16, 3) := by decide +kernel
theorem dX12_keep_7 : decode cX12_keep 7 = .ok (.iload_n 2, 1) := by decide +kernel
theorem dX12_keep_8 : decode cX12_keep 8 = .ok (.iconst (-1), 1) := by decide +kernel
theorem dX12_keep_9 : decode cX12_keep 9 = .ok (.if_icmp .eq 13, 3) := by decide +kernel
theorem dX12_keep_12 : decode cX12_keep 12 = .ok (.aload_n 0, 1) := by decide +kernel
theorem dX12_keep_13 : decode cX12_keep 13 = .ok (.iload_n 2, 1) := by decide +kernel
theorem dX12_keep_14 : decode cX12_keep 14 = .ok (.invokevirtual 406, 3) := by decide +kernel
theorem dX12_keep_17 : decode cX12_keep 17 = .ok (.ifCond .ne 5, 3) := by decide +kernel
theorem dX12_keep_20 : decode cX12_keep 20 = .ok (.iconst (-1), 1) := by decide +kernel
theorem dX12_keep_21 : decode cX12_keep 21 = .ok (.ireturn, 1) := by decide +kernel
theorem dX12_keep_22 : decode cX12_keep 22 = .ok (.aload_n 0, 1) := by decide +kernel
theorem dX12_keep_23 : decode cX12_keep 23 = .ok (.getfield 109, 3) := by decide +kernel
theorem dX12_keep_26 : decode cX12_keep 26 = .ok (.iload_n 1, 1) := by decide +kernel
theorem dX12_keep_27 : decode cX12_keep 27 = .ok (.iload_n 2, 1) := by decide +kernel
theorem dX12_keep_28 : decode cX12_keep 28 = .ok (.iastore, 1) := by decide +kernel
theorem dX12_keep_29 : decode cX12_keep 29 = .ok (.iconst 1, 1) := by decide +kernel
theorem dX12_keep_30 : decode cX12_keep 30 = .ok (.ireturn, 1) := by decide +kernel
theorem dX12_lays_0 : decode cX12_lays 0 = .ok (.iload_n 1, 1) := by decide +kernel
theorem dX12_lays_1 : decode cX12_lays 1 = .ok (.tableswitch 135 0 8 #[51, 61, 71, 81, 91, 101, 111, 119, 127], 51) := by decide +kernel
theorem dX12_lays_52 : decode cX12_lays 52 = .ok (.aload_n 0, 1) := by decide +kernel
theorem dX12_lays_53 : decode cX12_lays 53 = .ok (.getfield 7, 3) := by decide +kernel
theorem dX12_lays_56 : decode cX12_lays 56 = .ok (.iload_n 2, 1) := by decide +kernel
theorem dX12_lays_57 : decode cX12_lays 57 = .ok (.iload_n 3, 1) := by decide +kernel
theorem dX12_lays_58 : decode cX12_lays 58 = .ok (.iastore, 1) := by decide +kernel
theorem dX12_lays_59 : decode cX12_lays 59 = .ok (.goto 82, 3) := by decide +kernel
theorem dX12_lays_62 : decode cX12_lays 62 = .ok (.aload_n 0, 1) := by decide +kernel
theorem dX12_lays_63 : decode cX12_lays 63 = .ok (.getfield 13, 3) := by decide +kernel
theorem dX12_lays_66 : decode cX12_lays 66 = .ok (.iload_n 2, 1) := by decide +kernel
theorem dX12_lays_67 : decode cX12_lays 67 = .ok (.iload_n 3, 1) := by decide +kernel
theorem dX12_lays_68 : decode cX12_lays 68 = .ok (.iastore, 1) := by decide +kernel
theorem dX12_lays_69 : decode cX12_lays 69 = .ok (.goto 72, 3) := by decide +kernel
theorem dX12_lays_72 : decode cX12_lays 72 = .ok (.aload_n 0, 1) := by decide +kernel
theorem dX12_lays_73 : decode cX12_lays 73 = .ok (.getfield 16, 3) := by decide +kernel
theorem dX12_lays_76 : decode cX12_lays 76 = .ok (.iload_n 2, 1) := by decide +kernel
theorem dX12_lays_77 : decode cX12_lays 77 = .ok (.iload_n 3, 1) := by decide +kernel
theorem dX12_lays_78 : decode cX12_lays 78 = .ok (.iastore, 1) := by decide +kernel
theorem dX12_lays_79 : decode cX12_lays 79 = .ok (.goto 62, 3) := by decide +kernel
theorem dX12_lays_82 : decode cX12_lays 82 = .ok (.aload_n 0, 1) := by decide +kernel
theorem dX12_lays_83 : decode cX12_lays 83 = .ok (.getfield 19, 3) := by decide +kernel
theorem dX12_lays_86 : decode cX12_lays 86 = .ok (.iload_n 2, 1) := by decide +kernel
theorem dX12_lays_87 : decode cX12_lays 87 = .ok (.iload_n 3, 1) := by decide +kernel
theorem dX12_lays_88 : decode cX12_lays 88 = .ok (.iastore, 1) := by decide +kernel
theorem dX12_lays_89 : decode cX12_lays 89 = .ok (.goto 52, 3) := by decide +kernel
theorem dX12_lays_92 : decode cX12_lays 92 = .ok (.aload_n 0, 1) := by decide +kernel
theorem dX12_lays_93 : decode cX12_lays 93 = .ok (.getfield 22, 3) := by decide +kernel
theorem dX12_lays_96 : decode cX12_lays 96 = .ok (.iload_n 2, 1) := by decide +kernel
theorem dX12_lays_97 : decode cX12_lays 97 = .ok (.iload_n 3, 1) := by decide +kernel
theorem dX12_lays_98 : decode cX12_lays 98 = .ok (.iastore, 1) := by decide +kernel
theorem dX12_lays_99 : decode cX12_lays 99 = .ok (.goto 42, 3) := by decide +kernel
theorem dX12_lays_102 : decode cX12_lays 102 = .ok (.aload_n 0, 1) := by decide +kernel
theorem dX12_lays_103 : decode cX12_lays 103 = .ok (.getfield 25, 3) := by decide +kernel
theorem dX12_lays_106 : decode cX12_lays 106 = .ok (.iload_n 2, 1) := by decide +kernel
theorem dX12_lays_107 : decode cX12_lays 107 = .ok (.iload_n 3, 1) := by decide +kernel
theorem dX12_lays_108 : decode cX12_lays 108 = .ok (.iastore, 1) := by decide +kernel
theorem dX12_lays_109 : decode cX12_lays 109 = .ok (.goto 32, 3) := by decide +kernel
theorem dX12_lays_112 : decode cX12_lays 112 = .ok (.aload_n 0, 1) := by decide +kernel
theorem dX12_lays_113 : decode cX12_lays 113 = .ok (.iload_n 3, 1) := by decide +kernel
theorem dX12_lays_114 : decode cX12_lays 114 = .ok (.putfield 28, 3) := by decide +kernel
theorem dX12_lays_117 : decode cX12_lays 117 = .ok (.goto 24, 3) := by decide +kernel
theorem dX12_lays_120 : decode cX12_lays 120 = .ok (.aload_n 0, 1) := by decide +kernel
theorem dX12_lays_121 : decode cX12_lays 121 = .ok (.iload_n 3, 1) := by decide +kernel
theorem dX12_lays_122 : decode cX12_lays 122 = .ok (.putfield 32, 3) := by decide +kernel
theorem dX12_lays_125 : decode cX12_lays 125 = .ok (.goto 16, 3) := by decide +kernel
theorem dX12_lays_128 : decode cX12_lays 128 = .ok (.aload_n 0, 1) := by decide +kernel
theorem dX12_lays_129 : decode cX12_lays 129 = .ok (.iload_n 3, 1) := by decide +kernel
theorem dX12_lays_130 : decode cX12_lays 130 = .ok (.putfield 35, 3) := by decide +kernel
theorem dX12_lays_133 : decode cX12_lays 133 = .ok (.goto 8, 3) := by decide +kernel
theorem dX12_lays_136 : decode cX12_lays 136 = .ok (.aload_n 0, 1) := by decide +kernel
theorem dX12_lays_137 : decode cX12_lays 137 = .ok (.iload_n 3, 1) := by decide +kernel
theorem dX12_lays_138 : decode cX12_lays 138 = .ok (.putfield 145, 3) := by decide +kernel
theorem dX12_lays_141 : decode cX12_lays 141 = .ok (.return_, 1) := by decide +kernel
theorem dX12_led_0 : decode cX12_led 0 = .ok (.iload_n 1, 1) := by decide +kernel
theorem dX12_led_1 : decode cX12_led 1 = .ok (.iconst 0, 1) := by decide +kernel
theorem dX12_led_2 : decode cX12_led 2 = .ok (.iconst 4, 1) := by decide +kernel
theorem dX12_led_3 : decode cX12_led 3 = .ok (.invokestatic 128, 3) := by decide +kernel
theorem dX12_led_6 : decode cX12_led 6 = .ok (.ifCond .eq 12, 3) := by decide +kernel
theorem dX12_led_9 : decode cX12_led 9 = .ok (.aload_n 0, 1) := by decide +kernel
theorem dX12_led_10 : decode cX12_led 10 = .ok (.getfield 94, 3) := by decide +kernel
theorem dX12_led_13 : decode cX12_led 13 = .ok (.iload_n 1, 1) := by decide +kernel
theorem dX12_led_14 : decode cX12_led 14 = .ok (.iaload, 1) := by decide +kernel
theorem dX12_led_15 : decode cX12_led 15 = .ok (.goto 4, 3) := by decide +kernel
theorem dX12_led_18 : decode cX12_led 18 = .ok (.iconst (-1), 1) := by decide +kernel
theorem dX12_led_19 : decode cX12_led 19 = .ok (.ireturn, 1) := by decide +kernel
theorem dX12_look_0 : decode cX12_look 0 = .ok (.aload_n 0, 1) := by decide +kernel
theorem dX12_look_1 : decode cX12_look 1 = .ok (.getfield 181, 3) := by decide +kernel
theorem dX12_look_4 : decode cX12_look 4 = .ok (.aload_n 0, 1) := by decide +kernel
theorem dX12_look_5 : decode cX12_look 5 = .ok (.getfield 178, 3) := by decide +kernel
theorem dX12_look_8 : decode cX12_look 8 = .ok (.if_icmp .ge 15, 3) := by decide +kernel
theorem dX12_look_11 : decode cX12_look 11 = .ok (.aload_n 0, 1) := by decide +kernel
theorem dX12_look_12 : decode cX12_look 12 = .ok (.getfield 50, 3) := by decide +kernel
theorem dX12_look_15 : decode cX12_look 15 = .ok (.aload_n 0, 1) := by decide +kernel
theorem dX12_look_16 : decode cX12_look 16 = .ok (.getfield 181, 3) := by decide +kernel
theorem dX12_look_19 : decode cX12_look 19 = .ok (.baload, 1) := by decide +kernel
theorem dX12_look_20 : decode cX12_look 20 = .ok (.goto 4, 3) := by decide +kernel
theorem dX12_look_23 : decode cX12_look 23 = .ok (.iconst (-1), 1) := by decide +kernel
theorem dX12_look_24 : decode cX12_look 24 = .ok (.ireturn, 1) := by decide +kernel
theorem dX12_mayBe_0 : decode cX12_mayBe 0 = .ok (.iload_n 0, 1) := by decide +kernel
theorem dX12_mayBe_1 : decode cX12_mayBe 1 = .ok (.tableswitch 103 0 9 #[55, 63, 103, 103, 103, 71, 79, 103, 87, 95], 55) := by decide +kernel
theorem dX12_mayBe_56 : decode cX12_mayBe 56 = .ok (.iload_n 1, 1) := by decide +kernel
theorem dX12_mayBe_57 : decode cX12_mayBe 57 = .ok (.iconst 0, 1) := by decide +kernel
theorem dX12_mayBe_58 : decode cX12_mayBe 58 = .ok (.bipush 99, 2) := by decide +kernel
theorem dX12_mayBe_60 : decode cX12_mayBe 60 = .ok (.invokestatic 128, 3) := by decide +kernel
theorem dX12_mayBe_63 : decode cX12_mayBe 63 = .ok (.ireturn, 1) := by decide +kernel
theorem dX12_mayBe_64 : decode cX12_mayBe 64 = .ok (.iload_n 1, 1) := by decide +kernel
theorem dX12_mayBe_65 : decode cX12_mayBe 65 = .ok (.iconst 0, 1) := by decide +kernel
theorem dX12_mayBe_66 : decode cX12_mayBe 66 = .ok (.bipush 15, 2) := by decide +kernel
theorem dX12_mayBe_68 : decode cX12_mayBe 68 = .ok (.invokestatic 128, 3) := by decide +kernel
theorem dX12_mayBe_71 : decode cX12_mayBe 71 = .ok (.ireturn, 1) := by decide +kernel
theorem dX12_mayBe_72 : decode cX12_mayBe 72 = .ok (.iload_n 1, 1) := by decide +kernel
theorem dX12_mayBe_73 : decode cX12_mayBe 73 = .ok (.iconst 1, 1) := by decide +kernel
theorem dX12_mayBe_74 : decode cX12_mayBe 74 = .ok (.bipush 60, 2) := by decide +kernel
theorem dX12_mayBe_76 : decode cX12_mayBe 76 = .ok (.invokestatic 128, 3) := by decide +kernel
theorem dX12_mayBe_79 : decode cX12_mayBe 79 = .ok (.ireturn, 1) := by decide +kernel
theorem dX12_mayBe_80 : decode cX12_mayBe 80 = .ok (.iload_n 1, 1) := by decide +kernel
theorem dX12_mayBe_81 : decode cX12_mayBe 81 = .ok (.iconst 2, 1) := by decide +kernel
theorem dX12_mayBe_82 : decode cX12_mayBe 82 = .ok (.bipush 16, 2) := by decide +kernel
theorem dX12_mayBe_84 : decode cX12_mayBe 84 = .ok (.invokestatic 128, 3) := by decide +kernel
theorem dX12_mayBe_87 : decode cX12_mayBe 87 = .ok (.ireturn, 1) := by decide +kernel
theorem dX12_mayBe_88 : decode cX12_mayBe 88 = .ok (.iload_n 1, 1) := by decide +kernel
theorem dX12_mayBe_89 : decode cX12_mayBe 89 = .ok (.iconst 1, 1) := by decide +kernel
theorem dX12_mayBe_90 : decode cX12_mayBe 90 = .ok (.bipush 60, 2) := by decide +kernel
theorem dX12_mayBe_92 : decode cX12_mayBe 92 = .ok (.invokestatic 128, 3) := by decide +kernel
theorem dX12_mayBe_95 : decode cX12_mayBe 95 = .ok (.ireturn, 1) := by decide +kernel
theorem dX12_mayBe_96 : decode cX12_mayBe 96 = .ok (.iload_n 1, 1) := by decide +kernel
theorem dX12_mayBe_97 : decode cX12_mayBe 97 = .ok (.iconst 0, 1) := by decide +kernel
theorem dX12_mayBe_98 : decode cX12_mayBe 98 = .ok (.bipush 12, 2) := by decide +kernel
theorem dX12_mayBe_100 : decode cX12_mayBe 100 = .ok (.invokestatic 128, 3) := by decide +kernel
theorem dX12_mayBe_103 : decode cX12_mayBe 103 = .ok (.ireturn, 1) := by decide +kernel
theorem dX12_mayBe_104 : decode cX12_mayBe 104 = .ok (.iload_n 1, 1) := by decide +kernel
theorem dX12_mayBe_105 : decode cX12_mayBe 105 = .ok (.iconst 0, 1) := by decide +kernel
theorem dX12_mayBe_106 : decode cX12_mayBe 106 = .ok (.bipush 9, 2) := by decide +kernel
theorem dX12_mayBe_108 : decode cX12_mayBe 108 = .ok (.invokestatic 128, 3) := by decide +kernel
theorem dX12_mayBe_111 : decode cX12_mayBe 111 = .ok (.ireturn, 1) := by decide +kernel
theorem dX12_nameOf_0 : decode cX12_nameOf 0 = .ok (.iload_n 0, 1) := by decide +kernel
theorem dX12_nameOf_1 : decode cX12_nameOf 1 = .ok (.tableswitch 95 100 116 #[91, 89, 95, 83, 85, 93, 95, 95, 95, 95, 95, 95, 95, 95, 95, 95, 87], 83) := by decide +kernel
theorem dX12_nameOf_84 : decode cX12_nameOf 84 = .ok (.iconst 0, 1) := by decide +kernel
theorem dX12_nameOf_85 : decode cX12_nameOf 85 = .ok (.ireturn, 1) := by decide +kernel
theorem dX12_nameOf_86 : decode cX12_nameOf 86 = .ok (.iconst 1, 1) := by decide +kernel
theorem dX12_nameOf_87 : decode cX12_nameOf 87 = .ok (.ireturn, 1) := by decide +kernel
theorem dX12_nameOf_88 : decode cX12_nameOf 88 = .ok (.iconst 2, 1) := by decide +kernel
theorem dX12_nameOf_89 : decode cX12_nameOf 89 = .ok (.ireturn, 1) := by decide +kernel
theorem dX12_nameOf_90 : decode cX12_nameOf 90 = .ok (.iconst 3, 1) := by decide +kernel
theorem dX12_nameOf_91 : decode cX12_nameOf 91 = .ok (.ireturn, 1) := by decide +kernel
theorem dX12_nameOf_92 : decode cX12_nameOf 92 = .ok (.iconst 4, 1) := by decide +kernel
theorem dX12_nameOf_93 : decode cX12_nameOf 93 = .ok (.ireturn, 1) := by decide +kernel
theorem dX12_nameOf_94 : decode cX12_nameOf 94 = .ok (.iconst 5, 1) := by decide +kernel
theorem dX12_nameOf_95 : decode cX12_nameOf 95 = .ok (.ireturn, 1) := by decide +kernel
theorem dX12_nameOf_96 : decode cX12_nameOf 96 = .ok (.iconst (-1), 1) := by decide +kernel
theorem dX12_nameOf_97 : decode cX12_nameOf 97 = .ok (.ireturn, 1) := by decide +kernel
theorem dX12_valueAt_0 : decode cX12_valueAt 0 = .ok (.iload_n 1, 1) := by decide +kernel
theorem dX12_valueAt_1 : decode cX12_valueAt 1 = .ok (.tableswitch 108 0 8 #[51, 58, 65, 72, 79, 86, 93, 98, 103], 51) := by decide +kernel
theorem dX12_valueAt_52 : decode cX12_valueAt 52 = .ok (.aload_n 0, 1) := by decide +kernel
theorem dX12_valueAt_53 : decode cX12_valueAt 53 = .ok (.getfield 7, 3) := by decide +kernel
theorem dX12_valueAt_56 : decode cX12_valueAt 56 = .ok (.iload_n 2, 1) := by decide +kernel
theorem dX12_valueAt_57 : decode cX12_valueAt 57 = .ok (.iaload, 1) := by decide +kernel
theorem dX12_valueAt_58 : decode cX12_valueAt 58 = .ok (.ireturn, 1) := by decide +kernel
theorem dX12_valueAt_59 : decode cX12_valueAt 59 = .ok (.aload_n 0, 1) := by decide +kernel
theorem dX12_valueAt_60 : decode cX12_valueAt 60 = .ok (.getfield 13, 3) := by decide +kernel
theorem dX12_valueAt_63 : decode cX12_valueAt 63 = .ok (.iload_n 2, 1) := by decide +kernel
theorem dX12_valueAt_64 : decode cX12_valueAt 64 = .ok (.iaload, 1) := by decide +kernel
theorem dX12_valueAt_65 : decode cX12_valueAt 65 = .ok (.ireturn, 1) := by decide +kernel
theorem dX12_valueAt_66 : decode cX12_valueAt 66 = .ok (.aload_n 0, 1) := by decide +kernel
theorem dX12_valueAt_67 : decode cX12_valueAt 67 = .ok (.getfield 16, 3) := by decide +kernel
theorem dX12_valueAt_70 : decode cX12_valueAt 70 = .ok (.iload_n 2, 1) := by decide +kernel
theorem dX12_valueAt_71 : decode cX12_valueAt 71 = .ok (.iaload, 1) := by decide +kernel
theorem dX12_valueAt_72 : decode cX12_valueAt 72 = .ok (.ireturn, 1) := by decide +kernel
theorem dX12_valueAt_73 : decode cX12_valueAt 73 = .ok (.aload_n 0, 1) := by decide +kernel
theorem dX12_valueAt_74 : decode cX12_valueAt 74 = .ok (.getfield 19, 3) := by decide +kernel
theorem dX12_valueAt_77 : decode cX12_valueAt 77 = .ok (.iload_n 2, 1) := by decide +kernel
theorem dX12_valueAt_78 : decode cX12_valueAt 78 = .ok (.iaload, 1) := by decide +kernel
theorem dX12_valueAt_79 : decode cX12_valueAt 79 = .ok (.ireturn, 1) := by decide +kernel
theorem dX12_valueAt_80 : decode cX12_valueAt 80 = .ok (.aload_n 0, 1) := by decide +kernel
theorem dX12_valueAt_81 : decode cX12_valueAt 81 = .ok (.getfield 22, 3) := by decide +kernel
theorem dX12_valueAt_84 : decode cX12_valueAt 84 = .ok (.iload_n 2, 1) := by decide +kernel
theorem dX12_valueAt_85 : decode cX12_valueAt 85 = .ok (.iaload, 1) := by decide +kernel
theorem dX12_valueAt_86 : decode cX12_valueAt 86 = .ok (.ireturn, 1) := by decide +kernel
theorem dX12_valueAt_87 : decode cX12_valueAt 87 = .ok (.aload_n 0, 1) := by decide +kernel
theorem dX12_valueAt_88 : decode cX12_valueAt 88 = .ok (.getfield 25, 3) := by decide +kernel
theorem dX12_valueAt_91 : decode cX12_valueAt 91 = .ok (.iload_n 2, 1) := by decide +kernel
theorem dX12_valueAt_92 : decode cX12_valueAt 92 = .ok (.iaload, 1) := by decide +kernel
theorem dX12_valueAt_93 : decode cX12_valueAt 93 = .ok (.ireturn, 1) := by decide +kernel
theorem dX12_valueAt_94 : decode cX12_valueAt 94 = .ok (.aload_n 0, 1) := by decide +kernel
theorem dX12_valueAt_95 : decode cX12_valueAt 95 = .ok (.getfield 28, 3) := by decide +kernel
theorem dX12_valueAt_98 : decode cX12_valueAt 98 = .ok (.ireturn, 1) := by decide +kernel
theorem dX12_valueAt_99 : decode cX12_valueAt 99 = .ok (.aload_n 0, 1) := by decide +kernel
theorem dX12_valueAt_100 : decode cX12_valueAt 100 = .ok (.getfield 32, 3) := by decide +kernel
theorem dX12_valueAt_103 : decode cX12_valueAt 103 = .ok (.ireturn, 1) := by decide +kernel
theorem dX12_valueAt_104 : decode cX12_valueAt 104 = .ok (.aload_n 0, 1) := by decide +kernel
theorem dX12_valueAt_105 : decode cX12_valueAt 105 = .ok (.getfield 35, 3) := by decide +kernel
theorem dX12_valueAt_108 : decode cX12_valueAt 108 = .ok (.ireturn, 1) := by decide +kernel
theorem dX12_valueAt_109 : decode cX12_valueAt 109 = .ok (.aload_n 0, 1) := by decide +kernel
theorem dX12_valueAt_110 : decode cX12_valueAt 110 = .ok (.getfield 145, 3) := by decide +kernel
theorem dX12_valueAt_113 : decode cX12_valueAt 113 = .ok (.ireturn, 1) := by decide +kernel
theorem dX12_of_0 : decode cX12_of 0 = .ok (.iload_n 2, 1) := by decide +kernel
theorem dX12_of_1 : decode cX12_of 1 = .ok (.bipush 10, 2) := by decide +kernel
theorem dX12_of_3 : decode cX12_of 3 = .ok (.if_icmp .ne 24, 3) := by decide +kernel
theorem dX12_of_6 : decode cX12_of 6 = .ok (.iload_n 1, 1) := by decide +kernel
theorem dX12_of_7 : decode cX12_of 7 = .ok (.iconst 0, 1) := by decide +kernel
theorem dX12_of_8 : decode cX12_of 8 = .ok (.bipush 15, 2) := by decide +kernel
theorem dX12_of_10 : decode cX12_of 10 = .ok (.invokestatic 128, 3) := by decide +kernel
theorem dX12_of_13 : decode cX12_of 13 = .ok (.ifCond .eq 12, 3) := by decide +kernel
theorem dX12_of_16 : decode cX12_of 16 = .ok (.aload_n 0, 1) := by decide +kernel
theorem dX12_of_17 : decode cX12_of 17 = .ok (.getfield 76, 3) := by decide +kernel
theorem dX12_of_20 : decode cX12_of 20 = .ok (.iload_n 1, 1) := by decide +kernel
theorem dX12_of_21 : decode cX12_of 21 = .ok (.iaload, 1) := by decide +kernel
theorem dX12_of_22 : decode cX12_of 22 = .ok (.goto 4, 3) := by decide +kernel
theorem dX12_of_25 : decode cX12_of 25 = .ok (.iconst (-1), 1) := by decide +kernel
theorem dX12_of_26 : decode cX12_of 26 = .ok (.ireturn, 1) := by decide +kernel
theorem dX12_of_27 : decode cX12_of 27 = .ok (.aload_n 0, 1) := by decide +kernel
theorem dX12_of_28 : decode cX12_of 28 = .ok (.iload_n 1, 1) := by decide +kernel
theorem dX12_of_29 : decode cX12_of 29 = .ok (.iload_n 2, 1) := by decide +kernel
theorem dX12_of_30 : decode cX12_of 30 = .ok (.invokevirtual 168, 3) := by decide +kernel
theorem dX12_of_33 : decode cX12_of 33 = .ok (.ifCond .eq 12, 3) := by decide +kernel
theorem dX12_of_36 : decode cX12_of 36 = .ok (.aload_n 0, 1) := by decide +kernel
theorem dX12_of_37 : decode cX12_of 37 = .ok (.iload_n 2, 1) := by decide +kernel
theorem dX12_of_38 : decode cX12_of 38 = .ok (.iload_n 1, 1) := by decide +kernel
theorem dX12_of_39 : decode cX12_of 39 = .ok (.invokevirtual 148, 3) := by decide +kernel
theorem dX12_of_42 : decode cX12_of 42 = .ok (.goto 4, 3) := by decide +kernel
theorem dX12_of_45 : decode cX12_of 45 = .ok (.iconst (-1), 1) := by decide +kernel
theorem dX12_of_46 : decode cX12_of 46 = .ok (.ireturn, 1) := by decide +kernel
theorem dX12_wrong_0 : decode cX12_wrong 0 = .ok (.aload_n 0, 1) := by decide +kernel
theorem dX12_wrong_1 : decode cX12_wrong 1 = .ok (.getfield 184, 3) := by decide +kernel
theorem dX12_wrong_4 : decode cX12_wrong 4 = .ok (.ifCond .ge 11, 3) := by decide +kernel
theorem dX12_wrong_7 : decode cX12_wrong 7 = .ok (.aload_n 0, 1) := by decide +kernel
theorem dX12_wrong_8 : decode cX12_wrong 8 = .ok (.aload_n 0, 1) := by decide +kernel
theorem dX12_wrong_9 : decode cX12_wrong 9 = .ok (.getfield 181, 3) := by decide +kernel
theorem dX12_wrong_12 : decode cX12_wrong 12 = .ok (.putfield 184, 3) := by decide +kernel
theorem dX12_wrong_15 : decode cX12_wrong 15 = .ok (.return_, 1) := by decide +kernel
theorem dX12_opens_0 : decode cX12_opens 0 = .ok (.aload_n 0, 1) := by decide +kernel
theorem dX12_opens_1 : decode cX12_opens 1 = .ok (.getfield 190, 3) := by decide +kernel
theorem dX12_opens_4 : decode cX12_opens 4 = .ok (.bipush 6, 2) := by decide +kernel
theorem dX12_opens_6 : decode cX12_opens 6 = .ok (.if_icmp .ne 9, 3) := by decide +kernel
theorem dX12_opens_9 : decode cX12_opens 9 = .ok (.aload_n 0, 1) := by decide +kernel
theorem dX12_opens_10 : decode cX12_opens 10 = .ok (.invokevirtual 193, 3) := by decide +kernel
theorem dX12_opens_13 : decode cX12_opens 13 = .ok (.iconst 0, 1) := by decide +kernel
theorem dX12_opens_14 : decode cX12_opens 14 = .ok (.ireturn, 1) := by decide +kernel
theorem dX12_opens_15 : decode cX12_opens 15 = .ok (.aload_n 0, 1) := by decide +kernel
theorem dX12_opens_16 : decode cX12_opens 16 = .ok (.dup, 1) := by decide +kernel
theorem dX12_opens_17 : decode cX12_opens 17 = .ok (.getfield 190, 3) := by decide +kernel
theorem dX12_opens_20 : decode cX12_opens 20 = .ok (.iconst 1, 1) := by decide +kernel
theorem dX12_opens_21 : decode cX12_opens 21 = .ok (.iadd, 1) := by decide +kernel
theorem dX12_opens_22 : decode cX12_opens 22 = .ok (.putfield 190, 3) := by decide +kernel
theorem dX12_opens_25 : decode cX12_opens 25 = .ok (.aload_n 0, 1) := by decide +kernel
theorem dX12_opens_26 : decode cX12_opens 26 = .ok (.dup, 1) := by decide +kernel
theorem dX12_opens_27 : decode cX12_opens 27 = .ok (.getfield 181, 3) := by decide +kernel
theorem dX12_opens_30 : decode cX12_opens 30 = .ok (.iconst 1, 1) := by decide +kernel
theorem dX12_opens_31 : decode cX12_opens 31 = .ok (.iadd, 1) := by decide +kernel
theorem dX12_opens_32 : decode cX12_opens 32 = .ok (.putfield 181, 3) := by decide +kernel
theorem dX12_opens_35 : decode cX12_opens 35 = .ok (.iconst 1, 1) := by decide +kernel
theorem dX12_opens_36 : decode cX12_opens 36 = .ok (.ireturn, 1) := by decide +kernel
theorem dX12_put_0 : decode cX12_put 0 = .ok (.aload_n 0, 1) := by decide +kernel
theorem dX12_put_1 : decode cX12_put 1 = .ok (.iload_n 1, 1) := by decide +kernel
theorem dX12_put_2 : decode cX12_put 2 = .ok (.iload_n 2, 1) := by decide +kernel
theorem dX12_put_3 : decode cX12_put 3 = .ok (.invokevirtual 412, 3) := by decide +kernel
theorem dX12_put_6 : decode cX12_put 6 = .ok (.istore 5, 2) := by decide +kernel
theorem dX12_put_8 : decode cX12_put 8 = .ok (.iload 5, 2) := by decide +kernel
theorem dX12_put_10 : decode cX12_put 10 = .ok (.ifCond .ge 6, 3) := by decide +kernel
theorem dX12_put_13 : decode cX12_put 13 = .ok (.iload 5, 2) := by decide +kernel
theorem dX12_put_15 : decode cX12_put 15 = .ok (.ireturn, 1) := by decide +kernel
theorem dX12_put_16 : decode cX12_put 16 = .ok (.bipush (-2), 2) := by decide +kernel
theorem dX12_put_18 : decode cX12_put 18 = .ok (.aload_n 0, 1) := by decide +kernel
theorem dX12_put_19 : decode cX12_put 19 = .ok (.getfield 109, 3) := by decide +kernel
theorem dX12_put_22 : decode cX12_put 22 = .ok (.iload_n 1, 1) := by decide +kernel
theorem dX12_put_23 : decode cX12_put 23 = .ok (.iaload, 1) := by decide +kernel
theorem dX12_put_24 : decode cX12_put 24 = .ok (.isub, 1) := by decide +kernel
theorem dX12_put_25 : decode cX12_put 25 = .ok (.istore 6, 2) := by decide +kernel
theorem dX12_put_27 : decode cX12_put 27 = .ok (.aload_n 0, 1) := by decide +kernel
theorem dX12_put_28 : decode cX12_put 28 = .ok (.getfield 115, 3) := by decide +kernel
theorem dX12_put_31 : decode cX12_put 31 = .ok (.bipush 60, 2) := by decide +kernel
theorem dX12_put_33 : decode cX12_put 33 = .ok (.iload_n 1, 1) := by decide +kernel
theorem dX12_put_34 : decode cX12_put 34 = .ok (.imul, 1) := by decide +kernel
theorem dX12_put_35 : decode cX12_put 35 = .ok (.iload_n 2, 1) := by decide +kernel
theorem dX12_put_36 : decode cX12_put 36 = .ok (.iadd, 1) := by decide +kernel
theorem dX12_put_37 : decode cX12_put 37 = .ok (.iload 6, 2) := by decide +kernel
theorem dX12_put_39 : decode cX12_put 39 = .ok (.ifCond .ne 10, 3) := by decide +kernel
theorem dX12_put_42 : decode cX12_put 42 = .ok (.lload_n 3, 1) := by decide +kernel
theorem dX12_put_43 : decode cX12_put 43 = .ok (.l2i, 1) := by decide +kernel
theorem dX12_put_44 : decode cX12_put 44 = .ok (.i2b, 1) := by decide +kernel
theorem dX12_put_45 : decode cX12_put 45 = .ok (.i2l, 1) := by decide +kernel
theorem dX12_put_46 : decode cX12_put 46 = .ok (.goto 49, 3) := by decide +kernel
theorem dX12_put_49 : decode cX12_put 49 = .ok (.iload 6, 2) := by decide +kernel
theorem dX12_put_51 : decode cX12_put 51 = .ok (.iconst 1, 1) := by decide +kernel
theorem dX12_put_52 : decode cX12_put 52 = .ok (.if_icmp .ne 10, 3) := by decide +kernel
theorem dX12_put_55 : decode cX12_put 55 = .ok (.lload_n 3, 1) := by decide +kernel
theorem dX12_put_56 : decode cX12_put 56 = .ok (.l2i, 1) := by decide +kernel
theorem dX12_put_57 : decode cX12_put 57 = .ok (.i2s, 1) := by decide +kernel
theorem dX12_put_58 : decode cX12_put 58 = .ok (.i2l, 1) := by decide +kernel
theorem dX12_put_59 : decode cX12_put 59 = .ok (.goto 36, 3) := by decide +kernel
theorem dX12_put_62 : decode cX12_put 62 = .ok (.iload 6, 2) := by decide +kernel
theorem dX12_put_64 : decode cX12_put 64 = .ok (.iconst 2, 1) := by decide +kernel
theorem dX12_put_65 : decode cX12_put 65 = .ok (.if_icmp .ne 9, 3) := by decide +kernel
theorem dX12_put_68 : decode cX12_put 68 = .ok (.lload_n 3, 1) := by decide +kernel
theorem dX12_put_69 : decode cX12_put 69 = .ok (.l2i, 1) := by decide +kernel
theorem dX12_put_70 : decode cX12_put 70 = .ok (.i2l, 1) := by decide +kernel
theorem dX12_put_71 : decode cX12_put 71 = .ok (.goto 24, 3) := by decide +kernel
theorem dX12_put_74 : decode cX12_put 74 = .ok (.iload 6, 2) := by decide +kernel
theorem dX12_put_76 : decode cX12_put 76 = .ok (.iconst 3, 1) := by decide +kernel
theorem dX12_put_77 : decode cX12_put 77 = .ok (.if_icmp .ne 7, 3) := by decide +kernel
theorem dX12_put_80 : decode cX12_put 80 = .ok (.lload_n 3, 1) := by decide +kernel
theorem dX12_put_81 : decode cX12_put 81 = .ok (.goto 14, 3) := by decide +kernel
theorem dX12_put_84 : decode cX12_put 84 = .ok (.lload_n 3, 1) := by decide +kernel
theorem dX12_put_85 : decode cX12_put 85 = .ok (.lconst 0, 1) := by decide +kernel
theorem dX12_put_86 : decode cX12_put 86 = .ok (.lcmp, 1) := by decide +kernel
theorem dX12_put_87 : decode cX12_put 87 = .ok (.ifCond .eq 7, 3) := by decide +kernel
theorem dX12_put_90 : decode cX12_put 90 = .ok (.lconst 1, 1) := by decide +kernel
theorem dX12_put_91 : decode cX12_put 91 = .ok (.goto 4, 3) := by decide +kernel
theorem dX12_put_94 : decode cX12_put 94 = .ok (.lconst 0, 1) := by decide +kernel
theorem dX12_put_95 : decode cX12_put 95 = .ok (.lastore, 1) := by decide +kernel
theorem dX12_put_96 : decode cX12_put 96 = .ok (.iconst 1, 1) := by decide +kernel
theorem dX12_put_97 : decode cX12_put 97 = .ok (.ireturn, 1) := by decide +kernel
theorem dX12_redo_0 : decode cX12_redo 0 = .ok (.aload_n 0, 1) := by decide +kernel
theorem dX12_redo_1 : decode cX12_redo 1 = .ok (.getfield 152, 3) := by decide +kernel
theorem dX12_redo_4 : decode cX12_redo 4 = .ok (.ifCond .ne 6, 3) := by decide +kernel
theorem dX12_redo_7 : decode cX12_redo 7 = .ok (.bipush (-5), 2) := by decide +kernel
theorem dX12_redo_9 : decode cX12_redo 9 = .ok (.ireturn, 1) := by decide +kernel
theorem dX12_redo_10 : decode cX12_redo 10 = .ok (.aload_n 0, 1) := by decide +kernel
theorem dX12_redo_11 : decode cX12_redo 11 = .ok (.aload_n 0, 1) := by decide +kernel
theorem dX12_redo_12 : decode cX12_redo 12 = .ok (.getfield 38, 3) := by decide +kernel
theorem dX12_redo_15 : decode cX12_redo 15 = .ok (.aload_n 0, 1) := by decide +kernel
theorem dX12_redo_16 : decode cX12_redo 16 = .ok (.getfield 155, 3) := by decide +kernel
theorem dX12_redo_19 : decode cX12_redo 19 = .ok (.iaload, 1) := by decide +kernel
theorem dX12_redo_20 : decode cX12_redo 20 = .ok (.aload_n 0, 1) := by decide +kernel
theorem dX12_redo_21 : decode cX12_redo 21 = .ok (.getfield 41, 3) := by decide +kernel
theorem dX12_redo_24 : decode cX12_redo 24 = .ok (.aload_n 0, 1) := by decide +kernel
theorem dX12_redo_25 : decode cX12_redo 25 = .ok (.getfield 155, 3) := by decide +kernel
theorem dX12_redo_28 : decode cX12_redo 28 = .ok (.iaload, 1) := by decide +kernel
theorem dX12_redo_29 : decode cX12_redo 29 = .ok (.aload_n 0, 1) := by decide +kernel
theorem dX12_redo_30 : decode cX12_redo 30 = .ok (.getfield 47, 3) := by decide +kernel
theorem dX12_redo_33 : decode cX12_redo 33 = .ok (.aload_n 0, 1) := by decide +kernel
theorem dX12_redo_34 : decode cX12_redo 34 = .ok (.getfield 155, 3) := by decide +kernel
theorem dX12_redo_37 : decode cX12_redo 37 = .ok (.iaload, 1) := by decide +kernel
theorem dX12_redo_38 : decode cX12_redo 38 = .ok (.invokevirtual 158, 3) := by decide +kernel
theorem dX12_redo_41 : decode cX12_redo 41 = .ok (.aload_n 0, 1) := by decide +kernel
theorem dX12_redo_42 : decode cX12_redo 42 = .ok (.dup, 1) := by decide +kernel
theorem dX12_redo_43 : decode cX12_redo 43 = .ok (.getfield 155, 3) := by decide +kernel
theorem dX12_redo_46 : decode cX12_redo 46 = .ok (.iconst 1, 1) := by decide +kernel
theorem dX12_redo_47 : decode cX12_redo 47 = .ok (.iadd, 1) := by decide +kernel
theorem dX12_redo_48 : decode cX12_redo 48 = .ok (.putfield 155, 3) := by decide +kernel
theorem dX12_redo_51 : decode cX12_redo 51 = .ok (.aload_n 0, 1) := by decide +kernel
theorem dX12_redo_52 : decode cX12_redo 52 = .ok (.dup, 1) := by decide +kernel
theorem dX12_redo_53 : decode cX12_redo 53 = .ok (.getfield 152, 3) := by decide +kernel
theorem dX12_redo_56 : decode cX12_redo 56 = .ok (.iconst 1, 1) := by decide +kernel
theorem dX12_redo_57 : decode cX12_redo 57 = .ok (.isub, 1) := by decide +kernel
theorem dX12_redo_58 : decode cX12_redo 58 = .ok (.putfield 152, 3) := by decide +kernel
theorem dX12_redo_61 : decode cX12_redo 61 = .ok (.aload_n 0, 1) := by decide +kernel
theorem dX12_redo_62 : decode cX12_redo 62 = .ok (.getfield 152, 3) := by decide +kernel
theorem dX12_redo_65 : decode cX12_redo 65 = .ok (.ireturn, 1) := by decide +kernel
theorem dX12_rowFault_0 : decode cX12_rowFault 0 = .ok (.aload_n 0, 1) := by decide +kernel
theorem dX12_rowFault_1 : decode cX12_rowFault 1 = .ok (.getfield 109, 3) := by decide +kernel
theorem dX12_rowFault_4 : decode cX12_rowFault 4 = .ok (.iload_n 1, 1) := by decide +kernel
theorem dX12_rowFault_5 : decode cX12_rowFault 5 = .ok (.iaload, 1) := by decide +kernel
theorem dX12_rowFault_6 : decode cX12_rowFault 6 = .ok (.iconst (-1), 1) := by decide +kernel
theorem dX12_rowFault_7 : decode cX12_rowFault 7 = .ok (.if_icmp .ne 8, 3) := by decide +kernel
theorem dX12_rowFault_10 : decode cX12_rowFault 10 = .ok (.bipush (-11), 2) := by decide +kernel
theorem dX12_rowFault_12 : decode cX12_rowFault 12 = .ok (.goto 22, 3) := by decide +kernel
theorem dX12_rowFault_15 : decode cX12_rowFault 15 = .ok (.aload_n 0, 1) := by decide +kernel
theorem dX12_rowFault_16 : decode cX12_rowFault 16 = .ok (.getfield 109, 3) := by decide +kernel
theorem dX12_rowFault_19 : decode cX12_rowFault 19 = .ok (.iload_n 1, 1) := by decide +kernel
theorem dX12_rowFault_20 : decode cX12_rowFault 20 = .ok (.iaload, 1) := by decide +kernel
theorem dX12_rowFault_21 : decode cX12_rowFault 21 = .ok (.bipush (-2), 2) := by decide +kernel
theorem dX12_rowFault_23 : decode cX12_rowFault 23 = .ok (.iload_n 2, 1) := by decide +kernel
theorem dX12_rowFault_24 : decode cX12_rowFault 24 = .ok (.isub, 1) := by decide +kernel
theorem dX12_rowFault_25 : decode cX12_rowFault 25 = .ok (.if_icmp .ne 7, 3) := by decide +kernel
theorem dX12_rowFault_28 : decode cX12_rowFault 28 = .ok (.iconst 0, 1) := by decide +kernel
theorem dX12_rowFault_29 : decode cX12_rowFault 29 = .ok (.goto 5, 3) := by decide +kernel
theorem dX12_rowFault_32 : decode cX12_rowFault 32 = .ok (.bipush (-12), 2) := by decide +kernel
theorem dX12_rowFault_34 : decode cX12_rowFault 34 = .ok (.ireturn, 1) := by decide +kernel
theorem dX12_salt_0 : decode cX12_salt 0 = .ok (.iload_n 1, 1) := by decide +kernel
theorem dX12_salt_1 : decode cX12_salt 1 = .ok (.iconst 0, 1) := by decide +kernel
theorem dX12_salt_2 : decode cX12_salt 2 = .ok (.bipush 15, 2) := by decide +kernel
theorem dX12_salt_4 : decode cX12_salt 4 = .ok (.invokestatic 128, 3) := by decide +kernel
theorem dX12_salt_7 : decode cX12_salt 7 = .ok (.ifCond .ne 5, 3) := by decide +kernel
theorem dX12_salt_10 : decode cX12_salt 10 = .ok (.iconst (-1), 1) := by decide +kernel
theorem dX12_salt_11 : decode cX12_salt 11 = .ok (.ireturn, 1) := by decide +kernel
theorem dX12_salt_12 : decode cX12_salt 12 = .ok (.aload_n 0, 1) := by decide +kernel
theorem dX12_salt_13 : decode cX12_salt 13 = .ok (.getfield 76, 3) := by decide +kernel
theorem dX12_salt_16 : decode cX12_salt 16 = .ok (.iload_n 1, 1) := by decide +kernel
theorem dX12_salt_17 : decode cX12_salt 17 = .ok (.iaload, 1) := by decide +kernel
theorem dX12_salt_18 : decode cX12_salt 18 = .ok (.istore_n 2, 1) := by decide +kernel
theorem dX12_salt_19 : decode cX12_salt 19 = .ok (.aload_n 0, 1) := by decide +kernel
theorem dX12_salt_20 : decode cX12_salt 20 = .ok (.getfield 76, 3) := by decide +kernel
theorem dX12_salt_23 : decode cX12_salt 23 = .ok (.iload_n 1, 1) := by decide +kernel
theorem dX12_salt_24 : decode cX12_salt 24 = .ok (.iconst 0, 1) := by decide +kernel
theorem dX12_salt_25 : decode cX12_salt 25 = .ok (.iastore, 1) := by decide +kernel
theorem dX12_salt_26 : decode cX12_salt 26 = .ok (.iload_n 2, 1) := by decide +kernel
theorem dX12_salt_27 : decode cX12_salt 27 = .ok (.ireturn, 1) := by decide +kernel
theorem dX12_taken_0 : decode cX12_taken 0 = .ok (.iload_n 1, 1) := by decide +kernel
theorem dX12_taken_1 : decode cX12_taken 1 = .ok (.invokestatic 139, 3) := by decide +kernel
theorem dX12_taken_4 : decode cX12_taken 4 = .ok (.ifCond .eq 13, 3) := by decide +kernel
theorem dX12_taken_7 : decode cX12_taken 7 = .ok (.iload_n 2, 1) := by decide +kernel
theorem dX12_taken_8 : decode cX12_taken 8 = .ok (.iconst 0, 1) := by decide +kernel
theorem dX12_taken_9 : decode cX12_taken 9 = .ok (.bipush 7, 2) := by decide +kernel
theorem dX12_taken_11 : decode cX12_taken 11 = .ok (.invokestatic 128, 3) := by decide +kernel
theorem dX12_taken_14 : decode cX12_taken 14 = .ok (.ifCond .ne 5, 3) := by decide +kernel
theorem dX12_taken_17 : decode cX12_taken 17 = .ok (.iconst (-1), 1) := by decide +kernel
theorem dX12_taken_18 : decode cX12_taken 18 = .ok (.ireturn, 1) := by decide +kernel
theorem dX12_taken_19 : decode cX12_taken 19 = .ok (.aload_n 0, 1) := by decide +kernel
theorem dX12_taken_20 : decode cX12_taken 20 = .ok (.getfield 109, 3) := by decide +kernel
theorem dX12_taken_23 : decode cX12_taken 23 = .ok (.iload_n 1, 1) := by decide +kernel
theorem dX12_taken_24 : decode cX12_taken 24 = .ok (.iaload, 1) := by decide +kernel
theorem dX12_taken_25 : decode cX12_taken 25 = .ok (.iconst (-1), 1) := by decide +kernel
theorem dX12_taken_26 : decode cX12_taken 26 = .ok (.if_icmp .ne 6, 3) := by decide +kernel
theorem dX12_taken_29 : decode cX12_taken 29 = .ok (.bipush (-11), 2) := by decide +kernel
theorem dX12_taken_31 : decode cX12_taken 31 = .ok (.ireturn, 1) := by decide +kernel
theorem dX12_taken_32 : decode cX12_taken 32 = .ok (.aload_n 0, 1) := by decide +kernel
theorem dX12_taken_33 : decode cX12_taken 33 = .ok (.getfield 109, 3) := by decide +kernel
theorem dX12_taken_36 : decode cX12_taken 36 = .ok (.iload_n 1, 1) := by decide +kernel
theorem dX12_taken_37 : decode cX12_taken 37 = .ok (.iaload, 1) := by decide +kernel
theorem dX12_taken_38 : decode cX12_taken 38 = .ok (.ifCond .lt 35, 3) := by decide +kernel
theorem dX12_taken_41 : decode cX12_taken 41 = .ok (.aload_n 0, 1) := by decide +kernel
theorem dX12_taken_42 : decode cX12_taken 42 = .ok (.getfield 103, 3) := by decide +kernel
theorem dX12_taken_45 : decode cX12_taken 45 = .ok (.aload_n 0, 1) := by decide +kernel
theorem dX12_taken_46 : decode cX12_taken 46 = .ok (.getfield 109, 3) := by decide +kernel
theorem dX12_taken_49 : decode cX12_taken 49 = .ok (.iload_n 1, 1) := by decide +kernel
theorem dX12_taken_50 : decode cX12_taken 50 = .ok (.iaload, 1) := by decide +kernel
theorem dX12_taken_51 : decode cX12_taken 51 = .ok (.iaload, 1) := by decide +kernel
theorem dX12_taken_52 : decode cX12_taken 52 = .ok (.iload_n 2, 1) := by decide +kernel
theorem dX12_taken_53 : decode cX12_taken 53 = .ok (.invokestatic 376, 3) := by decide +kernel
theorem dX12_taken_56 : decode cX12_taken 56 = .ok (.ifCond .eq 17, 3) := by decide +kernel
theorem dX12_taken_59 : decode cX12_taken 59 = .ok (.aload_n 0, 1) := by decide +kernel
theorem dX12_taken_60 : decode cX12_taken 60 = .ok (.getfield 103, 3) := by decide +kernel
theorem dX12_taken_63 : decode cX12_taken 63 = .ok (.aload_n 0, 1) := by decide +kernel
theorem dX12_taken_64 : decode cX12_taken 64 = .ok (.getfield 109, 3) := by decide +kernel
theorem dX12_taken_67 : decode cX12_taken 67 = .ok (.iload_n 1, 1) := by decide +kernel
theorem dX12_taken_68 : decode cX12_taken 68 = .ok (.iaload, 1) := by decide +kernel
theorem dX12_taken_69 : decode cX12_taken 69 = .ok (.iaload, 1) := by decide +kernel
theorem dX12_taken_70 : decode cX12_taken 70 = .ok (.goto 5, 3) := by decide +kernel
theorem dX12_taken_73 : decode cX12_taken 73 = .ok (.bipush (-12), 2) := by decide +kernel
theorem dX12_taken_75 : decode cX12_taken 75 = .ok (.ireturn, 1) := by decide +kernel
theorem dX12_thawed_0 : decode cX12_thawed 0 = .ok (.aload_n 0, 1) := by decide +kernel
theorem dX12_thawed_1 : decode cX12_thawed 1 = .ok (.getfield 79, 3) := by decide +kernel
theorem dX12_thawed_4 : decode cX12_thawed 4 = .ok (.iload_n 1, 1) := by decide +kernel
theorem dX12_thawed_5 : decode cX12_thawed 5 = .ok (.iaload, 1) := by decide +kernel
theorem dX12_thawed_6 : decode cX12_thawed 6 = .ok (.aload_n 0, 1) := by decide +kernel
theorem dX12_thawed_7 : decode cX12_thawed 7 = .ok (.getfield 32, 3) := by decide +kernel
theorem dX12_thawed_10 : decode cX12_thawed 10 = .ok (.iload_n 2, 1) := by decide +kernel
theorem dX12_thawed_11 : decode cX12_thawed 11 = .ok (.imul, 1) := by decide +kernel
theorem dX12_thawed_12 : decode cX12_thawed 12 = .ok (.if_icmp .le 19, 3) := by decide +kernel
theorem dX12_thawed_15 : decode cX12_thawed 15 = .ok (.aload_n 0, 1) := by decide +kernel
theorem dX12_thawed_16 : decode cX12_thawed 16 = .ok (.getfield 79, 3) := by decide +kernel
theorem dX12_thawed_19 : decode cX12_thawed 19 = .ok (.iload_n 1, 1) := by decide +kernel
theorem dX12_thawed_20 : decode cX12_thawed 20 = .ok (.iaload, 1) := by decide +kernel
theorem dX12_thawed_21 : decode cX12_thawed 21 = .ok (.aload_n 0, 1) := by decide +kernel
theorem dX12_thawed_22 : decode cX12_thawed 22 = .ok (.getfield 32, 3) := by decide +kernel
theorem dX12_thawed_25 : decode cX12_thawed 25 = .ok (.iload_n 2, 1) := by decide +kernel
theorem dX12_thawed_26 : decode cX12_thawed 26 = .ok (.imul, 1) := by decide +kernel
theorem dX12_thawed_27 : decode cX12_thawed 27 = .ok (.isub, 1) := by decide +kernel
theorem dX12_thawed_28 : decode cX12_thawed 28 = .ok (.goto 4, 3) := by decide +kernel
theorem dX12_thawed_31 : decode cX12_thawed 31 = .ok (.iconst 0, 1) := by decide +kernel
theorem dX12_thawed_32 : decode cX12_thawed 32 = .ok (.ireturn, 1) := by decide +kernel
theorem dX12_trace_0 : decode cX12_trace 0 = .ok (.iload_n 1, 1) := by decide +kernel
theorem dX12_trace_1 : decode cX12_trace 1 = .ok (.ifCond .lt 26, 3) := by decide +kernel
theorem dX12_trace_4 : decode cX12_trace 4 = .ok (.iload_n 1, 1) := by decide +kernel
theorem dX12_trace_5 : decode cX12_trace 5 = .ok (.aload_n 0, 1) := by decide +kernel
theorem dX12_trace_6 : decode cX12_trace 6 = .ok (.getfield 367, 3) := by decide +kernel
theorem dX12_trace_9 : decode cX12_trace 9 = .ok (.if_icmp .ge 18, 3) := by decide +kernel
theorem dX12_trace_12 : decode cX12_trace 12 = .ok (.iload_n 1, 1) := by decide +kernel
theorem dX12_trace_13 : decode cX12_trace 13 = .ok (.bipush 24, 2) := by decide +kernel
theorem dX12_trace_15 : decode cX12_trace 15 = .ok (.if_icmp .ge 12, 3) := by decide +kernel
theorem dX12_trace_18 : decode cX12_trace 18 = .ok (.aload_n 0, 1) := by decide +kernel
theorem dX12_trace_19 : decode cX12_trace 19 = .ok (.getfield 106, 3) := by decide +kernel
theorem dX12_trace_22 : decode cX12_trace 22 = .ok (.iload_n 1, 1) := by decide +kernel
theorem dX12_trace_23 : decode cX12_trace 23 = .ok (.iaload, 1) := by decide +kernel
theorem dX12_trace_24 : decode cX12_trace 24 = .ok (.goto 4, 3) := by decide +kernel
theorem dX12_trace_27 : decode cX12_trace 27 = .ok (.iconst (-1), 1) := by decide +kernel
theorem dX12_trace_28 : decode cX12_trace 28 = .ok (.ireturn, 1) := by decide +kernel
theorem dX12_turn_0 : decode cX12_turn 0 = .ok (.iload_n 1, 1) := by decide +kernel
theorem dX12_turn_1 : decode cX12_turn 1 = .ok (.iconst 0, 1) := by decide +kernel
theorem dX12_turn_2 : decode cX12_turn 2 = .ok (.bipush 9, 2) := by decide +kernel
theorem dX12_turn_4 : decode cX12_turn 4 = .ok (.invokestatic 128, 3) := by decide +kernel
theorem dX12_turn_7 : decode cX12_turn 7 = .ok (.ifCond .eq 13, 3) := by decide +kernel
theorem dX12_turn_10 : decode cX12_turn 10 = .ok (.iload_n 2, 1) := by decide +kernel
theorem dX12_turn_11 : decode cX12_turn 11 = .ok (.iconst 1, 1) := by decide +kernel
theorem dX12_turn_12 : decode cX12_turn 12 = .ok (.bipush 60, 2) := by decide +kernel
theorem dX12_turn_14 : decode cX12_turn 14 = .ok (.invokestatic 128, 3) := by decide +kernel
theorem dX12_turn_17 : decode cX12_turn 17 = .ok (.ifCond .ne 5, 3) := by decide +kernel
theorem dX12_turn_20 : decode cX12_turn 20 = .ok (.iconst (-1), 1) := by decide +kernel
theorem dX12_turn_21 : decode cX12_turn 21 = .ok (.ireturn, 1) := by decide +kernel
theorem dX12_turn_22 : decode cX12_turn 22 = .ok (.aload_n 0, 1) := by decide +kernel
theorem dX12_turn_23 : decode cX12_turn 23 = .ok (.getfield 132, 3) := by decide +kernel
theorem dX12_turn_26 : decode cX12_turn 26 = .ok (.bipush 8, 2) := by decide +kernel
theorem dX12_turn_28 : decode cX12_turn 28 = .ok (.if_icmp .ne 6, 3) := by decide +kernel
theorem dX12_turn_31 : decode cX12_turn 31 = .ok (.bipush (-3), 2) := by decide +kernel
theorem dX12_turn_33 : decode cX12_turn 33 = .ok (.ireturn, 1) := by decide +kernel
theorem dX12_turn_34 : decode cX12_turn 34 = .ok (.aload_n 0, 1) := by decide +kernel
theorem dX12_turn_35 : decode cX12_turn 35 = .ok (.getfield 22, 3) := by decide +kernel
theorem dX12_turn_38 : decode cX12_turn 38 = .ok (.aload_n 0, 1) := by decide +kernel
theorem dX12_turn_39 : decode cX12_turn 39 = .ok (.getfield 132, 3) := by decide +kernel
theorem dX12_turn_42 : decode cX12_turn 42 = .ok (.iload_n 1, 1) := by decide +kernel
theorem dX12_turn_43 : decode cX12_turn 43 = .ok (.iastore, 1) := by decide +kernel
theorem dX12_turn_44 : decode cX12_turn 44 = .ok (.aload_n 0, 1) := by decide +kernel
theorem dX12_turn_45 : decode cX12_turn 45 = .ok (.getfield 25, 3) := by decide +kernel
theorem dX12_turn_48 : decode cX12_turn 48 = .ok (.aload_n 0, 1) := by decide +kernel
theorem dX12_turn_49 : decode cX12_turn 49 = .ok (.getfield 132, 3) := by decide +kernel
theorem dX12_turn_52 : decode cX12_turn 52 = .ok (.iload_n 2, 1) := by decide +kernel
theorem dX12_turn_53 : decode cX12_turn 53 = .ok (.iastore, 1) := by decide +kernel
theorem dX12_turn_54 : decode cX12_turn 54 = .ok (.aload_n 0, 1) := by decide +kernel
theorem dX12_turn_55 : decode cX12_turn 55 = .ok (.dup, 1) := by decide +kernel
theorem dX12_turn_56 : decode cX12_turn 56 = .ok (.getfield 132, 3) := by decide +kernel
theorem dX12_turn_59 : decode cX12_turn 59 = .ok (.iconst 1, 1) := by decide +kernel
theorem dX12_turn_60 : decode cX12_turn 60 = .ok (.iadd, 1) := by decide +kernel
theorem dX12_turn_61 : decode cX12_turn 61 = .ok (.putfield 132, 3) := by decide +kernel
theorem dX12_turn_64 : decode cX12_turn 64 = .ok (.aload_n 0, 1) := by decide +kernel
theorem dX12_turn_65 : decode cX12_turn 65 = .ok (.getfield 132, 3) := by decide +kernel
theorem dX12_turn_68 : decode cX12_turn 68 = .ok (.iconst 1, 1) := by decide +kernel
theorem dX12_turn_69 : decode cX12_turn 69 = .ok (.isub, 1) := by decide +kernel
theorem dX12_turn_70 : decode cX12_turn 70 = .ok (.ireturn, 1) := by decide +kernel
theorem dX12_twoOf_0 : decode cX12_twoOf 0 = .ok (.iload_n 0, 1) := by decide +kernel
theorem dX12_twoOf_1 : decode cX12_twoOf 1 = .ok (.tableswitch 217 37 62 #[153, 203, 217, 217, 217, 127, 119, 217, 123, 217, 131, 217, 217, 217, 217, 217, 217, 217, 217, 217, 217, 217, 217, 170, 181, 192], 119) := by decide +kernel
theorem dX12_twoOf_120 : decode cX12_twoOf 120 = .ok (.iload_n 1, 1) := by decide +kernel
theorem dX12_twoOf_121 : decode cX12_twoOf 121 = .ok (.iload_n 2, 1) := by decide +kernel
theorem dX12_twoOf_122 : decode cX12_twoOf 122 = .ok (.iadd, 1) := by decide +kernel
theorem dX12_twoOf_123 : decode cX12_twoOf 123 = .ok (.ireturn, 1) := by decide +kernel
theorem dX12_twoOf_124 : decode cX12_twoOf 124 = .ok (.iload_n 1, 1) := by decide +kernel
theorem dX12_twoOf_125 : decode cX12_twoOf 125 = .ok (.iload_n 2, 1) := by decide +kernel
theorem dX12_twoOf_126 : decode cX12_twoOf 126 = .ok (.isub, 1) := by decide +kernel
theorem dX12_twoOf_127 : decode cX12_twoOf 127 = .ok (.ireturn, 1) := by decide +kernel
theorem dX12_twoOf_128 : decode cX12_twoOf 128 = .ok (.iload_n 1, 1) := by decide +kernel
theorem dX12_twoOf_129 : decode cX12_twoOf 129 = .ok (.iload_n 2, 1) := by decide +kernel
theorem dX12_twoOf_130 : decode cX12_twoOf 130 = .ok (.imul, 1) := by decide +kernel
theorem dX12_twoOf_131 : decode cX12_twoOf 131 = .ok (.ireturn, 1) := by decide +kernel
theorem dX12_twoOf_132 : decode cX12_twoOf 132 = .ok (.iload_n 2, 1) := by decide +kernel
theorem dX12_twoOf_133 : decode cX12_twoOf 133 = .ok (.ifCond .ne 7, 3) := by decide +kernel
theorem dX12_twoOf_136 : decode cX12_twoOf 136 = .ok (.iconst 0, 1) := by decide +kernel
theorem dX12_twoOf_137 : decode cX12_twoOf 137 = .ok (.goto 16, 3) := by decide +kernel
theorem dX12_twoOf_140 : decode cX12_twoOf 140 = .ok (.iload_n 2, 1) := by decide +kernel
theorem dX12_twoOf_141 : decode cX12_twoOf 141 = .ok (.iconst (-1), 1) := by decide +kernel
theorem dX12_twoOf_142 : decode cX12_twoOf 142 = .ok (.if_icmp .ne 8, 3) := by decide +kernel
theorem dX12_twoOf_145 : decode cX12_twoOf 145 = .ok (.iload_n 1, 1) := by decide +kernel
theorem dX12_twoOf_146 : decode cX12_twoOf 146 = .ok (.ineg, 1) := by decide +kernel
theorem dX12_twoOf_147 : decode cX12_twoOf 147 = .ok (.goto 6, 3) := by decide +kernel
theorem dX12_twoOf_150 : decode cX12_twoOf 150 = .ok (.iload_n 1, 1) := by decide +kernel
theorem dX12_twoOf_151 : decode cX12_twoOf 151 = .ok (.iload_n 2, 1) := by decide +kernel
theorem dX12_twoOf_152 : decode cX12_twoOf 152 = .ok (.idiv, 1) := by decide +kernel
theorem dX12_twoOf_153 : decode cX12_twoOf 153 = .ok (.ireturn, 1) := by decide +kernel
theorem dX12_twoOf_154 : decode cX12_twoOf 154 = .ok (.iload_n 2, 1) := by decide +kernel
theorem dX12_twoOf_155 : decode cX12_twoOf 155 = .ok (.ifCond .eq 8, 3) := by decide +kernel
theorem dX12_twoOf_158 : decode cX12_twoOf 158 = .ok (.iload_n 2, 1) := by decide +kernel
theorem dX12_twoOf_159 : decode cX12_twoOf 159 = .ok (.iconst (-1), 1) := by decide +kernel
theorem dX12_twoOf_160 : decode cX12_twoOf 160 = .ok (.if_icmp .ne 7, 3) := by decide +kernel
theorem dX12_twoOf_163 : decode cX12_twoOf 163 = .ok (.iconst 0, 1) := by decide +kernel
theorem dX12_twoOf_164 : decode cX12_twoOf 164 = .ok (.goto 6, 3) := by decide +kernel
theorem dX12_twoOf_167 : decode cX12_twoOf 167 = .ok (.iload_n 1, 1) := by decide +kernel
theorem dX12_twoOf_168 : decode cX12_twoOf 168 = .ok (.iload_n 2, 1) := by decide +kernel
theorem dX12_twoOf_169 : decode cX12_twoOf 169 = .ok (.irem, 1) := by decide +kernel
theorem dX12_twoOf_170 : decode cX12_twoOf 170 = .ok (.ireturn, 1) := by decide +kernel
theorem dX12_twoOf_171 : decode cX12_twoOf 171 = .ok (.iload_n 1, 1) := by decide +kernel
theorem dX12_twoOf_172 : decode cX12_twoOf 172 = .ok (.iload_n 2, 1) := by decide +kernel
theorem dX12_twoOf_173 : decode cX12_twoOf 173 = .ok (.if_icmp .ge 7, 3) := by decide +kernel
theorem dX12_twoOf_176 : decode cX12_twoOf 176 = .ok (.iconst 1, 1) := by decide +kernel
theorem dX12_twoOf_177 : decode cX12_twoOf 177 = .ok (.goto 4, 3) := by decide +kernel
theorem dX12_twoOf_180 : decode cX12_twoOf 180 = .ok (.iconst 0, 1) := by decide +kernel
theorem dX12_twoOf_181 : decode cX12_twoOf 181 = .ok (.ireturn, 1) := by decide +kernel
theorem dX12_twoOf_182 : decode cX12_twoOf 182 = .ok (.iload_n 1, 1) := by decide +kernel
theorem dX12_twoOf_183 : decode cX12_twoOf 183 = .ok (.iload_n 2, 1) := by decide +kernel
theorem dX12_twoOf_184 : decode cX12_twoOf 184 = .ok (.if_icmp .ne 7, 3) := by decide +kernel
theorem dX12_twoOf_187 : decode cX12_twoOf 187 = .ok (.iconst 1, 1) := by decide +kernel
theorem dX12_twoOf_188 : decode cX12_twoOf 188 = .ok (.goto 4, 3) := by decide +kernel
theorem dX12_twoOf_191 : decode cX12_twoOf 191 = .ok (.iconst 0, 1) := by decide +kernel
theorem dX12_twoOf_192 : decode cX12_twoOf 192 = .ok (.ireturn, 1) := by decide +kernel
theorem dX12_twoOf_193 : decode cX12_twoOf 193 = .ok (.iload_n 1, 1) := by decide +kernel
theorem dX12_twoOf_194 : decode cX12_twoOf 194 = .ok (.iload_n 2, 1) := by decide +kernel
theorem dX12_twoOf_195 : decode cX12_twoOf 195 = .ok (.if_icmp .le 7, 3) := by decide +kernel
theorem dX12_twoOf_198 : decode cX12_twoOf 198 = .ok (.iconst 1, 1) := by decide +kernel
theorem dX12_twoOf_199 : decode cX12_twoOf 199 = .ok (.goto 4, 3) := by decide +kernel
theorem dX12_twoOf_202 : decode cX12_twoOf 202 = .ok (.iconst 0, 1) := by decide +kernel
theorem dX12_twoOf_203 : decode cX12_twoOf 203 = .ok (.ireturn, 1) := by decide +kernel
theorem dX12_twoOf_204 : decode cX12_twoOf 204 = .ok (.iload_n 1, 1) := by decide +kernel
theorem dX12_twoOf_205 : decode cX12_twoOf 205 = .ok (.ifCond .eq 11, 3) := by decide +kernel
theorem dX12_twoOf_208 : decode cX12_twoOf 208 = .ok (.iload_n 2, 1) := by decide +kernel
theorem dX12_twoOf_209 : decode cX12_twoOf 209 = .ok (.ifCond .eq 7, 3) := by decide +kernel
theorem dX12_twoOf_212 : decode cX12_twoOf 212 = .ok (.iconst 1, 1) := by decide +kernel
theorem dX12_twoOf_213 : decode cX12_twoOf 213 = .ok (.goto 4, 3) := by decide +kernel
theorem dX12_twoOf_216 : decode cX12_twoOf 216 = .ok (.iconst 0, 1) := by decide +kernel
theorem dX12_twoOf_217 : decode cX12_twoOf 217 = .ok (.ireturn, 1) := by decide +kernel
theorem dX12_twoOf_218 : decode cX12_twoOf 218 = .ok (.iload_n 1, 1) := by decide +kernel
theorem dX12_twoOf_219 : decode cX12_twoOf 219 = .ok (.ifCond .ne 7, 3) := by decide +kernel
theorem dX12_twoOf_222 : decode cX12_twoOf 222 = .ok (.iload_n 2, 1) := by decide +kernel
theorem dX12_twoOf_223 : decode cX12_twoOf 223 = .ok (.ifCond .eq 7, 3) := by decide +kernel
theorem dX12_twoOf_226 : decode cX12_twoOf 226 = .ok (.iconst 1, 1) := by decide +kernel
theorem dX12_twoOf_227 : decode cX12_twoOf 227 = .ok (.goto 4, 3) := by decide +kernel
theorem dX12_twoOf_230 : decode cX12_twoOf 230 = .ok (.iconst 0, 1) := by decide +kernel
theorem dX12_twoOf_231 : decode cX12_twoOf 231 = .ok (.ireturn, 1) := by decide +kernel
theorem dX12_undo_0 : decode cX12_undo 0 = .ok (.aload_n 0, 1) := by decide +kernel
theorem dX12_undo_1 : decode cX12_undo 1 = .ok (.getfield 155, 3) := by decide +kernel
theorem dX12_undo_4 : decode cX12_undo 4 = .ok (.ifCond .ne 6, 3) := by decide +kernel
theorem dX12_undo_7 : decode cX12_undo 7 = .ok (.bipush (-5), 2) := by decide +kernel
theorem dX12_undo_9 : decode cX12_undo 9 = .ok (.ireturn, 1) := by decide +kernel
theorem dX12_undo_10 : decode cX12_undo 10 = .ok (.aload_n 0, 1) := by decide +kernel
theorem dX12_undo_11 : decode cX12_undo 11 = .ok (.dup, 1) := by decide +kernel
theorem dX12_undo_12 : decode cX12_undo 12 = .ok (.getfield 155, 3) := by decide +kernel
theorem dX12_undo_15 : decode cX12_undo 15 = .ok (.iconst 1, 1) := by decide +kernel
theorem dX12_undo_16 : decode cX12_undo 16 = .ok (.isub, 1) := by decide +kernel
theorem dX12_undo_17 : decode cX12_undo 17 = .ok (.putfield 155, 3) := by decide +kernel
theorem dX12_undo_20 : decode cX12_undo 20 = .ok (.aload_n 0, 1) := by decide +kernel
theorem dX12_undo_21 : decode cX12_undo 21 = .ok (.dup, 1) := by decide +kernel
theorem dX12_undo_22 : decode cX12_undo 22 = .ok (.getfield 152, 3) := by decide +kernel
theorem dX12_undo_25 : decode cX12_undo 25 = .ok (.iconst 1, 1) := by decide +kernel
theorem dX12_undo_26 : decode cX12_undo 26 = .ok (.iadd, 1) := by decide +kernel
theorem dX12_undo_27 : decode cX12_undo 27 = .ok (.putfield 152, 3) := by decide +kernel
theorem dX12_undo_30 : decode cX12_undo 30 = .ok (.aload_n 0, 1) := by decide +kernel
theorem dX12_undo_31 : decode cX12_undo 31 = .ok (.aload_n 0, 1) := by decide +kernel
theorem dX12_undo_32 : decode cX12_undo 32 = .ok (.getfield 38, 3) := by decide +kernel
theorem dX12_undo_35 : decode cX12_undo 35 = .ok (.aload_n 0, 1) := by decide +kernel
theorem dX12_undo_36 : decode cX12_undo 36 = .ok (.getfield 155, 3) := by decide +kernel
theorem dX12_undo_39 : decode cX12_undo 39 = .ok (.iaload, 1) := by decide +kernel
theorem dX12_undo_40 : decode cX12_undo 40 = .ok (.aload_n 0, 1) := by decide +kernel
theorem dX12_undo_41 : decode cX12_undo 41 = .ok (.getfield 41, 3) := by decide +kernel
theorem dX12_undo_44 : decode cX12_undo 44 = .ok (.aload_n 0, 1) := by decide +kernel
theorem dX12_undo_45 : decode cX12_undo 45 = .ok (.getfield 155, 3) := by decide +kernel
theorem dX12_undo_48 : decode cX12_undo 48 = .ok (.iaload, 1) := by decide +kernel
theorem dX12_undo_49 : decode cX12_undo 49 = .ok (.aload_n 0, 1) := by decide +kernel
theorem dX12_undo_50 : decode cX12_undo 50 = .ok (.getfield 44, 3) := by decide +kernel
theorem dX12_undo_53 : decode cX12_undo 53 = .ok (.aload_n 0, 1) := by decide +kernel
theorem dX12_undo_54 : decode cX12_undo 54 = .ok (.getfield 155, 3) := by decide +kernel
theorem dX12_undo_57 : decode cX12_undo 57 = .ok (.iaload, 1) := by decide +kernel
theorem dX12_undo_58 : decode cX12_undo 58 = .ok (.invokevirtual 158, 3) := by decide +kernel
theorem dX12_undo_61 : decode cX12_undo 61 = .ok (.aload_n 0, 1) := by decide +kernel
theorem dX12_undo_62 : decode cX12_undo 62 = .ok (.getfield 155, 3) := by decide +kernel
theorem dX12_undo_65 : decode cX12_undo 65 = .ok (.ireturn, 1) := by decide +kernel
theorem dX5_get_0 : decode cX5_get 0 = .ok (.aload_n 0, 1) := by decide +kernel
theorem dX5_get_1 : decode cX5_get 1 = .ok (.getfield 11, 3) := by decide +kernel
theorem dX5_get_4 : decode cX5_get 4 = .ok (.iload_n 1, 1) := by decide +kernel
theorem dX5_get_5 : decode cX5_get 5 = .ok (.bipush 8, 2) := by decide +kernel
theorem dX5_get_7 : decode cX5_get 7 = .ok (.imul, 1) := by decide +kernel
theorem dX5_get_8 : decode cX5_get 8 = .ok (.iload_n 2, 1) := by decide +kernel
theorem dX5_get_9 : decode cX5_get 9 = .ok (.iadd, 1) := by decide +kernel
theorem dX5_get_10 : decode cX5_get 10 = .ok (.iaload, 1) := by decide +kernel
theorem dX5_get_11 : decode cX5_get 11 = .ok (.ireturn, 1) := by decide +kernel
theorem dX5_planks_0 : decode cX5_planks 0 = .ok (.aload_n 0, 1) := by decide +kernel
theorem dX5_planks_1 : decode cX5_planks 1 = .ok (.getfield 11, 3) := by decide +kernel
theorem dX5_planks_4 : decode cX5_planks 4 = .ok (.bipush 48, 2) := by decide +kernel
theorem dX5_planks_6 : decode cX5_planks 6 = .ok (.iaload, 1) := by decide +kernel
theorem dX5_planks_7 : decode cX5_planks 7 = .ok (.ireturn, 1) := by decide +kernel
theorem dX5_thawOf_0 : decode cX5_thawOf 0 = .ok (.iload_n 1, 1) := by decide +kernel
theorem dX5_thawOf_1 : decode cX5_thawOf 1 = .ok (.aload_n 0, 1) := by decide +kernel
theorem dX5_thawOf_2 : decode cX5_thawOf 2 = .ok (.getfield 11, 3) := by decide +kernel
theorem dX5_thawOf_5 : decode cX5_thawOf 5 = .ok (.bipush 56, 2) := by decide +kernel
theorem dX5_thawOf_7 : decode cX5_thawOf 7 = .ok (.iaload, 1) := by decide +kernel
theorem dX5_thawOf_8 : decode cX5_thawOf 8 = .ok (.imul, 1) := by decide +kernel
theorem dX5_thawOf_9 : decode cX5_thawOf 9 = .ok (.ireturn, 1) := by decide +kernel
theorem dX6_add_0 : decode cX6_add 0 = .ok (.aload_n 0, 1) := by decide +kernel
theorem dX6_add_1 : decode cX6_add 1 = .ok (.getfield 21, 3) := by decide +kernel
theorem dX6_add_4 : decode cX6_add 4 = .ok (.bipush 121, 2) := by decide +kernel
theorem dX6_add_6 : decode cX6_add 6 = .ok (.if_icmp .ge 23, 3) := by decide +kernel
theorem dX6_add_9 : decode cX6_add 9 = .ok (.aload_n 0, 1) := by decide +kernel
theorem dX6_add_10 : decode cX6_add 10 = .ok (.getfield 11, 3) := by decide +kernel
theorem dX6_add_13 : decode cX6_add 13 = .ok (.aload_n 0, 1) := by decide +kernel
theorem dX6_add_14 : decode cX6_add 14 = .ok (.getfield 21, 3) := by decide +kernel
theorem dX6_add_17 : decode cX6_add 17 = .ok (.iload_n 1, 1) := by decide +kernel
theorem dX6_add_18 : decode cX6_add 18 = .ok (.iastore, 1) := by decide +kernel
theorem dX6_add_19 : decode cX6_add 19 = .ok (.aload_n 0, 1) := by decide +kernel
theorem dX6_add_20 : decode cX6_add 20 = .ok (.dup, 1) := by decide +kernel
theorem dX6_add_21 : decode cX6_add 21 = .ok (.getfield 21, 3) := by decide +kernel
theorem dX6_add_24 : decode cX6_add 24 = .ok (.iconst 1, 1) := by decide +kernel
theorem dX6_add_25 : decode cX6_add 25 = .ok (.iadd, 1) := by decide +kernel
theorem dX6_add_26 : decode cX6_add 26 = .ok (.putfield 21, 3) := by decide +kernel
theorem dX6_add_29 : decode cX6_add 29 = .ok (.iload_n 1, 1) := by decide +kernel
theorem dX6_add_30 : decode cX6_add 30 = .ok (.sipush 10005, 3) := by decide +kernel
theorem dX6_add_33 : decode cX6_add 33 = .ok (.if_icmp .ne 8, 3) := by decide +kernel
theorem dX6_add_36 : decode cX6_add 36 = .ok (.aload_n 0, 1) := by decide +kernel
theorem dX6_add_37 : decode cX6_add 37 = .ok (.iconst 1, 1) := by decide +kernel
theorem dX6_add_38 : decode cX6_add 38 = .ok (.putfield 25, 3) := by decide +kernel
theorem dX6_add_41 : decode cX6_add 41 = .ok (.return_, 1) := by decide +kernel
def f_X12_count (σ : zS) (a2 : Int32) : Int32 := (if a2 = 0 then (gi σ 66 1) else (if a2 = 1 then (gi σ 66 6) else (if a2 = 2 then (gi σ 66 20) else (if a2 = 3 then (gi σ 66 13) else (if a2 = 4 then (gi σ 66 49) else (if a2 = 5 then (gi σ 66 51) else (-1)))))))
theorem s_X12_count {X : zX} {d : Nat} {Q : Option Value → zH → Prop} (σ : zS) (a2 : Int32)  : zwp X d MX12_count 0 [.ref 66, .int a2] [] (zen σ) Q = Q (some (.int (f_X12_count σ a2))) (zen σ) :=
  Eq.trans (q_iload_n (pc := 0) dX12_count_0 rfl rfl) (Eq.trans (q_tsw (pc := 1) dX12_count_1 rfl (by decide) (by decide) (by decide)) (Eq.trans (zif_intro (c := a2 = 0)) (ziti (fun hz1 => Eq.trans (zpc_eq (pc' := 40) (zsw_at hz1 (by decide))) (Eq.trans (q_aload_n (pc := 40) dX12_count_40 rfl rfl) (Eq.trans (q_getf (pc := 41) dX12_count_41 zF_12_125 (z_rfiE (x := (gi σ 66 1)) zl_66 zh_66 (by decide) rfl rfl)) (q_iret (pc := 44) dX12_count_44 rfl rfl)))) (fun hz1 => Eq.trans (zif_intro (c := a2 = 1)) (ziti (fun hz2 => Eq.trans (zpc_eq (pc' := 45) (zsw_at hz2 (by decide))) (Eq.trans (q_aload_n (pc := 45) dX12_count_45 rfl rfl) (Eq.trans (q_getf (pc := 46) dX12_count_46 zF_12_132 (z_rfiE (x := (gi σ 66 6)) zl_66 zh_66 (by decide) rfl rfl)) (q_iret (pc := 49) dX12_count_49 rfl rfl)))) (fun hz2 => Eq.trans (zif_intro (c := a2 = 2)) (ziti (fun hz3 => Eq.trans (zpc_eq (pc' := 50) (zsw_at hz3 (by decide))) (Eq.trans (q_aload_n (pc := 50) dX12_count_50 rfl rfl) (Eq.trans (q_getf (pc := 51) dX12_count_51 zF_12_178 (z_rfiE (x := (gi σ 66 20)) zl_66 zh_66 (by decide) rfl rfl)) (q_iret (pc := 54) dX12_count_54 rfl rfl)))) (fun hz3 => Eq.trans (zif_intro (c := a2 = 3)) (ziti (fun hz4 => Eq.trans (zpc_eq (pc' := 55) (zsw_at hz4 (by decide))) (Eq.trans (q_aload_n (pc := 55) dX12_count_55 rfl rfl) (Eq.trans (q_getf (pc := 56) dX12_count_56 zF_12_155 (z_rfiE (x := (gi σ 66 13)) zl_66 zh_66 (by decide) rfl rfl)) (q_iret (pc := 59) dX12_count_59 rfl rfl)))) (fun hz4 => Eq.trans (zif_intro (c := a2 = 4)) (ziti (fun hz5 => Eq.trans (zpc_eq (pc' := 60) (zsw_at hz5 (by decide))) (Eq.trans (q_aload_n (pc := 60) dX12_count_60 rfl rfl) (Eq.trans (q_getf (pc := 61) dX12_count_61 zF_12_364 (z_rfiE (x := (gi σ 66 49)) zl_66 zh_66 (by decide) rfl rfl)) (q_iret (pc := 64) dX12_count_64 rfl rfl)))) (fun hz5 => Eq.trans (zif_intro (c := a2 = 5)) (ziti (fun hz6 => Eq.trans (zpc_eq (pc' := 65) (zsw_at hz6 (by decide))) (Eq.trans (q_aload_n (pc := 65) dX12_count_65 rfl rfl) (Eq.trans (q_getf (pc := 66) dX12_count_66 zF_12_367 (z_rfiE (x := (gi σ 66 51)) zl_66 zh_66 (by decide) rfl rfl)) (q_iret (pc := 69) dX12_count_69 rfl rfl)))) (fun hz6 => Eq.trans (zpc_eq (pc' := 70) (zsw_df [0, 1, 2, 3, 4, 5] (by decide) (by decide) ⟨hz1, hz2, hz3, hz4, hz5, hz6, trivial⟩)) (Eq.trans (q_iconst (v := (-1)) (pc := 70) dX12_count_70 rfl) (q_iret (pc := 71) dX12_count_71 rfl rfl))))))))))))))))
def f_X12_whyNoPlace (σ : zS) (a2 : Int32) (a3 : Int32) : Int32 := (if ¬ (f_X12_isShelf σ a2) = 0 then (if ¬ (gi σ 95 (ix a2)) = (-1) then (if (gi σ 95 (ix a2)) < 0 then (if (f_X12_in σ a3 0 ((gi σ 96 (ix a2)) - 1)) = 0 then (-13) else 0) else (-12)) else (-11)) else (-1))
def p_X12_whyNoPlace (σ : zS) (a2 : Int32) (a3 : Int32) : Prop := (if ¬ (f_X12_isShelf σ a2) = 0 then (zin a2 6 = true ∧ (if ¬ (gi σ 95 (ix a2)) = (-1) then (zin a2 6 = true ∧ (if (gi σ 95 (ix a2)) < 0 then zin a2 6 = true else True)) else True)) else True)
theorem s_X12_whyNoPlace {X : zX} {d : Nat} {Q : Option Value → zH → Prop} (hd : 2 ≤ d) (σ : zS) (a2 : Int32) (a3 : Int32)  : zwp X d MX12_whyNoPlace 0 [.ref 66, .int a2, .int a3] [] (zen σ) Q = (p_X12_whyNoPlace σ a2 a3 ∧ Q (some (.int (f_X12_whyNoPlace σ a2 a3))) (zen σ)) :=
  Eq.trans (q_iload_n (pc := 0) dX12_whyNoPlace_0 rfl rfl) (Eq.trans (q_sumI (q_callS (as := [.int a2]) (rest := []) (l0 := [.int a2]) (pc := 1) dX12_whyNoPlace_1 zSN_12_139 zC_12_139 rfl rfl rfl) (by omega) (s_X12_isShelf (hd := by omega) σ a2)) (Eq.trans (q_if_ne (tgt := 9) (pc := 4) dX12_whyNoPlace_4 rfl) (zitpi (fun hz1 => Eq.trans (q_aload_n (pc := 9) dX12_whyNoPlace_9 rfl rfl) (Eq.trans (q_getf (pc := 10) dX12_whyNoPlace_10 zF_12_109 (z_rfr zl_66 zh_66 (by decide) rfl)) (Eq.trans (q_iload_n (pc := 13) dX12_whyNoPlace_13 rfl rfl) (Eq.trans (Eq.trans (qe_iaload (x := (gi σ 95 (ix a2))) (pc := 14) dX12_whyNoPlace_14 (z_ia zl_95 zh_95 (by decide)) rfl) (zand fun hz2 => Eq.trans (q_iconst (v := (-1)) (pc := 15) dX12_whyNoPlace_15 rfl) (Eq.trans (q_icmp_ne (tgt := 22) (pc := 16) dX12_whyNoPlace_16 rfl) (zitpi (fun hz3 => Eq.trans (q_aload_n (pc := 22) dX12_whyNoPlace_22 rfl rfl) (Eq.trans (q_getf (pc := 23) dX12_whyNoPlace_23 zF_12_109 (z_rfr zl_66 zh_66 (by decide) rfl)) (Eq.trans (q_iload_n (pc := 26) dX12_whyNoPlace_26 rfl rfl) (Eq.trans (Eq.trans (qe_iaload (x := (gi σ 95 (ix a2))) (pc := 27) dX12_whyNoPlace_27 (z_ia zl_95 zh_95 (by decide)) rfl) (zand fun hz4 => Eq.trans (q_if_lt (tgt := 34) (pc := 28) dX12_whyNoPlace_28 rfl) (zitpi (fun hz5 => Eq.trans (q_iload_n (pc := 34) dX12_whyNoPlace_34 rfl rfl) (Eq.trans (q_iconst (v := 0) (pc := 35) dX12_whyNoPlace_35 rfl) (Eq.trans (q_aload_n (pc := 36) dX12_whyNoPlace_36 rfl rfl) (Eq.trans (q_getf (pc := 37) dX12_whyNoPlace_37 zF_12_112 (z_rfr zl_66 zh_66 (by decide) rfl)) (Eq.trans (q_iload_n (pc := 40) dX12_whyNoPlace_40 rfl rfl) (Eq.trans (qe_iaload (x := (gi σ 96 (ix a2))) (pc := 41) dX12_whyNoPlace_41 (z_ia zl_96 zh_96 (by decide)) rfl) (zand fun hz6 => Eq.trans (q_iconst (v := 1) (pc := 42) dX12_whyNoPlace_42 rfl) (Eq.trans (q_isub (pc := 43) dX12_whyNoPlace_43) (Eq.trans (q_sumI (q_callS (as := [.int a3, .int 0, .int ((gi σ 96 (ix a2)) - 1)]) (rest := []) (l0 := [.int a3, .int 0, .int ((gi σ 96 (ix a2)) - 1)]) (pc := 44) dX12_whyNoPlace_44 zSN_12_128 zC_12_128 rfl rfl rfl) (by omega) (s_X12_in σ a3 0 ((gi σ 96 (ix a2)) - 1))) (Eq.trans (q_if_eq (tgt := 54) (pc := 47) dX12_whyNoPlace_47 rfl) (ziti (fun hz7 => Eq.trans (q_bipush (v := (-13)) (pc := 54) dX12_whyNoPlace_54 rfl) (q_iret (pc := 56) dX12_whyNoPlace_56 rfl rfl)) (fun hz7 => Eq.trans (q_iconst (v := 0) (pc := 50) dX12_whyNoPlace_50 rfl) (Eq.trans (q_goto (tgt := 56) (pc := 51) dX12_whyNoPlace_51 rfl) (q_iret (pc := 56) dX12_whyNoPlace_56 rfl rfl)))))))))))))) (fun hz5 => Eq.trans (Eq.trans (q_bipush (v := (-12)) (pc := 31) dX12_whyNoPlace_31 rfl) (q_iret (pc := 33) dX12_whyNoPlace_33 rfl rfl)) (true_and _).symm)))) zassoc)))) (fun hz3 => Eq.trans (Eq.trans (q_bipush (v := (-11)) (pc := 19) dX12_whyNoPlace_19 rfl) (q_iret (pc := 21) dX12_whyNoPlace_21 rfl rfl)) (true_and _).symm))))) zassoc)))) (fun hz1 => Eq.trans (Eq.trans (q_iconst (v := (-1)) (pc := 7) dX12_whyNoPlace_7 rfl) (q_iret (pc := 8) dX12_whyNoPlace_8 rfl rfl)) (true_and _).symm))))
def f_X12_element (σ : zS) (a2 : Int32) (a3 : Int32) : Int64 := (if 0 ≤ (f_X12_whyNoPlace σ a2 a3) then (gl σ 97 (ix ((60 * a2) + a3))) else (-9223372036854775808))
def p_X12_element (σ : zS) (a2 : Int32) (a3 : Int32) : Prop := (p_X12_whyNoPlace σ a2 a3 ∧ (if 0 ≤ (f_X12_whyNoPlace σ a2 a3) then zin ((60 * a2) + a3) 360 = true else True))
theorem s_X12_element {X : zX} {d : Nat} {Q : Option Value → zH → Prop} (hd : 3 ≤ d) (σ : zS) (a2 : Int32) (a3 : Int32)  : zwp X d MX12_element 0 [.ref 66, .int a2, .int a3] [] (zen σ) Q = (p_X12_element σ a2 a3 ∧ Q (some (.long (f_X12_element σ a2 a3))) (zen σ)) :=
  Eq.trans (q_aload_n (pc := 0) dX12_element_0 rfl rfl) (Eq.trans (q_iload_n (pc := 1) dX12_element_1 rfl rfl) (Eq.trans (q_iload_n (pc := 2) dX12_element_2 rfl rfl) (Eq.trans (Eq.trans (q_sumIP (q_callV (as := [.int a2, .int a3]) (rest := []) (l0 := [.ref 66, .int a2, .int a3]) (pc := 3) dX12_element_3 zC_12_412 rfl (z_recv zl_66 zh_66) rfl rfl) (by omega) (s_X12_whyNoPlace (hd := by omega) σ a2 a3)) (zand fun hz1 => Eq.trans (q_if_ge (tgt := 15) (pc := 6) dX12_element_6 rfl) (zitpj (fun hz2 => Eq.trans (q_aload_n (pc := 15) dX12_element_15 rfl rfl) (Eq.trans (q_getf (pc := 16) dX12_element_16 zF_12_115 (z_rfr zl_66 zh_66 (by decide) rfl)) (Eq.trans (q_bipush (v := 60) (pc := 19) dX12_element_19 rfl) (Eq.trans (q_iload_n (pc := 21) dX12_element_21 rfl rfl) (Eq.trans (q_imul (pc := 22) dX12_element_22) (Eq.trans (q_iload_n (pc := 23) dX12_element_23 rfl rfl) (Eq.trans (q_iadd (pc := 24) dX12_element_24) (Eq.trans (qe_laload (x := (gl σ 97 (ix ((60 * a2) + a3)))) (pc := 25) dX12_element_25 (z_la zl_97 zh_97) rfl) (zand fun hz3 => q_lret (pc := 26) dX12_element_26 rfl))))))))) (fun hz2 => Eq.trans (Eq.trans (q_ldc2 (v := (-9223372036854775808)) (pc := 9) dX12_element_9 zK_12_417) (Eq.trans (q_goto (tgt := 26) (pc := 12) dX12_element_12 rfl) (q_lret (pc := 26) dX12_element_26 rfl))) (true_and _).symm)))) zassoc)))
def f_X12_feed (σ : zS) (a2 : Int32) : Int32 := (if ¬ (f_X12_in σ a2 0 255) = 0 then (if ¬ (gi σ 66 20) = 120 then ((gi σ 66 20) + 1) else (-3)) else (-1))
def p_X12_feed (σ : zS) (a2 : Int32) : Prop := (if ¬ (f_X12_in σ a2 0 255) = 0 then (if ¬ (gi σ 66 20) = 120 then zin (gi σ 66 20) 120 = true else True) else True)
def g_X12_feed (σ : zS) (a2 : Int32) : zS := (if ¬ (f_X12_in σ a2 0 255) = 0 then (if ¬ (gi σ 66 20) = 120 then (si (si σ 77 (ix (gi σ 66 20)) ((Int32.toInt8 ((Int32.toInt8 a2).toInt32)).toInt32)) 66 20 ((gi σ 66 20) + 1)) else σ) else σ)
theorem s_X12_feed {X : zX} {d : Nat} {Q : Option Value → zH → Prop} (hd : 1 ≤ d) (σ : zS) (a2 : Int32)  : zwp X d MX12_feed 0 [.ref 66, .int a2] [] (zen σ) Q = (p_X12_feed σ a2 ∧ Q (some (.int (f_X12_feed σ a2))) (zen (g_X12_feed σ a2))) :=
  Eq.trans (q_iload_n (pc := 0) dX12_feed_0 rfl rfl) (Eq.trans (q_iconst (v := 0) (pc := 1) dX12_feed_1 rfl) (Eq.trans (q_sipush (v := 255) (pc := 2) dX12_feed_2 rfl) (Eq.trans (q_sumI (q_callS (as := [.int a2, .int 0, .int 255]) (rest := []) (l0 := [.int a2, .int 0, .int 255]) (pc := 5) dX12_feed_5 zSN_12_128 zC_12_128 rfl rfl rfl) (by omega) (s_X12_in σ a2 0 255)) (Eq.trans (q_if_ne (tgt := 13) (pc := 8) dX12_feed_8 rfl) (zitpis (fun hz1 => Eq.trans (q_aload_n (pc := 13) dX12_feed_13 rfl rfl) (Eq.trans (q_getf (pc := 14) dX12_feed_14 zF_12_178 (z_rfiE (x := (gi σ 66 20)) zl_66 zh_66 (by decide) rfl rfl)) (Eq.trans (q_bipush (v := 120) (pc := 17) dX12_feed_17 rfl) (Eq.trans (q_icmp_ne (tgt := 25) (pc := 19) dX12_feed_19 rfl) (zitpis (fun hz2 => Eq.trans (q_aload_n (pc := 25) dX12_feed_25 rfl rfl) (Eq.trans (q_getf (pc := 26) dX12_feed_26 zF_12_50 (z_rfr zl_66 zh_66 (by decide) rfl)) (Eq.trans (q_aload_n (pc := 29) dX12_feed_29 rfl rfl) (Eq.trans (q_getf (pc := 30) dX12_feed_30 zF_12_178 (z_rfiE (x := (gi σ 66 20)) zl_66 zh_66 (by decide) rfl rfl)) (Eq.trans (q_iload_n (pc := 33) dX12_feed_33 rfl rfl) (Eq.trans (q_i2b (pc := 34) dX12_feed_34) (Eq.trans (q_bastore (pc := 35) dX12_feed_35 (zN_lt zl_77) (z_ia zl_77 zh_77 (by decide)) (z_pi zl_77 zh_77 (by decide))) (zand fun hz3 => Eq.trans (q_aload_n (pc := 36) dX12_feed_36 rfl rfl) (Eq.trans (q_dup_ref (pc := 37) dX12_feed_37) (Eq.trans (q_getf (pc := 38) dX12_feed_38 zF_12_178 (z_rfiE (x := (gi σ 66 20)) zl_66 zh_66 (by decide) rfl rfl)) (Eq.trans (q_iconst (v := 1) (pc := 41) dX12_feed_41 rfl) (Eq.trans (q_iadd (pc := 42) dX12_feed_42) (Eq.trans (q_pf (pc := 43) dX12_feed_43 zF_12_178 zPF_12_20 (z_pf zl_66 zh_66 rfl)) (Eq.trans (q_aload_n (pc := 46) dX12_feed_46 rfl rfl) (Eq.trans (q_getf (pc := 47) dX12_feed_47 zF_12_178 (z_rfiE (x := ((gi σ 66 20) + 1)) zl_66 zh_66 (by decide) rfl rfl)) (q_iret (pc := 50) dX12_feed_50 rfl rfl)))))))))))))))) (fun hz2 => Eq.trans (Eq.trans (q_bipush (v := (-3)) (pc := 22) dX12_feed_22 rfl) (q_iret (pc := 24) dX12_feed_24 rfl rfl)) (true_and _).symm)))))) (fun hz1 => Eq.trans (Eq.trans (q_iconst (v := (-1)) (pc := 11) dX12_feed_11 rfl) (q_iret (pc := 12) dX12_feed_12 rfl rfl)) (true_and _).symm))))))
def f_X12_hands (σ : zS) (a2 : Int32) (a3 : Int32) : Int32 := (if (f_X12_in σ a2 0 99) = 0 then (-1) else (if ¬ (f_X12_in σ a3 0 15) = 0 then (if ¬ (gi σ 66 1) = 6 then (f_X12_addRow σ a2 a3 0) else (-3)) else (-1)))
def p_X12_hands (σ : zS) (a2 : Int32) (a3 : Int32) : Prop := (if (f_X12_in σ a2 0 99) = 0 then True else (if ¬ (f_X12_in σ a3 0 15) = 0 then (if ¬ (gi σ 66 1) = 6 then p_X12_addRow σ a2 a3 0 else True) else True))
def g_X12_hands (σ : zS) (a2 : Int32) (a3 : Int32) : zS := (if (f_X12_in σ a2 0 99) = 0 then σ else (if ¬ (f_X12_in σ a3 0 15) = 0 then (if ¬ (gi σ 66 1) = 6 then (g_X12_addRow σ a2 a3 0) else σ) else σ))
theorem s_X12_hands {X : zX} {d : Nat} {Q : Option Value → zH → Prop} (hd : 1 ≤ d) (σ : zS) (a2 : Int32) (a3 : Int32)  : zwp X d MX12_hands 0 [.ref 66, .int a2, .int a3] [] (zen σ) Q = (p_X12_hands σ a2 a3 ∧ Q (some (.int (f_X12_hands σ a2 a3))) (zen (g_X12_hands σ a2 a3))) :=
  Eq.trans (q_iload_n (pc := 0) dX12_hands_0 rfl rfl) (Eq.trans (q_iconst (v := 0) (pc := 1) dX12_hands_1 rfl) (Eq.trans (q_bipush (v := 99) (pc := 2) dX12_hands_2 rfl) (Eq.trans (q_sumI (q_callS (as := [.int a2, .int 0, .int 99]) (rest := []) (l0 := [.int a2, .int 0, .int 99]) (pc := 4) dX12_hands_4 zSN_12_128 zC_12_128 rfl rfl rfl) (by omega) (s_X12_in σ a2 0 99)) (Eq.trans (q_if_eq (tgt := 20) (pc := 7) dX12_hands_7 rfl) (zitpis (fun hz1 => Eq.trans (Eq.trans (q_iconst (v := (-1)) (pc := 20) dX12_hands_20 rfl) (q_iret (pc := 21) dX12_hands_21 rfl rfl)) (true_and _).symm) (fun hz1 => Eq.trans (q_iload_n (pc := 10) dX12_hands_10 rfl rfl) (Eq.trans (q_iconst (v := 0) (pc := 11) dX12_hands_11 rfl) (Eq.trans (q_bipush (v := 15) (pc := 12) dX12_hands_12 rfl) (Eq.trans (q_sumI (q_callS (as := [.int a3, .int 0, .int 15]) (rest := []) (l0 := [.int a3, .int 0, .int 15]) (pc := 14) dX12_hands_14 zSN_12_128 zC_12_128 rfl rfl rfl) (by omega) (s_X12_in σ a3 0 15)) (Eq.trans (q_if_ne (tgt := 22) (pc := 17) dX12_hands_17 rfl) (zitpis (fun hz2 => Eq.trans (q_aload_n (pc := 22) dX12_hands_22 rfl rfl) (Eq.trans (q_getf (pc := 23) dX12_hands_23 zF_12_125 (z_rfiE (x := (gi σ 66 1)) zl_66 zh_66 (by decide) rfl rfl)) (Eq.trans (q_bipush (v := 6) (pc := 26) dX12_hands_26 rfl) (Eq.trans (q_icmp_ne (tgt := 36) (pc := 28) dX12_hands_28 rfl) (zitpis (fun hz3 => Eq.trans (q_aload_n (pc := 36) dX12_hands_36 rfl rfl) (Eq.trans (q_iload_n (pc := 37) dX12_hands_37 rfl rfl) (Eq.trans (q_iload_n (pc := 38) dX12_hands_38 rfl rfl) (Eq.trans (q_iconst (v := 0) (pc := 39) dX12_hands_39 rfl) (Eq.trans (q_sumIP (q_callV (as := [.int a2, .int a3, .int 0]) (rest := []) (l0 := [.ref 66, .int a2, .int a3, .int 0]) (pc := 40) dX12_hands_40 zC_12_135 rfl (z_recv zl_66 zh_66) rfl rfl) (by omega) (s_X12_addRow σ a2 a3 0)) (zand fun hz4 => q_iret (pc := 43) dX12_hands_43 rfl rfl)))))) (fun hz3 => Eq.trans (Eq.trans (q_bipush (v := (-3)) (pc := 31) dX12_hands_31 rfl) (Eq.trans (q_goto (tgt := 43) (pc := 33) dX12_hands_33 rfl) (q_iret (pc := 43) dX12_hands_43 rfl rfl))) (true_and _).symm)))))) (fun hz2 => Eq.trans (Eq.trans (q_iconst (v := (-1)) (pc := 20) dX12_hands_20 rfl) (q_iret (pc := 21) dX12_hands_21 rfl rfl)) (true_and _).symm))))))))))))
def f_X12_isRow (σ : zS) (a2 : Int32) : Int32 := (f_X12_in σ a2 0 ((gi σ 66 1) - 1))
theorem s_X12_isRow {X : zX} {d : Nat} {Q : Option Value → zH → Prop} (hd : 1 ≤ d) (σ : zS) (a2 : Int32)  : zwp X d MX12_isRow 0 [.ref 66, .int a2] [] (zen σ) Q = Q (some (.int (f_X12_isRow σ a2))) (zen σ) :=
  Eq.trans (q_iload_n (pc := 0) dX12_isRow_0 rfl rfl) (Eq.trans (q_iconst (v := 0) (pc := 1) dX12_isRow_1 rfl) (Eq.trans (q_aload_n (pc := 2) dX12_isRow_2 rfl rfl) (Eq.trans (q_getf (pc := 3) dX12_isRow_3 zF_12_125 (z_rfiE (x := (gi σ 66 1)) zl_66 zh_66 (by decide) rfl rfl)) (Eq.trans (q_iconst (v := 1) (pc := 6) dX12_isRow_6 rfl) (Eq.trans (q_isub (pc := 7) dX12_isRow_7) (Eq.trans (q_sumI (q_callS (as := [.int a2, .int 0, .int ((gi σ 66 1) - 1)]) (rest := []) (l0 := [.int a2, .int 0, .int ((gi σ 66 1) - 1)]) (pc := 8) dX12_isRow_8 zSN_12_128 zC_12_128 rfl rfl rfl) (by omega) (s_X12_in σ a2 0 ((gi σ 66 1) - 1))) (q_zretK (pc := 11) dX12_isRow_11 rfl (zb_X12_in _ _ _ _))))))))
theorem zb_X12_isRow (σ : zS) (a2 : Int32) : f_X12_isRow σ a2 = 0 ∨ f_X12_isRow σ a2 = 1 := by
  unfold f_X12_isRow
  repeat' split
  all_goals first | exact Or.inl rfl | exact Or.inr rfl | exact zb_X12_in _ _ _ _
def f_X12_isTurn (σ : zS) (a2 : Int32) : Int32 := (f_X12_in σ a2 0 ((gi σ 66 6) - 1))
theorem s_X12_isTurn {X : zX} {d : Nat} {Q : Option Value → zH → Prop} (hd : 1 ≤ d) (σ : zS) (a2 : Int32)  : zwp X d MX12_isTurn 0 [.ref 66, .int a2] [] (zen σ) Q = Q (some (.int (f_X12_isTurn σ a2))) (zen σ) :=
  Eq.trans (q_iload_n (pc := 0) dX12_isTurn_0 rfl rfl) (Eq.trans (q_iconst (v := 0) (pc := 1) dX12_isTurn_1 rfl) (Eq.trans (q_aload_n (pc := 2) dX12_isTurn_2 rfl rfl) (Eq.trans (q_getf (pc := 3) dX12_isTurn_3 zF_12_132 (z_rfiE (x := (gi σ 66 6)) zl_66 zh_66 (by decide) rfl rfl)) (Eq.trans (q_iconst (v := 1) (pc := 6) dX12_isTurn_6 rfl) (Eq.trans (q_isub (pc := 7) dX12_isTurn_7) (Eq.trans (q_sumI (q_callS (as := [.int a2, .int 0, .int ((gi σ 66 6) - 1)]) (rest := []) (l0 := [.int a2, .int 0, .int ((gi σ 66 6) - 1)]) (pc := 8) dX12_isTurn_8 zSN_12_128 zC_12_128 rfl rfl rfl) (by omega) (s_X12_in σ a2 0 ((gi σ 66 6) - 1))) (q_zretK (pc := 11) dX12_isTurn_11 rfl (zb_X12_in _ _ _ _))))))))
theorem zb_X12_isTurn (σ : zS) (a2 : Int32) : f_X12_isTurn σ a2 = 0 ∨ f_X12_isTurn σ a2 = 1 := by
  unfold f_X12_isTurn
  repeat' split
  all_goals first | exact Or.inl rfl | exact Or.inr rfl | exact zb_X12_in _ _ _ _
def f_X12_isOne (σ : zS) (a2 : Int32) (a3 : Int32) : Int32 := (if (f_X12_in σ a3 0 3) = 0 then (if (f_X12_in σ a3 4 5) = 0 then (if (f_X12_in σ a3 6 9) = 0 then 0 else (if ¬ a2 = 0 then 0 else 1)) else (f_X12_isTurn σ a2)) else (f_X12_isRow σ a2))
theorem s_X12_isOne {X : zX} {d : Nat} {Q : Option Value → zH → Prop} (hd : 2 ≤ d) (σ : zS) (a2 : Int32) (a3 : Int32)  : zwp X d MX12_isOne 0 [.ref 66, .int a2, .int a3] [] (zen σ) Q = Q (some (.int (f_X12_isOne σ a2 a3))) (zen σ) :=
  Eq.trans (q_iload_n (pc := 0) dX12_isOne_0 rfl rfl) (Eq.trans (q_iconst (v := 0) (pc := 1) dX12_isOne_1 rfl) (Eq.trans (q_iconst (v := 3) (pc := 2) dX12_isOne_2 rfl) (Eq.trans (q_sumI (q_callS (as := [.int a3, .int 0, .int 3]) (rest := []) (l0 := [.int a3, .int 0, .int 3]) (pc := 3) dX12_isOne_3 zSN_12_128 zC_12_128 rfl rfl rfl) (by omega) (s_X12_in σ a3 0 3)) (Eq.trans (q_if_eq (tgt := 17) (pc := 6) dX12_isOne_6 rfl) (ziti (fun hz1 => Eq.trans (q_iload_n (pc := 17) dX12_isOne_17 rfl rfl) (Eq.trans (q_iconst (v := 4) (pc := 18) dX12_isOne_18 rfl) (Eq.trans (q_iconst (v := 5) (pc := 19) dX12_isOne_19 rfl) (Eq.trans (q_sumI (q_callS (as := [.int a3, .int 4, .int 5]) (rest := []) (l0 := [.int a3, .int 4, .int 5]) (pc := 20) dX12_isOne_20 zSN_12_128 zC_12_128 rfl rfl rfl) (by omega) (s_X12_in σ a3 4 5)) (Eq.trans (q_if_eq (tgt := 34) (pc := 23) dX12_isOne_23 rfl) (ziti (fun hz2 => Eq.trans (q_iload_n (pc := 34) dX12_isOne_34 rfl rfl) (Eq.trans (q_bipush (v := 6) (pc := 35) dX12_isOne_35 rfl) (Eq.trans (q_bipush (v := 9) (pc := 37) dX12_isOne_37 rfl) (Eq.trans (q_sumI (q_callS (as := [.int a3, .int 6, .int 9]) (rest := []) (l0 := [.int a3, .int 6, .int 9]) (pc := 39) dX12_isOne_39 zSN_12_128 zC_12_128 rfl rfl rfl) (by omega) (s_X12_in σ a3 6 9)) (Eq.trans (q_if_eq (tgt := 53) (pc := 42) dX12_isOne_42 rfl) (ziti (fun hz3 => Eq.trans (q_iconst (v := 0) (pc := 53) dX12_isOne_53 rfl) (q_zretK (pc := 54) dX12_isOne_54 rfl (by decide))) (fun hz3 => Eq.trans (q_iload_n (pc := 45) dX12_isOne_45 rfl rfl) (Eq.trans (q_if_ne (tgt := 53) (pc := 46) dX12_isOne_46 rfl) (ziti (fun hz4 => Eq.trans (q_iconst (v := 0) (pc := 53) dX12_isOne_53 rfl) (q_zretK (pc := 54) dX12_isOne_54 rfl (by decide))) (fun hz4 => Eq.trans (q_iconst (v := 1) (pc := 49) dX12_isOne_49 rfl) (Eq.trans (q_goto (tgt := 54) (pc := 50) dX12_isOne_50 rfl) (q_zretK (pc := 54) dX12_isOne_54 rfl (by decide))))))))))))) (fun hz2 => Eq.trans (q_aload_n (pc := 26) dX12_isOne_26 rfl rfl) (Eq.trans (q_iload_n (pc := 27) dX12_isOne_27 rfl rfl) (Eq.trans (q_sumI (q_callV (as := [.int a2]) (rest := []) (l0 := [.ref 66, .int a2]) (pc := 28) dX12_isOne_28 zC_12_165 rfl (z_recv zl_66 zh_66) rfl rfl) (by omega) (s_X12_isTurn (hd := by omega) σ a2)) (Eq.trans (q_goto (tgt := 54) (pc := 31) dX12_isOne_31 rfl) (q_zretK (pc := 54) dX12_isOne_54 rfl (zb_X12_isTurn _ _)))))))))))) (fun hz1 => Eq.trans (q_aload_n (pc := 9) dX12_isOne_9 rfl rfl) (Eq.trans (q_iload_n (pc := 10) dX12_isOne_10 rfl rfl) (Eq.trans (q_sumI (q_callV (as := [.int a2]) (rest := []) (l0 := [.ref 66, .int a2]) (pc := 11) dX12_isOne_11 zC_12_162 rfl (z_recv zl_66 zh_66) rfl rfl) (by omega) (s_X12_isRow (hd := by omega) σ a2)) (Eq.trans (q_goto (tgt := 54) (pc := 14) dX12_isOne_14 rfl) (q_zretK (pc := 54) dX12_isOne_54 rfl (zb_X12_isRow _ _)))))))))))
theorem zb_X12_isOne (σ : zS) (a2 : Int32) (a3 : Int32) : f_X12_isOne σ a2 a3 = 0 ∨ f_X12_isOne σ a2 a3 = 1 := by
  unfold f_X12_isOne
  repeat' split
  all_goals first | exact Or.inl rfl | exact Or.inr rfl | exact zb_X12_in _ _ _ _ | exact zb_X12_isRow _ _ | exact zb_X12_isTurn _ _
def f_X12_isPlank (σ : zS) (a2 : Int32) : Int32 := (f_X12_in σ a2 0 ((gi σ 66 9) - 1))
theorem s_X12_isPlank {X : zX} {d : Nat} {Q : Option Value → zH → Prop} (hd : 1 ≤ d) (σ : zS) (a2 : Int32)  : zwp X d MX12_isPlank 0 [.ref 66, .int a2] [] (zen σ) Q = Q (some (.int (f_X12_isPlank σ a2))) (zen σ) :=
  Eq.trans (q_iload_n (pc := 0) dX12_isPlank_0 rfl rfl) (Eq.trans (q_iconst (v := 0) (pc := 1) dX12_isPlank_1 rfl) (Eq.trans (q_aload_n (pc := 2) dX12_isPlank_2 rfl rfl) (Eq.trans (q_getf (pc := 3) dX12_isPlank_3 zF_12_28 (z_rfiE (x := (gi σ 66 9)) zl_66 zh_66 (by decide) rfl rfl)) (Eq.trans (q_iconst (v := 1) (pc := 6) dX12_isPlank_6 rfl) (Eq.trans (q_isub (pc := 7) dX12_isPlank_7) (Eq.trans (q_sumI (q_callS (as := [.int a2, .int 0, .int ((gi σ 66 9) - 1)]) (rest := []) (l0 := [.int a2, .int 0, .int ((gi σ 66 9) - 1)]) (pc := 8) dX12_isPlank_8 zSN_12_128 zC_12_128 rfl rfl rfl) (by omega) (s_X12_in σ a2 0 ((gi σ 66 9) - 1))) (q_zretK (pc := 11) dX12_isPlank_11 rfl (zb_X12_in _ _ _ _))))))))
theorem zb_X12_isPlank (σ : zS) (a2 : Int32) : f_X12_isPlank σ a2 = 0 ∨ f_X12_isPlank σ a2 = 1 := by
  unfold f_X12_isPlank
  repeat' split
  all_goals first | exact Or.inl rfl | exact Or.inr rfl | exact zb_X12_in _ _ _ _
def f_X12_keep (σ : zS) (a2 : Int32) (a3 : Int32) : Int32 := (if (f_X12_isShelf σ a2) = 0 then (-1) else (if a3 = (-1) then 1 else (if ¬ (f_X12_isBody σ a3) = 0 then 1 else (-1))))
def p_X12_keep (σ : zS) (a2 : Int32) (a3 : Int32) : Prop := (if (f_X12_isShelf σ a2) = 0 then True else (if a3 = (-1) then zin a2 6 = true else (if ¬ (f_X12_isBody σ a3) = 0 then zin a2 6 = true else True)))
def g_X12_keep (σ : zS) (a2 : Int32) (a3 : Int32) : zS := (if (f_X12_isShelf σ a2) = 0 then σ else (if a3 = (-1) then (si σ 95 (ix a2) a3) else (if ¬ (f_X12_isBody σ a3) = 0 then (si σ 95 (ix a2) a3) else σ)))
theorem s_X12_keep {X : zX} {d : Nat} {Q : Option Value → zH → Prop} (hd : 2 ≤ d) (σ : zS) (a2 : Int32) (a3 : Int32)  : zwp X d MX12_keep 0 [.ref 66, .int a2, .int a3] [] (zen σ) Q = (p_X12_keep σ a2 a3 ∧ Q (some (.int (f_X12_keep σ a2 a3))) (zen (g_X12_keep σ a2 a3))) :=
  Eq.trans (q_iload_n (pc := 0) dX12_keep_0 rfl rfl) (Eq.trans (q_sumI (q_callS (as := [.int a2]) (rest := []) (l0 := [.int a2]) (pc := 1) dX12_keep_1 zSN_12_139 zC_12_139 rfl rfl rfl) (by omega) (s_X12_isShelf (hd := by omega) σ a2)) (Eq.trans (q_if_eq (tgt := 20) (pc := 4) dX12_keep_4 rfl) (zitpis (fun hz1 => Eq.trans (Eq.trans (q_iconst (v := (-1)) (pc := 20) dX12_keep_20 rfl) (q_iret (pc := 21) dX12_keep_21 rfl rfl)) (true_and _).symm) (fun hz1 => Eq.trans (q_iload_n (pc := 7) dX12_keep_7 rfl rfl) (Eq.trans (q_iconst (v := (-1)) (pc := 8) dX12_keep_8 rfl) (Eq.trans (q_icmp_eq (tgt := 22) (pc := 9) dX12_keep_9 rfl) (zitpis (fun hz2 => Eq.trans (q_aload_n (pc := 22) dX12_keep_22 rfl rfl) (Eq.trans (q_getf (pc := 23) dX12_keep_23 zF_12_109 (z_rfr zl_66 zh_66 (by decide) rfl)) (Eq.trans (q_iload_n (pc := 26) dX12_keep_26 rfl rfl) (Eq.trans (q_iload_n (pc := 27) dX12_keep_27 rfl rfl) (Eq.trans (q_iastore (pc := 28) dX12_keep_28 (zN_lt zl_95) (z_ia zl_95 zh_95 (by decide)) (z_pi zl_95 zh_95 (by decide))) (zand fun hz3 => Eq.trans (q_iconst (v := 1) (pc := 29) dX12_keep_29 rfl) (q_iret (pc := 30) dX12_keep_30 rfl rfl))))))) (fun hz2 => Eq.trans (q_aload_n (pc := 12) dX12_keep_12 rfl rfl) (Eq.trans (q_iload_n (pc := 13) dX12_keep_13 rfl rfl) (Eq.trans (q_sumI (q_callV (as := [.int a3]) (rest := []) (l0 := [.ref 66, .int a3]) (pc := 14) dX12_keep_14 zC_12_406 rfl (z_recv zl_66 zh_66) rfl rfl) (by omega) (s_X12_isBody (hd := by omega) σ a3)) (Eq.trans (q_if_ne (tgt := 22) (pc := 17) dX12_keep_17 rfl) (zitpis (fun hz4 => Eq.trans (q_aload_n (pc := 22) dX12_keep_22 rfl rfl) (Eq.trans (q_getf (pc := 23) dX12_keep_23 zF_12_109 (z_rfr zl_66 zh_66 (by decide) rfl)) (Eq.trans (q_iload_n (pc := 26) dX12_keep_26 rfl rfl) (Eq.trans (q_iload_n (pc := 27) dX12_keep_27 rfl rfl) (Eq.trans (q_iastore (pc := 28) dX12_keep_28 (zN_lt zl_95) (z_ia zl_95 zh_95 (by decide)) (z_pi zl_95 zh_95 (by decide))) (zand fun hz5 => Eq.trans (q_iconst (v := 1) (pc := 29) dX12_keep_29 rfl) (q_iret (pc := 30) dX12_keep_30 rfl rfl))))))) (fun hz4 => Eq.trans (Eq.trans (q_iconst (v := (-1)) (pc := 20) dX12_keep_20 rfl) (q_iret (pc := 21) dX12_keep_21 rfl rfl)) (true_and _).symm)))))))))))))
def p_X12_lays (σ : zS) (a2 : Int32) (a3 : Int32) (a4 : Int32) : Prop := (if a2 = 0 then zin a3 6 = true else (if a2 = 1 then zin a3 6 = true else (if a2 = 2 then zin a3 6 = true else (if a2 = 3 then zin a3 6 = true else (if a2 = 4 then zin a3 8 = true else (if a2 = 5 then zin a3 8 = true else True))))))
def g_X12_lays (σ : zS) (a2 : Int32) (a3 : Int32) (a4 : Int32) : zS := (if a2 = 0 then (si σ 67 (ix a3) a4) else (if a2 = 1 then (si σ 68 (ix a3) a4) else (if a2 = 2 then (si σ 69 (ix a3) a4) else (if a2 = 3 then (si σ 70 (ix a3) a4) else (if a2 = 4 then (si σ 71 (ix a3) a4) else (if a2 = 5 then (si σ 72 (ix a3) a4) else (if a2 = 6 then (si σ 66 9 a4) else (if a2 = 7 then (si σ 66 10 a4) else (if a2 = 8 then (si σ 66 11 a4) else (si σ 66 12 a4))))))))))
theorem s_X12_lays {X : zX} {d : Nat} {Q : Option Value → zH → Prop} (σ : zS) (a2 : Int32) (a3 : Int32) (a4 : Int32)  : zwp X d MX12_lays 0 [.ref 66, .int a2, .int a3, .int a4] [] (zen σ) Q = (p_X12_lays σ a2 a3 a4 ∧ Q none (zen (g_X12_lays σ a2 a3 a4))) :=
  Eq.trans (q_iload_n (pc := 0) dX12_lays_0 rfl rfl) (Eq.trans (q_tsw (pc := 1) dX12_lays_1 rfl (by decide) (by decide) (by decide)) (Eq.trans (zif_intro (c := a2 = 0)) (zitpns (fun hz1 => Eq.trans (zpc_eq (pc' := 52) (zsw_at hz1 (by decide))) (Eq.trans (q_aload_n (pc := 52) dX12_lays_52 rfl rfl) (Eq.trans (q_getf (pc := 53) dX12_lays_53 zF_12_7 (z_rfr zl_66 zh_66 (by decide) rfl)) (Eq.trans (q_iload_n (pc := 56) dX12_lays_56 rfl rfl) (Eq.trans (q_iload_n (pc := 57) dX12_lays_57 rfl rfl) (Eq.trans (q_iastore (pc := 58) dX12_lays_58 (zN_lt zl_67) (z_ia zl_67 zh_67 (by decide)) (z_pi zl_67 zh_67 (by decide))) (zand fun hz10 => Eq.trans (q_goto (tgt := 141) (pc := 59) dX12_lays_59 rfl) (q_vret (pc := 141) dX12_lays_141 rfl)))))))) (fun hz1 => Eq.trans (zif_intro (c := a2 = 1)) (zitpns (fun hz2 => Eq.trans (zpc_eq (pc' := 62) (zsw_at hz2 (by decide))) (Eq.trans (q_aload_n (pc := 62) dX12_lays_62 rfl rfl) (Eq.trans (q_getf (pc := 63) dX12_lays_63 zF_12_13 (z_rfr zl_66 zh_66 (by decide) rfl)) (Eq.trans (q_iload_n (pc := 66) dX12_lays_66 rfl rfl) (Eq.trans (q_iload_n (pc := 67) dX12_lays_67 rfl rfl) (Eq.trans (q_iastore (pc := 68) dX12_lays_68 (zN_lt zl_68) (z_ia zl_68 zh_68 (by decide)) (z_pi zl_68 zh_68 (by decide))) (zand fun hz11 => Eq.trans (q_goto (tgt := 141) (pc := 69) dX12_lays_69 rfl) (q_vret (pc := 141) dX12_lays_141 rfl)))))))) (fun hz2 => Eq.trans (zif_intro (c := a2 = 2)) (zitpns (fun hz3 => Eq.trans (zpc_eq (pc' := 72) (zsw_at hz3 (by decide))) (Eq.trans (q_aload_n (pc := 72) dX12_lays_72 rfl rfl) (Eq.trans (q_getf (pc := 73) dX12_lays_73 zF_12_16 (z_rfr zl_66 zh_66 (by decide) rfl)) (Eq.trans (q_iload_n (pc := 76) dX12_lays_76 rfl rfl) (Eq.trans (q_iload_n (pc := 77) dX12_lays_77 rfl rfl) (Eq.trans (q_iastore (pc := 78) dX12_lays_78 (zN_lt zl_69) (z_ia zl_69 zh_69 (by decide)) (z_pi zl_69 zh_69 (by decide))) (zand fun hz12 => Eq.trans (q_goto (tgt := 141) (pc := 79) dX12_lays_79 rfl) (q_vret (pc := 141) dX12_lays_141 rfl)))))))) (fun hz3 => Eq.trans (zif_intro (c := a2 = 3)) (zitpns (fun hz4 => Eq.trans (zpc_eq (pc' := 82) (zsw_at hz4 (by decide))) (Eq.trans (q_aload_n (pc := 82) dX12_lays_82 rfl rfl) (Eq.trans (q_getf (pc := 83) dX12_lays_83 zF_12_19 (z_rfr zl_66 zh_66 (by decide) rfl)) (Eq.trans (q_iload_n (pc := 86) dX12_lays_86 rfl rfl) (Eq.trans (q_iload_n (pc := 87) dX12_lays_87 rfl rfl) (Eq.trans (q_iastore (pc := 88) dX12_lays_88 (zN_lt zl_70) (z_ia zl_70 zh_70 (by decide)) (z_pi zl_70 zh_70 (by decide))) (zand fun hz13 => Eq.trans (q_goto (tgt := 141) (pc := 89) dX12_lays_89 rfl) (q_vret (pc := 141) dX12_lays_141 rfl)))))))) (fun hz4 => Eq.trans (zif_intro (c := a2 = 4)) (zitpns (fun hz5 => Eq.trans (zpc_eq (pc' := 92) (zsw_at hz5 (by decide))) (Eq.trans (q_aload_n (pc := 92) dX12_lays_92 rfl rfl) (Eq.trans (q_getf (pc := 93) dX12_lays_93 zF_12_22 (z_rfr zl_66 zh_66 (by decide) rfl)) (Eq.trans (q_iload_n (pc := 96) dX12_lays_96 rfl rfl) (Eq.trans (q_iload_n (pc := 97) dX12_lays_97 rfl rfl) (Eq.trans (q_iastore (pc := 98) dX12_lays_98 (zN_lt zl_71) (z_ia zl_71 zh_71 (by decide)) (z_pi zl_71 zh_71 (by decide))) (zand fun hz14 => Eq.trans (q_goto (tgt := 141) (pc := 99) dX12_lays_99 rfl) (q_vret (pc := 141) dX12_lays_141 rfl)))))))) (fun hz5 => Eq.trans (zif_intro (c := a2 = 5)) (zitpns (fun hz6 => Eq.trans (zpc_eq (pc' := 102) (zsw_at hz6 (by decide))) (Eq.trans (q_aload_n (pc := 102) dX12_lays_102 rfl rfl) (Eq.trans (q_getf (pc := 103) dX12_lays_103 zF_12_25 (z_rfr zl_66 zh_66 (by decide) rfl)) (Eq.trans (q_iload_n (pc := 106) dX12_lays_106 rfl rfl) (Eq.trans (q_iload_n (pc := 107) dX12_lays_107 rfl rfl) (Eq.trans (q_iastore (pc := 108) dX12_lays_108 (zN_lt zl_72) (z_ia zl_72 zh_72 (by decide)) (z_pi zl_72 zh_72 (by decide))) (zand fun hz15 => Eq.trans (q_goto (tgt := 141) (pc := 109) dX12_lays_109 rfl) (q_vret (pc := 141) dX12_lays_141 rfl)))))))) (fun hz6 => Eq.trans (Eq.trans (zif_intro (c := a2 = 6)) (zitns (fun hz7 => Eq.trans (zpc_eq (pc' := 112) (zsw_at hz7 (by decide))) (Eq.trans (q_aload_n (pc := 112) dX12_lays_112 rfl rfl) (Eq.trans (q_iload_n (pc := 113) dX12_lays_113 rfl rfl) (Eq.trans (q_pf (pc := 114) dX12_lays_114 zF_12_28 zPF_12_9 (z_pf zl_66 zh_66 rfl)) (Eq.trans (q_goto (tgt := 141) (pc := 117) dX12_lays_117 rfl) (q_vret (pc := 141) dX12_lays_141 rfl)))))) (fun hz7 => Eq.trans (zif_intro (c := a2 = 7)) (zitns (fun hz8 => Eq.trans (zpc_eq (pc' := 120) (zsw_at hz8 (by decide))) (Eq.trans (q_aload_n (pc := 120) dX12_lays_120 rfl rfl) (Eq.trans (q_iload_n (pc := 121) dX12_lays_121 rfl rfl) (Eq.trans (q_pf (pc := 122) dX12_lays_122 zF_12_32 zPF_12_10 (z_pf zl_66 zh_66 rfl)) (Eq.trans (q_goto (tgt := 141) (pc := 125) dX12_lays_125 rfl) (q_vret (pc := 141) dX12_lays_141 rfl)))))) (fun hz8 => Eq.trans (zif_intro (c := a2 = 8)) (zitns (fun hz9 => Eq.trans (zpc_eq (pc' := 128) (zsw_at hz9 (by decide))) (Eq.trans (q_aload_n (pc := 128) dX12_lays_128 rfl rfl) (Eq.trans (q_iload_n (pc := 129) dX12_lays_129 rfl rfl) (Eq.trans (q_pf (pc := 130) dX12_lays_130 zF_12_35 zPF_12_11 (z_pf zl_66 zh_66 rfl)) (Eq.trans (q_goto (tgt := 141) (pc := 133) dX12_lays_133 rfl) (q_vret (pc := 141) dX12_lays_141 rfl)))))) (fun hz9 => Eq.trans (zpc_eq (pc' := 136) (zsw_df [0, 1, 2, 3, 4, 5, 6, 7, 8] (by decide) (by decide) ⟨hz1, hz2, hz3, hz4, hz5, hz6, hz7, hz8, hz9, trivial⟩)) (Eq.trans (q_aload_n (pc := 136) dX12_lays_136 rfl rfl) (Eq.trans (q_iload_n (pc := 137) dX12_lays_137 rfl rfl) (Eq.trans (q_pf (pc := 138) dX12_lays_138 zF_12_145 zPF_12_12 (z_pf zl_66 zh_66 rfl)) (q_vret (pc := 141) dX12_lays_141 rfl))))))))))) (true_and _).symm))))))))))))))
def f_X12_led (σ : zS) (a2 : Int32) : Int32 := (if (f_X12_in σ a2 0 4) = 0 then (-1) else (gi σ 90 (ix a2)))
def p_X12_led (σ : zS) (a2 : Int32) : Prop := (if (f_X12_in σ a2 0 4) = 0 then True else zin a2 5 = true)
theorem s_X12_led {X : zX} {d : Nat} {Q : Option Value → zH → Prop} (hd : 1 ≤ d) (σ : zS) (a2 : Int32)  : zwp X d MX12_led 0 [.ref 66, .int a2] [] (zen σ) Q = (p_X12_led σ a2 ∧ Q (some (.int (f_X12_led σ a2))) (zen σ)) :=
  Eq.trans (q_iload_n (pc := 0) dX12_led_0 rfl rfl) (Eq.trans (q_iconst (v := 0) (pc := 1) dX12_led_1 rfl) (Eq.trans (q_iconst (v := 4) (pc := 2) dX12_led_2 rfl) (Eq.trans (q_sumI (q_callS (as := [.int a2, .int 0, .int 4]) (rest := []) (l0 := [.int a2, .int 0, .int 4]) (pc := 3) dX12_led_3 zSN_12_128 zC_12_128 rfl rfl rfl) (by omega) (s_X12_in σ a2 0 4)) (Eq.trans (q_if_eq (tgt := 18) (pc := 6) dX12_led_6 rfl) (zitpi (fun hz1 => Eq.trans (Eq.trans (q_iconst (v := (-1)) (pc := 18) dX12_led_18 rfl) (q_iret (pc := 19) dX12_led_19 rfl rfl)) (true_and _).symm) (fun hz1 => Eq.trans (q_aload_n (pc := 9) dX12_led_9 rfl rfl) (Eq.trans (q_getf (pc := 10) dX12_led_10 zF_12_94 (z_rfr zl_66 zh_66 (by decide) rfl)) (Eq.trans (q_iload_n (pc := 13) dX12_led_13 rfl rfl) (Eq.trans (qe_iaload (x := (gi σ 90 (ix a2))) (pc := 14) dX12_led_14 (z_ia zl_90 zh_90 (by decide)) rfl) (zand fun hz2 => Eq.trans (q_goto (tgt := 19) (pc := 15) dX12_led_15 rfl) (q_iret (pc := 19) dX12_led_19 rfl rfl)))))))))))
def f_X12_look (σ : zS) : Int32 := (if (gi σ 66 20) ≤ (gi σ 66 21) then (-1) else (gi σ 77 (ix (gi σ 66 21))))
def p_X12_look (σ : zS) : Prop := (if (gi σ 66 20) ≤ (gi σ 66 21) then True else zin (gi σ 66 21) 120 = true)
theorem s_X12_look {X : zX} {d : Nat} {Q : Option Value → zH → Prop} (σ : zS)  : zwp X d MX12_look 0 [.ref 66] [] (zen σ) Q = (p_X12_look σ ∧ Q (some (.int (f_X12_look σ))) (zen σ)) :=
  Eq.trans (q_aload_n (pc := 0) dX12_look_0 rfl rfl) (Eq.trans (q_getf (pc := 1) dX12_look_1 zF_12_181 (z_rfiE (x := (gi σ 66 21)) zl_66 zh_66 (by decide) rfl rfl)) (Eq.trans (q_aload_n (pc := 4) dX12_look_4 rfl rfl) (Eq.trans (q_getf (pc := 5) dX12_look_5 zF_12_178 (z_rfiE (x := (gi σ 66 20)) zl_66 zh_66 (by decide) rfl rfl)) (Eq.trans (q_icmp_ge (tgt := 23) (pc := 8) dX12_look_8 rfl) (zitpi (fun hz1 => Eq.trans (Eq.trans (q_iconst (v := (-1)) (pc := 23) dX12_look_23 rfl) (q_iret (pc := 24) dX12_look_24 rfl rfl)) (true_and _).symm) (fun hz1 => Eq.trans (q_aload_n (pc := 11) dX12_look_11 rfl rfl) (Eq.trans (q_getf (pc := 12) dX12_look_12 zF_12_50 (z_rfr zl_66 zh_66 (by decide) rfl)) (Eq.trans (q_aload_n (pc := 15) dX12_look_15 rfl rfl) (Eq.trans (q_getf (pc := 16) dX12_look_16 zF_12_181 (z_rfiE (x := (gi σ 66 21)) zl_66 zh_66 (by decide) rfl rfl)) (Eq.trans (qe_baload (x := (gi σ 77 (ix (gi σ 66 21)))) (pc := 19) dX12_look_19 (z_ia zl_77 zh_77 (by decide)) rfl) (zand fun hz2 => Eq.trans (q_goto (tgt := 24) (pc := 20) dX12_look_20 rfl) (q_iret (pc := 24) dX12_look_24 rfl rfl))))))))))))
def f_X12_mayBe (σ : zS) (a1 : Int32) (a2 : Int32) : Int32 := (if a1 = 0 then (f_X12_in σ a2 0 99) else (if a1 = 1 then (f_X12_in σ a2 0 15) else (if a1 = 5 then (f_X12_in σ a2 1 60) else (if a1 = 6 then (f_X12_in σ a2 2 16) else (if a1 = 8 then (f_X12_in σ a2 1 60) else (if a1 = 9 then (f_X12_in σ a2 0 12) else (f_X12_in σ a2 0 9)))))))
theorem s_X12_mayBe {X : zX} {d : Nat} {Q : Option Value → zH → Prop} (hd : 1 ≤ d) (σ : zS) (a1 : Int32) (a2 : Int32)  : zwp X d MX12_mayBe 0 [.int a1, .int a2] [] (zen σ) Q = Q (some (.int (f_X12_mayBe σ a1 a2))) (zen σ) :=
  Eq.trans (q_iload_n (pc := 0) dX12_mayBe_0 rfl rfl) (Eq.trans (q_tsw (pc := 1) dX12_mayBe_1 rfl (by decide) (by decide) (by decide)) (Eq.trans (zif_intro (c := a1 = 0)) (ziti (fun hz1 => Eq.trans (zpc_eq (pc' := 56) (zsw_at hz1 (by decide))) (Eq.trans (q_iload_n (pc := 56) dX12_mayBe_56 rfl rfl) (Eq.trans (q_iconst (v := 0) (pc := 57) dX12_mayBe_57 rfl) (Eq.trans (q_bipush (v := 99) (pc := 58) dX12_mayBe_58 rfl) (Eq.trans (q_sumI (q_callS (as := [.int a2, .int 0, .int 99]) (rest := []) (l0 := [.int a2, .int 0, .int 99]) (pc := 60) dX12_mayBe_60 zSN_12_128 zC_12_128 rfl rfl rfl) (by omega) (s_X12_in σ a2 0 99)) (q_zretK (pc := 63) dX12_mayBe_63 rfl (zb_X12_in _ _ _ _))))))) (fun hz1 => Eq.trans (zif_intro (c := a1 = 1)) (ziti (fun hz2 => Eq.trans (zpc_eq (pc' := 64) (zsw_at hz2 (by decide))) (Eq.trans (q_iload_n (pc := 64) dX12_mayBe_64 rfl rfl) (Eq.trans (q_iconst (v := 0) (pc := 65) dX12_mayBe_65 rfl) (Eq.trans (q_bipush (v := 15) (pc := 66) dX12_mayBe_66 rfl) (Eq.trans (q_sumI (q_callS (as := [.int a2, .int 0, .int 15]) (rest := []) (l0 := [.int a2, .int 0, .int 15]) (pc := 68) dX12_mayBe_68 zSN_12_128 zC_12_128 rfl rfl rfl) (by omega) (s_X12_in σ a2 0 15)) (q_zretK (pc := 71) dX12_mayBe_71 rfl (zb_X12_in _ _ _ _))))))) (fun hz2 => Eq.trans (zif_intro (c := a1 = 5)) (ziti (fun hz3 => Eq.trans (zpc_eq (pc' := 72) (zsw_at hz3 (by decide))) (Eq.trans (q_iload_n (pc := 72) dX12_mayBe_72 rfl rfl) (Eq.trans (q_iconst (v := 1) (pc := 73) dX12_mayBe_73 rfl) (Eq.trans (q_bipush (v := 60) (pc := 74) dX12_mayBe_74 rfl) (Eq.trans (q_sumI (q_callS (as := [.int a2, .int 1, .int 60]) (rest := []) (l0 := [.int a2, .int 1, .int 60]) (pc := 76) dX12_mayBe_76 zSN_12_128 zC_12_128 rfl rfl rfl) (by omega) (s_X12_in σ a2 1 60)) (q_zretK (pc := 79) dX12_mayBe_79 rfl (zb_X12_in _ _ _ _))))))) (fun hz3 => Eq.trans (zif_intro (c := a1 = 6)) (ziti (fun hz4 => Eq.trans (zpc_eq (pc' := 80) (zsw_at hz4 (by decide))) (Eq.trans (q_iload_n (pc := 80) dX12_mayBe_80 rfl rfl) (Eq.trans (q_iconst (v := 2) (pc := 81) dX12_mayBe_81 rfl) (Eq.trans (q_bipush (v := 16) (pc := 82) dX12_mayBe_82 rfl) (Eq.trans (q_sumI (q_callS (as := [.int a2, .int 2, .int 16]) (rest := []) (l0 := [.int a2, .int 2, .int 16]) (pc := 84) dX12_mayBe_84 zSN_12_128 zC_12_128 rfl rfl rfl) (by omega) (s_X12_in σ a2 2 16)) (q_zretK (pc := 87) dX12_mayBe_87 rfl (zb_X12_in _ _ _ _))))))) (fun hz4 => Eq.trans (zif_intro (c := a1 = 8)) (ziti (fun hz5 => Eq.trans (zpc_eq (pc' := 88) (zsw_at hz5 (by decide))) (Eq.trans (q_iload_n (pc := 88) dX12_mayBe_88 rfl rfl) (Eq.trans (q_iconst (v := 1) (pc := 89) dX12_mayBe_89 rfl) (Eq.trans (q_bipush (v := 60) (pc := 90) dX12_mayBe_90 rfl) (Eq.trans (q_sumI (q_callS (as := [.int a2, .int 1, .int 60]) (rest := []) (l0 := [.int a2, .int 1, .int 60]) (pc := 92) dX12_mayBe_92 zSN_12_128 zC_12_128 rfl rfl rfl) (by omega) (s_X12_in σ a2 1 60)) (q_zretK (pc := 95) dX12_mayBe_95 rfl (zb_X12_in _ _ _ _))))))) (fun hz5 => Eq.trans (zif_intro (c := a1 = 9)) (ziti (fun hz6 => Eq.trans (zpc_eq (pc' := 96) (zsw_at hz6 (by decide))) (Eq.trans (q_iload_n (pc := 96) dX12_mayBe_96 rfl rfl) (Eq.trans (q_iconst (v := 0) (pc := 97) dX12_mayBe_97 rfl) (Eq.trans (q_bipush (v := 12) (pc := 98) dX12_mayBe_98 rfl) (Eq.trans (q_sumI (q_callS (as := [.int a2, .int 0, .int 12]) (rest := []) (l0 := [.int a2, .int 0, .int 12]) (pc := 100) dX12_mayBe_100 zSN_12_128 zC_12_128 rfl rfl rfl) (by omega) (s_X12_in σ a2 0 12)) (q_zretK (pc := 103) dX12_mayBe_103 rfl (zb_X12_in _ _ _ _))))))) (fun hz6 => Eq.trans (zpc_eq (pc' := 104) (zsw_df [0, 1, 5, 6, 8, 9] (by decide) (by decide) ⟨hz1, hz2, hz3, hz4, hz5, hz6, trivial⟩)) (Eq.trans (q_iload_n (pc := 104) dX12_mayBe_104 rfl rfl) (Eq.trans (q_iconst (v := 0) (pc := 105) dX12_mayBe_105 rfl) (Eq.trans (q_bipush (v := 9) (pc := 106) dX12_mayBe_106 rfl) (Eq.trans (q_sumI (q_callS (as := [.int a2, .int 0, .int 9]) (rest := []) (l0 := [.int a2, .int 0, .int 9]) (pc := 108) dX12_mayBe_108 zSN_12_128 zC_12_128 rfl rfl rfl) (by omega) (s_X12_in σ a2 0 9)) (q_zretK (pc := 111) dX12_mayBe_111 rfl (zb_X12_in _ _ _ _))))))))))))))))))))
theorem zb_X12_mayBe (σ : zS) (a1 : Int32) (a2 : Int32) : f_X12_mayBe σ a1 a2 = 0 ∨ f_X12_mayBe σ a1 a2 = 1 := by
  unfold f_X12_mayBe
  repeat' split
  all_goals first | exact Or.inl rfl | exact Or.inr rfl | exact zb_X12_in _ _ _ _
def f_X12_nameOf (σ : zS) (a1 : Int32) : Int32 := (if a1 = 100 then 4 else (if a1 = 101 then 3 else (if a1 = 103 then 0 else (if a1 = 104 then 1 else (if a1 = 105 then 5 else (if a1 = 116 then 2 else (-1)))))))
theorem s_X12_nameOf {X : zX} {d : Nat} {Q : Option Value → zH → Prop} (σ : zS) (a1 : Int32)  : zwp X d MX12_nameOf 0 [.int a1] [] (zen σ) Q = Q (some (.int (f_X12_nameOf σ a1))) (zen σ) :=
  Eq.trans (q_iload_n (pc := 0) dX12_nameOf_0 rfl rfl) (Eq.trans (q_tsw (pc := 1) dX12_nameOf_1 rfl (by decide) (by decide) (by decide)) (Eq.trans (zif_intro (c := a1 = 100)) (ziti (fun hz1 => Eq.trans (zpc_eq (pc' := 92) (zsw_at hz1 (by decide))) (Eq.trans (q_iconst (v := 4) (pc := 92) dX12_nameOf_92 rfl) (q_iret (pc := 93) dX12_nameOf_93 rfl rfl))) (fun hz1 => Eq.trans (zif_intro (c := a1 = 101)) (ziti (fun hz2 => Eq.trans (zpc_eq (pc' := 90) (zsw_at hz2 (by decide))) (Eq.trans (q_iconst (v := 3) (pc := 90) dX12_nameOf_90 rfl) (q_iret (pc := 91) dX12_nameOf_91 rfl rfl))) (fun hz2 => Eq.trans (zif_intro (c := a1 = 103)) (ziti (fun hz3 => Eq.trans (zpc_eq (pc' := 84) (zsw_at hz3 (by decide))) (Eq.trans (q_iconst (v := 0) (pc := 84) dX12_nameOf_84 rfl) (q_iret (pc := 85) dX12_nameOf_85 rfl rfl))) (fun hz3 => Eq.trans (zif_intro (c := a1 = 104)) (ziti (fun hz4 => Eq.trans (zpc_eq (pc' := 86) (zsw_at hz4 (by decide))) (Eq.trans (q_iconst (v := 1) (pc := 86) dX12_nameOf_86 rfl) (q_iret (pc := 87) dX12_nameOf_87 rfl rfl))) (fun hz4 => Eq.trans (zif_intro (c := a1 = 105)) (ziti (fun hz5 => Eq.trans (zpc_eq (pc' := 94) (zsw_at hz5 (by decide))) (Eq.trans (q_iconst (v := 5) (pc := 94) dX12_nameOf_94 rfl) (q_iret (pc := 95) dX12_nameOf_95 rfl rfl))) (fun hz5 => Eq.trans (zif_intro (c := a1 = 116)) (ziti (fun hz6 => Eq.trans (zpc_eq (pc' := 88) (zsw_at hz6 (by decide))) (Eq.trans (q_iconst (v := 2) (pc := 88) dX12_nameOf_88 rfl) (q_iret (pc := 89) dX12_nameOf_89 rfl rfl))) (fun hz6 => Eq.trans (zpc_eq (pc' := 96) (zsw_df [100, 101, 103, 104, 105, 116] (by decide) (by decide) ⟨hz1, hz2, hz3, hz4, hz5, hz6, trivial⟩)) (Eq.trans (q_iconst (v := (-1)) (pc := 96) dX12_nameOf_96 rfl) (q_iret (pc := 97) dX12_nameOf_97 rfl rfl))))))))))))))))
def f_X12_valueAt (σ : zS) (a2 : Int32) (a3 : Int32) : Int32 := (if a2 = 0 then (gi σ 67 (ix a3)) else (if a2 = 1 then (gi σ 68 (ix a3)) else (if a2 = 2 then (gi σ 69 (ix a3)) else (if a2 = 3 then (gi σ 70 (ix a3)) else (if a2 = 4 then (gi σ 71 (ix a3)) else (if a2 = 5 then (gi σ 72 (ix a3)) else (if a2 = 6 then (gi σ 66 9) else (if a2 = 7 then (gi σ 66 10) else (if a2 = 8 then (gi σ 66 11) else (gi σ 66 12))))))))))
def p_X12_valueAt (σ : zS) (a2 : Int32) (a3 : Int32) : Prop := (if a2 = 0 then zin a3 6 = true else (if a2 = 1 then zin a3 6 = true else (if a2 = 2 then zin a3 6 = true else (if a2 = 3 then zin a3 6 = true else (if a2 = 4 then zin a3 8 = true else (if a2 = 5 then zin a3 8 = true else True))))))
theorem s_X12_valueAt {X : zX} {d : Nat} {Q : Option Value → zH → Prop} (σ : zS) (a2 : Int32) (a3 : Int32)  : zwp X d MX12_valueAt 0 [.ref 66, .int a2, .int a3] [] (zen σ) Q = (p_X12_valueAt σ a2 a3 ∧ Q (some (.int (f_X12_valueAt σ a2 a3))) (zen σ)) :=
  Eq.trans (q_iload_n (pc := 0) dX12_valueAt_0 rfl rfl) (Eq.trans (q_tsw (pc := 1) dX12_valueAt_1 rfl (by decide) (by decide) (by decide)) (Eq.trans (zif_intro (c := a2 = 0)) (zitpi (fun hz1 => Eq.trans (zpc_eq (pc' := 52) (zsw_at hz1 (by decide))) (Eq.trans (q_aload_n (pc := 52) dX12_valueAt_52 rfl rfl) (Eq.trans (q_getf (pc := 53) dX12_valueAt_53 zF_12_7 (z_rfr zl_66 zh_66 (by decide) rfl)) (Eq.trans (q_iload_n (pc := 56) dX12_valueAt_56 rfl rfl) (Eq.trans (qe_iaload (x := (gi σ 67 (ix a3))) (pc := 57) dX12_valueAt_57 (z_ia zl_67 zh_67 (by decide)) rfl) (zand fun hz10 => q_iret (pc := 58) dX12_valueAt_58 rfl rfl)))))) (fun hz1 => Eq.trans (zif_intro (c := a2 = 1)) (zitpi (fun hz2 => Eq.trans (zpc_eq (pc' := 59) (zsw_at hz2 (by decide))) (Eq.trans (q_aload_n (pc := 59) dX12_valueAt_59 rfl rfl) (Eq.trans (q_getf (pc := 60) dX12_valueAt_60 zF_12_13 (z_rfr zl_66 zh_66 (by decide) rfl)) (Eq.trans (q_iload_n (pc := 63) dX12_valueAt_63 rfl rfl) (Eq.trans (qe_iaload (x := (gi σ 68 (ix a3))) (pc := 64) dX12_valueAt_64 (z_ia zl_68 zh_68 (by decide)) rfl) (zand fun hz11 => q_iret (pc := 65) dX12_valueAt_65 rfl rfl)))))) (fun hz2 => Eq.trans (zif_intro (c := a2 = 2)) (zitpi (fun hz3 => Eq.trans (zpc_eq (pc' := 66) (zsw_at hz3 (by decide))) (Eq.trans (q_aload_n (pc := 66) dX12_valueAt_66 rfl rfl) (Eq.trans (q_getf (pc := 67) dX12_valueAt_67 zF_12_16 (z_rfr zl_66 zh_66 (by decide) rfl)) (Eq.trans (q_iload_n (pc := 70) dX12_valueAt_70 rfl rfl) (Eq.trans (qe_iaload (x := (gi σ 69 (ix a3))) (pc := 71) dX12_valueAt_71 (z_ia zl_69 zh_69 (by decide)) rfl) (zand fun hz12 => q_iret (pc := 72) dX12_valueAt_72 rfl rfl)))))) (fun hz3 => Eq.trans (zif_intro (c := a2 = 3)) (zitpi (fun hz4 => Eq.trans (zpc_eq (pc' := 73) (zsw_at hz4 (by decide))) (Eq.trans (q_aload_n (pc := 73) dX12_valueAt_73 rfl rfl) (Eq.trans (q_getf (pc := 74) dX12_valueAt_74 zF_12_19 (z_rfr zl_66 zh_66 (by decide) rfl)) (Eq.trans (q_iload_n (pc := 77) dX12_valueAt_77 rfl rfl) (Eq.trans (qe_iaload (x := (gi σ 70 (ix a3))) (pc := 78) dX12_valueAt_78 (z_ia zl_70 zh_70 (by decide)) rfl) (zand fun hz13 => q_iret (pc := 79) dX12_valueAt_79 rfl rfl)))))) (fun hz4 => Eq.trans (zif_intro (c := a2 = 4)) (zitpi (fun hz5 => Eq.trans (zpc_eq (pc' := 80) (zsw_at hz5 (by decide))) (Eq.trans (q_aload_n (pc := 80) dX12_valueAt_80 rfl rfl) (Eq.trans (q_getf (pc := 81) dX12_valueAt_81 zF_12_22 (z_rfr zl_66 zh_66 (by decide) rfl)) (Eq.trans (q_iload_n (pc := 84) dX12_valueAt_84 rfl rfl) (Eq.trans (qe_iaload (x := (gi σ 71 (ix a3))) (pc := 85) dX12_valueAt_85 (z_ia zl_71 zh_71 (by decide)) rfl) (zand fun hz14 => q_iret (pc := 86) dX12_valueAt_86 rfl rfl)))))) (fun hz5 => Eq.trans (zif_intro (c := a2 = 5)) (zitpi (fun hz6 => Eq.trans (zpc_eq (pc' := 87) (zsw_at hz6 (by decide))) (Eq.trans (q_aload_n (pc := 87) dX12_valueAt_87 rfl rfl) (Eq.trans (q_getf (pc := 88) dX12_valueAt_88 zF_12_25 (z_rfr zl_66 zh_66 (by decide) rfl)) (Eq.trans (q_iload_n (pc := 91) dX12_valueAt_91 rfl rfl) (Eq.trans (qe_iaload (x := (gi σ 72 (ix a3))) (pc := 92) dX12_valueAt_92 (z_ia zl_72 zh_72 (by decide)) rfl) (zand fun hz15 => q_iret (pc := 93) dX12_valueAt_93 rfl rfl)))))) (fun hz6 => Eq.trans (Eq.trans (zif_intro (c := a2 = 6)) (ziti (fun hz7 => Eq.trans (zpc_eq (pc' := 94) (zsw_at hz7 (by decide))) (Eq.trans (q_aload_n (pc := 94) dX12_valueAt_94 rfl rfl) (Eq.trans (q_getf (pc := 95) dX12_valueAt_95 zF_12_28 (z_rfiE (x := (gi σ 66 9)) zl_66 zh_66 (by decide) rfl rfl)) (q_iret (pc := 98) dX12_valueAt_98 rfl rfl)))) (fun hz7 => Eq.trans (zif_intro (c := a2 = 7)) (ziti (fun hz8 => Eq.trans (zpc_eq (pc' := 99) (zsw_at hz8 (by decide))) (Eq.trans (q_aload_n (pc := 99) dX12_valueAt_99 rfl rfl) (Eq.trans (q_getf (pc := 100) dX12_valueAt_100 zF_12_32 (z_rfiE (x := (gi σ 66 10)) zl_66 zh_66 (by decide) rfl rfl)) (q_iret (pc := 103) dX12_valueAt_103 rfl rfl)))) (fun hz8 => Eq.trans (zif_intro (c := a2 = 8)) (ziti (fun hz9 => Eq.trans (zpc_eq (pc' := 104) (zsw_at hz9 (by decide))) (Eq.trans (q_aload_n (pc := 104) dX12_valueAt_104 rfl rfl) (Eq.trans (q_getf (pc := 105) dX12_valueAt_105 zF_12_35 (z_rfiE (x := (gi σ 66 11)) zl_66 zh_66 (by decide) rfl rfl)) (q_iret (pc := 108) dX12_valueAt_108 rfl rfl)))) (fun hz9 => Eq.trans (zpc_eq (pc' := 109) (zsw_df [0, 1, 2, 3, 4, 5, 6, 7, 8] (by decide) (by decide) ⟨hz1, hz2, hz3, hz4, hz5, hz6, hz7, hz8, hz9, trivial⟩)) (Eq.trans (q_aload_n (pc := 109) dX12_valueAt_109 rfl rfl) (Eq.trans (q_getf (pc := 110) dX12_valueAt_110 zF_12_145 (z_rfiE (x := (gi σ 66 12)) zl_66 zh_66 (by decide) rfl rfl)) (q_iret (pc := 113) dX12_valueAt_113 rfl rfl)))))))))) (true_and _).symm))))))))))))))
def f_X12_of (σ : zS) (a2 : Int32) (a3 : Int32) : Int32 := (if ¬ a3 = 10 then (if (f_X12_isOne σ a2 a3) = 0 then (-1) else (f_X12_valueAt σ a3 a2)) else (if (f_X12_in σ a2 0 15) = 0 then (-1) else (gi σ 85 (ix a2))))
def p_X12_of (σ : zS) (a2 : Int32) (a3 : Int32) : Prop := (if ¬ a3 = 10 then (if (f_X12_isOne σ a2 a3) = 0 then True else p_X12_valueAt σ a3 a2) else (if (f_X12_in σ a2 0 15) = 0 then True else zin a2 16 = true))
theorem s_X12_of {X : zX} {d : Nat} {Q : Option Value → zH → Prop} (hd : 3 ≤ d) (σ : zS) (a2 : Int32) (a3 : Int32)  : zwp X d MX12_of 0 [.ref 66, .int a2, .int a3] [] (zen σ) Q = (p_X12_of σ a2 a3 ∧ Q (some (.int (f_X12_of σ a2 a3))) (zen σ)) :=
  Eq.trans (q_iload_n (pc := 0) dX12_of_0 rfl rfl) (Eq.trans (q_bipush (v := 10) (pc := 1) dX12_of_1 rfl) (Eq.trans (q_icmp_ne (tgt := 27) (pc := 3) dX12_of_3 rfl) (zitpi (fun hz1 => Eq.trans (q_aload_n (pc := 27) dX12_of_27 rfl rfl) (Eq.trans (q_iload_n (pc := 28) dX12_of_28 rfl rfl) (Eq.trans (q_iload_n (pc := 29) dX12_of_29 rfl rfl) (Eq.trans (q_sumI (q_callV (as := [.int a2, .int a3]) (rest := []) (l0 := [.ref 66, .int a2, .int a3]) (pc := 30) dX12_of_30 zC_12_168 rfl (z_recv zl_66 zh_66) rfl rfl) (by omega) (s_X12_isOne (hd := by omega) σ a2 a3)) (Eq.trans (q_if_eq (tgt := 45) (pc := 33) dX12_of_33 rfl) (zitpi (fun hz2 => Eq.trans (Eq.trans (q_iconst (v := (-1)) (pc := 45) dX12_of_45 rfl) (q_iret (pc := 46) dX12_of_46 rfl rfl)) (true_and _).symm) (fun hz2 => Eq.trans (q_aload_n (pc := 36) dX12_of_36 rfl rfl) (Eq.trans (q_iload_n (pc := 37) dX12_of_37 rfl rfl) (Eq.trans (q_iload_n (pc := 38) dX12_of_38 rfl rfl) (Eq.trans (q_sumIP (q_callV (as := [.int a3, .int a2]) (rest := []) (l0 := [.ref 66, .int a3, .int a2]) (pc := 39) dX12_of_39 zC_12_148 rfl (z_recv zl_66 zh_66) rfl rfl) (by omega) (s_X12_valueAt σ a3 a2)) (zand fun hz3 => Eq.trans (q_goto (tgt := 46) (pc := 42) dX12_of_42 rfl) (q_iret (pc := 46) dX12_of_46 rfl rfl)))))))))))) (fun hz1 => Eq.trans (q_iload_n (pc := 6) dX12_of_6 rfl rfl) (Eq.trans (q_iconst (v := 0) (pc := 7) dX12_of_7 rfl) (Eq.trans (q_bipush (v := 15) (pc := 8) dX12_of_8 rfl) (Eq.trans (q_sumI (q_callS (as := [.int a2, .int 0, .int 15]) (rest := []) (l0 := [.int a2, .int 0, .int 15]) (pc := 10) dX12_of_10 zSN_12_128 zC_12_128 rfl rfl rfl) (by omega) (s_X12_in σ a2 0 15)) (Eq.trans (q_if_eq (tgt := 25) (pc := 13) dX12_of_13 rfl) (zitpi (fun hz4 => Eq.trans (Eq.trans (q_iconst (v := (-1)) (pc := 25) dX12_of_25 rfl) (q_iret (pc := 26) dX12_of_26 rfl rfl)) (true_and _).symm) (fun hz4 => Eq.trans (q_aload_n (pc := 16) dX12_of_16 rfl rfl) (Eq.trans (q_getf (pc := 17) dX12_of_17 zF_12_76 (z_rfr zl_66 zh_66 (by decide) rfl)) (Eq.trans (q_iload_n (pc := 20) dX12_of_20 rfl rfl) (Eq.trans (qe_iaload (x := (gi σ 85 (ix a2))) (pc := 21) dX12_of_21 (z_ia zl_85 zh_85 (by decide)) rfl) (zand fun hz5 => Eq.trans (q_goto (tgt := 26) (pc := 22) dX12_of_22 rfl) (q_iret (pc := 26) dX12_of_26 rfl rfl)))))))))))))))
def g_X12_wrong (σ : zS) : zS := (if 0 ≤ (gi σ 66 22) then σ else (si σ 66 22 (gi σ 66 21)))
theorem s_X12_wrong {X : zX} {d : Nat} {Q : Option Value → zH → Prop} (σ : zS)  : zwp X d MX12_wrong 0 [.ref 66] [] (zen σ) Q = Q none (zen (g_X12_wrong σ)) :=
  Eq.trans (q_aload_n (pc := 0) dX12_wrong_0 rfl rfl) (Eq.trans (q_getf (pc := 1) dX12_wrong_1 zF_12_184 (z_rfiE (x := (gi σ 66 22)) zl_66 zh_66 (by decide) rfl rfl)) (Eq.trans (q_if_ge (tgt := 15) (pc := 4) dX12_wrong_4 rfl) (zitns (fun hz1 => q_vret (pc := 15) dX12_wrong_15 rfl) (fun hz1 => Eq.trans (q_aload_n (pc := 7) dX12_wrong_7 rfl rfl) (Eq.trans (q_aload_n (pc := 8) dX12_wrong_8 rfl rfl) (Eq.trans (q_getf (pc := 9) dX12_wrong_9 zF_12_181 (z_rfiE (x := (gi σ 66 21)) zl_66 zh_66 (by decide) rfl rfl)) (Eq.trans (q_pf (pc := 12) dX12_wrong_12 zF_12_184 zPF_12_22 (z_pf zl_66 zh_66 rfl)) (q_vret (pc := 15) dX12_wrong_15 rfl))))))))
def f_X12_opens (σ : zS) : Int32 := (if ¬ (gi σ 66 23) = 6 then 1 else 0)
def g_X12_opens (σ : zS) : zS := (if ¬ (gi σ 66 23) = 6 then (si (si σ 66 23 ((gi σ 66 23) + 1)) 66 21 ((gi σ 66 21) + 1)) else (g_X12_wrong σ))
theorem s_X12_opens {X : zX} {d : Nat} {Q : Option Value → zH → Prop} (hd : 1 ≤ d) (σ : zS)  : zwp X d MX12_opens 0 [.ref 66] [] (zen σ) Q = Q (some (.int (f_X12_opens σ))) (zen (g_X12_opens σ)) :=
  Eq.trans (q_aload_n (pc := 0) dX12_opens_0 rfl rfl) (Eq.trans (q_getf (pc := 1) dX12_opens_1 zF_12_190 (z_rfiE (x := (gi σ 66 23)) zl_66 zh_66 (by decide) rfl rfl)) (Eq.trans (q_bipush (v := 6) (pc := 4) dX12_opens_4 rfl) (Eq.trans (q_icmp_ne (tgt := 15) (pc := 6) dX12_opens_6 rfl) (zitis (fun hz1 => Eq.trans (q_aload_n (pc := 15) dX12_opens_15 rfl rfl) (Eq.trans (q_dup_ref (pc := 16) dX12_opens_16) (Eq.trans (q_getf (pc := 17) dX12_opens_17 zF_12_190 (z_rfiE (x := (gi σ 66 23)) zl_66 zh_66 (by decide) rfl rfl)) (Eq.trans (q_iconst (v := 1) (pc := 20) dX12_opens_20 rfl) (Eq.trans (q_iadd (pc := 21) dX12_opens_21) (Eq.trans (q_pf (pc := 22) dX12_opens_22 zF_12_190 zPF_12_23 (z_pf zl_66 zh_66 rfl)) (Eq.trans (q_aload_n (pc := 25) dX12_opens_25 rfl rfl) (Eq.trans (q_dup_ref (pc := 26) dX12_opens_26) (Eq.trans (q_getf (pc := 27) dX12_opens_27 zF_12_181 (z_rfiE (x := (gi σ 66 21)) zl_66 zh_66 (by decide) rfl rfl)) (Eq.trans (q_iconst (v := 1) (pc := 30) dX12_opens_30 rfl) (Eq.trans (q_iadd (pc := 31) dX12_opens_31) (Eq.trans (q_pf (pc := 32) dX12_opens_32 zF_12_181 zPF_12_21 (z_pf zl_66 zh_66 rfl)) (Eq.trans (q_iconst (v := 1) (pc := 35) dX12_opens_35 rfl) (q_zretK (pc := 36) dX12_opens_36 rfl (by decide))))))))))))))) (fun hz1 => Eq.trans (q_aload_n (pc := 9) dX12_opens_9 rfl rfl) (Eq.trans (q_sumN (q_callV (as := []) (rest := []) (l0 := [.ref 66]) (pc := 10) dX12_opens_10 zC_12_193 rfl (z_recv zl_66 zh_66) rfl rfl) (by omega) (s_X12_wrong σ)) (Eq.trans (q_iconst (v := 0) (pc := 13) dX12_opens_13 rfl) (q_zretK (pc := 14) dX12_opens_14 rfl (by decide)))))))))
theorem zb_X12_opens (σ : zS) : f_X12_opens σ = 0 ∨ f_X12_opens σ = 1 := by
  unfold f_X12_opens
  repeat' split
  all_goals first | exact Or.inl rfl | exact Or.inr rfl
def f_X12_put (σ : zS) (a2 : Int32) (a3 : Int32) (a4 : Int64) : Int32 := (if 0 ≤ (f_X12_whyNoPlace σ a2 a3) then 1 else (f_X12_whyNoPlace σ a2 a3))
def p_X12_put (σ : zS) (a2 : Int32) (a3 : Int32) (a4 : Int64) : Prop := (p_X12_whyNoPlace σ a2 a3 ∧ (if 0 ≤ (f_X12_whyNoPlace σ a2 a3) then (zin a2 6 = true ∧ (if ¬ ((-2) - (gi σ 95 (ix a2))) = 0 then (if ¬ ((-2) - (gi σ 95 (ix a2))) = 1 then (if ¬ ((-2) - (gi σ 95 (ix a2))) = 2 then (if ¬ ((-2) - (gi σ 95 (ix a2))) = 3 then (if (lg_cmp a4 0) = 0 then zin ((60 * a2) + a3) 360 = true else zin ((60 * a2) + a3) 360 = true) else zin ((60 * a2) + a3) 360 = true) else zin ((60 * a2) + a3) 360 = true) else zin ((60 * a2) + a3) 360 = true) else zin ((60 * a2) + a3) 360 = true)) else True))
def g_X12_put (σ : zS) (a2 : Int32) (a3 : Int32) (a4 : Int64) : zS := (if 0 ≤ (f_X12_whyNoPlace σ a2 a3) then (if ¬ ((-2) - (gi σ 95 (ix a2))) = 0 then (if ¬ ((-2) - (gi σ 95 (ix a2))) = 1 then (if ¬ ((-2) - (gi σ 95 (ix a2))) = 2 then (if ¬ ((-2) - (gi σ 95 (ix a2))) = 3 then (if (lg_cmp a4 0) = 0 then (sl σ 97 (ix ((60 * a2) + a3)) 0) else (sl σ 97 (ix ((60 * a2) + a3)) 1)) else (sl σ 97 (ix ((60 * a2) + a3)) a4)) else (sl σ 97 (ix ((60 * a2) + a3)) (Int32.toInt64 (Int64.toInt32 a4)))) else (sl σ 97 (ix ((60 * a2) + a3)) (Int32.toInt64 ((Int32.toInt16 (Int64.toInt32 a4)).toInt32)))) else (sl σ 97 (ix ((60 * a2) + a3)) (Int32.toInt64 ((Int32.toInt8 (Int64.toInt32 a4)).toInt32)))) else σ)
theorem s_X12_put {X : zX} {d : Nat} {Q : Option Value → zH → Prop} (hd : 3 ≤ d) (σ : zS) (a2 : Int32) (a3 : Int32) (a4 : Int64)  : zwp X d MX12_put 0 [.ref 66, .int a2, .int a3, .long a4, .null, .null, .null] [] (zen σ) Q = (p_X12_put σ a2 a3 a4 ∧ Q (some (.int (f_X12_put σ a2 a3 a4))) (zen (g_X12_put σ a2 a3 a4))) :=
  Eq.trans (q_aload_n (pc := 0) dX12_put_0 rfl rfl) (Eq.trans (q_iload_n (pc := 1) dX12_put_1 rfl rfl) (Eq.trans (q_iload_n (pc := 2) dX12_put_2 rfl rfl) (Eq.trans (Eq.trans (q_sumIP (q_callV (as := [.int a2, .int a3]) (rest := []) (l0 := [.ref 66, .int a2, .int a3]) (pc := 3) dX12_put_3 zC_12_412 rfl (z_recv zl_66 zh_66) rfl rfl) (by omega) (s_X12_whyNoPlace (hd := by omega) σ a2 a3)) (zand fun hz1 => Eq.trans (q_istore (ls' := [.ref 66, .int a2, .int a3, .long a4, .null, .int (f_X12_whyNoPlace σ a2 a3), .null]) (pc := 6) dX12_put_6 (Nat.le_of_ble_eq_true rfl) rfl) (Eq.trans (q_iload (pc := 8) dX12_put_8 rfl) (Eq.trans (q_if_ge (tgt := 16) (pc := 10) dX12_put_10 rfl) (zitpis (fun hz2 => Eq.trans (q_bipush (v := (-2)) (pc := 16) dX12_put_16 rfl) (Eq.trans (q_aload_n (pc := 18) dX12_put_18 rfl rfl) (Eq.trans (q_getf (pc := 19) dX12_put_19 zF_12_109 (z_rfr zl_66 zh_66 (by decide) rfl)) (Eq.trans (q_iload_n (pc := 22) dX12_put_22 rfl rfl) (Eq.trans (Eq.trans (qe_iaload (x := (gi σ 95 (ix a2))) (pc := 23) dX12_put_23 (z_ia zl_95 zh_95 (by decide)) rfl) (zand fun hz3 => Eq.trans (q_isub (pc := 24) dX12_put_24) (Eq.trans (q_istore (ls' := [.ref 66, .int a2, .int a3, .long a4, .null, .int (f_X12_whyNoPlace σ a2 a3), .int ((-2) - (gi σ 95 (ix a2)))]) (pc := 25) dX12_put_25 (Nat.le_of_ble_eq_true rfl) rfl) (Eq.trans (q_aload_n (pc := 27) dX12_put_27 rfl rfl) (Eq.trans (q_getf (pc := 28) dX12_put_28 zF_12_115 (z_rfr zl_66 zh_66 (by decide) rfl)) (Eq.trans (q_bipush (v := 60) (pc := 31) dX12_put_31 rfl) (Eq.trans (q_iload_n (pc := 33) dX12_put_33 rfl rfl) (Eq.trans (q_imul (pc := 34) dX12_put_34) (Eq.trans (q_iload_n (pc := 35) dX12_put_35 rfl rfl) (Eq.trans (q_iadd (pc := 36) dX12_put_36) (Eq.trans (q_iload (pc := 37) dX12_put_37 rfl) (Eq.trans (q_if_ne (tgt := 49) (pc := 39) dX12_put_39 rfl) (zitpiks (fun hz4 => Eq.trans (q_iload (pc := 49) dX12_put_49 rfl) (Eq.trans (q_iconst (v := 1) (pc := 51) dX12_put_51 rfl) (Eq.trans (q_icmp_ne (tgt := 62) (pc := 52) dX12_put_52 rfl) (zitpiks (fun hz5 => Eq.trans (q_iload (pc := 62) dX12_put_62 rfl) (Eq.trans (q_iconst (v := 2) (pc := 64) dX12_put_64 rfl) (Eq.trans (q_icmp_ne (tgt := 74) (pc := 65) dX12_put_65 rfl) (zitpiks (fun hz6 => Eq.trans (q_iload (pc := 74) dX12_put_74 rfl) (Eq.trans (q_iconst (v := 3) (pc := 76) dX12_put_76 rfl) (Eq.trans (q_icmp_ne (tgt := 84) (pc := 77) dX12_put_77 rfl) (zitpiks (fun hz7 => Eq.trans (q_lload_n (pc := 84) dX12_put_84 rfl rfl) (Eq.trans (q_lconst (v := 0) (pc := 85) dX12_put_85 rfl) (Eq.trans (q_lcmp (pc := 86) dX12_put_86) (Eq.trans (q_if_eq (tgt := 94) (pc := 87) dX12_put_87 rfl) (zitpiks (fun hz8 => Eq.trans (q_lconst (v := 0) (pc := 94) dX12_put_94 rfl) (Eq.trans (q_lastore (pc := 95) dX12_put_95 (z_la zl_97 zh_97) (z_pl zl_97 zh_97)) (zand fun hz9 => Eq.trans (q_iconst (v := 1) (pc := 96) dX12_put_96 rfl) (q_iret (pc := 97) dX12_put_97 rfl rfl)))) (fun hz8 => Eq.trans (q_lconst (v := 1) (pc := 90) dX12_put_90 rfl) (Eq.trans (q_goto (tgt := 95) (pc := 91) dX12_put_91 rfl) (Eq.trans (q_lastore (pc := 95) dX12_put_95 (z_la zl_97 zh_97) (z_pl zl_97 zh_97)) (zand fun hz10 => Eq.trans (q_iconst (v := 1) (pc := 96) dX12_put_96 rfl) (q_iret (pc := 97) dX12_put_97 rfl rfl)))))))))) (fun hz7 => Eq.trans (q_lload_n (pc := 80) dX12_put_80 rfl rfl) (Eq.trans (q_goto (tgt := 95) (pc := 81) dX12_put_81 rfl) (Eq.trans (q_lastore (pc := 95) dX12_put_95 (z_la zl_97 zh_97) (z_pl zl_97 zh_97)) (zand fun hz11 => Eq.trans (q_iconst (v := 1) (pc := 96) dX12_put_96 rfl) (q_iret (pc := 97) dX12_put_97 rfl rfl))))))))) (fun hz6 => Eq.trans (q_lload_n (pc := 68) dX12_put_68 rfl rfl) (Eq.trans (q_l2i (pc := 69) dX12_put_69) (Eq.trans (q_i2l (pc := 70) dX12_put_70) (Eq.trans (q_goto (tgt := 95) (pc := 71) dX12_put_71 rfl) (Eq.trans (q_lastore (pc := 95) dX12_put_95 (z_la zl_97 zh_97) (z_pl zl_97 zh_97)) (zand fun hz12 => Eq.trans (q_iconst (v := 1) (pc := 96) dX12_put_96 rfl) (q_iret (pc := 97) dX12_put_97 rfl rfl))))))))))) (fun hz5 => Eq.trans (q_lload_n (pc := 55) dX12_put_55 rfl rfl) (Eq.trans (q_l2i (pc := 56) dX12_put_56) (Eq.trans (q_i2s (pc := 57) dX12_put_57) (Eq.trans (q_i2l (pc := 58) dX12_put_58) (Eq.trans (q_goto (tgt := 95) (pc := 59) dX12_put_59 rfl) (Eq.trans (q_lastore (pc := 95) dX12_put_95 (z_la zl_97 zh_97) (z_pl zl_97 zh_97)) (zand fun hz13 => Eq.trans (q_iconst (v := 1) (pc := 96) dX12_put_96 rfl) (q_iret (pc := 97) dX12_put_97 rfl rfl)))))))))))) (fun hz4 => Eq.trans (q_lload_n (pc := 42) dX12_put_42 rfl rfl) (Eq.trans (q_l2i (pc := 43) dX12_put_43) (Eq.trans (q_i2b (pc := 44) dX12_put_44) (Eq.trans (q_i2l (pc := 45) dX12_put_45) (Eq.trans (q_goto (tgt := 95) (pc := 46) dX12_put_46 rfl) (Eq.trans (q_lastore (pc := 95) dX12_put_95 (z_la zl_97 zh_97) (z_pl zl_97 zh_97)) (zand fun hz14 => Eq.trans (q_iconst (v := 1) (pc := 96) dX12_put_96 rfl) (q_iret (pc := 97) dX12_put_97 rfl rfl))))))))))))))))))))) zassoc))))) (fun hz2 => Eq.trans (Eq.trans (q_iload (pc := 13) dX12_put_13 rfl) (q_iret (pc := 15) dX12_put_15 rfl rfl)) (true_and _).symm)))))) zassoc)))
def f_X12_redo (σ : zS) : Int32 := (if ¬ (gi σ 66 14) = 0 then ((gi (g_X12_lays σ (gi σ 73 (ix (gi σ 66 13))) (gi σ 74 (ix (gi σ 66 13))) (gi σ 76 (ix (gi σ 66 13)))) 66 14) - 1) else (-5))
def p_X12_redo (σ : zS) : Prop := (if ¬ (gi σ 66 14) = 0 then (zin (gi σ 66 13) 40 = true ∧ (zin (gi σ 66 13) 40 = true ∧ (zin (gi σ 66 13) 40 = true ∧ p_X12_lays σ (gi σ 73 (ix (gi σ 66 13))) (gi σ 74 (ix (gi σ 66 13))) (gi σ 76 (ix (gi σ 66 13)))))) else True)
def g_X12_redo (σ : zS) : zS := (if ¬ (gi σ 66 14) = 0 then (si (si (g_X12_lays σ (gi σ 73 (ix (gi σ 66 13))) (gi σ 74 (ix (gi σ 66 13))) (gi σ 76 (ix (gi σ 66 13)))) 66 13 ((gi (g_X12_lays σ (gi σ 73 (ix (gi σ 66 13))) (gi σ 74 (ix (gi σ 66 13))) (gi σ 76 (ix (gi σ 66 13)))) 66 13) + 1)) 66 14 ((gi (g_X12_lays σ (gi σ 73 (ix (gi σ 66 13))) (gi σ 74 (ix (gi σ 66 13))) (gi σ 76 (ix (gi σ 66 13)))) 66 14) - 1)) else σ)
theorem s_X12_redo {X : zX} {d : Nat} {Q : Option Value → zH → Prop} (hd : 1 ≤ d) (σ : zS)  : zwp X d MX12_redo 0 [.ref 66] [] (zen σ) Q = (p_X12_redo σ ∧ Q (some (.int (f_X12_redo σ))) (zen (g_X12_redo σ))) :=
  Eq.trans (q_aload_n (pc := 0) dX12_redo_0 rfl rfl) (Eq.trans (q_getf (pc := 1) dX12_redo_1 zF_12_152 (z_rfiE (x := (gi σ 66 14)) zl_66 zh_66 (by decide) rfl rfl)) (Eq.trans (q_if_ne (tgt := 10) (pc := 4) dX12_redo_4 rfl) (zitpis (fun hz1 => Eq.trans (q_aload_n (pc := 10) dX12_redo_10 rfl rfl) (Eq.trans (q_aload_n (pc := 11) dX12_redo_11 rfl rfl) (Eq.trans (q_getf (pc := 12) dX12_redo_12 zF_12_38 (z_rfr zl_66 zh_66 (by decide) rfl)) (Eq.trans (q_aload_n (pc := 15) dX12_redo_15 rfl rfl) (Eq.trans (q_getf (pc := 16) dX12_redo_16 zF_12_155 (z_rfiE (x := (gi σ 66 13)) zl_66 zh_66 (by decide) rfl rfl)) (Eq.trans (Eq.trans (qe_iaload (x := (gi σ 73 (ix (gi σ 66 13)))) (pc := 19) dX12_redo_19 (z_ia zl_73 zh_73 (by decide)) rfl) (zand fun hz2 => Eq.trans (q_aload_n (pc := 20) dX12_redo_20 rfl rfl) (Eq.trans (q_getf (pc := 21) dX12_redo_21 zF_12_41 (z_rfr zl_66 zh_66 (by decide) rfl)) (Eq.trans (q_aload_n (pc := 24) dX12_redo_24 rfl rfl) (Eq.trans (q_getf (pc := 25) dX12_redo_25 zF_12_155 (z_rfiE (x := (gi σ 66 13)) zl_66 zh_66 (by decide) rfl rfl)) (Eq.trans (Eq.trans (qe_iaload (x := (gi σ 74 (ix (gi σ 66 13)))) (pc := 28) dX12_redo_28 (z_ia zl_74 zh_74 (by decide)) rfl) (zand fun hz3 => Eq.trans (q_aload_n (pc := 29) dX12_redo_29 rfl rfl) (Eq.trans (q_getf (pc := 30) dX12_redo_30 zF_12_47 (z_rfr zl_66 zh_66 (by decide) rfl)) (Eq.trans (q_aload_n (pc := 33) dX12_redo_33 rfl rfl) (Eq.trans (q_getf (pc := 34) dX12_redo_34 zF_12_155 (z_rfiE (x := (gi σ 66 13)) zl_66 zh_66 (by decide) rfl rfl)) (Eq.trans (Eq.trans (qe_iaload (x := (gi σ 76 (ix (gi σ 66 13)))) (pc := 37) dX12_redo_37 (z_ia zl_76 zh_76 (by decide)) rfl) (zand fun hz4 => Eq.trans (q_sumNP (q_callV (as := [.int (gi σ 73 (ix (gi σ 66 13))), .int (gi σ 74 (ix (gi σ 66 13))), .int (gi σ 76 (ix (gi σ 66 13)))]) (rest := []) (l0 := [.ref 66, .int (gi σ 73 (ix (gi σ 66 13))), .int (gi σ 74 (ix (gi σ 66 13))), .int (gi σ 76 (ix (gi σ 66 13)))]) (pc := 38) dX12_redo_38 zC_12_158 rfl (z_recv zl_66 zh_66) rfl rfl) (by omega) (s_X12_lays σ (gi σ 73 (ix (gi σ 66 13))) (gi σ 74 (ix (gi σ 66 13))) (gi σ 76 (ix (gi σ 66 13))))) (zand fun hz5 => Eq.trans (q_aload_n (pc := 41) dX12_redo_41 rfl rfl) (Eq.trans (q_dup_ref (pc := 42) dX12_redo_42) (Eq.trans (q_getf (pc := 43) dX12_redo_43 zF_12_155 (z_rfiE (x := (gi (g_X12_lays σ (gi σ 73 (ix (gi σ 66 13))) (gi σ 74 (ix (gi σ 66 13))) (gi σ 76 (ix (gi σ 66 13)))) 66 13)) zl_66 zh_66 (by decide) rfl rfl)) (Eq.trans (q_iconst (v := 1) (pc := 46) dX12_redo_46 rfl) (Eq.trans (q_iadd (pc := 47) dX12_redo_47) (Eq.trans (q_pf (pc := 48) dX12_redo_48 zF_12_155 zPF_12_13 (z_pf zl_66 zh_66 rfl)) (Eq.trans (q_aload_n (pc := 51) dX12_redo_51 rfl rfl) (Eq.trans (q_dup_ref (pc := 52) dX12_redo_52) (Eq.trans (q_getf (pc := 53) dX12_redo_53 zF_12_152 (z_rfiE (x := (gi (g_X12_lays σ (gi σ 73 (ix (gi σ 66 13))) (gi σ 74 (ix (gi σ 66 13))) (gi σ 76 (ix (gi σ 66 13)))) 66 14)) zl_66 zh_66 (by decide) rfl rfl)) (Eq.trans (q_iconst (v := 1) (pc := 56) dX12_redo_56 rfl) (Eq.trans (q_isub (pc := 57) dX12_redo_57) (Eq.trans (q_pf (pc := 58) dX12_redo_58 zF_12_152 zPF_12_14 (z_pf zl_66 zh_66 rfl)) (Eq.trans (q_aload_n (pc := 61) dX12_redo_61 rfl rfl) (Eq.trans (q_getf (pc := 62) dX12_redo_62 zF_12_152 (z_rfiE (x := ((gi (g_X12_lays σ (gi σ 73 (ix (gi σ 66 13))) (gi σ 74 (ix (gi σ 66 13))) (gi σ 76 (ix (gi σ 66 13)))) 66 14) - 1)) zl_66 zh_66 (by decide) rfl rfl)) (q_iret (pc := 65) dX12_redo_65 rfl rfl))))))))))))))))) zassoc)))))) zassoc)))))) zassoc)))))) (fun hz1 => Eq.trans (Eq.trans (q_bipush (v := (-5)) (pc := 7) dX12_redo_7 rfl) (q_iret (pc := 9) dX12_redo_9 rfl rfl)) (true_and _).symm))))
def f_X12_rowFault (σ : zS) (a2 : Int32) (a3 : Int32) : Int32 := (if ¬ (gi σ 95 (ix a2)) = (-1) then (if ¬ (gi σ 95 (ix a2)) = ((-2) - a3) then (-12) else 0) else (-11))
def p_X12_rowFault (σ : zS) (a2 : Int32) (a3 : Int32) : Prop := (zin a2 6 = true ∧ (if ¬ (gi σ 95 (ix a2)) = (-1) then zin a2 6 = true else True))
theorem s_X12_rowFault {X : zX} {d : Nat} {Q : Option Value → zH → Prop} (σ : zS) (a2 : Int32) (a3 : Int32)  : zwp X d MX12_rowFault 0 [.ref 66, .int a2, .int a3] [] (zen σ) Q = (p_X12_rowFault σ a2 a3 ∧ Q (some (.int (f_X12_rowFault σ a2 a3))) (zen σ)) :=
  Eq.trans (q_aload_n (pc := 0) dX12_rowFault_0 rfl rfl) (Eq.trans (q_getf (pc := 1) dX12_rowFault_1 zF_12_109 (z_rfr zl_66 zh_66 (by decide) rfl)) (Eq.trans (q_iload_n (pc := 4) dX12_rowFault_4 rfl rfl) (Eq.trans (Eq.trans (qe_iaload (x := (gi σ 95 (ix a2))) (pc := 5) dX12_rowFault_5 (z_ia zl_95 zh_95 (by decide)) rfl) (zand fun hz1 => Eq.trans (q_iconst (v := (-1)) (pc := 6) dX12_rowFault_6 rfl) (Eq.trans (q_icmp_ne (tgt := 15) (pc := 7) dX12_rowFault_7 rfl) (zitpi (fun hz2 => Eq.trans (q_aload_n (pc := 15) dX12_rowFault_15 rfl rfl) (Eq.trans (q_getf (pc := 16) dX12_rowFault_16 zF_12_109 (z_rfr zl_66 zh_66 (by decide) rfl)) (Eq.trans (q_iload_n (pc := 19) dX12_rowFault_19 rfl rfl) (Eq.trans (qe_iaload (x := (gi σ 95 (ix a2))) (pc := 20) dX12_rowFault_20 (z_ia zl_95 zh_95 (by decide)) rfl) (zand fun hz3 => Eq.trans (q_bipush (v := (-2)) (pc := 21) dX12_rowFault_21 rfl) (Eq.trans (q_iload_n (pc := 23) dX12_rowFault_23 rfl rfl) (Eq.trans (q_isub (pc := 24) dX12_rowFault_24) (Eq.trans (q_icmp_ne (tgt := 32) (pc := 25) dX12_rowFault_25 rfl) (ziti (fun hz4 => Eq.trans (q_bipush (v := (-12)) (pc := 32) dX12_rowFault_32 rfl) (q_iret (pc := 34) dX12_rowFault_34 rfl rfl)) (fun hz4 => Eq.trans (q_iconst (v := 0) (pc := 28) dX12_rowFault_28 rfl) (Eq.trans (q_goto (tgt := 34) (pc := 29) dX12_rowFault_29 rfl) (q_iret (pc := 34) dX12_rowFault_34 rfl rfl)))))))))))) (fun hz2 => Eq.trans (Eq.trans (q_bipush (v := (-11)) (pc := 10) dX12_rowFault_10 rfl) (Eq.trans (q_goto (tgt := 34) (pc := 12) dX12_rowFault_12 rfl) (q_iret (pc := 34) dX12_rowFault_34 rfl rfl))) (true_and _).symm))))) zassoc)))
def f_X12_salt (σ : zS) (a2 : Int32) : Int32 := (if ¬ (f_X12_in σ a2 0 15) = 0 then (gi σ 85 (ix a2)) else (-1))
def p_X12_salt (σ : zS) (a2 : Int32) : Prop := (if ¬ (f_X12_in σ a2 0 15) = 0 then (zin a2 16 = true ∧ zin a2 16 = true) else True)
def g_X12_salt (σ : zS) (a2 : Int32) : zS := (if ¬ (f_X12_in σ a2 0 15) = 0 then (si σ 85 (ix a2) 0) else σ)
theorem s_X12_salt {X : zX} {d : Nat} {Q : Option Value → zH → Prop} (hd : 1 ≤ d) (σ : zS) (a2 : Int32)  : zwp X d MX12_salt 0 [.ref 66, .int a2, .null] [] (zen σ) Q = (p_X12_salt σ a2 ∧ Q (some (.int (f_X12_salt σ a2))) (zen (g_X12_salt σ a2))) :=
  Eq.trans (q_iload_n (pc := 0) dX12_salt_0 rfl rfl) (Eq.trans (q_iconst (v := 0) (pc := 1) dX12_salt_1 rfl) (Eq.trans (q_bipush (v := 15) (pc := 2) dX12_salt_2 rfl) (Eq.trans (q_sumI (q_callS (as := [.int a2, .int 0, .int 15]) (rest := []) (l0 := [.int a2, .int 0, .int 15]) (pc := 4) dX12_salt_4 zSN_12_128 zC_12_128 rfl rfl rfl) (by omega) (s_X12_in σ a2 0 15)) (Eq.trans (q_if_ne (tgt := 12) (pc := 7) dX12_salt_7 rfl) (zitpis (fun hz1 => Eq.trans (q_aload_n (pc := 12) dX12_salt_12 rfl rfl) (Eq.trans (q_getf (pc := 13) dX12_salt_13 zF_12_76 (z_rfr zl_66 zh_66 (by decide) rfl)) (Eq.trans (q_iload_n (pc := 16) dX12_salt_16 rfl rfl) (Eq.trans (Eq.trans (qe_iaload (x := (gi σ 85 (ix a2))) (pc := 17) dX12_salt_17 (z_ia zl_85 zh_85 (by decide)) rfl) (zand fun hz2 => Eq.trans (q_istore_n (ls' := [.ref 66, .int a2, .int (gi σ 85 (ix a2))]) (pc := 18) dX12_salt_18 rfl (Nat.le_of_ble_eq_true rfl) rfl) (Eq.trans (q_aload_n (pc := 19) dX12_salt_19 rfl rfl) (Eq.trans (q_getf (pc := 20) dX12_salt_20 zF_12_76 (z_rfr zl_66 zh_66 (by decide) rfl)) (Eq.trans (q_iload_n (pc := 23) dX12_salt_23 rfl rfl) (Eq.trans (q_iconst (v := 0) (pc := 24) dX12_salt_24 rfl) (Eq.trans (q_iastore (pc := 25) dX12_salt_25 (zN_lt zl_85) (z_ia zl_85 zh_85 (by decide)) (z_pi zl_85 zh_85 (by decide))) (zand fun hz3 => Eq.trans (q_iload_n (pc := 26) dX12_salt_26 rfl rfl) (q_iret (pc := 27) dX12_salt_27 rfl rfl))))))))) zassoc)))) (fun hz1 => Eq.trans (Eq.trans (q_iconst (v := (-1)) (pc := 10) dX12_salt_10 rfl) (q_iret (pc := 11) dX12_salt_11 rfl rfl)) (true_and _).symm))))))
def f_X12_taken (σ : zS) (a2 : Int32) (a3 : Int32) : Int32 := (if (f_X12_isShelf σ a2) = 0 then (-1) else (if ¬ (f_X12_in σ a3 0 7) = 0 then (if ¬ (gi σ 95 (ix a2)) = (-1) then (if (gi σ 95 (ix a2)) < 0 then (-12) else (if (f_X12_isUnder σ (gi σ 93 (ix (gi σ 95 (ix a2)))) a3) = 0 then (-12) else (gi σ 93 (ix (gi σ 95 (ix a2)))))) else (-11)) else (-1)))
def p_X12_taken (σ : zS) (a2 : Int32) (a3 : Int32) : Prop := (if (f_X12_isShelf σ a2) = 0 then True else (if ¬ (f_X12_in σ a3 0 7) = 0 then (zin a2 6 = true ∧ (if ¬ (gi σ 95 (ix a2)) = (-1) then (zin a2 6 = true ∧ (if (gi σ 95 (ix a2)) < 0 then True else (zin a2 6 = true ∧ (zin (gi σ 95 (ix a2)) 50 = true ∧ (if (f_X12_isUnder σ (gi σ 93 (ix (gi σ 95 (ix a2)))) a3) = 0 then True else (zin a2 6 = true ∧ zin (gi σ 95 (ix a2)) 50 = true)))))) else True)) else True))
theorem s_X12_taken {X : zX} {d : Nat} {Q : Option Value → zH → Prop} (hd : 2 ≤ d) (σ : zS) (a2 : Int32) (a3 : Int32)  : zwp X d MX12_taken 0 [.ref 66, .int a2, .int a3] [] (zen σ) Q = (p_X12_taken σ a2 a3 ∧ Q (some (.int (f_X12_taken σ a2 a3))) (zen σ)) :=
  Eq.trans (q_iload_n (pc := 0) dX12_taken_0 rfl rfl) (Eq.trans (q_sumI (q_callS (as := [.int a2]) (rest := []) (l0 := [.int a2]) (pc := 1) dX12_taken_1 zSN_12_139 zC_12_139 rfl rfl rfl) (by omega) (s_X12_isShelf (hd := by omega) σ a2)) (Eq.trans (q_if_eq (tgt := 17) (pc := 4) dX12_taken_4 rfl) (zitpi (fun hz1 => Eq.trans (Eq.trans (q_iconst (v := (-1)) (pc := 17) dX12_taken_17 rfl) (q_iret (pc := 18) dX12_taken_18 rfl rfl)) (true_and _).symm) (fun hz1 => Eq.trans (q_iload_n (pc := 7) dX12_taken_7 rfl rfl) (Eq.trans (q_iconst (v := 0) (pc := 8) dX12_taken_8 rfl) (Eq.trans (q_bipush (v := 7) (pc := 9) dX12_taken_9 rfl) (Eq.trans (q_sumI (q_callS (as := [.int a3, .int 0, .int 7]) (rest := []) (l0 := [.int a3, .int 0, .int 7]) (pc := 11) dX12_taken_11 zSN_12_128 zC_12_128 rfl rfl rfl) (by omega) (s_X12_in σ a3 0 7)) (Eq.trans (q_if_ne (tgt := 19) (pc := 14) dX12_taken_14 rfl) (zitpi (fun hz2 => Eq.trans (q_aload_n (pc := 19) dX12_taken_19 rfl rfl) (Eq.trans (q_getf (pc := 20) dX12_taken_20 zF_12_109 (z_rfr zl_66 zh_66 (by decide) rfl)) (Eq.trans (q_iload_n (pc := 23) dX12_taken_23 rfl rfl) (Eq.trans (Eq.trans (qe_iaload (x := (gi σ 95 (ix a2))) (pc := 24) dX12_taken_24 (z_ia zl_95 zh_95 (by decide)) rfl) (zand fun hz3 => Eq.trans (q_iconst (v := (-1)) (pc := 25) dX12_taken_25 rfl) (Eq.trans (q_icmp_ne (tgt := 32) (pc := 26) dX12_taken_26 rfl) (zitpi (fun hz4 => Eq.trans (q_aload_n (pc := 32) dX12_taken_32 rfl rfl) (Eq.trans (q_getf (pc := 33) dX12_taken_33 zF_12_109 (z_rfr zl_66 zh_66 (by decide) rfl)) (Eq.trans (q_iload_n (pc := 36) dX12_taken_36 rfl rfl) (Eq.trans (Eq.trans (qe_iaload (x := (gi σ 95 (ix a2))) (pc := 37) dX12_taken_37 (z_ia zl_95 zh_95 (by decide)) rfl) (zand fun hz5 => Eq.trans (q_if_lt (tgt := 73) (pc := 38) dX12_taken_38 rfl) (zitpi (fun hz6 => Eq.trans (Eq.trans (q_bipush (v := (-12)) (pc := 73) dX12_taken_73 rfl) (q_iret (pc := 75) dX12_taken_75 rfl rfl)) (true_and _).symm) (fun hz6 => Eq.trans (q_aload_n (pc := 41) dX12_taken_41 rfl rfl) (Eq.trans (q_getf (pc := 42) dX12_taken_42 zF_12_103 (z_rfr zl_66 zh_66 (by decide) rfl)) (Eq.trans (q_aload_n (pc := 45) dX12_taken_45 rfl rfl) (Eq.trans (q_getf (pc := 46) dX12_taken_46 zF_12_109 (z_rfr zl_66 zh_66 (by decide) rfl)) (Eq.trans (q_iload_n (pc := 49) dX12_taken_49 rfl rfl) (Eq.trans (Eq.trans (qe_iaload (x := (gi σ 95 (ix a2))) (pc := 50) dX12_taken_50 (z_ia zl_95 zh_95 (by decide)) rfl) (zand fun hz7 => Eq.trans (Eq.trans (qe_iaload (x := (gi σ 93 (ix (gi σ 95 (ix a2))))) (pc := 51) dX12_taken_51 (z_ia zl_93 zh_93 (by decide)) rfl) (zand fun hz8 => Eq.trans (q_iload_n (pc := 52) dX12_taken_52 rfl rfl) (Eq.trans (q_sumI (q_callS (as := [.int (gi σ 93 (ix (gi σ 95 (ix a2)))), .int a3]) (rest := []) (l0 := [.int (gi σ 93 (ix (gi σ 95 (ix a2)))), .int a3]) (pc := 53) dX12_taken_53 zSN_12_376 zC_12_376 rfl rfl rfl) (by omega) (s_X12_isUnder σ (gi σ 93 (ix (gi σ 95 (ix a2)))) a3)) (Eq.trans (q_if_eq (tgt := 73) (pc := 56) dX12_taken_56 rfl) (zitpi (fun hz9 => Eq.trans (Eq.trans (q_bipush (v := (-12)) (pc := 73) dX12_taken_73 rfl) (q_iret (pc := 75) dX12_taken_75 rfl rfl)) (true_and _).symm) (fun hz9 => Eq.trans (q_aload_n (pc := 59) dX12_taken_59 rfl rfl) (Eq.trans (q_getf (pc := 60) dX12_taken_60 zF_12_103 (z_rfr zl_66 zh_66 (by decide) rfl)) (Eq.trans (q_aload_n (pc := 63) dX12_taken_63 rfl rfl) (Eq.trans (q_getf (pc := 64) dX12_taken_64 zF_12_109 (z_rfr zl_66 zh_66 (by decide) rfl)) (Eq.trans (q_iload_n (pc := 67) dX12_taken_67 rfl rfl) (Eq.trans (Eq.trans (qe_iaload (x := (gi σ 95 (ix a2))) (pc := 68) dX12_taken_68 (z_ia zl_95 zh_95 (by decide)) rfl) (zand fun hz10 => Eq.trans (qe_iaload (x := (gi σ 93 (ix (gi σ 95 (ix a2))))) (pc := 69) dX12_taken_69 (z_ia zl_93 zh_93 (by decide)) rfl) (zand fun hz11 => Eq.trans (q_goto (tgt := 75) (pc := 70) dX12_taken_70 rfl) (q_iret (pc := 75) dX12_taken_75 rfl rfl)))) zassoc))))))))))) zassoc)) zassoc))))))))) zassoc)))) (fun hz4 => Eq.trans (Eq.trans (q_bipush (v := (-11)) (pc := 29) dX12_taken_29 rfl) (q_iret (pc := 31) dX12_taken_31 rfl rfl)) (true_and _).symm))))) zassoc)))) (fun hz2 => Eq.trans (Eq.trans (q_iconst (v := (-1)) (pc := 17) dX12_taken_17 rfl) (q_iret (pc := 18) dX12_taken_18 rfl rfl)) (true_and _).symm))))))))))
def f_X12_thawed (σ : zS) (a2 : Int32) (a3 : Int32) : Int32 := (if (gi σ 86 (ix a2)) ≤ ((gi σ 66 10) * a3) then 0 else ((gi σ 86 (ix a2)) - ((gi σ 66 10) * a3)))
def p_X12_thawed (σ : zS) (a2 : Int32) (a3 : Int32) : Prop := (zin a2 16 = true ∧ (if (gi σ 86 (ix a2)) ≤ ((gi σ 66 10) * a3) then True else zin a2 16 = true))
theorem s_X12_thawed {X : zX} {d : Nat} {Q : Option Value → zH → Prop} (σ : zS) (a2 : Int32) (a3 : Int32)  : zwp X d MX12_thawed 0 [.ref 66, .int a2, .int a3] [] (zen σ) Q = (p_X12_thawed σ a2 a3 ∧ Q (some (.int (f_X12_thawed σ a2 a3))) (zen σ)) :=
  Eq.trans (q_aload_n (pc := 0) dX12_thawed_0 rfl rfl) (Eq.trans (q_getf (pc := 1) dX12_thawed_1 zF_12_79 (z_rfr zl_66 zh_66 (by decide) rfl)) (Eq.trans (q_iload_n (pc := 4) dX12_thawed_4 rfl rfl) (Eq.trans (Eq.trans (qe_iaload (x := (gi σ 86 (ix a2))) (pc := 5) dX12_thawed_5 (z_ia zl_86 zh_86 (by decide)) rfl) (zand fun hz1 => Eq.trans (q_aload_n (pc := 6) dX12_thawed_6 rfl rfl) (Eq.trans (q_getf (pc := 7) dX12_thawed_7 zF_12_32 (z_rfiE (x := (gi σ 66 10)) zl_66 zh_66 (by decide) rfl rfl)) (Eq.trans (q_iload_n (pc := 10) dX12_thawed_10 rfl rfl) (Eq.trans (q_imul (pc := 11) dX12_thawed_11) (Eq.trans (q_icmp_le (tgt := 31) (pc := 12) dX12_thawed_12 rfl) (zitpi (fun hz2 => Eq.trans (Eq.trans (q_iconst (v := 0) (pc := 31) dX12_thawed_31 rfl) (q_iret (pc := 32) dX12_thawed_32 rfl rfl)) (true_and _).symm) (fun hz2 => Eq.trans (q_aload_n (pc := 15) dX12_thawed_15 rfl rfl) (Eq.trans (q_getf (pc := 16) dX12_thawed_16 zF_12_79 (z_rfr zl_66 zh_66 (by decide) rfl)) (Eq.trans (q_iload_n (pc := 19) dX12_thawed_19 rfl rfl) (Eq.trans (qe_iaload (x := (gi σ 86 (ix a2))) (pc := 20) dX12_thawed_20 (z_ia zl_86 zh_86 (by decide)) rfl) (zand fun hz3 => Eq.trans (q_aload_n (pc := 21) dX12_thawed_21 rfl rfl) (Eq.trans (q_getf (pc := 22) dX12_thawed_22 zF_12_32 (z_rfiE (x := (gi σ 66 10)) zl_66 zh_66 (by decide) rfl rfl)) (Eq.trans (q_iload_n (pc := 25) dX12_thawed_25 rfl rfl) (Eq.trans (q_imul (pc := 26) dX12_thawed_26) (Eq.trans (q_isub (pc := 27) dX12_thawed_27) (Eq.trans (q_goto (tgt := 32) (pc := 28) dX12_thawed_28 rfl) (q_iret (pc := 32) dX12_thawed_32 rfl rfl)))))))))))))))))) zassoc)))
def f_X12_trace (σ : zS) (a2 : Int32) : Int32 := (if a2 < 0 then (-1) else (if (gi σ 66 51) ≤ a2 then (-1) else (if 24 ≤ a2 then (-1) else (gi σ 94 (ix a2)))))
def p_X12_trace (σ : zS) (a2 : Int32) : Prop := (if a2 < 0 then True else (if (gi σ 66 51) ≤ a2 then True else (if 24 ≤ a2 then True else zin a2 24 = true)))
theorem s_X12_trace {X : zX} {d : Nat} {Q : Option Value → zH → Prop} (σ : zS) (a2 : Int32)  : zwp X d MX12_trace 0 [.ref 66, .int a2] [] (zen σ) Q = (p_X12_trace σ a2 ∧ Q (some (.int (f_X12_trace σ a2))) (zen σ)) :=
  Eq.trans (q_iload_n (pc := 0) dX12_trace_0 rfl rfl) (Eq.trans (q_if_lt (tgt := 27) (pc := 1) dX12_trace_1 rfl) (zitpi (fun hz1 => Eq.trans (Eq.trans (q_iconst (v := (-1)) (pc := 27) dX12_trace_27 rfl) (q_iret (pc := 28) dX12_trace_28 rfl rfl)) (true_and _).symm) (fun hz1 => Eq.trans (q_iload_n (pc := 4) dX12_trace_4 rfl rfl) (Eq.trans (q_aload_n (pc := 5) dX12_trace_5 rfl rfl) (Eq.trans (q_getf (pc := 6) dX12_trace_6 zF_12_367 (z_rfiE (x := (gi σ 66 51)) zl_66 zh_66 (by decide) rfl rfl)) (Eq.trans (q_icmp_ge (tgt := 27) (pc := 9) dX12_trace_9 rfl) (zitpi (fun hz2 => Eq.trans (Eq.trans (q_iconst (v := (-1)) (pc := 27) dX12_trace_27 rfl) (q_iret (pc := 28) dX12_trace_28 rfl rfl)) (true_and _).symm) (fun hz2 => Eq.trans (q_iload_n (pc := 12) dX12_trace_12 rfl rfl) (Eq.trans (q_bipush (v := 24) (pc := 13) dX12_trace_13 rfl) (Eq.trans (q_icmp_ge (tgt := 27) (pc := 15) dX12_trace_15 rfl) (zitpi (fun hz3 => Eq.trans (Eq.trans (q_iconst (v := (-1)) (pc := 27) dX12_trace_27 rfl) (q_iret (pc := 28) dX12_trace_28 rfl rfl)) (true_and _).symm) (fun hz3 => Eq.trans (q_aload_n (pc := 18) dX12_trace_18 rfl rfl) (Eq.trans (q_getf (pc := 19) dX12_trace_19 zF_12_106 (z_rfr zl_66 zh_66 (by decide) rfl)) (Eq.trans (q_iload_n (pc := 22) dX12_trace_22 rfl rfl) (Eq.trans (qe_iaload (x := (gi σ 94 (ix a2))) (pc := 23) dX12_trace_23 (z_ia zl_94 zh_94 (by decide)) rfl) (zand fun hz4 => Eq.trans (q_goto (tgt := 28) (pc := 24) dX12_trace_24 rfl) (q_iret (pc := 28) dX12_trace_28 rfl rfl)))))))))))))))))
def f_X12_turn (σ : zS) (a2 : Int32) (a3 : Int32) : Int32 := (if (f_X12_in σ a2 0 9) = 0 then (-1) else (if ¬ (f_X12_in σ a3 1 60) = 0 then (if ¬ (gi σ 66 6) = 8 then (((gi σ 66 6) + 1) - 1) else (-3)) else (-1)))
def p_X12_turn (σ : zS) (a2 : Int32) (a3 : Int32) : Prop := (if (f_X12_in σ a2 0 9) = 0 then True else (if ¬ (f_X12_in σ a3 1 60) = 0 then (if ¬ (gi σ 66 6) = 8 then (zin (gi σ 66 6) 8 = true ∧ zin (gi σ 66 6) 8 = true) else True) else True))
def g_X12_turn (σ : zS) (a2 : Int32) (a3 : Int32) : zS := (if (f_X12_in σ a2 0 9) = 0 then σ else (if ¬ (f_X12_in σ a3 1 60) = 0 then (if ¬ (gi σ 66 6) = 8 then (si (si (si σ 71 (ix (gi σ 66 6)) a2) 72 (ix (gi σ 66 6)) a3) 66 6 ((gi σ 66 6) + 1)) else σ) else σ))
theorem s_X12_turn {X : zX} {d : Nat} {Q : Option Value → zH → Prop} (hd : 1 ≤ d) (σ : zS) (a2 : Int32) (a3 : Int32)  : zwp X d MX12_turn 0 [.ref 66, .int a2, .int a3] [] (zen σ) Q = (p_X12_turn σ a2 a3 ∧ Q (some (.int (f_X12_turn σ a2 a3))) (zen (g_X12_turn σ a2 a3))) :=
  Eq.trans (q_iload_n (pc := 0) dX12_turn_0 rfl rfl) (Eq.trans (q_iconst (v := 0) (pc := 1) dX12_turn_1 rfl) (Eq.trans (q_bipush (v := 9) (pc := 2) dX12_turn_2 rfl) (Eq.trans (q_sumI (q_callS (as := [.int a2, .int 0, .int 9]) (rest := []) (l0 := [.int a2, .int 0, .int 9]) (pc := 4) dX12_turn_4 zSN_12_128 zC_12_128 rfl rfl rfl) (by omega) (s_X12_in σ a2 0 9)) (Eq.trans (q_if_eq (tgt := 20) (pc := 7) dX12_turn_7 rfl) (zitpis (fun hz1 => Eq.trans (Eq.trans (q_iconst (v := (-1)) (pc := 20) dX12_turn_20 rfl) (q_iret (pc := 21) dX12_turn_21 rfl rfl)) (true_and _).symm) (fun hz1 => Eq.trans (q_iload_n (pc := 10) dX12_turn_10 rfl rfl) (Eq.trans (q_iconst (v := 1) (pc := 11) dX12_turn_11 rfl) (Eq.trans (q_bipush (v := 60) (pc := 12) dX12_turn_12 rfl) (Eq.trans (q_sumI (q_callS (as := [.int a3, .int 1, .int 60]) (rest := []) (l0 := [.int a3, .int 1, .int 60]) (pc := 14) dX12_turn_14 zSN_12_128 zC_12_128 rfl rfl rfl) (by omega) (s_X12_in σ a3 1 60)) (Eq.trans (q_if_ne (tgt := 22) (pc := 17) dX12_turn_17 rfl) (zitpis (fun hz2 => Eq.trans (q_aload_n (pc := 22) dX12_turn_22 rfl rfl) (Eq.trans (q_getf (pc := 23) dX12_turn_23 zF_12_132 (z_rfiE (x := (gi σ 66 6)) zl_66 zh_66 (by decide) rfl rfl)) (Eq.trans (q_bipush (v := 8) (pc := 26) dX12_turn_26 rfl) (Eq.trans (q_icmp_ne (tgt := 34) (pc := 28) dX12_turn_28 rfl) (zitpis (fun hz3 => Eq.trans (q_aload_n (pc := 34) dX12_turn_34 rfl rfl) (Eq.trans (q_getf (pc := 35) dX12_turn_35 zF_12_22 (z_rfr zl_66 zh_66 (by decide) rfl)) (Eq.trans (q_aload_n (pc := 38) dX12_turn_38 rfl rfl) (Eq.trans (q_getf (pc := 39) dX12_turn_39 zF_12_132 (z_rfiE (x := (gi σ 66 6)) zl_66 zh_66 (by decide) rfl rfl)) (Eq.trans (q_iload_n (pc := 42) dX12_turn_42 rfl rfl) (Eq.trans (Eq.trans (q_iastore (pc := 43) dX12_turn_43 (zN_lt zl_71) (z_ia zl_71 zh_71 (by decide)) (z_pi zl_71 zh_71 (by decide))) (zand fun hz4 => Eq.trans (q_aload_n (pc := 44) dX12_turn_44 rfl rfl) (Eq.trans (q_getf (pc := 45) dX12_turn_45 zF_12_25 (z_rfr zl_66 zh_66 (by decide) rfl)) (Eq.trans (q_aload_n (pc := 48) dX12_turn_48 rfl rfl) (Eq.trans (q_getf (pc := 49) dX12_turn_49 zF_12_132 (z_rfiE (x := (gi σ 66 6)) zl_66 zh_66 (by decide) rfl rfl)) (Eq.trans (q_iload_n (pc := 52) dX12_turn_52 rfl rfl) (Eq.trans (q_iastore (pc := 53) dX12_turn_53 (zN_lt zl_72) (z_ia zl_72 zh_72 (by decide)) (z_pi zl_72 zh_72 (by decide))) (zand fun hz5 => Eq.trans (q_aload_n (pc := 54) dX12_turn_54 rfl rfl) (Eq.trans (q_dup_ref (pc := 55) dX12_turn_55) (Eq.trans (q_getf (pc := 56) dX12_turn_56 zF_12_132 (z_rfiE (x := (gi σ 66 6)) zl_66 zh_66 (by decide) rfl rfl)) (Eq.trans (q_iconst (v := 1) (pc := 59) dX12_turn_59 rfl) (Eq.trans (q_iadd (pc := 60) dX12_turn_60) (Eq.trans (q_pf (pc := 61) dX12_turn_61 zF_12_132 zPF_12_6 (z_pf zl_66 zh_66 rfl)) (Eq.trans (q_aload_n (pc := 64) dX12_turn_64 rfl rfl) (Eq.trans (q_getf (pc := 65) dX12_turn_65 zF_12_132 (z_rfiE (x := ((gi σ 66 6) + 1)) zl_66 zh_66 (by decide) rfl rfl)) (Eq.trans (q_iconst (v := 1) (pc := 68) dX12_turn_68 rfl) (Eq.trans (q_isub (pc := 69) dX12_turn_69) (q_iret (pc := 70) dX12_turn_70 rfl rfl)))))))))))))))))) zassoc)))))) (fun hz3 => Eq.trans (Eq.trans (q_bipush (v := (-3)) (pc := 31) dX12_turn_31 rfl) (q_iret (pc := 33) dX12_turn_33 rfl rfl)) (true_and _).symm)))))) (fun hz2 => Eq.trans (Eq.trans (q_iconst (v := (-1)) (pc := 20) dX12_turn_20 rfl) (q_iret (pc := 21) dX12_turn_21 rfl rfl)) (true_and _).symm))))))))))))
def f_X12_twoOf (σ : zS) (a1 : Int32) (a2 : Int32) (a3 : Int32) : Int32 := (if a1 = 37 then (if a3 = 0 then 0 else (if ¬ a3 = (-1) then (a2 - a2 / a3 * a3) else 0)) else (if a1 = 38 then (if a2 = 0 then 0 else (if a3 = 0 then 0 else 1)) else (if a1 = 42 then (a2 * a3) else (if a1 = 43 then (a2 + a3) else (if a1 = 45 then (a2 - a3) else (if a1 = 47 then (if ¬ a3 = 0 then (if ¬ a3 = (-1) then (a2 / a3) else (-a2)) else 0) else (if a1 = 60 then (if a3 ≤ a2 then 0 else 1) else (if a1 = 61 then (if ¬ a2 = a3 then 0 else 1) else (if a1 = 62 then (if a2 ≤ a3 then 0 else 1) else (if ¬ a2 = 0 then 1 else (if a3 = 0 then 0 else 1)))))))))))
def p_X12_twoOf (σ : zS) (a1 : Int32) (a2 : Int32) (a3 : Int32) : Prop := (if a1 = 37 then (if a3 = 0 then True else (if ¬ a3 = (-1) then decide (¬ a3 = 0) = true else True)) else (if a1 = 38 then True else (if a1 = 42 then True else (if a1 = 43 then True else (if a1 = 45 then True else (if a1 = 47 then (if ¬ a3 = 0 then (if ¬ a3 = (-1) then decide (¬ a3 = 0) = true else True) else True) else True))))))
theorem s_X12_twoOf {X : zX} {d : Nat} {Q : Option Value → zH → Prop} (σ : zS) (a1 : Int32) (a2 : Int32) (a3 : Int32)  : zwp X d MX12_twoOf 0 [.int a1, .int a2, .int a3] [] (zen σ) Q = (p_X12_twoOf σ a1 a2 a3 ∧ Q (some (.int (f_X12_twoOf σ a1 a2 a3))) (zen σ)) :=
  Eq.trans (q_iload_n (pc := 0) dX12_twoOf_0 rfl rfl) (Eq.trans (q_tsw (pc := 1) dX12_twoOf_1 rfl (by decide) (by decide) (by decide)) (Eq.trans (zif_intro (c := a1 = 37)) (zitpi (fun hz1 => Eq.trans (zpc_eq (pc' := 154) (zsw_at hz1 (by decide))) (Eq.trans (q_iload_n (pc := 154) dX12_twoOf_154 rfl rfl) (Eq.trans (q_if_eq (tgt := 163) (pc := 155) dX12_twoOf_155 rfl) (zitpi (fun hz10 => Eq.trans (Eq.trans (q_iconst (v := 0) (pc := 163) dX12_twoOf_163 rfl) (Eq.trans (q_goto (tgt := 170) (pc := 164) dX12_twoOf_164 rfl) (q_iret (pc := 170) dX12_twoOf_170 rfl rfl))) (true_and _).symm) (fun hz10 => Eq.trans (q_iload_n (pc := 158) dX12_twoOf_158 rfl rfl) (Eq.trans (q_iconst (v := (-1)) (pc := 159) dX12_twoOf_159 rfl) (Eq.trans (q_icmp_ne (tgt := 167) (pc := 160) dX12_twoOf_160 rfl) (zitpi (fun hz11 => Eq.trans (q_iload_n (pc := 167) dX12_twoOf_167 rfl rfl) (Eq.trans (q_iload_n (pc := 168) dX12_twoOf_168 rfl rfl) (Eq.trans (q_irem (pc := 169) dX12_twoOf_169) (zand fun hz12 => q_iret (pc := 170) dX12_twoOf_170 rfl rfl)))) (fun hz11 => Eq.trans (Eq.trans (q_iconst (v := 0) (pc := 163) dX12_twoOf_163 rfl) (Eq.trans (q_goto (tgt := 170) (pc := 164) dX12_twoOf_164 rfl) (q_iret (pc := 170) dX12_twoOf_170 rfl rfl))) (true_and _).symm))))))))) (fun hz1 => Eq.trans (zif_intro (c := a1 = 38)) (zitpi (fun hz2 => Eq.trans (Eq.trans (zpc_eq (pc' := 204) (zsw_at hz2 (by decide))) (Eq.trans (q_iload_n (pc := 204) dX12_twoOf_204 rfl rfl) (Eq.trans (q_if_eq (tgt := 216) (pc := 205) dX12_twoOf_205 rfl) (ziti (fun hz13 => Eq.trans (q_iconst (v := 0) (pc := 216) dX12_twoOf_216 rfl) (q_iret (pc := 217) dX12_twoOf_217 rfl rfl)) (fun hz13 => Eq.trans (q_iload_n (pc := 208) dX12_twoOf_208 rfl rfl) (Eq.trans (q_if_eq (tgt := 216) (pc := 209) dX12_twoOf_209 rfl) (ziti (fun hz14 => Eq.trans (q_iconst (v := 0) (pc := 216) dX12_twoOf_216 rfl) (q_iret (pc := 217) dX12_twoOf_217 rfl rfl)) (fun hz14 => Eq.trans (q_iconst (v := 1) (pc := 212) dX12_twoOf_212 rfl) (Eq.trans (q_goto (tgt := 217) (pc := 213) dX12_twoOf_213 rfl) (q_iret (pc := 217) dX12_twoOf_217 rfl rfl)))))))))) (true_and _).symm) (fun hz2 => Eq.trans (zif_intro (c := a1 = 42)) (zitpi (fun hz3 => Eq.trans (Eq.trans (zpc_eq (pc' := 128) (zsw_at hz3 (by decide))) (Eq.trans (q_iload_n (pc := 128) dX12_twoOf_128 rfl rfl) (Eq.trans (q_iload_n (pc := 129) dX12_twoOf_129 rfl rfl) (Eq.trans (q_imul (pc := 130) dX12_twoOf_130) (q_iret (pc := 131) dX12_twoOf_131 rfl rfl))))) (true_and _).symm) (fun hz3 => Eq.trans (zif_intro (c := a1 = 43)) (zitpi (fun hz4 => Eq.trans (Eq.trans (zpc_eq (pc' := 120) (zsw_at hz4 (by decide))) (Eq.trans (q_iload_n (pc := 120) dX12_twoOf_120 rfl rfl) (Eq.trans (q_iload_n (pc := 121) dX12_twoOf_121 rfl rfl) (Eq.trans (q_iadd (pc := 122) dX12_twoOf_122) (q_iret (pc := 123) dX12_twoOf_123 rfl rfl))))) (true_and _).symm) (fun hz4 => Eq.trans (zif_intro (c := a1 = 45)) (zitpi (fun hz5 => Eq.trans (Eq.trans (zpc_eq (pc' := 124) (zsw_at hz5 (by decide))) (Eq.trans (q_iload_n (pc := 124) dX12_twoOf_124 rfl rfl) (Eq.trans (q_iload_n (pc := 125) dX12_twoOf_125 rfl rfl) (Eq.trans (q_isub (pc := 126) dX12_twoOf_126) (q_iret (pc := 127) dX12_twoOf_127 rfl rfl))))) (true_and _).symm) (fun hz5 => Eq.trans (zif_intro (c := a1 = 47)) (zitpi (fun hz6 => Eq.trans (zpc_eq (pc' := 132) (zsw_at hz6 (by decide))) (Eq.trans (q_iload_n (pc := 132) dX12_twoOf_132 rfl rfl) (Eq.trans (q_if_ne (tgt := 140) (pc := 133) dX12_twoOf_133 rfl) (zitpi (fun hz15 => Eq.trans (q_iload_n (pc := 140) dX12_twoOf_140 rfl rfl) (Eq.trans (q_iconst (v := (-1)) (pc := 141) dX12_twoOf_141 rfl) (Eq.trans (q_icmp_ne (tgt := 150) (pc := 142) dX12_twoOf_142 rfl) (zitpi (fun hz16 => Eq.trans (q_iload_n (pc := 150) dX12_twoOf_150 rfl rfl) (Eq.trans (q_iload_n (pc := 151) dX12_twoOf_151 rfl rfl) (Eq.trans (q_idiv (pc := 152) dX12_twoOf_152) (zand fun hz17 => q_iret (pc := 153) dX12_twoOf_153 rfl rfl)))) (fun hz16 => Eq.trans (Eq.trans (q_iload_n (pc := 145) dX12_twoOf_145 rfl rfl) (Eq.trans (q_ineg (pc := 146) dX12_twoOf_146) (Eq.trans (q_goto (tgt := 153) (pc := 147) dX12_twoOf_147 rfl) (q_iret (pc := 153) dX12_twoOf_153 rfl rfl)))) (true_and _).symm))))) (fun hz15 => Eq.trans (Eq.trans (q_iconst (v := 0) (pc := 136) dX12_twoOf_136 rfl) (Eq.trans (q_goto (tgt := 153) (pc := 137) dX12_twoOf_137 rfl) (q_iret (pc := 153) dX12_twoOf_153 rfl rfl))) (true_and _).symm))))) (fun hz6 => Eq.trans (Eq.trans (zif_intro (c := a1 = 60)) (ziti (fun hz7 => Eq.trans (zpc_eq (pc' := 171) (zsw_at hz7 (by decide))) (Eq.trans (q_iload_n (pc := 171) dX12_twoOf_171 rfl rfl) (Eq.trans (q_iload_n (pc := 172) dX12_twoOf_172 rfl rfl) (Eq.trans (q_icmp_ge (tgt := 180) (pc := 173) dX12_twoOf_173 rfl) (ziti (fun hz18 => Eq.trans (q_iconst (v := 0) (pc := 180) dX12_twoOf_180 rfl) (q_iret (pc := 181) dX12_twoOf_181 rfl rfl)) (fun hz18 => Eq.trans (q_iconst (v := 1) (pc := 176) dX12_twoOf_176 rfl) (Eq.trans (q_goto (tgt := 181) (pc := 177) dX12_twoOf_177 rfl) (q_iret (pc := 181) dX12_twoOf_181 rfl rfl)))))))) (fun hz7 => Eq.trans (zif_intro (c := a1 = 61)) (ziti (fun hz8 => Eq.trans (zpc_eq (pc' := 182) (zsw_at hz8 (by decide))) (Eq.trans (q_iload_n (pc := 182) dX12_twoOf_182 rfl rfl) (Eq.trans (q_iload_n (pc := 183) dX12_twoOf_183 rfl rfl) (Eq.trans (q_icmp_ne (tgt := 191) (pc := 184) dX12_twoOf_184 rfl) (ziti (fun hz19 => Eq.trans (q_iconst (v := 0) (pc := 191) dX12_twoOf_191 rfl) (q_iret (pc := 192) dX12_twoOf_192 rfl rfl)) (fun hz19 => Eq.trans (q_iconst (v := 1) (pc := 187) dX12_twoOf_187 rfl) (Eq.trans (q_goto (tgt := 192) (pc := 188) dX12_twoOf_188 rfl) (q_iret (pc := 192) dX12_twoOf_192 rfl rfl)))))))) (fun hz8 => Eq.trans (zif_intro (c := a1 = 62)) (ziti (fun hz9 => Eq.trans (zpc_eq (pc' := 193) (zsw_at hz9 (by decide))) (Eq.trans (q_iload_n (pc := 193) dX12_twoOf_193 rfl rfl) (Eq.trans (q_iload_n (pc := 194) dX12_twoOf_194 rfl rfl) (Eq.trans (q_icmp_le (tgt := 202) (pc := 195) dX12_twoOf_195 rfl) (ziti (fun hz20 => Eq.trans (q_iconst (v := 0) (pc := 202) dX12_twoOf_202 rfl) (q_iret (pc := 203) dX12_twoOf_203 rfl rfl)) (fun hz20 => Eq.trans (q_iconst (v := 1) (pc := 198) dX12_twoOf_198 rfl) (Eq.trans (q_goto (tgt := 203) (pc := 199) dX12_twoOf_199 rfl) (q_iret (pc := 203) dX12_twoOf_203 rfl rfl)))))))) (fun hz9 => Eq.trans (zpc_eq (pc' := 218) (zsw_df [37, 38, 42, 43, 45, 47, 60, 61, 62] (by decide) (by decide) ⟨hz1, hz2, hz3, hz4, hz5, hz6, hz7, hz8, hz9, trivial⟩)) (Eq.trans (q_iload_n (pc := 218) dX12_twoOf_218 rfl rfl) (Eq.trans (q_if_ne (tgt := 226) (pc := 219) dX12_twoOf_219 rfl) (ziti (fun hz21 => Eq.trans (q_iconst (v := 1) (pc := 226) dX12_twoOf_226 rfl) (Eq.trans (q_goto (tgt := 231) (pc := 227) dX12_twoOf_227 rfl) (q_iret (pc := 231) dX12_twoOf_231 rfl rfl))) (fun hz21 => Eq.trans (q_iload_n (pc := 222) dX12_twoOf_222 rfl rfl) (Eq.trans (q_if_eq (tgt := 230) (pc := 223) dX12_twoOf_223 rfl) (ziti (fun hz22 => Eq.trans (q_iconst (v := 0) (pc := 230) dX12_twoOf_230 rfl) (q_iret (pc := 231) dX12_twoOf_231 rfl rfl)) (fun hz22 => Eq.trans (q_iconst (v := 1) (pc := 226) dX12_twoOf_226 rfl) (Eq.trans (q_goto (tgt := 231) (pc := 227) dX12_twoOf_227 rfl) (q_iret (pc := 231) dX12_twoOf_231 rfl rfl)))))))))))))))) (true_and _).symm))))))))))))))
def f_X12_undo (σ : zS) : Int32 := (if ¬ (gi σ 66 13) = 0 then (gi (g_X12_lays (si (si σ 66 13 ((gi σ 66 13) - 1)) 66 14 ((gi σ 66 14) + 1)) (gi σ 73 (ix ((gi σ 66 13) - 1))) (gi σ 74 (ix ((gi σ 66 13) - 1))) (gi σ 75 (ix ((gi σ 66 13) - 1)))) 66 13) else (-5))
def p_X12_undo (σ : zS) : Prop := (if ¬ (gi σ 66 13) = 0 then (zin ((gi σ 66 13) - 1) 40 = true ∧ (zin ((gi σ 66 13) - 1) 40 = true ∧ (zin ((gi σ 66 13) - 1) 40 = true ∧ p_X12_lays (si (si σ 66 13 ((gi σ 66 13) - 1)) 66 14 ((gi σ 66 14) + 1)) (gi σ 73 (ix ((gi σ 66 13) - 1))) (gi σ 74 (ix ((gi σ 66 13) - 1))) (gi σ 75 (ix ((gi σ 66 13) - 1)))))) else True)
def g_X12_undo (σ : zS) : zS := (if ¬ (gi σ 66 13) = 0 then (g_X12_lays (si (si σ 66 13 ((gi σ 66 13) - 1)) 66 14 ((gi σ 66 14) + 1)) (gi σ 73 (ix ((gi σ 66 13) - 1))) (gi σ 74 (ix ((gi σ 66 13) - 1))) (gi σ 75 (ix ((gi σ 66 13) - 1)))) else σ)
theorem s_X12_undo {X : zX} {d : Nat} {Q : Option Value → zH → Prop} (hd : 1 ≤ d) (σ : zS)  : zwp X d MX12_undo 0 [.ref 66] [] (zen σ) Q = (p_X12_undo σ ∧ Q (some (.int (f_X12_undo σ))) (zen (g_X12_undo σ))) :=
  Eq.trans (q_aload_n (pc := 0) dX12_undo_0 rfl rfl) (Eq.trans (q_getf (pc := 1) dX12_undo_1 zF_12_155 (z_rfiE (x := (gi σ 66 13)) zl_66 zh_66 (by decide) rfl rfl)) (Eq.trans (q_if_ne (tgt := 10) (pc := 4) dX12_undo_4 rfl) (zitpis (fun hz1 => Eq.trans (q_aload_n (pc := 10) dX12_undo_10 rfl rfl) (Eq.trans (q_dup_ref (pc := 11) dX12_undo_11) (Eq.trans (q_getf (pc := 12) dX12_undo_12 zF_12_155 (z_rfiE (x := (gi σ 66 13)) zl_66 zh_66 (by decide) rfl rfl)) (Eq.trans (q_iconst (v := 1) (pc := 15) dX12_undo_15 rfl) (Eq.trans (q_isub (pc := 16) dX12_undo_16) (Eq.trans (q_pf (pc := 17) dX12_undo_17 zF_12_155 zPF_12_13 (z_pf zl_66 zh_66 rfl)) (Eq.trans (q_aload_n (pc := 20) dX12_undo_20 rfl rfl) (Eq.trans (q_dup_ref (pc := 21) dX12_undo_21) (Eq.trans (q_getf (pc := 22) dX12_undo_22 zF_12_152 (z_rfiE (x := (gi σ 66 14)) zl_66 zh_66 (by decide) rfl rfl)) (Eq.trans (q_iconst (v := 1) (pc := 25) dX12_undo_25 rfl) (Eq.trans (q_iadd (pc := 26) dX12_undo_26) (Eq.trans (q_pf (pc := 27) dX12_undo_27 zF_12_152 zPF_12_14 (z_pf zl_66 zh_66 rfl)) (Eq.trans (q_aload_n (pc := 30) dX12_undo_30 rfl rfl) (Eq.trans (q_aload_n (pc := 31) dX12_undo_31 rfl rfl) (Eq.trans (q_getf (pc := 32) dX12_undo_32 zF_12_38 (z_rfr zl_66 zh_66 (by decide) rfl)) (Eq.trans (q_aload_n (pc := 35) dX12_undo_35 rfl rfl) (Eq.trans (q_getf (pc := 36) dX12_undo_36 zF_12_155 (z_rfiE (x := ((gi σ 66 13) - 1)) zl_66 zh_66 (by decide) rfl rfl)) (Eq.trans (Eq.trans (qe_iaload (x := (gi σ 73 (ix ((gi σ 66 13) - 1)))) (pc := 39) dX12_undo_39 (z_ia zl_73 zh_73 (by decide)) rfl) (zand fun hz2 => Eq.trans (q_aload_n (pc := 40) dX12_undo_40 rfl rfl) (Eq.trans (q_getf (pc := 41) dX12_undo_41 zF_12_41 (z_rfr zl_66 zh_66 (by decide) rfl)) (Eq.trans (q_aload_n (pc := 44) dX12_undo_44 rfl rfl) (Eq.trans (q_getf (pc := 45) dX12_undo_45 zF_12_155 (z_rfiE (x := ((gi σ 66 13) - 1)) zl_66 zh_66 (by decide) rfl rfl)) (Eq.trans (Eq.trans (qe_iaload (x := (gi σ 74 (ix ((gi σ 66 13) - 1)))) (pc := 48) dX12_undo_48 (z_ia zl_74 zh_74 (by decide)) rfl) (zand fun hz3 => Eq.trans (q_aload_n (pc := 49) dX12_undo_49 rfl rfl) (Eq.trans (q_getf (pc := 50) dX12_undo_50 zF_12_44 (z_rfr zl_66 zh_66 (by decide) rfl)) (Eq.trans (q_aload_n (pc := 53) dX12_undo_53 rfl rfl) (Eq.trans (q_getf (pc := 54) dX12_undo_54 zF_12_155 (z_rfiE (x := ((gi σ 66 13) - 1)) zl_66 zh_66 (by decide) rfl rfl)) (Eq.trans (Eq.trans (qe_iaload (x := (gi σ 75 (ix ((gi σ 66 13) - 1)))) (pc := 57) dX12_undo_57 (z_ia zl_75 zh_75 (by decide)) rfl) (zand fun hz4 => Eq.trans (q_sumNP (q_callV (as := [.int (gi σ 73 (ix ((gi σ 66 13) - 1))), .int (gi σ 74 (ix ((gi σ 66 13) - 1))), .int (gi σ 75 (ix ((gi σ 66 13) - 1)))]) (rest := []) (l0 := [.ref 66, .int (gi σ 73 (ix ((gi σ 66 13) - 1))), .int (gi σ 74 (ix ((gi σ 66 13) - 1))), .int (gi σ 75 (ix ((gi σ 66 13) - 1)))]) (pc := 58) dX12_undo_58 zC_12_158 rfl (z_recv zl_66 zh_66) rfl rfl) (by omega) (s_X12_lays (si (si σ 66 13 ((gi σ 66 13) - 1)) 66 14 ((gi σ 66 14) + 1)) (gi σ 73 (ix ((gi σ 66 13) - 1))) (gi σ 74 (ix ((gi σ 66 13) - 1))) (gi σ 75 (ix ((gi σ 66 13) - 1))))) (zand fun hz5 => Eq.trans (q_aload_n (pc := 61) dX12_undo_61 rfl rfl) (Eq.trans (q_getf (pc := 62) dX12_undo_62 zF_12_155 (z_rfiE (x := (gi (g_X12_lays (si (si σ 66 13 ((gi σ 66 13) - 1)) 66 14 ((gi σ 66 14) + 1)) (gi σ 73 (ix ((gi σ 66 13) - 1))) (gi σ 74 (ix ((gi σ 66 13) - 1))) (gi σ 75 (ix ((gi σ 66 13) - 1)))) 66 13)) zl_66 zh_66 (by decide) rfl rfl)) (q_iret (pc := 65) dX12_undo_65 rfl rfl))))) zassoc)))))) zassoc)))))) zassoc)))))))))))))))))) (fun hz1 => Eq.trans (Eq.trans (q_bipush (v := (-5)) (pc := 7) dX12_undo_7 rfl) (q_iret (pc := 9) dX12_undo_9 rfl rfl)) (true_and _).symm))))
def f_X5_get (σ : zS) (a2 : Int32) (a3 : Int32) : Int32 := (gi σ 2 (ix ((a2 * 8) + a3)))
def p_X5_get (σ : zS) (a2 : Int32) (a3 : Int32) : Prop := zin ((a2 * 8) + a3) 80 = true
theorem s_X5_get {X : zX} {d : Nat} {Q : Option Value → zH → Prop} (σ : zS) (a2 : Int32) (a3 : Int32)  : zwp X d MX5_get 0 [.ref 1, .int a2, .int a3] [] (zen σ) Q = (p_X5_get σ a2 a3 ∧ Q (some (.int (f_X5_get σ a2 a3))) (zen σ)) :=
  Eq.trans (q_aload_n (pc := 0) dX5_get_0 rfl rfl) (Eq.trans (q_getf (pc := 1) dX5_get_1 zF_5_11 (z_rfr zl_1 zh_1 (by decide) rfl)) (Eq.trans (q_iload_n (pc := 4) dX5_get_4 rfl rfl) (Eq.trans (q_bipush (v := 8) (pc := 5) dX5_get_5 rfl) (Eq.trans (q_imul (pc := 7) dX5_get_7) (Eq.trans (q_iload_n (pc := 8) dX5_get_8 rfl rfl) (Eq.trans (q_iadd (pc := 9) dX5_get_9) (Eq.trans (qe_iaload (x := (gi σ 2 (ix ((a2 * 8) + a3)))) (pc := 10) dX5_get_10 (z_ia zl_2 zh_2 (by decide)) rfl) (zand fun hz1 => q_iret (pc := 11) dX5_get_11 rfl rfl))))))))
def f_X5_planks (σ : zS) : Int32 := (gi σ 2 (ix 48))
theorem s_X5_planks {X : zX} {d : Nat} {Q : Option Value → zH → Prop} (σ : zS)  : zwp X d MX5_planks 0 [.ref 1] [] (zen σ) Q = Q (some (.int (f_X5_planks σ))) (zen σ) :=
  Eq.trans (q_aload_n (pc := 0) dX5_planks_0 rfl rfl) (Eq.trans (q_getf (pc := 1) dX5_planks_1 zF_5_11 (z_rfr zl_1 zh_1 (by decide) rfl)) (Eq.trans (q_bipush (v := 48) (pc := 4) dX5_planks_4 rfl) (Eq.trans (Eq.trans (qe_iaload (x := (gi σ 2 (ix 48))) (pc := 6) dX5_planks_6 (z_ia zl_2 zh_2 (by decide)) rfl) (ztrue_and (by decide))) (q_iret (pc := 7) dX5_planks_7 rfl rfl))))
def f_X5_thawOf (σ : zS) (a2 : Int32) : Int32 := (a2 * (gi σ 2 (ix 56)))
theorem s_X5_thawOf {X : zX} {d : Nat} {Q : Option Value → zH → Prop} (σ : zS) (a2 : Int32)  : zwp X d MX5_thawOf 0 [.ref 1, .int a2] [] (zen σ) Q = Q (some (.int (f_X5_thawOf σ a2))) (zen σ) :=
  Eq.trans (q_iload_n (pc := 0) dX5_thawOf_0 rfl rfl) (Eq.trans (q_aload_n (pc := 1) dX5_thawOf_1 rfl rfl) (Eq.trans (q_getf (pc := 2) dX5_thawOf_2 zF_5_11 (z_rfr zl_1 zh_1 (by decide) rfl)) (Eq.trans (q_bipush (v := 56) (pc := 5) dX5_thawOf_5 rfl) (Eq.trans (Eq.trans (qe_iaload (x := (gi σ 2 (ix 56))) (pc := 7) dX5_thawOf_7 (z_ia zl_2 zh_2 (by decide)) rfl) (ztrue_and (by decide))) (Eq.trans (q_imul (pc := 8) dX5_thawOf_8) (q_iret (pc := 9) dX5_thawOf_9 rfl rfl))))))
def p_X6_add (σ : zS) (a2 : Int32) : Prop := (if 121 ≤ (gi σ 9 3) then True else zin (gi σ 9 3) 121 = true)
def g_X6_add (σ : zS) (a2 : Int32) : zS := (if 121 ≤ (gi σ 9 3) then (if ¬ a2 = 10005 then σ else (si σ 9 4 1)) else (if ¬ a2 = 10005 then (si (si σ 10 (ix (gi σ 9 3)) a2) 9 3 ((gi σ 9 3) + 1)) else (si (si (si σ 10 (ix (gi σ 9 3)) a2) 9 3 ((gi σ 9 3) + 1)) 9 4 1)))
theorem s_X6_add {X : zX} {d : Nat} {Q : Option Value → zH → Prop} (σ : zS) (a2 : Int32)  : zwp X d MX6_add 0 [.ref 9, .int a2] [] (zen σ) Q = (p_X6_add σ a2 ∧ Q none (zen (g_X6_add σ a2))) :=
  Eq.trans (q_aload_n (pc := 0) dX6_add_0 rfl rfl) (Eq.trans (q_getf (pc := 1) dX6_add_1 zF_6_21 (z_rfiE (x := (gi σ 9 3)) zl_9 zh_9 (by decide) rfl rfl)) (Eq.trans (q_bipush (v := 121) (pc := 4) dX6_add_4 rfl) (Eq.trans (q_icmp_ge (tgt := 29) (pc := 6) dX6_add_6 rfl) (zitpns (fun hz1 => Eq.trans (Eq.trans (q_iload_n (pc := 29) dX6_add_29 rfl rfl) (Eq.trans (q_sipush (v := 10005) (pc := 30) dX6_add_30 rfl) (Eq.trans (q_icmp_ne (tgt := 41) (pc := 33) dX6_add_33 rfl) (zitns (fun hz2 => q_vret (pc := 41) dX6_add_41 rfl) (fun hz2 => Eq.trans (q_aload_n (pc := 36) dX6_add_36 rfl rfl) (Eq.trans (q_iconst (v := 1) (pc := 37) dX6_add_37 rfl) (Eq.trans (Eq.trans (q_pz (pc := 38) dX6_add_38 zF_6_25 zPZ_6_4 rfl (z_pf zl_9 zh_9 rfl)) (ztrue_and (by decide))) (q_vret (pc := 41) dX6_add_41 rfl)))))))) (true_and _).symm) (fun hz1 => Eq.trans (q_aload_n (pc := 9) dX6_add_9 rfl rfl) (Eq.trans (q_getf (pc := 10) dX6_add_10 zF_6_11 (z_rfr zl_9 zh_9 (by decide) rfl)) (Eq.trans (q_aload_n (pc := 13) dX6_add_13 rfl rfl) (Eq.trans (q_getf (pc := 14) dX6_add_14 zF_6_21 (z_rfiE (x := (gi σ 9 3)) zl_9 zh_9 (by decide) rfl rfl)) (Eq.trans (q_iload_n (pc := 17) dX6_add_17 rfl rfl) (Eq.trans (q_iastore (pc := 18) dX6_add_18 (zN_lt zl_10) (z_ia zl_10 zh_10 (by decide)) (z_pi zl_10 zh_10 (by decide))) (zand fun hz3 => Eq.trans (q_aload_n (pc := 19) dX6_add_19 rfl rfl) (Eq.trans (q_dup_ref (pc := 20) dX6_add_20) (Eq.trans (q_getf (pc := 21) dX6_add_21 zF_6_21 (z_rfiE (x := (gi σ 9 3)) zl_9 zh_9 (by decide) rfl rfl)) (Eq.trans (q_iconst (v := 1) (pc := 24) dX6_add_24 rfl) (Eq.trans (q_iadd (pc := 25) dX6_add_25) (Eq.trans (q_pf (pc := 26) dX6_add_26 zF_6_21 zPF_6_3 (z_pf zl_9 zh_9 rfl)) (Eq.trans (q_iload_n (pc := 29) dX6_add_29 rfl rfl) (Eq.trans (q_sipush (v := 10005) (pc := 30) dX6_add_30 rfl) (Eq.trans (q_icmp_ne (tgt := 41) (pc := 33) dX6_add_33 rfl) (zitns (fun hz4 => q_vret (pc := 41) dX6_add_41 rfl) (fun hz4 => Eq.trans (q_aload_n (pc := 36) dX6_add_36 rfl rfl) (Eq.trans (q_iconst (v := 1) (pc := 37) dX6_add_37 rfl) (Eq.trans (Eq.trans (q_pz (pc := 38) dX6_add_38 zF_6_25 zPZ_6_4 rfl (z_pf zl_9 zh_9 rfl)) (ztrue_and (by decide))) (q_vret (pc := 41) dX6_add_41 rfl))))))))))))))))))))))))
