set_option maxRecDepth 100000
theorem dX12_clap_0 : decode cX12_clap 0 = .ok (.iconst 0, 1) := by decide +kernel
theorem dX12_clap_1 : decode cX12_clap 1 = .ok (.istore_n 2, 1) := by decide +kernel
theorem dX12_clap_2 : decode cX12_clap 2 = .ok (.iload_n 2, 1) := by decide +kernel
theorem dX12_clap_3 : decode cX12_clap 3 = .ok (.aload_n 0, 1) := by decide +kernel
theorem dX12_clap_4 : decode cX12_clap 4 = .ok (.getfield 28, 3) := by decide +kernel
theorem dX12_clap_7 : decode cX12_clap 7 = .ok (.if_icmp .ge 88, 3) := by decide +kernel
theorem dX12_clap_10 : decode cX12_clap 10 = .ok (.aload_n 0, 1) := by decide +kernel
theorem dX12_clap_11 : decode cX12_clap 11 = .ok (.getfield 79, 3) := by decide +kernel
theorem dX12_clap_14 : decode cX12_clap 14 = .ok (.iload_n 2, 1) := by decide +kernel
theorem dX12_clap_15 : decode cX12_clap 15 = .ok (.iaload, 1) := by decide +kernel
theorem dX12_clap_16 : decode cX12_clap 16 = .ok (.istore_n 3, 1) := by decide +kernel
theorem dX12_clap_17 : decode cX12_clap 17 = .ok (.iconst 0, 1) := by decide +kernel
theorem dX12_clap_18 : decode cX12_clap 18 = .ok (.istore 4, 2) := by decide +kernel
theorem dX12_clap_20 : decode cX12_clap 20 = .ok (.iload 4, 2) := by decide +kernel
theorem dX12_clap_22 : decode cX12_clap 22 = .ok (.aload_n 0, 1) := by decide +kernel
theorem dX12_clap_23 : decode cX12_clap 23 = .ok (.getfield 125, 3) := by decide +kernel
theorem dX12_clap_26 : decode cX12_clap 26 = .ok (.if_icmp .ge 35, 3) := by decide +kernel
theorem dX12_clap_29 : decode cX12_clap 29 = .ok (.iload 4, 2) := by decide +kernel
theorem dX12_clap_31 : decode cX12_clap 31 = .ok (.aload_n 0, 1) := by decide +kernel
theorem dX12_clap_32 : decode cX12_clap 32 = .ok (.getfield 85, 3) := by decide +kernel
theorem dX12_clap_35 : decode cX12_clap 35 = .ok (.if_icmp .eq 20, 3) := by decide +kernel
theorem dX12_clap_38 : decode cX12_clap 38 = .ok (.iload_n 3, 1) := by decide +kernel
theorem dX12_clap_39 : decode cX12_clap 39 = .ok (.aload_n 0, 1) := by decide +kernel
theorem dX12_clap_40 : decode cX12_clap 40 = .ok (.iload 4, 2) := by decide +kernel
theorem dX12_clap_42 : decode cX12_clap 42 = .ok (.iload_n 1, 1) := by decide +kernel
theorem dX12_clap_43 : decode cX12_clap 43 = .ok (.iload_n 2, 1) := by decide +kernel
theorem dX12_clap_44 : decode cX12_clap 44 = .ok (.aload_n 0, 1) := by decide +kernel
theorem dX12_clap_45 : decode cX12_clap 45 = .ok (.getfield 79, 3) := by decide +kernel
theorem dX12_clap_48 : decode cX12_clap 48 = .ok (.iload_n 2, 1) := by decide +kernel
theorem dX12_clap_49 : decode cX12_clap 49 = .ok (.iaload, 1) := by decide +kernel
theorem dX12_clap_50 : decode cX12_clap 50 = .ok (.invokevirtual 258, 3) := by decide +kernel
theorem dX12_clap_53 : decode cX12_clap 53 = .ok (.iadd, 1) := by decide +kernel
theorem dX12_clap_54 : decode cX12_clap 54 = .ok (.istore_n 3, 1) := by decide +kernel
theorem dX12_clap_55 : decode cX12_clap 55 = .ok (.iinc 4 1, 3) := by decide +kernel
theorem dX12_clap_58 : decode cX12_clap 58 = .ok (.goto (-38), 3) := by decide +kernel
theorem dX12_clap_61 : decode cX12_clap 61 = .ok (.aload_n 0, 1) := by decide +kernel
theorem dX12_clap_62 : decode cX12_clap 62 = .ok (.getfield 82, 3) := by decide +kernel
theorem dX12_clap_65 : decode cX12_clap 65 = .ok (.iload_n 2, 1) := by decide +kernel
theorem dX12_clap_66 : decode cX12_clap 66 = .ok (.iload_n 3, 1) := by decide +kernel
theorem dX12_clap_67 : decode cX12_clap 67 = .ok (.ifCond .ge 7, 3) := by decide +kernel
theorem dX12_clap_70 : decode cX12_clap 70 = .ok (.iconst 0, 1) := by decide +kernel
theorem dX12_clap_71 : decode cX12_clap 71 = .ok (.goto 17, 3) := by decide +kernel
theorem dX12_clap_74 : decode cX12_clap 74 = .ok (.iload_n 3, 1) := by decide +kernel
theorem dX12_clap_75 : decode cX12_clap 75 = .ok (.sipush 999, 3) := by decide +kernel
theorem dX12_clap_78 : decode cX12_clap 78 = .ok (.if_icmp .le 9, 3) := by decide +kernel
theorem dX12_clap_81 : decode cX12_clap 81 = .ok (.sipush 999, 3) := by decide +kernel
theorem dX12_clap_84 : decode cX12_clap 84 = .ok (.goto 4, 3) := by decide +kernel
theorem dX12_clap_87 : decode cX12_clap 87 = .ok (.iload_n 3, 1) := by decide +kernel
theorem dX12_clap_88 : decode cX12_clap 88 = .ok (.iastore, 1) := by decide +kernel
theorem dX12_clap_89 : decode cX12_clap 89 = .ok (.iinc 2 1, 3) := by decide +kernel
theorem dX12_clap_92 : decode cX12_clap 92 = .ok (.goto (-90), 3) := by decide +kernel
theorem dX12_clap_95 : decode cX12_clap 95 = .ok (.iconst 0, 1) := by decide +kernel
theorem dX12_clap_96 : decode cX12_clap 96 = .ok (.istore_n 2, 1) := by decide +kernel
theorem dX12_clap_97 : decode cX12_clap 97 = .ok (.iload_n 2, 1) := by decide +kernel
theorem dX12_clap_98 : decode cX12_clap 98 = .ok (.aload_n 0, 1) := by decide +kernel
theorem dX12_clap_99 : decode cX12_clap 99 = .ok (.getfield 28, 3) := by decide +kernel
theorem dX12_clap_102 : decode cX12_clap 102 = .ok (.if_icmp .ge 21, 3) := by decide +kernel
theorem dX12_clap_105 : decode cX12_clap 105 = .ok (.aload_n 0, 1) := by decide +kernel
theorem dX12_clap_106 : decode cX12_clap 106 = .ok (.getfield 79, 3) := by decide +kernel
theorem dX12_clap_109 : decode cX12_clap 109 = .ok (.iload_n 2, 1) := by decide +kernel
theorem dX12_clap_110 : decode cX12_clap 110 = .ok (.aload_n 0, 1) := by decide +kernel
theorem dX12_clap_111 : decode cX12_clap 111 = .ok (.getfield 82, 3) := by decide +kernel
theorem dX12_clap_114 : decode cX12_clap 114 = .ok (.iload_n 2, 1) := by decide +kernel
theorem dX12_clap_115 : decode cX12_clap 115 = .ok (.iaload, 1) := by decide +kernel
theorem dX12_clap_116 : decode cX12_clap 116 = .ok (.iastore, 1) := by decide +kernel
theorem dX12_clap_117 : decode cX12_clap 117 = .ok (.iinc 2 1, 3) := by decide +kernel
theorem dX12_clap_120 : decode cX12_clap 120 = .ok (.goto (-23), 3) := by decide +kernel
theorem dX12_clap_123 : decode cX12_clap 123 = .ok (.return_, 1) := by decide +kernel
theorem dX12_goTurn_0 : decode cX12_goTurn 0 = .ok (.aload_n 0, 1) := by decide +kernel
theorem dX12_goTurn_1 : decode cX12_goTurn 1 = .ok (.aload_n 0, 1) := by decide +kernel
theorem dX12_goTurn_2 : decode cX12_goTurn 2 = .ok (.getfield 25, 3) := by decide +kernel
theorem dX12_goTurn_5 : decode cX12_goTurn 5 = .ok (.iload_n 1, 1) := by decide +kernel
theorem dX12_goTurn_6 : decode cX12_goTurn 6 = .ok (.iaload, 1) := by decide +kernel
theorem dX12_goTurn_7 : decode cX12_goTurn 7 = .ok (.invokevirtual 269, 3) := by decide +kernel
theorem dX12_goTurn_10 : decode cX12_goTurn 10 = .ok (.aload_n 0, 1) := by decide +kernel
theorem dX12_goTurn_11 : decode cX12_goTurn 11 = .ok (.iload_n 1, 1) := by decide +kernel
theorem dX12_goTurn_12 : decode cX12_goTurn 12 = .ok (.invokevirtual 273, 3) := by decide +kernel
theorem dX12_goTurn_15 : decode cX12_goTurn 15 = .ok (.return_, 1) := by decide +kernel
theorem dX12_goByte_0 : decode cX12_goByte 0 = .ok (.iload_n 1, 1) := by decide +kernel
theorem dX12_goByte_1 : decode cX12_goByte 1 = .ok (.bipush 20, 2) := by decide +kernel
theorem dX12_goByte_3 : decode cX12_goByte 3 = .ok (.if_icmp .ne 14, 3) := by decide +kernel
theorem dX12_goByte_6 : decode cX12_goByte 6 = .ok (.aload_n 0, 1) := by decide +kernel
theorem dX12_goByte_7 : decode cX12_goByte 7 = .ok (.aload_n 0, 1) := by decide +kernel
theorem dX12_goByte_8 : decode cX12_goByte 8 = .ok (.getfield 35, 3) := by decide +kernel
theorem dX12_goByte_11 : decode cX12_goByte 11 = .ok (.invokevirtual 269, 3) := by decide +kernel
theorem dX12_goByte_14 : decode cX12_goByte 14 = .ok (.goto 8, 3) := by decide +kernel
theorem dX12_goByte_17 : decode cX12_goByte 17 = .ok (.aload_n 0, 1) := by decide +kernel
theorem dX12_goByte_18 : decode cX12_goByte 18 = .ok (.iload_n 1, 1) := by decide +kernel
theorem dX12_goByte_19 : decode cX12_goByte 19 = .ok (.invokevirtual 276, 3) := by decide +kernel
theorem dX12_goByte_22 : decode cX12_goByte 22 = .ok (.return_, 1) := by decide +kernel
theorem dX12_thinnest_0 : decode cX12_thinnest 0 = .ok (.iconst 0, 1) := by decide +kernel
theorem dX12_thinnest_1 : decode cX12_thinnest 1 = .ok (.istore_n 1, 1) := by decide +kernel
theorem dX12_thinnest_2 : decode cX12_thinnest 2 = .ok (.iconst 1, 1) := by decide +kernel
theorem dX12_thinnest_3 : decode cX12_thinnest 3 = .ok (.istore_n 2, 1) := by decide +kernel
theorem dX12_thinnest_4 : decode cX12_thinnest 4 = .ok (.iload_n 2, 1) := by decide +kernel
theorem dX12_thinnest_5 : decode cX12_thinnest 5 = .ok (.aload_n 0, 1) := by decide +kernel
theorem dX12_thinnest_6 : decode cX12_thinnest 6 = .ok (.getfield 28, 3) := by decide +kernel
theorem dX12_thinnest_9 : decode cX12_thinnest 9 = .ok (.if_icmp .ge 26, 3) := by decide +kernel
theorem dX12_thinnest_12 : decode cX12_thinnest 12 = .ok (.aload_n 0, 1) := by decide +kernel
theorem dX12_thinnest_13 : decode cX12_thinnest 13 = .ok (.getfield 79, 3) := by decide +kernel
theorem dX12_thinnest_16 : decode cX12_thinnest 16 = .ok (.iload_n 2, 1) := by decide +kernel
theorem dX12_thinnest_17 : decode cX12_thinnest 17 = .ok (.iaload, 1) := by decide +kernel
theorem dX12_thinnest_18 : decode cX12_thinnest 18 = .ok (.aload_n 0, 1) := by decide +kernel
theorem dX12_thinnest_19 : decode cX12_thinnest 19 = .ok (.getfield 79, 3) := by decide +kernel
theorem dX12_thinnest_22 : decode cX12_thinnest 22 = .ok (.iload_n 1, 1) := by decide +kernel
theorem dX12_thinnest_23 : decode cX12_thinnest 23 = .ok (.iaload, 1) := by decide +kernel
theorem dX12_thinnest_24 : decode cX12_thinnest 24 = .ok (.if_icmp .ge 5, 3) := by decide +kernel
theorem dX12_thinnest_27 : decode cX12_thinnest 27 = .ok (.iload_n 2, 1) := by decide +kernel
theorem dX12_thinnest_28 : decode cX12_thinnest 28 = .ok (.istore_n 1, 1) := by decide +kernel
theorem dX12_thinnest_29 : decode cX12_thinnest 29 = .ok (.iinc 2 1, 3) := by decide +kernel
theorem dX12_thinnest_32 : decode cX12_thinnest 32 = .ok (.goto (-28), 3) := by decide +kernel
theorem dX12_thinnest_35 : decode cX12_thinnest 35 = .ok (.iload_n 1, 1) := by decide +kernel
theorem dX12_thinnest_36 : decode cX12_thinnest 36 = .ok (.ireturn, 1) := by decide +kernel
theorem dX12_fallsOn_0 : decode cX12_fallsOn 0 = .ok (.iconst 0, 1) := by decide +kernel
theorem dX12_fallsOn_1 : decode cX12_fallsOn 1 = .ok (.istore_n 3, 1) := by decide +kernel
theorem dX12_fallsOn_2 : decode cX12_fallsOn 2 = .ok (.iload_n 3, 1) := by decide +kernel
theorem dX12_fallsOn_3 : decode cX12_fallsOn 3 = .ok (.aload_n 0, 1) := by decide +kernel
theorem dX12_fallsOn_4 : decode cX12_fallsOn 4 = .ok (.getfield 28, 3) := by decide +kernel
theorem dX12_fallsOn_7 : decode cX12_fallsOn 7 = .ok (.if_icmp .ge 23, 3) := by decide +kernel
theorem dX12_fallsOn_10 : decode cX12_fallsOn 10 = .ok (.aload_n 0, 1) := by decide +kernel
theorem dX12_fallsOn_11 : decode cX12_fallsOn 11 = .ok (.iload_n 3, 1) := by decide +kernel
theorem dX12_fallsOn_12 : decode cX12_fallsOn 12 = .ok (.iload_n 3, 1) := by decide +kernel
theorem dX12_fallsOn_13 : decode cX12_fallsOn 13 = .ok (.iload_n 2, 1) := by decide +kernel
theorem dX12_fallsOn_14 : decode cX12_fallsOn 14 = .ok (.imul, 1) := by decide +kernel
theorem dX12_fallsOn_15 : decode cX12_fallsOn 15 = .ok (.invokevirtual 266, 3) := by decide +kernel
theorem dX12_fallsOn_18 : decode cX12_fallsOn 18 = .ok (.iload_n 1, 1) := by decide +kernel
theorem dX12_fallsOn_19 : decode cX12_fallsOn 19 = .ok (.if_icmp .ge 5, 3) := by decide +kernel
theorem dX12_fallsOn_22 : decode cX12_fallsOn 22 = .ok (.iload_n 3, 1) := by decide +kernel
theorem dX12_fallsOn_23 : decode cX12_fallsOn 23 = .ok (.ireturn, 1) := by decide +kernel
theorem dX12_fallsOn_24 : decode cX12_fallsOn 24 = .ok (.iinc 3 1, 3) := by decide +kernel
theorem dX12_fallsOn_27 : decode cX12_fallsOn 27 = .ok (.goto (-25), 3) := by decide +kernel
theorem dX12_fallsOn_30 : decode cX12_fallsOn 30 = .ok (.bipush (-2), 2) := by decide +kernel
theorem dX12_fallsOn_32 : decode cX12_fallsOn 32 = .ok (.ireturn, 1) := by decide +kernel
theorem dX12_heaviestAt_0 : decode cX12_heaviestAt 0 = .ok (.sipush 999, 3) := by decide +kernel
theorem dX12_heaviestAt_3 : decode cX12_heaviestAt 3 = .ok (.istore_n 2, 1) := by decide +kernel
theorem dX12_heaviestAt_4 : decode cX12_heaviestAt 4 = .ok (.iconst 0, 1) := by decide +kernel
theorem dX12_heaviestAt_5 : decode cX12_heaviestAt 5 = .ok (.istore_n 3, 1) := by decide +kernel
theorem dX12_heaviestAt_6 : decode cX12_heaviestAt 6 = .ok (.iload_n 3, 1) := by decide +kernel
theorem dX12_heaviestAt_7 : decode cX12_heaviestAt 7 = .ok (.aload_n 0, 1) := by decide +kernel
theorem dX12_heaviestAt_8 : decode cX12_heaviestAt 8 = .ok (.getfield 28, 3) := by decide +kernel
theorem dX12_heaviestAt_11 : decode cX12_heaviestAt 11 = .ok (.if_icmp .ge 30, 3) := by decide +kernel
theorem dX12_heaviestAt_14 : decode cX12_heaviestAt 14 = .ok (.aload_n 0, 1) := by decide +kernel
theorem dX12_heaviestAt_15 : decode cX12_heaviestAt 15 = .ok (.iload_n 3, 1) := by decide +kernel
theorem dX12_heaviestAt_16 : decode cX12_heaviestAt 16 = .ok (.iload_n 3, 1) := by decide +kernel
theorem dX12_heaviestAt_17 : decode cX12_heaviestAt 17 = .ok (.iload_n 1, 1) := by decide +kernel
theorem dX12_heaviestAt_18 : decode cX12_heaviestAt 18 = .ok (.imul, 1) := by decide +kernel
theorem dX12_heaviestAt_19 : decode cX12_heaviestAt 19 = .ok (.invokevirtual 266, 3) := by decide +kernel
theorem dX12_heaviestAt_22 : decode cX12_heaviestAt 22 = .ok (.iload_n 2, 1) := by decide +kernel
theorem dX12_heaviestAt_23 : decode cX12_heaviestAt 23 = .ok (.if_icmp .ge 12, 3) := by decide +kernel
theorem dX12_heaviestAt_26 : decode cX12_heaviestAt 26 = .ok (.aload_n 0, 1) := by decide +kernel
theorem dX12_heaviestAt_27 : decode cX12_heaviestAt 27 = .ok (.iload_n 3, 1) := by decide +kernel
theorem dX12_heaviestAt_28 : decode cX12_heaviestAt 28 = .ok (.iload_n 3, 1) := by decide +kernel
theorem dX12_heaviestAt_29 : decode cX12_heaviestAt 29 = .ok (.iload_n 1, 1) := by decide +kernel
theorem dX12_heaviestAt_30 : decode cX12_heaviestAt 30 = .ok (.imul, 1) := by decide +kernel
theorem dX12_heaviestAt_31 : decode cX12_heaviestAt 31 = .ok (.invokevirtual 266, 3) := by decide +kernel
theorem dX12_heaviestAt_34 : decode cX12_heaviestAt 34 = .ok (.istore_n 2, 1) := by decide +kernel
theorem dX12_heaviestAt_35 : decode cX12_heaviestAt 35 = .ok (.iinc 3 1, 3) := by decide +kernel
theorem dX12_heaviestAt_38 : decode cX12_heaviestAt 38 = .ok (.goto (-32), 3) := by decide +kernel
theorem dX12_heaviestAt_41 : decode cX12_heaviestAt 41 = .ok (.iload_n 2, 1) := by decide +kernel
theorem dX12_heaviestAt_42 : decode cX12_heaviestAt 42 = .ok (.ireturn, 1) := by decide +kernel
theorem dX12_layProgramme_0 : decode cX12_layProgramme 0 = .ok (.aload_n 0, 1) := by decide +kernel
theorem dX12_layProgramme_1 : decode cX12_layProgramme 1 = .ok (.iconst 0, 1) := by decide +kernel
theorem dX12_layProgramme_2 : decode cX12_layProgramme 2 = .ok (.putfield 279, 3) := by decide +kernel
theorem dX12_layProgramme_5 : decode cX12_layProgramme 5 = .ok (.iconst 0, 1) := by decide +kernel
theorem dX12_layProgramme_6 : decode cX12_layProgramme 6 = .ok (.istore_n 2, 1) := by decide +kernel
theorem dX12_layProgramme_7 : decode cX12_layProgramme 7 = .ok (.iload_n 2, 1) := by decide +kernel
theorem dX12_layProgramme_8 : decode cX12_layProgramme 8 = .ok (.aload_n 0, 1) := by decide +kernel
theorem dX12_layProgramme_9 : decode cX12_layProgramme 9 = .ok (.getfield 112, 3) := by decide +kernel
theorem dX12_layProgramme_12 : decode cX12_layProgramme 12 = .ok (.iload_n 1, 1) := by decide +kernel
theorem dX12_layProgramme_13 : decode cX12_layProgramme 13 = .ok (.iaload, 1) := by decide +kernel
theorem dX12_layProgramme_14 : decode cX12_layProgramme 14 = .ok (.if_icmp .ge 54, 3) := by decide +kernel
theorem dX12_layProgramme_17 : decode cX12_layProgramme 17 = .ok (.iload_n 2, 1) := by decide +kernel
theorem dX12_layProgramme_18 : decode cX12_layProgramme 18 = .ok (.bipush 20, 2) := by decide +kernel
theorem dX12_layProgramme_20 : decode cX12_layProgramme 20 = .ok (.if_icmp .ge 48, 3) := by decide +kernel
theorem dX12_layProgramme_23 : decode cX12_layProgramme 23 = .ok (.aload_n 0, 1) := by decide +kernel
theorem dX12_layProgramme_24 : decode cX12_layProgramme 24 = .ok (.iload_n 1, 1) := by decide +kernel
theorem dX12_layProgramme_25 : decode cX12_layProgramme 25 = .ok (.iload_n 2, 1) := by decide +kernel
theorem dX12_layProgramme_26 : decode cX12_layProgramme 26 = .ok (.invokevirtual 282, 3) := by decide +kernel
theorem dX12_layProgramme_29 : decode cX12_layProgramme 29 = .ok (.istore_n 3, 1) := by decide +kernel
theorem dX12_layProgramme_30 : decode cX12_layProgramme 30 = .ok (.iload_n 3, 1) := by decide +kernel
theorem dX12_layProgramme_31 : decode cX12_layProgramme 31 = .ok (.bipush 20, 2) := by decide +kernel
theorem dX12_layProgramme_33 : decode cX12_layProgramme 33 = .ok (.if_icmp .eq 12, 3) := by decide +kernel
theorem dX12_layProgramme_36 : decode cX12_layProgramme 36 = .ok (.aload_n 0, 1) := by decide +kernel
theorem dX12_layProgramme_37 : decode cX12_layProgramme 37 = .ok (.iload_n 3, 1) := by decide +kernel
theorem dX12_layProgramme_38 : decode cX12_layProgramme 38 = .ok (.invokevirtual 165, 3) := by decide +kernel
theorem dX12_layProgramme_41 : decode cX12_layProgramme 41 = .ok (.ifCond .ne 4, 3) := by decide +kernel
theorem dX12_layProgramme_44 : decode cX12_layProgramme 44 = .ok (.return_, 1) := by decide +kernel
theorem dX12_layProgramme_45 : decode cX12_layProgramme 45 = .ok (.aload_n 0, 1) := by decide +kernel
theorem dX12_layProgramme_46 : decode cX12_layProgramme 46 = .ok (.getfield 88, 3) := by decide +kernel
theorem dX12_layProgramme_49 : decode cX12_layProgramme 49 = .ok (.iload_n 2, 1) := by decide +kernel
theorem dX12_layProgramme_50 : decode cX12_layProgramme 50 = .ok (.iload_n 3, 1) := by decide +kernel
theorem dX12_layProgramme_51 : decode cX12_layProgramme 51 = .ok (.iastore, 1) := by decide +kernel
theorem dX12_layProgramme_52 : decode cX12_layProgramme 52 = .ok (.aload_n 0, 1) := by decide +kernel
theorem dX12_layProgramme_53 : decode cX12_layProgramme 53 = .ok (.dup, 1) := by decide +kernel
theorem dX12_layProgramme_54 : decode cX12_layProgramme 54 = .ok (.getfield 279, 3) := by decide +kernel
theorem dX12_layProgramme_57 : decode cX12_layProgramme 57 = .ok (.iconst 1, 1) := by decide +kernel
theorem dX12_layProgramme_58 : decode cX12_layProgramme 58 = .ok (.iadd, 1) := by decide +kernel
theorem dX12_layProgramme_59 : decode cX12_layProgramme 59 = .ok (.putfield 279, 3) := by decide +kernel
theorem dX12_layProgramme_62 : decode cX12_layProgramme 62 = .ok (.iinc 2 1, 3) := by decide +kernel
theorem dX12_layProgramme_65 : decode cX12_layProgramme 65 = .ok (.goto (-58), 3) := by decide +kernel
theorem dX12_layProgramme_68 : decode cX12_layProgramme 68 = .ok (.return_, 1) := by decide +kernel
theorem dX12_goProgramme_0 : decode cX12_goProgramme 0 = .ok (.aload_n 0, 1) := by decide +kernel
theorem dX12_goProgramme_1 : decode cX12_goProgramme 1 = .ok (.invokevirtual 285, 3) := by decide +kernel
theorem dX12_goProgramme_4 : decode cX12_goProgramme 4 = .ok (.iconst 0, 1) := by decide +kernel
theorem dX12_goProgramme_5 : decode cX12_goProgramme 5 = .ok (.istore_n 3, 1) := by decide +kernel
theorem dX12_goProgramme_6 : decode cX12_goProgramme 6 = .ok (.iload_n 3, 1) := by decide +kernel
theorem dX12_goProgramme_7 : decode cX12_goProgramme 7 = .ok (.iload_n 1, 1) := by decide +kernel
theorem dX12_goProgramme_8 : decode cX12_goProgramme 8 = .ok (.if_icmp .ge 24, 3) := by decide +kernel
theorem dX12_goProgramme_11 : decode cX12_goProgramme 11 = .ok (.iload_n 3, 1) := by decide +kernel
theorem dX12_goProgramme_12 : decode cX12_goProgramme 12 = .ok (.iload_n 2, 1) := by decide +kernel
theorem dX12_goProgramme_13 : decode cX12_goProgramme 13 = .ok (.if_icmp .eq 13, 3) := by decide +kernel
theorem dX12_goProgramme_16 : decode cX12_goProgramme 16 = .ok (.aload_n 0, 1) := by decide +kernel
theorem dX12_goProgramme_17 : decode cX12_goProgramme 17 = .ok (.aload_n 0, 1) := by decide +kernel
theorem dX12_goProgramme_18 : decode cX12_goProgramme 18 = .ok (.getfield 88, 3) := by decide +kernel
theorem dX12_goProgramme_21 : decode cX12_goProgramme 21 = .ok (.iload_n 3, 1) := by decide +kernel
theorem dX12_goProgramme_22 : decode cX12_goProgramme 22 = .ok (.iaload, 1) := by decide +kernel
theorem dX12_goProgramme_23 : decode cX12_goProgramme 23 = .ok (.invokevirtual 288, 3) := by decide +kernel
theorem dX12_goProgramme_26 : decode cX12_goProgramme 26 = .ok (.iinc 3 1, 3) := by decide +kernel
theorem dX12_goProgramme_29 : decode cX12_goProgramme 29 = .ok (.goto (-23), 3) := by decide +kernel
theorem dX12_goProgramme_32 : decode cX12_goProgramme 32 = .ok (.return_, 1) := by decide +kernel
theorem dX12_goAll_0 : decode cX12_goAll 0 = .ok (.aload_n 0, 1) := by decide +kernel
theorem dX12_goAll_1 : decode cX12_goAll 1 = .ok (.aload_n 0, 1) := by decide +kernel
theorem dX12_goAll_2 : decode cX12_goAll 2 = .ok (.getfield 279, 3) := by decide +kernel
theorem dX12_goAll_5 : decode cX12_goAll 5 = .ok (.iconst (-1), 1) := by decide +kernel
theorem dX12_goAll_6 : decode cX12_goAll 6 = .ok (.invokevirtual 291, 3) := by decide +kernel
theorem dX12_goAll_9 : decode cX12_goAll 9 = .ok (.return_, 1) := by decide +kernel
theorem dX12_layOr_0 : decode cX12_layOr 0 = .ok (.aload_n 0, 1) := by decide +kernel
theorem dX12_layOr_1 : decode cX12_layOr 1 = .ok (.iload_n 1, 1) := by decide +kernel
theorem dX12_layOr_2 : decode cX12_layOr 2 = .ok (.iconst 0, 1) := by decide +kernel
theorem dX12_layOr_3 : decode cX12_layOr 3 = .ok (.invokevirtual 294, 3) := by decide +kernel
theorem dX12_layOr_6 : decode cX12_layOr 6 = .ok (.istore_n 2, 1) := by decide +kernel
theorem dX12_layOr_7 : decode cX12_layOr 7 = .ok (.iload_n 2, 1) := by decide +kernel
theorem dX12_layOr_8 : decode cX12_layOr 8 = .ok (.ifCond .ne 8, 3) := by decide +kernel
theorem dX12_layOr_11 : decode cX12_layOr 11 = .ok (.aload_n 0, 1) := by decide +kernel
theorem dX12_layOr_12 : decode cX12_layOr 12 = .ok (.iload_n 1, 1) := by decide +kernel
theorem dX12_layOr_13 : decode cX12_layOr 13 = .ok (.invokevirtual 297, 3) := by decide +kernel
theorem dX12_layOr_16 : decode cX12_layOr 16 = .ok (.iload_n 2, 1) := by decide +kernel
theorem dX12_layOr_17 : decode cX12_layOr 17 = .ok (.ireturn, 1) := by decide +kernel
theorem dX12_ice_0 : decode cX12_ice 0 = .ok (.iload_n 1, 1) := by decide +kernel
theorem dX12_ice_1 : decode cX12_ice 1 = .ok (.invokestatic 139, 3) := by decide +kernel
theorem dX12_ice_4 : decode cX12_ice 4 = .ok (.ifCond .eq 18, 3) := by decide +kernel
theorem dX12_ice_7 : decode cX12_ice 7 = .ok (.iload_n 2, 1) := by decide +kernel
theorem dX12_ice_8 : decode cX12_ice 8 = .ok (.bipush (-4), 2) := by decide +kernel
theorem dX12_ice_10 : decode cX12_ice 10 = .ok (.aload_n 0, 1) := by decide +kernel
theorem dX12_ice_11 : decode cX12_ice 11 = .ok (.getfield 28, 3) := by decide +kernel
theorem dX12_ice_14 : decode cX12_ice 14 = .ok (.iconst 1, 1) := by decide +kernel
theorem dX12_ice_15 : decode cX12_ice 15 = .ok (.isub, 1) := by decide +kernel
theorem dX12_ice_16 : decode cX12_ice 16 = .ok (.invokestatic 128, 3) := by decide +kernel
theorem dX12_ice_19 : decode cX12_ice 19 = .ok (.ifCond .ne 5, 3) := by decide +kernel
theorem dX12_ice_22 : decode cX12_ice 22 = .ok (.iconst (-1), 1) := by decide +kernel
theorem dX12_ice_23 : decode cX12_ice 23 = .ok (.ireturn, 1) := by decide +kernel
theorem dX12_ice_24 : decode cX12_ice 24 = .ok (.aload_n 0, 1) := by decide +kernel
theorem dX12_ice_25 : decode cX12_ice 25 = .ok (.iload_n 1, 1) := by decide +kernel
theorem dX12_ice_26 : decode cX12_ice 26 = .ok (.invokevirtual 300, 3) := by decide +kernel
theorem dX12_ice_29 : decode cX12_ice 29 = .ok (.istore_n 3, 1) := by decide +kernel
theorem dX12_ice_30 : decode cX12_ice 30 = .ok (.iload_n 3, 1) := by decide +kernel
theorem dX12_ice_31 : decode cX12_ice 31 = .ok (.ifCond .ge 5, 3) := by decide +kernel
theorem dX12_ice_34 : decode cX12_ice 34 = .ok (.iload_n 3, 1) := by decide +kernel
theorem dX12_ice_35 : decode cX12_ice 35 = .ok (.ireturn, 1) := by decide +kernel
theorem dX12_ice_36 : decode cX12_ice 36 = .ok (.aload_n 0, 1) := by decide +kernel
theorem dX12_ice_37 : decode cX12_ice 37 = .ok (.invokevirtual 303, 3) := by decide +kernel
theorem dX12_ice_40 : decode cX12_ice 40 = .ok (.iload_n 2, 1) := by decide +kernel
theorem dX12_ice_41 : decode cX12_ice 41 = .ok (.tableswitch 56 (-4) (-1) #[46, 41, 36, 31], 31) := by decide +kernel
theorem dX12_ice_72 : decode cX12_ice 72 = .ok (.aload_n 0, 1) := by decide +kernel
theorem dX12_ice_73 : decode cX12_ice 73 = .ok (.getfield 279, 3) := by decide +kernel
theorem dX12_ice_76 : decode cX12_ice 76 = .ok (.ireturn, 1) := by decide +kernel
theorem dX12_ice_77 : decode cX12_ice 77 = .ok (.aload_n 0, 1) := by decide +kernel
theorem dX12_ice_78 : decode cX12_ice 78 = .ok (.getfield 263, 3) := by decide +kernel
theorem dX12_ice_81 : decode cX12_ice 81 = .ok (.ireturn, 1) := by decide +kernel
theorem dX12_ice_82 : decode cX12_ice 82 = .ok (.aload_n 0, 1) := by decide +kernel
theorem dX12_ice_83 : decode cX12_ice 83 = .ok (.invokevirtual 306, 3) := by decide +kernel
theorem dX12_ice_86 : decode cX12_ice 86 = .ok (.ireturn, 1) := by decide +kernel
theorem dX12_ice_87 : decode cX12_ice 87 = .ok (.aload_n 0, 1) := by decide +kernel
theorem dX12_ice_88 : decode cX12_ice 88 = .ok (.getfield 79, 3) := by decide +kernel
theorem dX12_ice_91 : decode cX12_ice 91 = .ok (.aload_n 0, 1) := by decide +kernel
theorem dX12_ice_92 : decode cX12_ice 92 = .ok (.invokevirtual 306, 3) := by decide +kernel
theorem dX12_ice_95 : decode cX12_ice 95 = .ok (.iaload, 1) := by decide +kernel
theorem dX12_ice_96 : decode cX12_ice 96 = .ok (.ireturn, 1) := by decide +kernel
theorem dX12_ice_97 : decode cX12_ice 97 = .ok (.aload_n 0, 1) := by decide +kernel
theorem dX12_ice_98 : decode cX12_ice 98 = .ok (.getfield 79, 3) := by decide +kernel
theorem dX12_ice_101 : decode cX12_ice 101 = .ok (.iload_n 2, 1) := by decide +kernel
theorem dX12_ice_102 : decode cX12_ice 102 = .ok (.iaload, 1) := by decide +kernel
theorem dX12_ice_103 : decode cX12_ice 103 = .ok (.ireturn, 1) := by decide +kernel
theorem dX12_cross_0 : decode cX12_cross 0 = .ok (.iload_n 1, 1) := by decide +kernel
theorem dX12_cross_1 : decode cX12_cross 1 = .ok (.invokestatic 139, 3) := by decide +kernel
theorem dX12_cross_4 : decode cX12_cross 4 = .ok (.ifCond .eq 10, 3) := by decide +kernel
theorem dX12_cross_7 : decode cX12_cross 7 = .ok (.iload_n 2, 1) := by decide +kernel
theorem dX12_cross_8 : decode cX12_cross 8 = .ok (.invokestatic 309, 3) := by decide +kernel
theorem dX12_cross_11 : decode cX12_cross 11 = .ok (.ifCond .ne 5, 3) := by decide +kernel
theorem dX12_cross_14 : decode cX12_cross 14 = .ok (.iconst (-1), 1) := by decide +kernel
theorem dX12_cross_15 : decode cX12_cross 15 = .ok (.ireturn, 1) := by decide +kernel
theorem dX12_cross_16 : decode cX12_cross 16 = .ok (.aload_n 0, 1) := by decide +kernel
theorem dX12_cross_17 : decode cX12_cross 17 = .ok (.iload_n 1, 1) := by decide +kernel
theorem dX12_cross_18 : decode cX12_cross 18 = .ok (.invokevirtual 300, 3) := by decide +kernel
theorem dX12_cross_21 : decode cX12_cross 21 = .ok (.istore_n 3, 1) := by decide +kernel
theorem dX12_cross_22 : decode cX12_cross 22 = .ok (.iload_n 3, 1) := by decide +kernel
theorem dX12_cross_23 : decode cX12_cross 23 = .ok (.ifCond .ge 5, 3) := by decide +kernel
theorem dX12_cross_26 : decode cX12_cross 26 = .ok (.iload_n 3, 1) := by decide +kernel
theorem dX12_cross_27 : decode cX12_cross 27 = .ok (.ireturn, 1) := by decide +kernel
theorem dX12_cross_28 : decode cX12_cross 28 = .ok (.aload_n 0, 1) := by decide +kernel
theorem dX12_cross_29 : decode cX12_cross 29 = .ok (.invokevirtual 303, 3) := by decide +kernel
theorem dX12_cross_32 : decode cX12_cross 32 = .ok (.aload_n 0, 1) := by decide +kernel
theorem dX12_cross_33 : decode cX12_cross 33 = .ok (.iload_n 2, 1) := by decide +kernel
theorem dX12_cross_34 : decode cX12_cross 34 = .ok (.bipush 10, 2) := by decide +kernel
theorem dX12_cross_36 : decode cX12_cross 36 = .ok (.idiv, 1) := by decide +kernel
theorem dX12_cross_37 : decode cX12_cross 37 = .ok (.iload_n 2, 1) := by decide +kernel
theorem dX12_cross_38 : decode cX12_cross 38 = .ok (.bipush 10, 2) := by decide +kernel
theorem dX12_cross_40 : decode cX12_cross 40 = .ok (.irem, 1) := by decide +kernel
theorem dX12_cross_41 : decode cX12_cross 41 = .ok (.invokevirtual 312, 3) := by decide +kernel
theorem dX12_cross_44 : decode cX12_cross 44 = .ok (.ireturn, 1) := by decide +kernel
theorem dX12_heaviest_0 : decode cX12_heaviest 0 = .ok (.iload_n 1, 1) := by decide +kernel
theorem dX12_heaviest_1 : decode cX12_heaviest 1 = .ok (.invokestatic 139, 3) := by decide +kernel
theorem dX12_heaviest_4 : decode cX12_heaviest 4 = .ok (.ifCond .eq 13, 3) := by decide +kernel
theorem dX12_heaviest_7 : decode cX12_heaviest 7 = .ok (.iload_n 2, 1) := by decide +kernel
theorem dX12_heaviest_8 : decode cX12_heaviest 8 = .ok (.iconst 0, 1) := by decide +kernel
theorem dX12_heaviest_9 : decode cX12_heaviest 9 = .ok (.bipush 9, 2) := by decide +kernel
theorem dX12_heaviest_11 : decode cX12_heaviest 11 = .ok (.invokestatic 128, 3) := by decide +kernel
theorem dX12_heaviest_14 : decode cX12_heaviest 14 = .ok (.ifCond .ne 5, 3) := by decide +kernel
theorem dX12_heaviest_17 : decode cX12_heaviest 17 = .ok (.iconst (-1), 1) := by decide +kernel
theorem dX12_heaviest_18 : decode cX12_heaviest 18 = .ok (.ireturn, 1) := by decide +kernel
theorem dX12_heaviest_19 : decode cX12_heaviest 19 = .ok (.aload_n 0, 1) := by decide +kernel
theorem dX12_heaviest_20 : decode cX12_heaviest 20 = .ok (.iload_n 1, 1) := by decide +kernel
theorem dX12_heaviest_21 : decode cX12_heaviest 21 = .ok (.invokevirtual 300, 3) := by decide +kernel
theorem dX12_heaviest_24 : decode cX12_heaviest 24 = .ok (.istore_n 3, 1) := by decide +kernel
theorem dX12_heaviest_25 : decode cX12_heaviest 25 = .ok (.iload_n 3, 1) := by decide +kernel
theorem dX12_heaviest_26 : decode cX12_heaviest 26 = .ok (.ifCond .ge 5, 3) := by decide +kernel
theorem dX12_heaviest_29 : decode cX12_heaviest 29 = .ok (.iload_n 3, 1) := by decide +kernel
theorem dX12_heaviest_30 : decode cX12_heaviest 30 = .ok (.ireturn, 1) := by decide +kernel
theorem dX12_heaviest_31 : decode cX12_heaviest 31 = .ok (.aload_n 0, 1) := by decide +kernel
theorem dX12_heaviest_32 : decode cX12_heaviest 32 = .ok (.invokevirtual 303, 3) := by decide +kernel
theorem dX12_heaviest_35 : decode cX12_heaviest 35 = .ok (.aload_n 0, 1) := by decide +kernel
theorem dX12_heaviest_36 : decode cX12_heaviest 36 = .ok (.iload_n 2, 1) := by decide +kernel
theorem dX12_heaviest_37 : decode cX12_heaviest 37 = .ok (.invokevirtual 315, 3) := by decide +kernel
theorem dX12_heaviest_40 : decode cX12_heaviest 40 = .ok (.ireturn, 1) := by decide +kernel
theorem dX12_holdsBehind_0 : decode cX12_holdsBehind 0 = .ok (.iconst 0, 1) := by decide +kernel
theorem dX12_holdsBehind_1 : decode cX12_holdsBehind 1 = .ok (.istore 4, 2) := by decide +kernel
theorem dX12_holdsBehind_3 : decode cX12_holdsBehind 3 = .ok (.iload 4, 2) := by decide +kernel
theorem dX12_holdsBehind_5 : decode cX12_holdsBehind 5 = .ok (.aload_n 0, 1) := by decide +kernel
theorem dX12_holdsBehind_6 : decode cX12_holdsBehind 6 = .ok (.getfield 28, 3) := by decide +kernel
theorem dX12_holdsBehind_9 : decode cX12_holdsBehind 9 = .ok (.if_icmp .ge 27, 3) := by decide +kernel
theorem dX12_holdsBehind_12 : decode cX12_holdsBehind 12 = .ok (.aload_n 0, 1) := by decide +kernel
theorem dX12_holdsBehind_13 : decode cX12_holdsBehind 13 = .ok (.iload 4, 2) := by decide +kernel
theorem dX12_holdsBehind_15 : decode cX12_holdsBehind 15 = .ok (.iload_n 3, 1) := by decide +kernel
theorem dX12_holdsBehind_16 : decode cX12_holdsBehind 16 = .ok (.iload 4, 2) := by decide +kernel
theorem dX12_holdsBehind_18 : decode cX12_holdsBehind 18 = .ok (.iload_n 2, 1) := by decide +kernel
theorem dX12_holdsBehind_19 : decode cX12_holdsBehind 19 = .ok (.imul, 1) := by decide +kernel
theorem dX12_holdsBehind_20 : decode cX12_holdsBehind 20 = .ok (.iadd, 1) := by decide +kernel
theorem dX12_holdsBehind_21 : decode cX12_holdsBehind 21 = .ok (.invokevirtual 266, 3) := by decide +kernel
theorem dX12_holdsBehind_24 : decode cX12_holdsBehind 24 = .ok (.iload_n 1, 1) := by decide +kernel
theorem dX12_holdsBehind_25 : decode cX12_holdsBehind 25 = .ok (.if_icmp .ge 5, 3) := by decide +kernel
theorem dX12_holdsBehind_28 : decode cX12_holdsBehind 28 = .ok (.iconst 0, 1) := by decide +kernel
theorem dX12_holdsBehind_29 : decode cX12_holdsBehind 29 = .ok (.ireturn, 1) := by decide +kernel
theorem dX12_holdsBehind_30 : decode cX12_holdsBehind 30 = .ok (.iinc 4 1, 3) := by decide +kernel
theorem dX12_holdsBehind_33 : decode cX12_holdsBehind 33 = .ok (.goto (-30), 3) := by decide +kernel
theorem dX12_holdsBehind_36 : decode cX12_holdsBehind 36 = .ok (.iconst 1, 1) := by decide +kernel
theorem dX12_holdsBehind_37 : decode cX12_holdsBehind 37 = .ok (.ireturn, 1) := by decide +kernel
theorem dX12_waits_0 : decode cX12_waits 0 = .ok (.iload_n 1, 1) := by decide +kernel
theorem dX12_waits_1 : decode cX12_waits 1 = .ok (.invokestatic 139, 3) := by decide +kernel
theorem dX12_waits_4 : decode cX12_waits 4 = .ok (.ifCond .eq 10, 3) := by decide +kernel
theorem dX12_waits_7 : decode cX12_waits 7 = .ok (.iload_n 2, 1) := by decide +kernel
theorem dX12_waits_8 : decode cX12_waits 8 = .ok (.invokestatic 309, 3) := by decide +kernel
theorem dX12_waits_11 : decode cX12_waits 11 = .ok (.ifCond .ne 5, 3) := by decide +kernel
theorem dX12_waits_14 : decode cX12_waits 14 = .ok (.iconst (-1), 1) := by decide +kernel
theorem dX12_waits_15 : decode cX12_waits 15 = .ok (.ireturn, 1) := by decide +kernel
theorem dX12_waits_16 : decode cX12_waits 16 = .ok (.aload_n 0, 1) := by decide +kernel
theorem dX12_waits_17 : decode cX12_waits 17 = .ok (.iload_n 1, 1) := by decide +kernel
theorem dX12_waits_18 : decode cX12_waits 18 = .ok (.invokevirtual 300, 3) := by decide +kernel
theorem dX12_waits_21 : decode cX12_waits 21 = .ok (.istore_n 3, 1) := by decide +kernel
theorem dX12_waits_22 : decode cX12_waits 22 = .ok (.iload_n 3, 1) := by decide +kernel
theorem dX12_waits_23 : decode cX12_waits 23 = .ok (.ifCond .ge 5, 3) := by decide +kernel
theorem dX12_waits_26 : decode cX12_waits 26 = .ok (.iload_n 3, 1) := by decide +kernel
theorem dX12_waits_27 : decode cX12_waits 27 = .ok (.ireturn, 1) := by decide +kernel
theorem dX12_waits_28 : decode cX12_waits 28 = .ok (.aload_n 0, 1) := by decide +kernel
theorem dX12_waits_29 : decode cX12_waits 29 = .ok (.invokevirtual 303, 3) := by decide +kernel
theorem dX12_waits_32 : decode cX12_waits 32 = .ok (.bipush (-2), 2) := by decide +kernel
theorem dX12_waits_34 : decode cX12_waits 34 = .ok (.istore 4, 2) := by decide +kernel
theorem dX12_waits_36 : decode cX12_waits 36 = .ok (.iconst 0, 1) := by decide +kernel
theorem dX12_waits_37 : decode cX12_waits 37 = .ok (.istore 5, 2) := by decide +kernel
theorem dX12_waits_39 : decode cX12_waits 39 = .ok (.iload 5, 2) := by decide +kernel
theorem dX12_waits_41 : decode cX12_waits 41 = .ok (.sipush 999, 3) := by decide +kernel
theorem dX12_waits_44 : decode cX12_waits 44 = .ok (.if_icmp .gt 30, 3) := by decide +kernel
theorem dX12_waits_47 : decode cX12_waits 47 = .ok (.aload_n 0, 1) := by decide +kernel
theorem dX12_waits_48 : decode cX12_waits 48 = .ok (.iload_n 2, 1) := by decide +kernel
theorem dX12_waits_49 : decode cX12_waits 49 = .ok (.bipush 10, 2) := by decide +kernel
theorem dX12_waits_51 : decode cX12_waits 51 = .ok (.idiv, 1) := by decide +kernel
theorem dX12_waits_52 : decode cX12_waits 52 = .ok (.iload_n 2, 1) := by decide +kernel
theorem dX12_waits_53 : decode cX12_waits 53 = .ok (.bipush 10, 2) := by decide +kernel
theorem dX12_waits_55 : decode cX12_waits 55 = .ok (.irem, 1) := by decide +kernel
theorem dX12_waits_56 : decode cX12_waits 56 = .ok (.iload 5, 2) := by decide +kernel
theorem dX12_waits_58 : decode cX12_waits 58 = .ok (.invokevirtual 318, 3) := by decide +kernel
theorem dX12_waits_61 : decode cX12_waits 61 = .ok (.ifCond .eq 13, 3) := by decide +kernel
theorem dX12_waits_64 : decode cX12_waits 64 = .ok (.iload 5, 2) := by decide +kernel
theorem dX12_waits_66 : decode cX12_waits 66 = .ok (.istore 4, 2) := by decide +kernel
theorem dX12_waits_68 : decode cX12_waits 68 = .ok (.iinc 5 1, 3) := by decide +kernel
theorem dX12_waits_71 : decode cX12_waits 71 = .ok (.goto (-32), 3) := by decide +kernel
theorem dX12_waits_74 : decode cX12_waits 74 = .ok (.iload 4, 2) := by decide +kernel
theorem dX12_waits_76 : decode cX12_waits 76 = .ok (.ireturn, 1) := by decide +kernel
theorem dX12_first_0 : decode cX12_first 0 = .ok (.iload_n 1, 1) := by decide +kernel
theorem dX12_first_1 : decode cX12_first 1 = .ok (.invokestatic 139, 3) := by decide +kernel
theorem dX12_first_4 : decode cX12_first 4 = .ok (.ifCond .eq 10, 3) := by decide +kernel
theorem dX12_first_7 : decode cX12_first 7 = .ok (.iload_n 2, 1) := by decide +kernel
theorem dX12_first_8 : decode cX12_first 8 = .ok (.invokestatic 309, 3) := by decide +kernel
theorem dX12_first_11 : decode cX12_first 11 = .ok (.ifCond .ne 5, 3) := by decide +kernel
theorem dX12_first_14 : decode cX12_first 14 = .ok (.iconst (-1), 1) := by decide +kernel
theorem dX12_first_15 : decode cX12_first 15 = .ok (.ireturn, 1) := by decide +kernel
theorem dX12_first_16 : decode cX12_first 16 = .ok (.aload_n 0, 1) := by decide +kernel
theorem dX12_first_17 : decode cX12_first 17 = .ok (.iload_n 1, 1) := by decide +kernel
theorem dX12_first_18 : decode cX12_first 18 = .ok (.invokevirtual 300, 3) := by decide +kernel
theorem dX12_first_21 : decode cX12_first 21 = .ok (.istore_n 3, 1) := by decide +kernel
theorem dX12_first_22 : decode cX12_first 22 = .ok (.iload_n 3, 1) := by decide +kernel
theorem dX12_first_23 : decode cX12_first 23 = .ok (.ifCond .ge 5, 3) := by decide +kernel
theorem dX12_first_26 : decode cX12_first 26 = .ok (.iload_n 3, 1) := by decide +kernel
theorem dX12_first_27 : decode cX12_first 27 = .ok (.ireturn, 1) := by decide +kernel
theorem dX12_first_28 : decode cX12_first 28 = .ok (.iconst 0, 1) := by decide +kernel
theorem dX12_first_29 : decode cX12_first 29 = .ok (.istore 4, 2) := by decide +kernel
theorem dX12_first_31 : decode cX12_first 31 = .ok (.iload 4, 2) := by decide +kernel
theorem dX12_first_33 : decode cX12_first 33 = .ok (.aload_n 0, 1) := by decide +kernel
theorem dX12_first_34 : decode cX12_first 34 = .ok (.getfield 279, 3) := by decide +kernel
theorem dX12_first_37 : decode cX12_first 37 = .ok (.if_icmp .gt 36, 3) := by decide +kernel
theorem dX12_first_40 : decode cX12_first 40 = .ok (.aload_n 0, 1) := by decide +kernel
theorem dX12_first_41 : decode cX12_first 41 = .ok (.iload 4, 2) := by decide +kernel
theorem dX12_first_43 : decode cX12_first 43 = .ok (.iconst (-1), 1) := by decide +kernel
theorem dX12_first_44 : decode cX12_first 44 = .ok (.invokevirtual 291, 3) := by decide +kernel
theorem dX12_first_47 : decode cX12_first 47 = .ok (.aload_n 0, 1) := by decide +kernel
theorem dX12_first_48 : decode cX12_first 48 = .ok (.iload_n 2, 1) := by decide +kernel
theorem dX12_first_49 : decode cX12_first 49 = .ok (.bipush 10, 2) := by decide +kernel
theorem dX12_first_51 : decode cX12_first 51 = .ok (.idiv, 1) := by decide +kernel
theorem dX12_first_52 : decode cX12_first 52 = .ok (.iload_n 2, 1) := by decide +kernel
theorem dX12_first_53 : decode cX12_first 53 = .ok (.bipush 10, 2) := by decide +kernel
theorem dX12_first_55 : decode cX12_first 55 = .ok (.irem, 1) := by decide +kernel
theorem dX12_first_56 : decode cX12_first 56 = .ok (.invokevirtual 312, 3) := by decide +kernel
theorem dX12_first_59 : decode cX12_first 59 = .ok (.bipush (-2), 2) := by decide +kernel
theorem dX12_first_61 : decode cX12_first 61 = .ok (.if_icmp .ne 6, 3) := by decide +kernel
theorem dX12_first_64 : decode cX12_first 64 = .ok (.iload 4, 2) := by decide +kernel
theorem dX12_first_66 : decode cX12_first 66 = .ok (.ireturn, 1) := by decide +kernel
theorem dX12_first_67 : decode cX12_first 67 = .ok (.iinc 4 1, 3) := by decide +kernel
theorem dX12_first_70 : decode cX12_first 70 = .ok (.goto (-39), 3) := by decide +kernel
theorem dX12_first_73 : decode cX12_first 73 = .ok (.bipush (-2), 2) := by decide +kernel
theorem dX12_first_75 : decode cX12_first 75 = .ok (.ireturn, 1) := by decide +kernel
theorem dX12_metOrder_0 : decode cX12_metOrder 0 = .ok (.aload_n 0, 1) := by decide +kernel
theorem dX12_metOrder_1 : decode cX12_metOrder 1 = .ok (.invokevirtual 303, 3) := by decide +kernel
theorem dX12_metOrder_4 : decode cX12_metOrder 4 = .ok (.aload_n 0, 1) := by decide +kernel
theorem dX12_metOrder_5 : decode cX12_metOrder 5 = .ok (.iconst 0, 1) := by decide +kernel
theorem dX12_metOrder_6 : decode cX12_metOrder 6 = .ok (.invokevirtual 315, 3) := by decide +kernel
theorem dX12_metOrder_9 : decode cX12_metOrder 9 = .ok (.aload_n 0, 1) := by decide +kernel
theorem dX12_metOrder_10 : decode cX12_metOrder 10 = .ok (.getfield 321, 3) := by decide +kernel
theorem dX12_metOrder_13 : decode cX12_metOrder 13 = .ok (.if_icmp .le 40, 3) := by decide +kernel
theorem dX12_metOrder_16 : decode cX12_metOrder 16 = .ok (.aload_n 0, 1) := by decide +kernel
theorem dX12_metOrder_17 : decode cX12_metOrder 17 = .ok (.aload_n 0, 1) := by decide +kernel
theorem dX12_metOrder_18 : decode cX12_metOrder 18 = .ok (.iconst 0, 1) := by decide +kernel
theorem dX12_metOrder_19 : decode cX12_metOrder 19 = .ok (.invokevirtual 315, 3) := by decide +kernel
theorem dX12_metOrder_22 : decode cX12_metOrder 22 = .ok (.putfield 321, 3) := by decide +kernel
theorem dX12_metOrder_25 : decode cX12_metOrder 25 = .ok (.iconst 0, 1) := by decide +kernel
theorem dX12_metOrder_26 : decode cX12_metOrder 26 = .ok (.istore_n 1, 1) := by decide +kernel
theorem dX12_metOrder_27 : decode cX12_metOrder 27 = .ok (.iload_n 1, 1) := by decide +kernel
theorem dX12_metOrder_28 : decode cX12_metOrder 28 = .ok (.aload_n 0, 1) := by decide +kernel
theorem dX12_metOrder_29 : decode cX12_metOrder 29 = .ok (.getfield 279, 3) := by decide +kernel
theorem dX12_metOrder_32 : decode cX12_metOrder 32 = .ok (.if_icmp .ge 21, 3) := by decide +kernel
theorem dX12_metOrder_35 : decode cX12_metOrder 35 = .ok (.aload_n 0, 1) := by decide +kernel
theorem dX12_metOrder_36 : decode cX12_metOrder 36 = .ok (.getfield 91, 3) := by decide +kernel
theorem dX12_metOrder_39 : decode cX12_metOrder 39 = .ok (.iload_n 1, 1) := by decide +kernel
theorem dX12_metOrder_40 : decode cX12_metOrder 40 = .ok (.aload_n 0, 1) := by decide +kernel
theorem dX12_metOrder_41 : decode cX12_metOrder 41 = .ok (.getfield 88, 3) := by decide +kernel
theorem dX12_metOrder_44 : decode cX12_metOrder 44 = .ok (.iload_n 1, 1) := by decide +kernel
theorem dX12_metOrder_45 : decode cX12_metOrder 45 = .ok (.iaload, 1) := by decide +kernel
theorem dX12_metOrder_46 : decode cX12_metOrder 46 = .ok (.iastore, 1) := by decide +kernel
theorem dX12_metOrder_47 : decode cX12_metOrder 47 = .ok (.iinc 1 1, 3) := by decide +kernel
theorem dX12_metOrder_50 : decode cX12_metOrder 50 = .ok (.goto (-23), 3) := by decide +kernel
theorem dX12_metOrder_53 : decode cX12_metOrder 53 = .ok (.aload_n 0, 1) := by decide +kernel
theorem dX12_metOrder_54 : decode cX12_metOrder 54 = .ok (.getfield 324, 3) := by decide +kernel
theorem dX12_metOrder_57 : decode cX12_metOrder 57 = .ok (.ifCond .lt 14, 3) := by decide +kernel
theorem dX12_metOrder_60 : decode cX12_metOrder 60 = .ok (.aload_n 0, 1) := by decide +kernel
theorem dX12_metOrder_61 : decode cX12_metOrder 61 = .ok (.aload_n 0, 1) := by decide +kernel
theorem dX12_metOrder_62 : decode cX12_metOrder 62 = .ok (.getfield 324, 3) := by decide +kernel
theorem dX12_metOrder_65 : decode cX12_metOrder 65 = .ok (.invokevirtual 327, 3) := by decide +kernel
theorem dX12_metOrder_68 : decode cX12_metOrder 68 = .ok (.ifCond .lt 4, 3) := by decide +kernel
theorem dX12_metOrder_71 : decode cX12_metOrder 71 = .ok (.return_, 1) := by decide +kernel
theorem dX12_metOrder_72 : decode cX12_metOrder 72 = .ok (.iconst 0, 1) := by decide +kernel
theorem dX12_metOrder_73 : decode cX12_metOrder 73 = .ok (.istore_n 1, 1) := by decide +kernel
theorem dX12_metOrder_74 : decode cX12_metOrder 74 = .ok (.iconst 0, 1) := by decide +kernel
theorem dX12_metOrder_75 : decode cX12_metOrder 75 = .ok (.istore_n 2, 1) := by decide +kernel
theorem dX12_metOrder_76 : decode cX12_metOrder 76 = .ok (.iload_n 2, 1) := by decide +kernel
theorem dX12_metOrder_77 : decode cX12_metOrder 77 = .ok (.aload_n 0, 1) := by decide +kernel
theorem dX12_metOrder_78 : decode cX12_metOrder 78 = .ok (.getfield 279, 3) := by decide +kernel
theorem dX12_metOrder_81 : decode cX12_metOrder 81 = .ok (.if_icmp .ge 21, 3) := by decide +kernel
theorem dX12_metOrder_84 : decode cX12_metOrder 84 = .ok (.bipush 10, 2) := by decide +kernel
theorem dX12_metOrder_86 : decode cX12_metOrder 86 = .ok (.iload_n 1, 1) := by decide +kernel
theorem dX12_metOrder_87 : decode cX12_metOrder 87 = .ok (.imul, 1) := by decide +kernel
theorem dX12_metOrder_88 : decode cX12_metOrder 88 = .ok (.aload_n 0, 1) := by decide +kernel
theorem dX12_metOrder_89 : decode cX12_metOrder 89 = .ok (.getfield 88, 3) := by decide +kernel
theorem dX12_metOrder_92 : decode cX12_metOrder 92 = .ok (.iload_n 2, 1) := by decide +kernel
theorem dX12_metOrder_93 : decode cX12_metOrder 93 = .ok (.iaload, 1) := by decide +kernel
theorem dX12_metOrder_94 : decode cX12_metOrder 94 = .ok (.iadd, 1) := by decide +kernel
theorem dX12_metOrder_95 : decode cX12_metOrder 95 = .ok (.istore_n 1, 1) := by decide +kernel
theorem dX12_metOrder_96 : decode cX12_metOrder 96 = .ok (.iinc 2 1, 3) := by decide +kernel
theorem dX12_metOrder_99 : decode cX12_metOrder 99 = .ok (.goto (-23), 3) := by decide +kernel
theorem dX12_metOrder_102 : decode cX12_metOrder 102 = .ok (.aload_n 0, 1) := by decide +kernel
theorem dX12_metOrder_103 : decode cX12_metOrder 103 = .ok (.getfield 330, 3) := by decide +kernel
theorem dX12_metOrder_106 : decode cX12_metOrder 106 = .ok (.ifCond .ne 8, 3) := by decide +kernel
theorem dX12_metOrder_109 : decode cX12_metOrder 109 = .ok (.aload_n 0, 1) := by decide +kernel
theorem dX12_metOrder_110 : decode cX12_metOrder 110 = .ok (.iload_n 1, 1) := by decide +kernel
theorem dX12_metOrder_111 : decode cX12_metOrder 111 = .ok (.putfield 333, 3) := by decide +kernel
theorem dX12_metOrder_114 : decode cX12_metOrder 114 = .ok (.aload_n 0, 1) := by decide +kernel
theorem dX12_metOrder_115 : decode cX12_metOrder 115 = .ok (.dup, 1) := by decide +kernel
theorem dX12_metOrder_116 : decode cX12_metOrder 116 = .ok (.getfield 330, 3) := by decide +kernel
theorem dX12_metOrder_119 : decode cX12_metOrder 119 = .ok (.iconst 1, 1) := by decide +kernel
theorem dX12_metOrder_120 : decode cX12_metOrder 120 = .ok (.iadd, 1) := by decide +kernel
theorem dX12_metOrder_121 : decode cX12_metOrder 121 = .ok (.putfield 330, 3) := by decide +kernel
theorem dX12_metOrder_124 : decode cX12_metOrder 124 = .ok (.return_, 1) := by decide +kernel
theorem dX12_goOrders_0 : decode cX12_goOrders 0 = .ok (.aload_n 0, 1) := by decide +kernel
theorem dX12_goOrders_1 : decode cX12_goOrders 1 = .ok (.getfield 279, 3) := by decide +kernel
theorem dX12_goOrders_4 : decode cX12_goOrders 4 = .ok (.aload_n 0, 1) := by decide +kernel
theorem dX12_goOrders_5 : decode cX12_goOrders 5 = .ok (.getfield 132, 3) := by decide +kernel
theorem dX12_goOrders_8 : decode cX12_goOrders 8 = .ok (.if_icmp .ne 8, 3) := by decide +kernel
theorem dX12_goOrders_11 : decode cX12_goOrders 11 = .ok (.aload_n 0, 1) := by decide +kernel
theorem dX12_goOrders_12 : decode cX12_goOrders 12 = .ok (.invokevirtual 336, 3) := by decide +kernel
theorem dX12_goOrders_15 : decode cX12_goOrders 15 = .ok (.return_, 1) := by decide +kernel
theorem dX12_goOrders_16 : decode cX12_goOrders 16 = .ok (.iconst 0, 1) := by decide +kernel
theorem dX12_goOrders_17 : decode cX12_goOrders 17 = .ok (.istore_n 2, 1) := by decide +kernel
theorem dX12_goOrders_18 : decode cX12_goOrders 18 = .ok (.iload_n 2, 1) := by decide +kernel
theorem dX12_goOrders_19 : decode cX12_goOrders 19 = .ok (.aload_n 0, 1) := by decide +kernel
theorem dX12_goOrders_20 : decode cX12_goOrders 20 = .ok (.getfield 132, 3) := by decide +kernel
theorem dX12_goOrders_23 : decode cX12_goOrders 23 = .ok (.if_icmp .ge 60, 3) := by decide +kernel
theorem dX12_goOrders_26 : decode cX12_goOrders 26 = .ok (.iload_n 1, 1) := by decide +kernel
theorem dX12_goOrders_27 : decode cX12_goOrders 27 = .ok (.iload_n 2, 1) := by decide +kernel
theorem dX12_goOrders_28 : decode cX12_goOrders 28 = .ok (.ishr, 1) := by decide +kernel
theorem dX12_goOrders_29 : decode cX12_goOrders 29 = .ok (.iconst 1, 1) := by decide +kernel
theorem dX12_goOrders_30 : decode cX12_goOrders 30 = .ok (.iand, 1) := by decide +kernel
theorem dX12_goOrders_31 : decode cX12_goOrders 31 = .ok (.iconst 1, 1) := by decide +kernel
theorem dX12_goOrders_32 : decode cX12_goOrders 32 = .ok (.if_icmp .ne 6, 3) := by decide +kernel
theorem dX12_goOrders_35 : decode cX12_goOrders 35 = .ok (.goto 42, 3) := by decide +kernel
theorem dX12_goOrders_38 : decode cX12_goOrders 38 = .ok (.aload_n 0, 1) := by decide +kernel
theorem dX12_goOrders_39 : decode cX12_goOrders 39 = .ok (.getfield 88, 3) := by decide +kernel
theorem dX12_goOrders_42 : decode cX12_goOrders 42 = .ok (.aload_n 0, 1) := by decide +kernel
theorem dX12_goOrders_43 : decode cX12_goOrders 43 = .ok (.getfield 279, 3) := by decide +kernel
theorem dX12_goOrders_46 : decode cX12_goOrders 46 = .ok (.iload_n 2, 1) := by decide +kernel
theorem dX12_goOrders_47 : decode cX12_goOrders 47 = .ok (.iastore, 1) := by decide +kernel
theorem dX12_goOrders_48 : decode cX12_goOrders 48 = .ok (.aload_n 0, 1) := by decide +kernel
theorem dX12_goOrders_49 : decode cX12_goOrders 49 = .ok (.dup, 1) := by decide +kernel
theorem dX12_goOrders_50 : decode cX12_goOrders 50 = .ok (.getfield 279, 3) := by decide +kernel
theorem dX12_goOrders_53 : decode cX12_goOrders 53 = .ok (.iconst 1, 1) := by decide +kernel
theorem dX12_goOrders_54 : decode cX12_goOrders 54 = .ok (.iadd, 1) := by decide +kernel
theorem dX12_goOrders_55 : decode cX12_goOrders 55 = .ok (.putfield 279, 3) := by decide +kernel
theorem dX12_goOrders_58 : decode cX12_goOrders 58 = .ok (.aload_n 0, 1) := by decide +kernel
theorem dX12_goOrders_59 : decode cX12_goOrders 59 = .ok (.iload_n 1, 1) := by decide +kernel
theorem dX12_goOrders_60 : decode cX12_goOrders 60 = .ok (.iconst 1, 1) := by decide +kernel
theorem dX12_goOrders_61 : decode cX12_goOrders 61 = .ok (.iload_n 2, 1) := by decide +kernel
theorem dX12_goOrders_62 : decode cX12_goOrders 62 = .ok (.ishl, 1) := by decide +kernel
theorem dX12_goOrders_63 : decode cX12_goOrders 63 = .ok (.ior, 1) := by decide +kernel
theorem dX12_goOrders_64 : decode cX12_goOrders 64 = .ok (.invokevirtual 339, 3) := by decide +kernel
theorem dX12_goOrders_67 : decode cX12_goOrders 67 = .ok (.aload_n 0, 1) := by decide +kernel
theorem dX12_goOrders_68 : decode cX12_goOrders 68 = .ok (.dup, 1) := by decide +kernel
theorem dX12_goOrders_69 : decode cX12_goOrders 69 = .ok (.getfield 279, 3) := by decide +kernel
theorem dX12_goOrders_72 : decode cX12_goOrders 72 = .ok (.iconst 1, 1) := by decide +kernel
theorem dX12_goOrders_73 : decode cX12_goOrders 73 = .ok (.isub, 1) := by decide +kernel
theorem dX12_goOrders_74 : decode cX12_goOrders 74 = .ok (.putfield 279, 3) := by decide +kernel
theorem dX12_goOrders_77 : decode cX12_goOrders 77 = .ok (.iinc 2 1, 3) := by decide +kernel
theorem dX12_goOrders_80 : decode cX12_goOrders 80 = .ok (.goto (-62), 3) := by decide +kernel
theorem dX12_goOrders_83 : decode cX12_goOrders 83 = .ok (.return_, 1) := by decide +kernel
theorem dX12_findOrders_0 : decode cX12_findOrders 0 = .ok (.aload_n 0, 1) := by decide +kernel
theorem dX12_findOrders_1 : decode cX12_findOrders 1 = .ok (.iconst (-1), 1) := by decide +kernel
theorem dX12_findOrders_2 : decode cX12_findOrders 2 = .ok (.putfield 321, 3) := by decide +kernel
theorem dX12_findOrders_5 : decode cX12_findOrders 5 = .ok (.aload_n 0, 1) := by decide +kernel
theorem dX12_findOrders_6 : decode cX12_findOrders 6 = .ok (.iload_n 1, 1) := by decide +kernel
theorem dX12_findOrders_7 : decode cX12_findOrders 7 = .ok (.putfield 324, 3) := by decide +kernel
theorem dX12_findOrders_10 : decode cX12_findOrders 10 = .ok (.aload_n 0, 1) := by decide +kernel
theorem dX12_findOrders_11 : decode cX12_findOrders 11 = .ok (.iconst 0, 1) := by decide +kernel
theorem dX12_findOrders_12 : decode cX12_findOrders 12 = .ok (.putfield 330, 3) := by decide +kernel
theorem dX12_findOrders_15 : decode cX12_findOrders 15 = .ok (.aload_n 0, 1) := by decide +kernel
theorem dX12_findOrders_16 : decode cX12_findOrders 16 = .ok (.bipush (-2), 2) := by decide +kernel
theorem dX12_findOrders_18 : decode cX12_findOrders 18 = .ok (.putfield 333, 3) := by decide +kernel
theorem dX12_findOrders_21 : decode cX12_findOrders 21 = .ok (.aload_n 0, 1) := by decide +kernel
theorem dX12_findOrders_22 : decode cX12_findOrders 22 = .ok (.iconst 0, 1) := by decide +kernel
theorem dX12_findOrders_23 : decode cX12_findOrders 23 = .ok (.putfield 279, 3) := by decide +kernel
theorem dX12_findOrders_26 : decode cX12_findOrders 26 = .ok (.aload_n 0, 1) := by decide +kernel
theorem dX12_findOrders_27 : decode cX12_findOrders 27 = .ok (.iconst 0, 1) := by decide +kernel
theorem dX12_findOrders_28 : decode cX12_findOrders 28 = .ok (.invokevirtual 339, 3) := by decide +kernel
theorem dX12_findOrders_31 : decode cX12_findOrders 31 = .ok (.return_, 1) := by decide +kernel
theorem dX12_order_0 : decode cX12_order 0 = .ok (.iload_n 1, 1) := by decide +kernel
theorem dX12_order_1 : decode cX12_order 1 = .ok (.iconst (-1), 1) := by decide +kernel
theorem dX12_order_2 : decode cX12_order 2 = .ok (.if_icmp .ge 5, 3) := by decide +kernel
theorem dX12_order_5 : decode cX12_order 5 = .ok (.iconst (-1), 1) := by decide +kernel
theorem dX12_order_6 : decode cX12_order 6 = .ok (.ireturn, 1) := by decide +kernel
theorem dX12_order_7 : decode cX12_order 7 = .ok (.aload_n 0, 1) := by decide +kernel
theorem dX12_order_8 : decode cX12_order 8 = .ok (.getfield 132, 3) := by decide +kernel
theorem dX12_order_11 : decode cX12_order 11 = .ok (.bipush 6, 2) := by decide +kernel
theorem dX12_order_13 : decode cX12_order 13 = .ok (.if_icmp .le 6, 3) := by decide +kernel
theorem dX12_order_16 : decode cX12_order 16 = .ok (.bipush (-5), 2) := by decide +kernel
theorem dX12_order_18 : decode cX12_order 18 = .ok (.ireturn, 1) := by decide +kernel
theorem dX12_order_19 : decode cX12_order 19 = .ok (.aload_n 0, 1) := by decide +kernel
theorem dX12_order_20 : decode cX12_order 20 = .ok (.iconst (-1), 1) := by decide +kernel
theorem dX12_order_21 : decode cX12_order 21 = .ok (.invokevirtual 342, 3) := by decide +kernel
theorem dX12_order_24 : decode cX12_order 24 = .ok (.iload_n 1, 1) := by decide +kernel
theorem dX12_order_25 : decode cX12_order 25 = .ok (.ifCond .ge 10, 3) := by decide +kernel
theorem dX12_order_28 : decode cX12_order 28 = .ok (.aload_n 0, 1) := by decide +kernel
theorem dX12_order_29 : decode cX12_order 29 = .ok (.getfield 321, 3) := by decide +kernel
theorem dX12_order_32 : decode cX12_order 32 = .ok (.goto 22, 3) := by decide +kernel
theorem dX12_order_35 : decode cX12_order 35 = .ok (.iload_n 1, 1) := by decide +kernel
theorem dX12_order_36 : decode cX12_order 36 = .ok (.aload_n 0, 1) := by decide +kernel
theorem dX12_order_37 : decode cX12_order 37 = .ok (.getfield 132, 3) := by decide +kernel
theorem dX12_order_40 : decode cX12_order 40 = .ok (.if_icmp .ge 12, 3) := by decide +kernel
theorem dX12_order_43 : decode cX12_order 43 = .ok (.aload_n 0, 1) := by decide +kernel
theorem dX12_order_44 : decode cX12_order 44 = .ok (.getfield 91, 3) := by decide +kernel
theorem dX12_order_47 : decode cX12_order 47 = .ok (.iload_n 1, 1) := by decide +kernel
theorem dX12_order_48 : decode cX12_order 48 = .ok (.iaload, 1) := by decide +kernel
theorem dX12_order_49 : decode cX12_order 49 = .ok (.goto 5, 3) := by decide +kernel
theorem dX12_order_52 : decode cX12_order 52 = .ok (.bipush (-2), 2) := by decide +kernel
theorem dX12_order_54 : decode cX12_order 54 = .ok (.ireturn, 1) := by decide +kernel
theorem dX12_goesFewest_0 : decode cX12_goesFewest 0 = .ok (.iload_n 1, 1) := by decide +kernel
theorem dX12_goesFewest_1 : decode cX12_goesFewest 1 = .ok (.ifCond .ne 24, 3) := by decide +kernel
theorem dX12_goesFewest_4 : decode cX12_goesFewest 4 = .ok (.aload_n 0, 1) := by decide +kernel
theorem dX12_goesFewest_5 : decode cX12_goesFewest 5 = .ok (.invokevirtual 303, 3) := by decide +kernel
theorem dX12_goesFewest_8 : decode cX12_goesFewest 8 = .ok (.aload_n 0, 1) := by decide +kernel
theorem dX12_goesFewest_9 : decode cX12_goesFewest 9 = .ok (.iload_n 2, 1) := by decide +kernel
theorem dX12_goesFewest_10 : decode cX12_goesFewest 10 = .ok (.iconst 0, 1) := by decide +kernel
theorem dX12_goesFewest_11 : decode cX12_goesFewest 11 = .ok (.invokevirtual 312, 3) := by decide +kernel
theorem dX12_goesFewest_14 : decode cX12_goesFewest 14 = .ok (.bipush (-2), 2) := by decide +kernel
theorem dX12_goesFewest_16 : decode cX12_goesFewest 16 = .ok (.if_icmp .ne 7, 3) := by decide +kernel
theorem dX12_goesFewest_19 : decode cX12_goesFewest 19 = .ok (.iconst 1, 1) := by decide +kernel
theorem dX12_goesFewest_20 : decode cX12_goesFewest 20 = .ok (.goto 4, 3) := by decide +kernel
theorem dX12_goesFewest_23 : decode cX12_goesFewest 23 = .ok (.iconst 0, 1) := by decide +kernel
theorem dX12_goesFewest_24 : decode cX12_goesFewest 24 = .ok (.ireturn, 1) := by decide +kernel
theorem dX12_goesFewest_25 : decode cX12_goesFewest 25 = .ok (.iconst 0, 1) := by decide +kernel
theorem dX12_goesFewest_26 : decode cX12_goesFewest 26 = .ok (.istore_n 3, 1) := by decide +kernel
theorem dX12_goesFewest_27 : decode cX12_goesFewest 27 = .ok (.iload_n 3, 1) := by decide +kernel
theorem dX12_goesFewest_28 : decode cX12_goesFewest 28 = .ok (.aload_n 0, 1) := by decide +kernel
theorem dX12_goesFewest_29 : decode cX12_goesFewest 29 = .ok (.getfield 132, 3) := by decide +kernel
theorem dX12_goesFewest_32 : decode cX12_goesFewest 32 = .ok (.if_icmp .ge 52, 3) := by decide +kernel
theorem dX12_goesFewest_35 : decode cX12_goesFewest 35 = .ok (.aload_n 0, 1) := by decide +kernel
theorem dX12_goesFewest_36 : decode cX12_goesFewest 36 = .ok (.getfield 88, 3) := by decide +kernel
theorem dX12_goesFewest_39 : decode cX12_goesFewest 39 = .ok (.aload_n 0, 1) := by decide +kernel
theorem dX12_goesFewest_40 : decode cX12_goesFewest 40 = .ok (.getfield 279, 3) := by decide +kernel
theorem dX12_goesFewest_43 : decode cX12_goesFewest 43 = .ok (.iload_n 3, 1) := by decide +kernel
theorem dX12_goesFewest_44 : decode cX12_goesFewest 44 = .ok (.iastore, 1) := by decide +kernel
theorem dX12_goesFewest_45 : decode cX12_goesFewest 45 = .ok (.aload_n 0, 1) := by decide +kernel
theorem dX12_goesFewest_46 : decode cX12_goesFewest 46 = .ok (.dup, 1) := by decide +kernel
theorem dX12_goesFewest_47 : decode cX12_goesFewest 47 = .ok (.getfield 279, 3) := by decide +kernel
theorem dX12_goesFewest_50 : decode cX12_goesFewest 50 = .ok (.iconst 1, 1) := by decide +kernel
theorem dX12_goesFewest_51 : decode cX12_goesFewest 51 = .ok (.iadd, 1) := by decide +kernel
theorem dX12_goesFewest_52 : decode cX12_goesFewest 52 = .ok (.putfield 279, 3) := by decide +kernel
theorem dX12_goesFewest_55 : decode cX12_goesFewest 55 = .ok (.aload_n 0, 1) := by decide +kernel
theorem dX12_goesFewest_56 : decode cX12_goesFewest 56 = .ok (.iload_n 1, 1) := by decide +kernel
theorem dX12_goesFewest_57 : decode cX12_goesFewest 57 = .ok (.iconst 1, 1) := by decide +kernel
theorem dX12_goesFewest_58 : decode cX12_goesFewest 58 = .ok (.isub, 1) := by decide +kernel
theorem dX12_goesFewest_59 : decode cX12_goesFewest 59 = .ok (.iload_n 2, 1) := by decide +kernel
theorem dX12_goesFewest_60 : decode cX12_goesFewest 60 = .ok (.invokevirtual 345, 3) := by decide +kernel
theorem dX12_goesFewest_63 : decode cX12_goesFewest 63 = .ok (.ifCond .eq 5, 3) := by decide +kernel
theorem dX12_goesFewest_66 : decode cX12_goesFewest 66 = .ok (.iconst 1, 1) := by decide +kernel
theorem dX12_goesFewest_67 : decode cX12_goesFewest 67 = .ok (.ireturn, 1) := by decide +kernel
theorem dX12_goesFewest_68 : decode cX12_goesFewest 68 = .ok (.aload_n 0, 1) := by decide +kernel
theorem dX12_goesFewest_69 : decode cX12_goesFewest 69 = .ok (.dup, 1) := by decide +kernel
theorem dX12_goesFewest_70 : decode cX12_goesFewest 70 = .ok (.getfield 279, 3) := by decide +kernel
theorem dX12_goesFewest_73 : decode cX12_goesFewest 73 = .ok (.iconst 1, 1) := by decide +kernel
theorem dX12_goesFewest_74 : decode cX12_goesFewest 74 = .ok (.isub, 1) := by decide +kernel
theorem dX12_goesFewest_75 : decode cX12_goesFewest 75 = .ok (.putfield 279, 3) := by decide +kernel
theorem dX12_goesFewest_78 : decode cX12_goesFewest 78 = .ok (.iinc 3 1, 3) := by decide +kernel
theorem dX12_goesFewest_81 : decode cX12_goesFewest 81 = .ok (.goto (-54), 3) := by decide +kernel
theorem dX12_goesFewest_84 : decode cX12_goesFewest 84 = .ok (.iconst 0, 1) := by decide +kernel
theorem dX12_goesFewest_85 : decode cX12_goesFewest 85 = .ok (.ireturn, 1) := by decide +kernel
theorem dX12_fewest_0 : decode cX12_fewest 0 = .ok (.iload_n 1, 1) := by decide +kernel
theorem dX12_fewest_1 : decode cX12_fewest 1 = .ok (.iconst 0, 1) := by decide +kernel
theorem dX12_fewest_2 : decode cX12_fewest 2 = .ok (.sipush 999, 3) := by decide +kernel
theorem dX12_fewest_5 : decode cX12_fewest 5 = .ok (.invokestatic 128, 3) := by decide +kernel
theorem dX12_fewest_8 : decode cX12_fewest 8 = .ok (.ifCond .eq 8, 3) := by decide +kernel
theorem dX12_fewest_11 : decode cX12_fewest 11 = .ok (.iload_n 2, 1) := by decide +kernel
theorem dX12_fewest_12 : decode cX12_fewest 12 = .ok (.iconst (-1), 1) := by decide +kernel
theorem dX12_fewest_13 : decode cX12_fewest 13 = .ok (.if_icmp .ge 5, 3) := by decide +kernel
theorem dX12_fewest_16 : decode cX12_fewest 16 = .ok (.iconst (-1), 1) := by decide +kernel
theorem dX12_fewest_17 : decode cX12_fewest 17 = .ok (.ireturn, 1) := by decide +kernel
theorem dX12_fewest_18 : decode cX12_fewest 18 = .ok (.aload_n 0, 1) := by decide +kernel
theorem dX12_fewest_19 : decode cX12_fewest 19 = .ok (.getfield 132, 3) := by decide +kernel
theorem dX12_fewest_22 : decode cX12_fewest 22 = .ok (.iconst 5, 1) := by decide +kernel
theorem dX12_fewest_23 : decode cX12_fewest 23 = .ok (.if_icmp .le 6, 3) := by decide +kernel
theorem dX12_fewest_26 : decode cX12_fewest 26 = .ok (.bipush (-5), 2) := by decide +kernel
theorem dX12_fewest_28 : decode cX12_fewest 28 = .ok (.ireturn, 1) := by decide +kernel
theorem dX12_fewest_29 : decode cX12_fewest 29 = .ok (.iconst 0, 1) := by decide +kernel
theorem dX12_fewest_30 : decode cX12_fewest 30 = .ok (.istore_n 3, 1) := by decide +kernel
theorem dX12_fewest_31 : decode cX12_fewest 31 = .ok (.iload_n 3, 1) := by decide +kernel
theorem dX12_fewest_32 : decode cX12_fewest 32 = .ok (.iconst 5, 1) := by decide +kernel
theorem dX12_fewest_33 : decode cX12_fewest 33 = .ok (.if_icmp .gt 48, 3) := by decide +kernel
theorem dX12_fewest_36 : decode cX12_fewest 36 = .ok (.aload_n 0, 1) := by decide +kernel
theorem dX12_fewest_37 : decode cX12_fewest 37 = .ok (.iconst 0, 1) := by decide +kernel
theorem dX12_fewest_38 : decode cX12_fewest 38 = .ok (.putfield 279, 3) := by decide +kernel
theorem dX12_fewest_41 : decode cX12_fewest 41 = .ok (.aload_n 0, 1) := by decide +kernel
theorem dX12_fewest_42 : decode cX12_fewest 42 = .ok (.iload_n 3, 1) := by decide +kernel
theorem dX12_fewest_43 : decode cX12_fewest 43 = .ok (.iload_n 1, 1) := by decide +kernel
theorem dX12_fewest_44 : decode cX12_fewest 44 = .ok (.invokevirtual 345, 3) := by decide +kernel
theorem dX12_fewest_47 : decode cX12_fewest 47 = .ok (.ifCond .eq 28, 3) := by decide +kernel
theorem dX12_fewest_50 : decode cX12_fewest 50 = .ok (.iload_n 2, 1) := by decide +kernel
theorem dX12_fewest_51 : decode cX12_fewest 51 = .ok (.ifCond .ge 7, 3) := by decide +kernel
theorem dX12_fewest_54 : decode cX12_fewest 54 = .ok (.iload_n 3, 1) := by decide +kernel
theorem dX12_fewest_55 : decode cX12_fewest 55 = .ok (.goto 19, 3) := by decide +kernel
theorem dX12_fewest_58 : decode cX12_fewest 58 = .ok (.iload_n 2, 1) := by decide +kernel
theorem dX12_fewest_59 : decode cX12_fewest 59 = .ok (.iload_n 3, 1) := by decide +kernel
theorem dX12_fewest_60 : decode cX12_fewest 60 = .ok (.if_icmp .ge 12, 3) := by decide +kernel
theorem dX12_fewest_63 : decode cX12_fewest 63 = .ok (.aload_n 0, 1) := by decide +kernel
theorem dX12_fewest_64 : decode cX12_fewest 64 = .ok (.getfield 88, 3) := by decide +kernel
theorem dX12_fewest_67 : decode cX12_fewest 67 = .ok (.iload_n 2, 1) := by decide +kernel
theorem dX12_fewest_68 : decode cX12_fewest 68 = .ok (.iaload, 1) := by decide +kernel
theorem dX12_fewest_69 : decode cX12_fewest 69 = .ok (.goto 5, 3) := by decide +kernel
theorem dX12_fewest_72 : decode cX12_fewest 72 = .ok (.bipush (-2), 2) := by decide +kernel
theorem dX12_fewest_74 : decode cX12_fewest 74 = .ok (.ireturn, 1) := by decide +kernel
theorem dX12_fewest_75 : decode cX12_fewest 75 = .ok (.iinc 3 1, 3) := by decide +kernel
theorem dX12_fewest_78 : decode cX12_fewest 78 = .ok (.goto (-47), 3) := by decide +kernel
theorem dX12_fewest_81 : decode cX12_fewest 81 = .ok (.bipush (-2), 2) := by decide +kernel
theorem dX12_fewest_83 : decode cX12_fewest 83 = .ok (.ireturn, 1) := by decide +kernel
theorem dX12_spare_0 : decode cX12_spare 0 = .ok (.iload_n 1, 1) := by decide +kernel
theorem dX12_spare_1 : decode cX12_spare 1 = .ok (.invokestatic 139, 3) := by decide +kernel
theorem dX12_spare_4 : decode cX12_spare 4 = .ok (.ifCond .eq 12, 3) := by decide +kernel
theorem dX12_spare_7 : decode cX12_spare 7 = .ok (.iload_n 2, 1) := by decide +kernel
theorem dX12_spare_8 : decode cX12_spare 8 = .ok (.iconst 0, 1) := by decide +kernel
theorem dX12_spare_9 : decode cX12_spare 9 = .ok (.iconst 1, 1) := by decide +kernel
theorem dX12_spare_10 : decode cX12_spare 10 = .ok (.invokestatic 128, 3) := by decide +kernel
theorem dX12_spare_13 : decode cX12_spare 13 = .ok (.ifCond .ne 5, 3) := by decide +kernel
theorem dX12_spare_16 : decode cX12_spare 16 = .ok (.iconst (-1), 1) := by decide +kernel
theorem dX12_spare_17 : decode cX12_spare 17 = .ok (.ireturn, 1) := by decide +kernel
theorem dX12_spare_18 : decode cX12_spare 18 = .ok (.aload_n 0, 1) := by decide +kernel
theorem dX12_spare_19 : decode cX12_spare 19 = .ok (.iload_n 1, 1) := by decide +kernel
theorem dX12_spare_20 : decode cX12_spare 20 = .ok (.invokevirtual 300, 3) := by decide +kernel
theorem dX12_spare_23 : decode cX12_spare 23 = .ok (.istore_n 3, 1) := by decide +kernel
theorem dX12_spare_24 : decode cX12_spare 24 = .ok (.iload_n 3, 1) := by decide +kernel
theorem dX12_spare_25 : decode cX12_spare 25 = .ok (.ifCond .ge 5, 3) := by decide +kernel
theorem dX12_spare_28 : decode cX12_spare 28 = .ok (.iload_n 3, 1) := by decide +kernel
theorem dX12_spare_29 : decode cX12_spare 29 = .ok (.ireturn, 1) := by decide +kernel
theorem dX12_spare_30 : decode cX12_spare 30 = .ok (.bipush (-2), 2) := by decide +kernel
theorem dX12_spare_32 : decode cX12_spare 32 = .ok (.istore 4, 2) := by decide +kernel
theorem dX12_spare_34 : decode cX12_spare 34 = .ok (.bipush (-2), 2) := by decide +kernel
theorem dX12_spare_36 : decode cX12_spare 36 = .ok (.istore 5, 2) := by decide +kernel
theorem dX12_spare_38 : decode cX12_spare 38 = .ok (.iconst 0, 1) := by decide +kernel
theorem dX12_spare_39 : decode cX12_spare 39 = .ok (.istore 6, 2) := by decide +kernel
theorem dX12_spare_41 : decode cX12_spare 41 = .ok (.iload 6, 2) := by decide +kernel
theorem dX12_spare_43 : decode cX12_spare 43 = .ok (.aload_n 0, 1) := by decide +kernel
theorem dX12_spare_44 : decode cX12_spare 44 = .ok (.getfield 279, 3) := by decide +kernel
theorem dX12_spare_47 : decode cX12_spare 47 = .ok (.if_icmp .ge 48, 3) := by decide +kernel
theorem dX12_spare_50 : decode cX12_spare 50 = .ok (.aload_n 0, 1) := by decide +kernel
theorem dX12_spare_51 : decode cX12_spare 51 = .ok (.aload_n 0, 1) := by decide +kernel
theorem dX12_spare_52 : decode cX12_spare 52 = .ok (.getfield 279, 3) := by decide +kernel
theorem dX12_spare_55 : decode cX12_spare 55 = .ok (.iload 6, 2) := by decide +kernel
theorem dX12_spare_57 : decode cX12_spare 57 = .ok (.invokevirtual 291, 3) := by decide +kernel
theorem dX12_spare_60 : decode cX12_spare 60 = .ok (.iload 4, 2) := by decide +kernel
theorem dX12_spare_62 : decode cX12_spare 62 = .ok (.ifCond .lt 16, 3) := by decide +kernel
theorem dX12_spare_65 : decode cX12_spare 65 = .ok (.aload_n 0, 1) := by decide +kernel
theorem dX12_spare_66 : decode cX12_spare 66 = .ok (.iconst 0, 1) := by decide +kernel
theorem dX12_spare_67 : decode cX12_spare 67 = .ok (.invokevirtual 315, 3) := by decide +kernel
theorem dX12_spare_70 : decode cX12_spare 70 = .ok (.iload 5, 2) := by decide +kernel
theorem dX12_spare_72 : decode cX12_spare 72 = .ok (.if_icmp .gt 6, 3) := by decide +kernel
theorem dX12_spare_75 : decode cX12_spare 75 = .ok (.goto 14, 3) := by decide +kernel
theorem dX12_spare_78 : decode cX12_spare 78 = .ok (.iload 6, 2) := by decide +kernel
theorem dX12_spare_80 : decode cX12_spare 80 = .ok (.istore 4, 2) := by decide +kernel
theorem dX12_spare_82 : decode cX12_spare 82 = .ok (.aload_n 0, 1) := by decide +kernel
theorem dX12_spare_83 : decode cX12_spare 83 = .ok (.iconst 0, 1) := by decide +kernel
theorem dX12_spare_84 : decode cX12_spare 84 = .ok (.invokevirtual 315, 3) := by decide +kernel
theorem dX12_spare_87 : decode cX12_spare 87 = .ok (.istore 5, 2) := by decide +kernel
theorem dX12_spare_89 : decode cX12_spare 89 = .ok (.iinc 6 1, 3) := by decide +kernel
theorem dX12_spare_92 : decode cX12_spare 92 = .ok (.goto (-51), 3) := by decide +kernel
theorem dX12_spare_95 : decode cX12_spare 95 = .ok (.iload_n 2, 1) := by decide +kernel
theorem dX12_spare_96 : decode cX12_spare 96 = .ok (.ifCond .ne 8, 3) := by decide +kernel
theorem dX12_spare_99 : decode cX12_spare 99 = .ok (.iload 4, 2) := by decide +kernel
theorem dX12_spare_101 : decode cX12_spare 101 = .ok (.goto 5, 3) := by decide +kernel
theorem dX12_spare_104 : decode cX12_spare 104 = .ok (.iload 5, 2) := by decide +kernel
theorem dX12_spare_106 : decode cX12_spare 106 = .ok (.ireturn, 1) := by decide +kernel
theorem dX12_harm_0 : decode cX12_harm 0 = .ok (.iload_n 1, 1) := by decide +kernel
theorem dX12_harm_1 : decode cX12_harm 1 = .ok (.invokestatic 139, 3) := by decide +kernel
theorem dX12_harm_4 : decode cX12_harm 4 = .ok (.ifCond .ne 5, 3) := by decide +kernel
theorem dX12_harm_7 : decode cX12_harm 7 = .ok (.iconst (-1), 1) := by decide +kernel
theorem dX12_harm_8 : decode cX12_harm 8 = .ok (.ireturn, 1) := by decide +kernel
theorem dX12_harm_9 : decode cX12_harm 9 = .ok (.aload_n 0, 1) := by decide +kernel
theorem dX12_harm_10 : decode cX12_harm 10 = .ok (.iload_n 1, 1) := by decide +kernel
theorem dX12_harm_11 : decode cX12_harm 11 = .ok (.invokevirtual 300, 3) := by decide +kernel
theorem dX12_harm_14 : decode cX12_harm 14 = .ok (.istore_n 2, 1) := by decide +kernel
theorem dX12_harm_15 : decode cX12_harm 15 = .ok (.iload_n 2, 1) := by decide +kernel
theorem dX12_harm_16 : decode cX12_harm 16 = .ok (.ifCond .ge 5, 3) := by decide +kernel
theorem dX12_harm_19 : decode cX12_harm 19 = .ok (.iload_n 2, 1) := by decide +kernel
theorem dX12_harm_20 : decode cX12_harm 20 = .ok (.ireturn, 1) := by decide +kernel
theorem dX12_harm_21 : decode cX12_harm 21 = .ok (.aload_n 0, 1) := by decide +kernel
theorem dX12_harm_22 : decode cX12_harm 22 = .ok (.invokevirtual 303, 3) := by decide +kernel
theorem dX12_harm_25 : decode cX12_harm 25 = .ok (.aload_n 0, 1) := by decide +kernel
theorem dX12_harm_26 : decode cX12_harm 26 = .ok (.iconst 0, 1) := by decide +kernel
theorem dX12_harm_27 : decode cX12_harm 27 = .ok (.invokevirtual 315, 3) := by decide +kernel
theorem dX12_harm_30 : decode cX12_harm 30 = .ok (.istore_n 3, 1) := by decide +kernel
theorem dX12_harm_31 : decode cX12_harm 31 = .ok (.iconst 0, 1) := by decide +kernel
theorem dX12_harm_32 : decode cX12_harm 32 = .ok (.istore 4, 2) := by decide +kernel
theorem dX12_harm_34 : decode cX12_harm 34 = .ok (.iconst 0, 1) := by decide +kernel
theorem dX12_harm_35 : decode cX12_harm 35 = .ok (.istore 5, 2) := by decide +kernel
theorem dX12_harm_37 : decode cX12_harm 37 = .ok (.iload 5, 2) := by decide +kernel
theorem dX12_harm_39 : decode cX12_harm 39 = .ok (.aload_n 0, 1) := by decide +kernel
theorem dX12_harm_40 : decode cX12_harm 40 = .ok (.getfield 125, 3) := by decide +kernel
theorem dX12_harm_43 : decode cX12_harm 43 = .ok (.if_icmp .ge 37, 3) := by decide +kernel
theorem dX12_harm_46 : decode cX12_harm 46 = .ok (.aload_n 0, 1) := by decide +kernel
theorem dX12_harm_47 : decode cX12_harm 47 = .ok (.iload 5, 2) := by decide +kernel
theorem dX12_harm_49 : decode cX12_harm 49 = .ok (.putfield 85, 3) := by decide +kernel
theorem dX12_harm_52 : decode cX12_harm 52 = .ok (.aload_n 0, 1) := by decide +kernel
theorem dX12_harm_53 : decode cX12_harm 53 = .ok (.invokevirtual 303, 3) := by decide +kernel
theorem dX12_harm_56 : decode cX12_harm 56 = .ok (.aload_n 0, 1) := by decide +kernel
theorem dX12_harm_57 : decode cX12_harm 57 = .ok (.iconst 0, 1) := by decide +kernel
theorem dX12_harm_58 : decode cX12_harm 58 = .ok (.invokevirtual 315, 3) := by decide +kernel
theorem dX12_harm_61 : decode cX12_harm 61 = .ok (.iload_n 3, 1) := by decide +kernel
theorem dX12_harm_62 : decode cX12_harm 62 = .ok (.if_icmp .le 12, 3) := by decide +kernel
theorem dX12_harm_65 : decode cX12_harm 65 = .ok (.iload 4, 2) := by decide +kernel
theorem dX12_harm_67 : decode cX12_harm 67 = .ok (.iconst 1, 1) := by decide +kernel
theorem dX12_harm_68 : decode cX12_harm 68 = .ok (.iload 5, 2) := by decide +kernel
theorem dX12_harm_70 : decode cX12_harm 70 = .ok (.ishl, 1) := by decide +kernel
theorem dX12_harm_71 : decode cX12_harm 71 = .ok (.ior, 1) := by decide +kernel
theorem dX12_harm_72 : decode cX12_harm 72 = .ok (.istore 4, 2) := by decide +kernel
theorem dX12_harm_74 : decode cX12_harm 74 = .ok (.iinc 5 1, 3) := by decide +kernel
theorem dX12_harm_77 : decode cX12_harm 77 = .ok (.goto (-40), 3) := by decide +kernel
theorem dX12_harm_80 : decode cX12_harm 80 = .ok (.aload_n 0, 1) := by decide +kernel
theorem dX12_harm_81 : decode cX12_harm 81 = .ok (.iconst (-1), 1) := by decide +kernel
theorem dX12_harm_82 : decode cX12_harm 82 = .ok (.putfield 85, 3) := by decide +kernel
theorem dX12_harm_85 : decode cX12_harm 85 = .ok (.iload 4, 2) := by decide +kernel
theorem dX12_harm_87 : decode cX12_harm 87 = .ok (.ireturn, 1) := by decide +kernel
theorem dX12_seat_0 : decode cX12_seat 0 = .ok (.iload_n 1, 1) := by decide +kernel
theorem dX12_seat_1 : decode cX12_seat 1 = .ok (.invokestatic 139, 3) := by decide +kernel
theorem dX12_seat_4 : decode cX12_seat 4 = .ok (.ifCond .eq 20, 3) := by decide +kernel
theorem dX12_seat_7 : decode cX12_seat 7 = .ok (.aload_n 0, 1) := by decide +kernel
theorem dX12_seat_8 : decode cX12_seat 8 = .ok (.iload_n 2, 1) := by decide +kernel
theorem dX12_seat_9 : decode cX12_seat 9 = .ok (.invokevirtual 162, 3) := by decide +kernel
theorem dX12_seat_12 : decode cX12_seat 12 = .ok (.ifCond .eq 12, 3) := by decide +kernel
theorem dX12_seat_15 : decode cX12_seat 15 = .ok (.iload_n 3, 1) := by decide +kernel
theorem dX12_seat_16 : decode cX12_seat 16 = .ok (.iconst 0, 1) := by decide +kernel
theorem dX12_seat_17 : decode cX12_seat 17 = .ok (.iconst 1, 1) := by decide +kernel
theorem dX12_seat_18 : decode cX12_seat 18 = .ok (.invokestatic 128, 3) := by decide +kernel
theorem dX12_seat_21 : decode cX12_seat 21 = .ok (.ifCond .ne 5, 3) := by decide +kernel
theorem dX12_seat_24 : decode cX12_seat 24 = .ok (.iconst (-1), 1) := by decide +kernel
theorem dX12_seat_25 : decode cX12_seat 25 = .ok (.ireturn, 1) := by decide +kernel
theorem dX12_seat_26 : decode cX12_seat 26 = .ok (.aload_n 0, 1) := by decide +kernel
theorem dX12_seat_27 : decode cX12_seat 27 = .ok (.iload_n 1, 1) := by decide +kernel
theorem dX12_seat_28 : decode cX12_seat 28 = .ok (.invokevirtual 300, 3) := by decide +kernel
theorem dX12_seat_31 : decode cX12_seat 31 = .ok (.istore 4, 2) := by decide +kernel
theorem dX12_seat_33 : decode cX12_seat 33 = .ok (.iload 4, 2) := by decide +kernel
theorem dX12_seat_35 : decode cX12_seat 35 = .ok (.ifCond .ge 6, 3) := by decide +kernel
theorem dX12_seat_38 : decode cX12_seat 38 = .ok (.iload 4, 2) := by decide +kernel
theorem dX12_seat_40 : decode cX12_seat 40 = .ok (.ireturn, 1) := by decide +kernel
theorem dX12_seat_41 : decode cX12_seat 41 = .ok (.aload_n 0, 1) := by decide +kernel
theorem dX12_seat_42 : decode cX12_seat 42 = .ok (.getfield 13, 3) := by decide +kernel
theorem dX12_seat_45 : decode cX12_seat 45 = .ok (.iload_n 2, 1) := by decide +kernel
theorem dX12_seat_46 : decode cX12_seat 46 = .ok (.iaload, 1) := by decide +kernel
theorem dX12_seat_47 : decode cX12_seat 47 = .ok (.istore 5, 2) := by decide +kernel
theorem dX12_seat_49 : decode cX12_seat 49 = .ok (.iconst 0, 1) := by decide +kernel
theorem dX12_seat_50 : decode cX12_seat 50 = .ok (.istore 6, 2) := by decide +kernel
theorem dX12_seat_52 : decode cX12_seat 52 = .ok (.iconst (-1), 1) := by decide +kernel
theorem dX12_seat_53 : decode cX12_seat 53 = .ok (.istore 7, 2) := by decide +kernel
theorem dX12_seat_55 : decode cX12_seat 55 = .ok (.iconst 0, 1) := by decide +kernel
theorem dX12_seat_56 : decode cX12_seat 56 = .ok (.istore 8, 2) := by decide +kernel
theorem dX12_seat_58 : decode cX12_seat 58 = .ok (.iload 8, 2) := by decide +kernel
theorem dX12_seat_60 : decode cX12_seat 60 = .ok (.aload_n 0, 1) := by decide +kernel
theorem dX12_seat_61 : decode cX12_seat 61 = .ok (.getfield 28, 3) := by decide +kernel
theorem dX12_seat_64 : decode cX12_seat 64 = .ok (.if_icmp .ge 45, 3) := by decide +kernel
theorem dX12_seat_67 : decode cX12_seat 67 = .ok (.aload_n 0, 1) := by decide +kernel
theorem dX12_seat_68 : decode cX12_seat 68 = .ok (.getfield 13, 3) := by decide +kernel
theorem dX12_seat_71 : decode cX12_seat 71 = .ok (.iload_n 2, 1) := by decide +kernel
theorem dX12_seat_72 : decode cX12_seat 72 = .ok (.iload 8, 2) := by decide +kernel
theorem dX12_seat_74 : decode cX12_seat 74 = .ok (.iastore, 1) := by decide +kernel
theorem dX12_seat_75 : decode cX12_seat 75 = .ok (.aload_n 0, 1) := by decide +kernel
theorem dX12_seat_76 : decode cX12_seat 76 = .ok (.invokevirtual 303, 3) := by decide +kernel
theorem dX12_seat_79 : decode cX12_seat 79 = .ok (.aload_n 0, 1) := by decide +kernel
theorem dX12_seat_80 : decode cX12_seat 80 = .ok (.iconst 0, 1) := by decide +kernel
theorem dX12_seat_81 : decode cX12_seat 81 = .ok (.invokevirtual 315, 3) := by decide +kernel
theorem dX12_seat_84 : decode cX12_seat 84 = .ok (.iload 7, 2) := by decide +kernel
theorem dX12_seat_86 : decode cX12_seat 86 = .ok (.if_icmp .gt 6, 3) := by decide +kernel
theorem dX12_seat_89 : decode cX12_seat 89 = .ok (.goto 14, 3) := by decide +kernel
theorem dX12_seat_92 : decode cX12_seat 92 = .ok (.iload 8, 2) := by decide +kernel
theorem dX12_seat_94 : decode cX12_seat 94 = .ok (.istore 6, 2) := by decide +kernel
theorem dX12_seat_96 : decode cX12_seat 96 = .ok (.aload_n 0, 1) := by decide +kernel
theorem dX12_seat_97 : decode cX12_seat 97 = .ok (.iconst 0, 1) := by decide +kernel
theorem dX12_seat_98 : decode cX12_seat 98 = .ok (.invokevirtual 315, 3) := by decide +kernel
theorem dX12_seat_101 : decode cX12_seat 101 = .ok (.istore 7, 2) := by decide +kernel
theorem dX12_seat_103 : decode cX12_seat 103 = .ok (.iinc 8 1, 3) := by decide +kernel
theorem dX12_seat_106 : decode cX12_seat 106 = .ok (.goto (-48), 3) := by decide +kernel
theorem dX12_seat_109 : decode cX12_seat 109 = .ok (.aload_n 0, 1) := by decide +kernel
theorem dX12_seat_110 : decode cX12_seat 110 = .ok (.getfield 13, 3) := by decide +kernel
theorem dX12_seat_113 : decode cX12_seat 113 = .ok (.iload_n 2, 1) := by decide +kernel
theorem dX12_seat_114 : decode cX12_seat 114 = .ok (.iload 5, 2) := by decide +kernel
theorem dX12_seat_116 : decode cX12_seat 116 = .ok (.iastore, 1) := by decide +kernel
theorem dX12_seat_117 : decode cX12_seat 117 = .ok (.iload_n 3, 1) := by decide +kernel
theorem dX12_seat_118 : decode cX12_seat 118 = .ok (.ifCond .ne 8, 3) := by decide +kernel
theorem dX12_seat_121 : decode cX12_seat 121 = .ok (.iload 6, 2) := by decide +kernel
theorem dX12_seat_123 : decode cX12_seat 123 = .ok (.goto 5, 3) := by decide +kernel
theorem dX12_seat_126 : decode cX12_seat 126 = .ok (.iload 7, 2) := by decide +kernel
theorem dX12_seat_128 : decode cX12_seat 128 = .ok (.ireturn, 1) := by decide +kernel
theorem dX12_encore_0 : decode cX12_encore 0 = .ok (.iload_n 1, 1) := by decide +kernel
theorem dX12_encore_1 : decode cX12_encore 1 = .ok (.invokestatic 139, 3) := by decide +kernel
theorem dX12_encore_4 : decode cX12_encore 4 = .ok (.ifCond .eq 11, 3) := by decide +kernel
theorem dX12_encore_7 : decode cX12_encore 7 = .ok (.aload_n 0, 1) := by decide +kernel
theorem dX12_encore_8 : decode cX12_encore 8 = .ok (.iload_n 1, 1) := by decide +kernel
theorem dX12_encore_9 : decode cX12_encore 9 = .ok (.invokevirtual 300, 3) := by decide +kernel
theorem dX12_encore_12 : decode cX12_encore 12 = .ok (.ifCond .ge 7, 3) := by decide +kernel
theorem dX12_encore_15 : decode cX12_encore 15 = .ok (.ldc_w 262, 3) := by decide +kernel
theorem dX12_encore_18 : decode cX12_encore 18 = .ok (.ireturn, 1) := by decide +kernel
theorem dX12_encore_19 : decode cX12_encore 19 = .ok (.aload_n 0, 1) := by decide +kernel
theorem dX12_encore_20 : decode cX12_encore 20 = .ok (.getfield 279, 3) := by decide +kernel
theorem dX12_encore_23 : decode cX12_encore 23 = .ok (.iconst 1, 1) := by decide +kernel
theorem dX12_encore_24 : decode cX12_encore 24 = .ok (.isub, 1) := by decide +kernel
theorem dX12_encore_25 : decode cX12_encore 25 = .ok (.istore_n 2, 1) := by decide +kernel
theorem dX12_encore_26 : decode cX12_encore 26 = .ok (.iload_n 2, 1) := by decide +kernel
theorem dX12_encore_27 : decode cX12_encore 27 = .ok (.ifCond .lt 20, 3) := by decide +kernel
theorem dX12_encore_30 : decode cX12_encore 30 = .ok (.aload_n 0, 1) := by decide +kernel
theorem dX12_encore_31 : decode cX12_encore 31 = .ok (.getfield 88, 3) := by decide +kernel
theorem dX12_encore_34 : decode cX12_encore 34 = .ok (.iload_n 2, 1) := by decide +kernel
theorem dX12_encore_35 : decode cX12_encore 35 = .ok (.iaload, 1) := by decide +kernel
theorem dX12_encore_36 : decode cX12_encore 36 = .ok (.bipush 20, 2) := by decide +kernel
theorem dX12_encore_38 : decode cX12_encore 38 = .ok (.if_icmp .ne 9, 3) := by decide +kernel
theorem dX12_encore_41 : decode cX12_encore 41 = .ok (.iinc 2 (-1), 3) := by decide +kernel
theorem dX12_encore_44 : decode cX12_encore 44 = .ok (.goto (-18), 3) := by decide +kernel
theorem dX12_encore_47 : decode cX12_encore 47 = .ok (.iload_n 2, 1) := by decide +kernel
theorem dX12_encore_48 : decode cX12_encore 48 = .ok (.ifCond .ge 5, 3) := by decide +kernel
theorem dX12_encore_51 : decode cX12_encore 51 = .ok (.iconst 0, 1) := by decide +kernel
theorem dX12_encore_52 : decode cX12_encore 52 = .ok (.ireturn, 1) := by decide +kernel
theorem dX12_encore_53 : decode cX12_encore 53 = .ok (.aload_n 0, 1) := by decide +kernel
theorem dX12_encore_54 : decode cX12_encore 54 = .ok (.invokevirtual 303, 3) := by decide +kernel
theorem dX12_encore_57 : decode cX12_encore 57 = .ok (.aload_n 0, 1) := by decide +kernel
theorem dX12_encore_58 : decode cX12_encore 58 = .ok (.iconst 0, 1) := by decide +kernel
theorem dX12_encore_59 : decode cX12_encore 59 = .ok (.invokevirtual 315, 3) := by decide +kernel
theorem dX12_encore_62 : decode cX12_encore 62 = .ok (.istore_n 3, 1) := by decide +kernel
theorem dX12_encore_63 : decode cX12_encore 63 = .ok (.aload_n 0, 1) := by decide +kernel
theorem dX12_encore_64 : decode cX12_encore 64 = .ok (.aload_n 0, 1) := by decide +kernel
theorem dX12_encore_65 : decode cX12_encore 65 = .ok (.getfield 88, 3) := by decide +kernel
theorem dX12_encore_68 : decode cX12_encore 68 = .ok (.iload_n 2, 1) := by decide +kernel
theorem dX12_encore_69 : decode cX12_encore 69 = .ok (.iaload, 1) := by decide +kernel
theorem dX12_encore_70 : decode cX12_encore 70 = .ok (.invokevirtual 276, 3) := by decide +kernel
theorem dX12_encore_73 : decode cX12_encore 73 = .ok (.aload_n 0, 1) := by decide +kernel
theorem dX12_encore_74 : decode cX12_encore 74 = .ok (.iconst 0, 1) := by decide +kernel
theorem dX12_encore_75 : decode cX12_encore 75 = .ok (.invokevirtual 315, 3) := by decide +kernel
theorem dX12_encore_78 : decode cX12_encore 78 = .ok (.iload_n 3, 1) := by decide +kernel
theorem dX12_encore_79 : decode cX12_encore 79 = .ok (.isub, 1) := by decide +kernel
theorem dX12_encore_80 : decode cX12_encore 80 = .ok (.ireturn, 1) := by decide +kernel
theorem b_X12_clap_0 {X : zX} {d : Nat} {Q : Option Value → zH → Prop} (σ : zS) (a2 : Int32)  : zwp X d MX12_clap 0 [.ref 66, .int a2, .null, .null, .null] [] (zen σ) Q = zwp X d MX12_clap 2 [.ref 66, .int a2, .int 0, .null, .null] [] (zen σ) Q :=
  Eq.trans (q_iconst (v := 0) (pc := 0) dX12_clap_0 rfl) (Eq.trans (q_istore_n (ls' := [.ref 66, .int a2, .int 0, .null, .null]) (pc := 1) dX12_clap_1 rfl (Nat.le_of_ble_eq_true rfl) rfl) (rfl))
theorem b_X12_clap_2 {X : zX} {d : Nat} {Q : Option Value → zH → Prop} (σ : zS) (l1 : Int32) (l2 : Int32) (w3 : Value) (w4 : Value)  : zwp X d MX12_clap 2 [.ref 66, .int l1, .int l2, w3, w4] [] (zen σ) Q = (if (gi σ 66 9) ≤ l2 then zwp X d MX12_clap 97 [.ref 66, .int l1, .int 0, w3, w4] [] (zen σ) Q else (zin l2 16 = true ∧ zwp X d MX12_clap 20 [.ref 66, .int l1, .int l2, .int (gi σ 86 (ix l2)), .int 0] [] (zen σ) Q)) :=
  Eq.trans (q_iload_n (pc := 2) dX12_clap_2 rfl rfl) (Eq.trans (q_aload_n (pc := 3) dX12_clap_3 rfl rfl) (Eq.trans (q_getf (pc := 4) dX12_clap_4 zF_12_28 (z_rfiE (x := (gi σ 66 9)) zl_66 zh_66 (by decide) rfl rfl)) (Eq.trans (q_icmp_ge (tgt := 95) (pc := 7) dX12_clap_7 rfl) (zite (fun hz1 => Eq.trans (q_iconst (v := 0) (pc := 95) dX12_clap_95 rfl) (Eq.trans (q_istore_n (ls' := [.ref 66, .int l1, .int 0, w3, w4]) (pc := 96) dX12_clap_96 rfl (Nat.le_of_ble_eq_true rfl) rfl) (rfl))) (fun hz1 => Eq.trans (q_aload_n (pc := 10) dX12_clap_10 rfl rfl) (Eq.trans (q_getf (pc := 11) dX12_clap_11 zF_12_79 (z_rfr zl_66 zh_66 (by decide) rfl)) (Eq.trans (q_iload_n (pc := 14) dX12_clap_14 rfl rfl) (Eq.trans (qe_iaload (x := (gi σ 86 (ix l2))) (pc := 15) dX12_clap_15 (z_ia zl_86 zh_86 (by decide)) rfl) (zand fun hz2 => Eq.trans (q_istore_n (ls' := [.ref 66, .int l1, .int l2, .int (gi σ 86 (ix l2)), w4]) (pc := 16) dX12_clap_16 rfl (Nat.le_of_ble_eq_true rfl) rfl) (Eq.trans (q_iconst (v := 0) (pc := 17) dX12_clap_17 rfl) (Eq.trans (q_istore (ls' := [.ref 66, .int l1, .int l2, .int (gi σ 86 (ix l2)), .int 0]) (pc := 18) dX12_clap_18 (Nat.le_of_ble_eq_true rfl) rfl) (rfl))))))))))))
theorem b_X12_clap_20 {X : zX} {d : Nat} {Q : Option Value → zH → Prop} (hd : 1 ≤ d) (σ : zS) (l1 : Int32) (l2 : Int32) (l3 : Int32) (l4 : Int32)  : zwp X d MX12_clap 20 [.ref 66, .int l1, .int l2, .int l3, .int l4] [] (zen σ) Q = (if (gi σ 66 1) ≤ l4 then (if 0 ≤ l3 then (if l3 ≤ 999 then (zin l2 16 = true ∧ zwp X d MX12_clap 2 [.ref 66, .int l1, .int (l2 + 1), .int l3, .int l4] [] (zen (si σ 87 (ix l2) l3)) Q) else (zin l2 16 = true ∧ zwp X d MX12_clap 2 [.ref 66, .int l1, .int (l2 + 1), .int l3, .int l4] [] (zen (si σ 87 (ix l2) 999)) Q)) else (zin l2 16 = true ∧ zwp X d MX12_clap 2 [.ref 66, .int l1, .int (l2 + 1), .int l3, .int l4] [] (zen (si σ 87 (ix l2) 0)) Q)) else (if l4 = (gi σ 66 36) then zwp X d MX12_clap 20 [.ref 66, .int l1, .int l2, .int l3, .int (l4 + 1)] [] (zen σ) Q else (zin l2 16 = true ∧ zwp X (d - 1) MX12_givesBy 0 [.ref 66, .int l4, .int l1, .int l2, .int (gi σ 86 (ix l2)), .null, .null] [] (zen σ) (fun v h' => zwp X d MX12_clap 53 [.ref 66, .int l1, .int l2, .int l3, .int l4] (zpsh v [.int l3]) h' Q)))) :=
  Eq.trans (q_iload (pc := 20) dX12_clap_20 rfl) (Eq.trans (q_aload_n (pc := 22) dX12_clap_22 rfl rfl) (Eq.trans (q_getf (pc := 23) dX12_clap_23 zF_12_125 (z_rfiE (x := (gi σ 66 1)) zl_66 zh_66 (by decide) rfl rfl)) (Eq.trans (q_icmp_ge (tgt := 61) (pc := 26) dX12_clap_26 rfl) (zite (fun hz1 => Eq.trans (q_aload_n (pc := 61) dX12_clap_61 rfl rfl) (Eq.trans (q_getf (pc := 62) dX12_clap_62 zF_12_82 (z_rfr zl_66 zh_66 (by decide) rfl)) (Eq.trans (q_iload_n (pc := 65) dX12_clap_65 rfl rfl) (Eq.trans (q_iload_n (pc := 66) dX12_clap_66 rfl rfl) (Eq.trans (q_if_ge (tgt := 74) (pc := 67) dX12_clap_67 rfl) (zite (fun hz2 => Eq.trans (q_iload_n (pc := 74) dX12_clap_74 rfl rfl) (Eq.trans (q_sipush (v := 999) (pc := 75) dX12_clap_75 rfl) (Eq.trans (q_icmp_le (tgt := 87) (pc := 78) dX12_clap_78 rfl) (zite (fun hz3 => Eq.trans (q_iload_n (pc := 87) dX12_clap_87 rfl rfl) (Eq.trans (q_iastore (pc := 88) dX12_clap_88 (zN_lt zl_87) (z_ia zl_87 zh_87 (by decide)) (z_pi zl_87 zh_87 (by decide))) (zand fun hz4 => Eq.trans (q_iinc (c := 1) (ls' := [.ref 66, .int l1, .int (l2 + 1), .int l3, .int l4]) (pc := 89) dX12_clap_89 rfl rfl rfl) (Eq.trans (q_goto (tgt := 2) (pc := 92) dX12_clap_92 rfl) (rfl))))) (fun hz3 => Eq.trans (q_sipush (v := 999) (pc := 81) dX12_clap_81 rfl) (Eq.trans (q_goto (tgt := 88) (pc := 84) dX12_clap_84 rfl) (Eq.trans (q_iastore (pc := 88) dX12_clap_88 (zN_lt zl_87) (z_ia zl_87 zh_87 (by decide)) (z_pi zl_87 zh_87 (by decide))) (zand fun hz5 => Eq.trans (q_iinc (c := 1) (ls' := [.ref 66, .int l1, .int (l2 + 1), .int l3, .int l4]) (pc := 89) dX12_clap_89 rfl rfl rfl) (Eq.trans (q_goto (tgt := 2) (pc := 92) dX12_clap_92 rfl) (rfl)))))))))) (fun hz2 => Eq.trans (q_iconst (v := 0) (pc := 70) dX12_clap_70 rfl) (Eq.trans (q_goto (tgt := 88) (pc := 71) dX12_clap_71 rfl) (Eq.trans (q_iastore (pc := 88) dX12_clap_88 (zN_lt zl_87) (z_ia zl_87 zh_87 (by decide)) (z_pi zl_87 zh_87 (by decide))) (zand fun hz6 => Eq.trans (q_iinc (c := 1) (ls' := [.ref 66, .int l1, .int (l2 + 1), .int l3, .int l4]) (pc := 89) dX12_clap_89 rfl rfl rfl) (Eq.trans (q_goto (tgt := 2) (pc := 92) dX12_clap_92 rfl) (rfl)))))))))))) (fun hz1 => Eq.trans (q_iload (pc := 29) dX12_clap_29 rfl) (Eq.trans (q_aload_n (pc := 31) dX12_clap_31 rfl rfl) (Eq.trans (q_getf (pc := 32) dX12_clap_32 zF_12_85 (z_rfiE (x := (gi σ 66 36)) zl_66 zh_66 (by decide) rfl rfl)) (Eq.trans (q_icmp_eq (tgt := 55) (pc := 35) dX12_clap_35 rfl) (zite (fun hz7 => Eq.trans (q_iinc (c := 1) (ls' := [.ref 66, .int l1, .int l2, .int l3, .int (l4 + 1)]) (pc := 55) dX12_clap_55 rfl rfl rfl) (Eq.trans (q_goto (tgt := 20) (pc := 58) dX12_clap_58 rfl) (rfl))) (fun hz7 => Eq.trans (q_iload_n (pc := 38) dX12_clap_38 rfl rfl) (Eq.trans (q_aload_n (pc := 39) dX12_clap_39 rfl rfl) (Eq.trans (q_iload (pc := 40) dX12_clap_40 rfl) (Eq.trans (q_iload_n (pc := 42) dX12_clap_42 rfl rfl) (Eq.trans (q_iload_n (pc := 43) dX12_clap_43 rfl rfl) (Eq.trans (q_aload_n (pc := 44) dX12_clap_44 rfl rfl) (Eq.trans (q_getf (pc := 45) dX12_clap_45 zF_12_79 (z_rfr zl_66 zh_66 (by decide) rfl)) (Eq.trans (q_iload_n (pc := 48) dX12_clap_48 rfl rfl) (Eq.trans (qe_iaload (x := (gi σ 86 (ix l2))) (pc := 49) dX12_clap_49 (z_ia zl_86 zh_86 (by decide)) rfl) (zand fun hz8 => zdpos (q_callV (as := [.int l4, .int l1, .int l2, .int (gi σ 86 (ix l2))]) (rest := [.int l3]) (l0 := [.ref 66, .int l4, .int l1, .int l2, .int (gi σ 86 (ix l2)), .null, .null]) (pc := 50) dX12_clap_50 zC_12_258 rfl (z_recv zl_66 zh_66) rfl rfl) (by omega))))))))))))))))))))
theorem b_X12_clap_97 {X : zX} {d : Nat} {Q : Option Value → zH → Prop} (σ : zS) (l1 : Int32) (l2 : Int32) (w3 : Value) (w4 : Value)  : zwp X d MX12_clap 97 [.ref 66, .int l1, .int l2, w3, w4] [] (zen σ) Q = (if (gi σ 66 9) ≤ l2 then Q none (zen σ) else (zin l2 16 = true ∧ (zin l2 16 = true ∧ zwp X d MX12_clap 97 [.ref 66, .int l1, .int (l2 + 1), w3, w4] [] (zen (si σ 86 (ix l2) (gi σ 87 (ix l2)))) Q))) :=
  Eq.trans (q_iload_n (pc := 97) dX12_clap_97 rfl rfl) (Eq.trans (q_aload_n (pc := 98) dX12_clap_98 rfl rfl) (Eq.trans (q_getf (pc := 99) dX12_clap_99 zF_12_28 (z_rfiE (x := (gi σ 66 9)) zl_66 zh_66 (by decide) rfl rfl)) (Eq.trans (q_icmp_ge (tgt := 123) (pc := 102) dX12_clap_102 rfl) (zite (fun hz1 => q_vret (pc := 123) dX12_clap_123 rfl) (fun hz1 => Eq.trans (q_aload_n (pc := 105) dX12_clap_105 rfl rfl) (Eq.trans (q_getf (pc := 106) dX12_clap_106 zF_12_79 (z_rfr zl_66 zh_66 (by decide) rfl)) (Eq.trans (q_iload_n (pc := 109) dX12_clap_109 rfl rfl) (Eq.trans (q_aload_n (pc := 110) dX12_clap_110 rfl rfl) (Eq.trans (q_getf (pc := 111) dX12_clap_111 zF_12_82 (z_rfr zl_66 zh_66 (by decide) rfl)) (Eq.trans (q_iload_n (pc := 114) dX12_clap_114 rfl rfl) (Eq.trans (qe_iaload (x := (gi σ 87 (ix l2))) (pc := 115) dX12_clap_115 (z_ia zl_87 zh_87 (by decide)) rfl) (zand fun hz2 => Eq.trans (q_iastore (pc := 116) dX12_clap_116 (zN_lt zl_86) (z_ia zl_86 zh_86 (by decide)) (z_pi zl_86 zh_86 (by decide))) (zand fun hz3 => Eq.trans (q_iinc (c := 1) (ls' := [.ref 66, .int l1, .int (l2 + 1), w3, w4]) (pc := 117) dX12_clap_117 rfl rfl rfl) (Eq.trans (q_goto (tgt := 97) (pc := 120) dX12_clap_120 rfl) (rfl)))))))))))))))
theorem b_X12_clap_53 {X : zX} {d : Nat} {Q : Option Value → zH → Prop} (σ : zS) (l1 : Int32) (l2 : Int32) (l3 : Int32) (l4 : Int32) (t0 : Int32) (t1 : Int32)  : zwp X d MX12_clap 53 [.ref 66, .int l1, .int l2, .int l3, .int l4] [.int t0, .int t1] (zen σ) Q = zwp X d MX12_clap 20 [.ref 66, .int l1, .int l2, .int (t1 + t0), .int (l4 + 1)] [] (zen σ) Q :=
  Eq.trans (q_iadd (pc := 53) dX12_clap_53) (Eq.trans (q_istore_n (ls' := [.ref 66, .int l1, .int l2, .int (t1 + t0), .int l4]) (pc := 54) dX12_clap_54 rfl (Nat.le_of_ble_eq_true rfl) rfl) (Eq.trans (q_iinc (c := 1) (ls' := [.ref 66, .int l1, .int l2, .int (t1 + t0), .int (l4 + 1)]) (pc := 55) dX12_clap_55 rfl rfl rfl) (Eq.trans (q_goto (tgt := 20) (pc := 58) dX12_clap_58 rfl) (rfl))))
theorem b_X12_goTurn_0 {X : zX} {d : Nat} {Q : Option Value → zH → Prop} (hd : 1 ≤ d) (σ : zS) (a2 : Int32)  : zwp X d MX12_goTurn 0 [.ref 66, .int a2] [] (zen σ) Q = (zin a2 8 = true ∧ zwp X (d - 1) MX12_thaw 0 [.ref 66, .int (gi σ 72 (ix a2)), .null] [] (zen σ) (fun v h' => zwp X d MX12_goTurn 10 [.ref 66, .int a2] (zpsh v []) h' Q)) :=
  Eq.trans (q_aload_n (pc := 0) dX12_goTurn_0 rfl rfl) (Eq.trans (q_aload_n (pc := 1) dX12_goTurn_1 rfl rfl) (Eq.trans (q_getf (pc := 2) dX12_goTurn_2 zF_12_25 (z_rfr zl_66 zh_66 (by decide) rfl)) (Eq.trans (q_iload_n (pc := 5) dX12_goTurn_5 rfl rfl) (Eq.trans (qe_iaload (x := (gi σ 72 (ix a2))) (pc := 6) dX12_goTurn_6 (z_ia zl_72 zh_72 (by decide)) rfl) (zand fun hz1 => zdpos (q_callV (as := [.int (gi σ 72 (ix a2))]) (rest := []) (l0 := [.ref 66, .int (gi σ 72 (ix a2)), .null]) (pc := 7) dX12_goTurn_7 zC_12_269 rfl (z_recv zl_66 zh_66) rfl rfl) (by omega))))))
theorem b_X12_goTurn_10 {X : zX} {d : Nat} {Q : Option Value → zH → Prop} (hd : 1 ≤ d) (σ : zS) (l1 : Int32)  : zwp X d MX12_goTurn 10 [.ref 66, .int l1] [] (zen σ) Q = zwp X (d - 1) MX12_clap 0 [.ref 66, .int l1, .null, .null, .null] [] (zen σ) (fun v h' => zwp X d MX12_goTurn 15 [.ref 66, .int l1] (zpsh v []) h' Q) :=
  Eq.trans (q_aload_n (pc := 10) dX12_goTurn_10 rfl rfl) (Eq.trans (q_iload_n (pc := 11) dX12_goTurn_11 rfl rfl) (zdpos (q_callV (as := [.int l1]) (rest := []) (l0 := [.ref 66, .int l1, .null, .null, .null]) (pc := 12) dX12_goTurn_12 zC_12_273 rfl (z_recv zl_66 zh_66) rfl rfl) (by omega)))
theorem b_X12_goTurn_15 {X : zX} {d : Nat} {Q : Option Value → zH → Prop} (σ : zS) (l1 : Int32)  : zwp X d MX12_goTurn 15 [.ref 66, .int l1] [] (zen σ) Q = Q none (zen σ) :=
  q_vret (pc := 15) dX12_goTurn_15 rfl
theorem b_X12_goByte_0 {X : zX} {d : Nat} {Q : Option Value → zH → Prop} (hd : 1 ≤ d) (σ : zS) (a2 : Int32)  : zwp X d MX12_goByte 0 [.ref 66, .int a2] [] (zen σ) Q = (if ¬ a2 = 20 then zwp X (d - 1) MX12_goTurn 0 [.ref 66, .int a2] [] (zen σ) (fun v h' => zwp X d MX12_goByte 22 [.ref 66, .int a2] (zpsh v []) h' Q) else zwp X (d - 1) MX12_thaw 0 [.ref 66, .int (gi σ 66 11), .null] [] (zen σ) (fun v h' => zwp X d MX12_goByte 14 [.ref 66, .int a2] (zpsh v []) h' Q)) :=
  Eq.trans (q_iload_n (pc := 0) dX12_goByte_0 rfl rfl) (Eq.trans (q_bipush (v := 20) (pc := 1) dX12_goByte_1 rfl) (Eq.trans (q_icmp_ne (tgt := 17) (pc := 3) dX12_goByte_3 rfl) (zite (fun hz1 => Eq.trans (q_aload_n (pc := 17) dX12_goByte_17 rfl rfl) (Eq.trans (q_iload_n (pc := 18) dX12_goByte_18 rfl rfl) (zdpos (q_callV (as := [.int a2]) (rest := []) (l0 := [.ref 66, .int a2]) (pc := 19) dX12_goByte_19 zC_12_276 rfl (z_recv zl_66 zh_66) rfl rfl) (by omega)))) (fun hz1 => Eq.trans (q_aload_n (pc := 6) dX12_goByte_6 rfl rfl) (Eq.trans (q_aload_n (pc := 7) dX12_goByte_7 rfl rfl) (Eq.trans (q_getf (pc := 8) dX12_goByte_8 zF_12_35 (z_rfiE (x := (gi σ 66 11)) zl_66 zh_66 (by decide) rfl rfl)) (zdpos (q_callV (as := [.int (gi σ 66 11)]) (rest := []) (l0 := [.ref 66, .int (gi σ 66 11), .null]) (pc := 11) dX12_goByte_11 zC_12_269 rfl (z_recv zl_66 zh_66) rfl rfl) (by omega))))))))
theorem b_X12_goByte_22 {X : zX} {d : Nat} {Q : Option Value → zH → Prop} (σ : zS) (l1 : Int32)  : zwp X d MX12_goByte 22 [.ref 66, .int l1] [] (zen σ) Q = Q none (zen σ) :=
  q_vret (pc := 22) dX12_goByte_22 rfl
theorem b_X12_goByte_14 {X : zX} {d : Nat} {Q : Option Value → zH → Prop} (σ : zS) (l1 : Int32)  : zwp X d MX12_goByte 14 [.ref 66, .int l1] [] (zen σ) Q = Q none (zen σ) :=
  Eq.trans (q_goto (tgt := 22) (pc := 14) dX12_goByte_14 rfl) (q_vret (pc := 22) dX12_goByte_22 rfl)
theorem b_X12_thinnest_0 {X : zX} {d : Nat} {Q : Option Value → zH → Prop} (σ : zS)  : zwp X d MX12_thinnest 0 [.ref 66, .null, .null] [] (zen σ) Q = zwp X d MX12_thinnest 4 [.ref 66, .int 0, .int 1] [] (zen σ) Q :=
  Eq.trans (q_iconst (v := 0) (pc := 0) dX12_thinnest_0 rfl) (Eq.trans (q_istore_n (ls' := [.ref 66, .int 0, .null]) (pc := 1) dX12_thinnest_1 rfl (Nat.le_of_ble_eq_true rfl) rfl) (Eq.trans (q_iconst (v := 1) (pc := 2) dX12_thinnest_2 rfl) (Eq.trans (q_istore_n (ls' := [.ref 66, .int 0, .int 1]) (pc := 3) dX12_thinnest_3 rfl (Nat.le_of_ble_eq_true rfl) rfl) (rfl))))
theorem b_X12_thinnest_4 {X : zX} {d : Nat} {Q : Option Value → zH → Prop} (σ : zS) (l1 : Int32) (l2 : Int32)  : zwp X d MX12_thinnest 4 [.ref 66, .int l1, .int l2] [] (zen σ) Q = (if (gi σ 66 9) ≤ l2 then Q (some (.int l1)) (zen σ) else (zin l2 16 = true ∧ (zin l1 16 = true ∧ (if (gi σ 86 (ix l1)) ≤ (gi σ 86 (ix l2)) then zwp X d MX12_thinnest 4 [.ref 66, .int l1, .int (l2 + 1)] [] (zen σ) Q else zwp X d MX12_thinnest 4 [.ref 66, .int l2, .int (l2 + 1)] [] (zen σ) Q)))) :=
  Eq.trans (q_iload_n (pc := 4) dX12_thinnest_4 rfl rfl) (Eq.trans (q_aload_n (pc := 5) dX12_thinnest_5 rfl rfl) (Eq.trans (q_getf (pc := 6) dX12_thinnest_6 zF_12_28 (z_rfiE (x := (gi σ 66 9)) zl_66 zh_66 (by decide) rfl rfl)) (Eq.trans (q_icmp_ge (tgt := 35) (pc := 9) dX12_thinnest_9 rfl) (zite (fun hz1 => Eq.trans (q_iload_n (pc := 35) dX12_thinnest_35 rfl rfl) (q_iret (pc := 36) dX12_thinnest_36 rfl rfl)) (fun hz1 => Eq.trans (q_aload_n (pc := 12) dX12_thinnest_12 rfl rfl) (Eq.trans (q_getf (pc := 13) dX12_thinnest_13 zF_12_79 (z_rfr zl_66 zh_66 (by decide) rfl)) (Eq.trans (q_iload_n (pc := 16) dX12_thinnest_16 rfl rfl) (Eq.trans (qe_iaload (x := (gi σ 86 (ix l2))) (pc := 17) dX12_thinnest_17 (z_ia zl_86 zh_86 (by decide)) rfl) (zand fun hz2 => Eq.trans (q_aload_n (pc := 18) dX12_thinnest_18 rfl rfl) (Eq.trans (q_getf (pc := 19) dX12_thinnest_19 zF_12_79 (z_rfr zl_66 zh_66 (by decide) rfl)) (Eq.trans (q_iload_n (pc := 22) dX12_thinnest_22 rfl rfl) (Eq.trans (qe_iaload (x := (gi σ 86 (ix l1))) (pc := 23) dX12_thinnest_23 (z_ia zl_86 zh_86 (by decide)) rfl) (zand fun hz3 => Eq.trans (q_icmp_ge (tgt := 29) (pc := 24) dX12_thinnest_24 rfl) (zite (fun hz4 => Eq.trans (q_iinc (c := 1) (ls' := [.ref 66, .int l1, .int (l2 + 1)]) (pc := 29) dX12_thinnest_29 rfl rfl rfl) (Eq.trans (q_goto (tgt := 4) (pc := 32) dX12_thinnest_32 rfl) (rfl))) (fun hz4 => Eq.trans (q_iload_n (pc := 27) dX12_thinnest_27 rfl rfl) (Eq.trans (q_istore_n (ls' := [.ref 66, .int l2, .int l2]) (pc := 28) dX12_thinnest_28 rfl (Nat.le_of_ble_eq_true rfl) rfl) (Eq.trans (q_iinc (c := 1) (ls' := [.ref 66, .int l2, .int (l2 + 1)]) (pc := 29) dX12_thinnest_29 rfl rfl rfl) (Eq.trans (q_goto (tgt := 4) (pc := 32) dX12_thinnest_32 rfl) (rfl)))))))))))))))))))
theorem b_X12_fallsOn_0 {X : zX} {d : Nat} {Q : Option Value → zH → Prop} (σ : zS) (a2 : Int32) (a3 : Int32)  : zwp X d MX12_fallsOn 0 [.ref 66, .int a2, .int a3, .null] [] (zen σ) Q = zwp X d MX12_fallsOn 2 [.ref 66, .int a2, .int a3, .int 0] [] (zen σ) Q :=
  Eq.trans (q_iconst (v := 0) (pc := 0) dX12_fallsOn_0 rfl) (Eq.trans (q_istore_n (ls' := [.ref 66, .int a2, .int a3, .int 0]) (pc := 1) dX12_fallsOn_1 rfl (Nat.le_of_ble_eq_true rfl) rfl) (rfl))
theorem b_X12_fallsOn_2 {X : zX} {d : Nat} {Q : Option Value → zH → Prop} (hd : 1 ≤ d) (σ : zS) (l1 : Int32) (l2 : Int32) (l3 : Int32)  : zwp X d MX12_fallsOn 2 [.ref 66, .int l1, .int l2, .int l3] [] (zen σ) Q = (if (gi σ 66 9) ≤ l3 then Q (some (.int (-2))) (zen σ) else (p_X12_thawed σ l3 (l3 * l2) ∧ (if l1 ≤ (f_X12_thawed σ l3 (l3 * l2)) then zwp X d MX12_fallsOn 2 [.ref 66, .int l1, .int l2, .int (l3 + 1)] [] (zen σ) Q else Q (some (.int l3)) (zen σ)))) :=
  Eq.trans (q_iload_n (pc := 2) dX12_fallsOn_2 rfl rfl) (Eq.trans (q_aload_n (pc := 3) dX12_fallsOn_3 rfl rfl) (Eq.trans (q_getf (pc := 4) dX12_fallsOn_4 zF_12_28 (z_rfiE (x := (gi σ 66 9)) zl_66 zh_66 (by decide) rfl rfl)) (Eq.trans (q_icmp_ge (tgt := 30) (pc := 7) dX12_fallsOn_7 rfl) (zite (fun hz1 => Eq.trans (q_bipush (v := (-2)) (pc := 30) dX12_fallsOn_30 rfl) (q_iret (pc := 32) dX12_fallsOn_32 rfl rfl)) (fun hz1 => Eq.trans (q_aload_n (pc := 10) dX12_fallsOn_10 rfl rfl) (Eq.trans (q_iload_n (pc := 11) dX12_fallsOn_11 rfl rfl) (Eq.trans (q_iload_n (pc := 12) dX12_fallsOn_12 rfl rfl) (Eq.trans (q_iload_n (pc := 13) dX12_fallsOn_13 rfl rfl) (Eq.trans (q_imul (pc := 14) dX12_fallsOn_14) (Eq.trans (q_sumIP (q_callV (as := [.int l3, .int (l3 * l2)]) (rest := []) (l0 := [.ref 66, .int l3, .int (l3 * l2)]) (pc := 15) dX12_fallsOn_15 zC_12_266 rfl (z_recv zl_66 zh_66) rfl rfl) (by omega) (s_X12_thawed σ l3 (l3 * l2))) (zand fun hz2 => Eq.trans (q_iload_n (pc := 18) dX12_fallsOn_18 rfl rfl) (Eq.trans (q_icmp_ge (tgt := 24) (pc := 19) dX12_fallsOn_19 rfl) (zite (fun hz3 => Eq.trans (q_iinc (c := 1) (ls' := [.ref 66, .int l1, .int l2, .int (l3 + 1)]) (pc := 24) dX12_fallsOn_24 rfl rfl rfl) (Eq.trans (q_goto (tgt := 2) (pc := 27) dX12_fallsOn_27 rfl) (rfl))) (fun hz3 => Eq.trans (q_iload_n (pc := 22) dX12_fallsOn_22 rfl rfl) (q_iret (pc := 23) dX12_fallsOn_23 rfl rfl)))))))))))))))
theorem b_X12_heaviestAt_0 {X : zX} {d : Nat} {Q : Option Value → zH → Prop} (σ : zS) (a2 : Int32)  : zwp X d MX12_heaviestAt 0 [.ref 66, .int a2, .null, .null] [] (zen σ) Q = zwp X d MX12_heaviestAt 6 [.ref 66, .int a2, .int 999, .int 0] [] (zen σ) Q :=
  Eq.trans (q_sipush (v := 999) (pc := 0) dX12_heaviestAt_0 rfl) (Eq.trans (q_istore_n (ls' := [.ref 66, .int a2, .int 999, .null]) (pc := 3) dX12_heaviestAt_3 rfl (Nat.le_of_ble_eq_true rfl) rfl) (Eq.trans (q_iconst (v := 0) (pc := 4) dX12_heaviestAt_4 rfl) (Eq.trans (q_istore_n (ls' := [.ref 66, .int a2, .int 999, .int 0]) (pc := 5) dX12_heaviestAt_5 rfl (Nat.le_of_ble_eq_true rfl) rfl) (rfl))))
theorem b_X12_heaviestAt_6 {X : zX} {d : Nat} {Q : Option Value → zH → Prop} (hd : 1 ≤ d) (σ : zS) (l1 : Int32) (l2 : Int32) (l3 : Int32)  : zwp X d MX12_heaviestAt 6 [.ref 66, .int l1, .int l2, .int l3] [] (zen σ) Q = (if (gi σ 66 9) ≤ l3 then Q (some (.int l2)) (zen σ) else (p_X12_thawed σ l3 (l3 * l1) ∧ (if l2 ≤ (f_X12_thawed σ l3 (l3 * l1)) then zwp X d MX12_heaviestAt 6 [.ref 66, .int l1, .int l2, .int (l3 + 1)] [] (zen σ) Q else (p_X12_thawed σ l3 (l3 * l1) ∧ zwp X d MX12_heaviestAt 6 [.ref 66, .int l1, .int (f_X12_thawed σ l3 (l3 * l1)), .int (l3 + 1)] [] (zen σ) Q)))) :=
  Eq.trans (q_iload_n (pc := 6) dX12_heaviestAt_6 rfl rfl) (Eq.trans (q_aload_n (pc := 7) dX12_heaviestAt_7 rfl rfl) (Eq.trans (q_getf (pc := 8) dX12_heaviestAt_8 zF_12_28 (z_rfiE (x := (gi σ 66 9)) zl_66 zh_66 (by decide) rfl rfl)) (Eq.trans (q_icmp_ge (tgt := 41) (pc := 11) dX12_heaviestAt_11 rfl) (zite (fun hz1 => Eq.trans (q_iload_n (pc := 41) dX12_heaviestAt_41 rfl rfl) (q_iret (pc := 42) dX12_heaviestAt_42 rfl rfl)) (fun hz1 => Eq.trans (q_aload_n (pc := 14) dX12_heaviestAt_14 rfl rfl) (Eq.trans (q_iload_n (pc := 15) dX12_heaviestAt_15 rfl rfl) (Eq.trans (q_iload_n (pc := 16) dX12_heaviestAt_16 rfl rfl) (Eq.trans (q_iload_n (pc := 17) dX12_heaviestAt_17 rfl rfl) (Eq.trans (q_imul (pc := 18) dX12_heaviestAt_18) (Eq.trans (q_sumIP (q_callV (as := [.int l3, .int (l3 * l1)]) (rest := []) (l0 := [.ref 66, .int l3, .int (l3 * l1)]) (pc := 19) dX12_heaviestAt_19 zC_12_266 rfl (z_recv zl_66 zh_66) rfl rfl) (by omega) (s_X12_thawed σ l3 (l3 * l1))) (zand fun hz2 => Eq.trans (q_iload_n (pc := 22) dX12_heaviestAt_22 rfl rfl) (Eq.trans (q_icmp_ge (tgt := 35) (pc := 23) dX12_heaviestAt_23 rfl) (zite (fun hz3 => Eq.trans (q_iinc (c := 1) (ls' := [.ref 66, .int l1, .int l2, .int (l3 + 1)]) (pc := 35) dX12_heaviestAt_35 rfl rfl rfl) (Eq.trans (q_goto (tgt := 6) (pc := 38) dX12_heaviestAt_38 rfl) (rfl))) (fun hz3 => Eq.trans (q_aload_n (pc := 26) dX12_heaviestAt_26 rfl rfl) (Eq.trans (q_iload_n (pc := 27) dX12_heaviestAt_27 rfl rfl) (Eq.trans (q_iload_n (pc := 28) dX12_heaviestAt_28 rfl rfl) (Eq.trans (q_iload_n (pc := 29) dX12_heaviestAt_29 rfl rfl) (Eq.trans (q_imul (pc := 30) dX12_heaviestAt_30) (Eq.trans (q_sumIP (q_callV (as := [.int l3, .int (l3 * l1)]) (rest := []) (l0 := [.ref 66, .int l3, .int (l3 * l1)]) (pc := 31) dX12_heaviestAt_31 zC_12_266 rfl (z_recv zl_66 zh_66) rfl rfl) (by omega) (s_X12_thawed σ l3 (l3 * l1))) (zand fun hz4 => Eq.trans (q_istore_n (ls' := [.ref 66, .int l1, .int (f_X12_thawed σ l3 (l3 * l1)), .int l3]) (pc := 34) dX12_heaviestAt_34 rfl (Nat.le_of_ble_eq_true rfl) rfl) (Eq.trans (q_iinc (c := 1) (ls' := [.ref 66, .int l1, .int (f_X12_thawed σ l3 (l3 * l1)), .int (l3 + 1)]) (pc := 35) dX12_heaviestAt_35 rfl rfl rfl) (Eq.trans (q_goto (tgt := 6) (pc := 38) dX12_heaviestAt_38 rfl) (rfl)))))))))))))))))))))))
theorem b_X12_layProgramme_0 {X : zX} {d : Nat} {Q : Option Value → zH → Prop} (σ : zS) (a2 : Int32)  : zwp X d MX12_layProgramme 0 [.ref 66, .int a2, .null, .null] [] (zen σ) Q = zwp X d MX12_layProgramme 7 [.ref 66, .int a2, .int 0, .null] [] (zen (si σ 66 39 0)) Q :=
  Eq.trans (q_aload_n (pc := 0) dX12_layProgramme_0 rfl rfl) (Eq.trans (q_iconst (v := 0) (pc := 1) dX12_layProgramme_1 rfl) (Eq.trans (q_pf (pc := 2) dX12_layProgramme_2 zF_12_279 zPF_12_39 (z_pf zl_66 zh_66 rfl)) (Eq.trans (q_iconst (v := 0) (pc := 5) dX12_layProgramme_5 rfl) (Eq.trans (q_istore_n (ls' := [.ref 66, .int a2, .int 0, .null]) (pc := 6) dX12_layProgramme_6 rfl (Nat.le_of_ble_eq_true rfl) rfl) (rfl)))))
theorem b_X12_layProgramme_7 {X : zX} {d : Nat} {Q : Option Value → zH → Prop} (hd : 2 ≤ d) (σ : zS) (l1 : Int32) (l2 : Int32) (w3 : Value)  : zwp X d MX12_layProgramme 7 [.ref 66, .int l1, .int l2, w3] [] (zen σ) Q = (zin l1 6 = true ∧ (if (gi σ 96 (ix l1)) ≤ l2 then Q none (zen σ) else (if 20 ≤ l2 then Q none (zen σ) else (p_X12_at σ l1 l2 ∧ (if (f_X12_at σ l1 l2) = 20 then (zin l2 21 = true ∧ zwp X d MX12_layProgramme 7 [.ref 66, .int l1, .int (l2 + 1), .int (f_X12_at σ l1 l2)] [] (zen (si (si σ 88 (ix l2) (f_X12_at σ l1 l2)) 66 39 ((gi σ 66 39) + 1))) Q) else (if ¬ (f_X12_isTurn σ (f_X12_at σ l1 l2)) = 0 then (zin l2 21 = true ∧ zwp X d MX12_layProgramme 7 [.ref 66, .int l1, .int (l2 + 1), .int (f_X12_at σ l1 l2)] [] (zen (si (si σ 88 (ix l2) (f_X12_at σ l1 l2)) 66 39 ((gi σ 66 39) + 1))) Q) else Q none (zen σ))))))) :=
  Eq.trans (q_iload_n (pc := 7) dX12_layProgramme_7 rfl rfl) (Eq.trans (q_aload_n (pc := 8) dX12_layProgramme_8 rfl rfl) (Eq.trans (q_getf (pc := 9) dX12_layProgramme_9 zF_12_112 (z_rfr zl_66 zh_66 (by decide) rfl)) (Eq.trans (q_iload_n (pc := 12) dX12_layProgramme_12 rfl rfl) (Eq.trans (qe_iaload (x := (gi σ 96 (ix l1))) (pc := 13) dX12_layProgramme_13 (z_ia zl_96 zh_96 (by decide)) rfl) (zand fun hz1 => Eq.trans (q_icmp_ge (tgt := 68) (pc := 14) dX12_layProgramme_14 rfl) (zite (fun hz2 => q_vret (pc := 68) dX12_layProgramme_68 rfl) (fun hz2 => Eq.trans (q_iload_n (pc := 17) dX12_layProgramme_17 rfl rfl) (Eq.trans (q_bipush (v := 20) (pc := 18) dX12_layProgramme_18 rfl) (Eq.trans (q_icmp_ge (tgt := 68) (pc := 20) dX12_layProgramme_20 rfl) (zite (fun hz3 => q_vret (pc := 68) dX12_layProgramme_68 rfl) (fun hz3 => Eq.trans (q_aload_n (pc := 23) dX12_layProgramme_23 rfl rfl) (Eq.trans (q_iload_n (pc := 24) dX12_layProgramme_24 rfl rfl) (Eq.trans (q_iload_n (pc := 25) dX12_layProgramme_25 rfl rfl) (Eq.trans (q_sumIP (q_callV (as := [.int l1, .int l2]) (rest := []) (l0 := [.ref 66, .int l1, .int l2]) (pc := 26) dX12_layProgramme_26 zC_12_282 rfl (z_recv zl_66 zh_66) rfl rfl) (by omega) (s_X12_at σ l1 l2)) (zand fun hz4 => Eq.trans (q_istore_n (ls' := [.ref 66, .int l1, .int l2, .int (f_X12_at σ l1 l2)]) (pc := 29) dX12_layProgramme_29 rfl (Nat.le_of_ble_eq_true rfl) rfl) (Eq.trans (q_iload_n (pc := 30) dX12_layProgramme_30 rfl rfl) (Eq.trans (q_bipush (v := 20) (pc := 31) dX12_layProgramme_31 rfl) (Eq.trans (q_icmp_eq (tgt := 45) (pc := 33) dX12_layProgramme_33 rfl) (zite (fun hz5 => Eq.trans (q_aload_n (pc := 45) dX12_layProgramme_45 rfl rfl) (Eq.trans (q_getf (pc := 46) dX12_layProgramme_46 zF_12_88 (z_rfr zl_66 zh_66 (by decide) rfl)) (Eq.trans (q_iload_n (pc := 49) dX12_layProgramme_49 rfl rfl) (Eq.trans (q_iload_n (pc := 50) dX12_layProgramme_50 rfl rfl) (Eq.trans (q_iastore (pc := 51) dX12_layProgramme_51 (zN_lt zl_88) (z_ia zl_88 zh_88 (by decide)) (z_pi zl_88 zh_88 (by decide))) (zand fun hz6 => Eq.trans (q_aload_n (pc := 52) dX12_layProgramme_52 rfl rfl) (Eq.trans (q_dup_ref (pc := 53) dX12_layProgramme_53) (Eq.trans (q_getf (pc := 54) dX12_layProgramme_54 zF_12_279 (z_rfiE (x := (gi σ 66 39)) zl_66 zh_66 (by decide) rfl rfl)) (Eq.trans (q_iconst (v := 1) (pc := 57) dX12_layProgramme_57 rfl) (Eq.trans (q_iadd (pc := 58) dX12_layProgramme_58) (Eq.trans (q_pf (pc := 59) dX12_layProgramme_59 zF_12_279 zPF_12_39 (z_pf zl_66 zh_66 rfl)) (Eq.trans (q_iinc (c := 1) (ls' := [.ref 66, .int l1, .int (l2 + 1), .int (f_X12_at σ l1 l2)]) (pc := 62) dX12_layProgramme_62 rfl rfl rfl) (Eq.trans (q_goto (tgt := 7) (pc := 65) dX12_layProgramme_65 rfl) (rfl)))))))))))))) (fun hz5 => Eq.trans (q_aload_n (pc := 36) dX12_layProgramme_36 rfl rfl) (Eq.trans (q_iload_n (pc := 37) dX12_layProgramme_37 rfl rfl) (Eq.trans (q_sumI (q_callV (as := [.int (f_X12_at σ l1 l2)]) (rest := []) (l0 := [.ref 66, .int (f_X12_at σ l1 l2)]) (pc := 38) dX12_layProgramme_38 zC_12_165 rfl (z_recv zl_66 zh_66) rfl rfl) (by omega) (s_X12_isTurn (hd := by omega) σ (f_X12_at σ l1 l2))) (Eq.trans (q_if_ne (tgt := 45) (pc := 41) dX12_layProgramme_41 rfl) (zite (fun hz7 => Eq.trans (q_aload_n (pc := 45) dX12_layProgramme_45 rfl rfl) (Eq.trans (q_getf (pc := 46) dX12_layProgramme_46 zF_12_88 (z_rfr zl_66 zh_66 (by decide) rfl)) (Eq.trans (q_iload_n (pc := 49) dX12_layProgramme_49 rfl rfl) (Eq.trans (q_iload_n (pc := 50) dX12_layProgramme_50 rfl rfl) (Eq.trans (q_iastore (pc := 51) dX12_layProgramme_51 (zN_lt zl_88) (z_ia zl_88 zh_88 (by decide)) (z_pi zl_88 zh_88 (by decide))) (zand fun hz8 => Eq.trans (q_aload_n (pc := 52) dX12_layProgramme_52 rfl rfl) (Eq.trans (q_dup_ref (pc := 53) dX12_layProgramme_53) (Eq.trans (q_getf (pc := 54) dX12_layProgramme_54 zF_12_279 (z_rfiE (x := (gi σ 66 39)) zl_66 zh_66 (by decide) rfl rfl)) (Eq.trans (q_iconst (v := 1) (pc := 57) dX12_layProgramme_57 rfl) (Eq.trans (q_iadd (pc := 58) dX12_layProgramme_58) (Eq.trans (q_pf (pc := 59) dX12_layProgramme_59 zF_12_279 zPF_12_39 (z_pf zl_66 zh_66 rfl)) (Eq.trans (q_iinc (c := 1) (ls' := [.ref 66, .int l1, .int (l2 + 1), .int (f_X12_at σ l1 l2)]) (pc := 62) dX12_layProgramme_62 rfl rfl rfl) (Eq.trans (q_goto (tgt := 7) (pc := 65) dX12_layProgramme_65 rfl) (rfl)))))))))))))) (fun hz7 => q_vret (pc := 44) dX12_layProgramme_44 rfl)))))))))))))))))))))))))
theorem b_X12_goProgramme_0 {X : zX} {d : Nat} {Q : Option Value → zH → Prop} (hd : 1 ≤ d) (σ : zS) (a2 : Int32) (a3 : Int32)  : zwp X d MX12_goProgramme 0 [.ref 66, .int a2, .int a3, .null] [] (zen σ) Q = zwp X (d - 1) MX12_beginIce 0 [.ref 66, .null] [] (zen σ) (fun v h' => zwp X d MX12_goProgramme 4 [.ref 66, .int a2, .int a3, .null] (zpsh v []) h' Q) :=
  Eq.trans (q_aload_n (pc := 0) dX12_goProgramme_0 rfl rfl) (zdpos (q_callV (as := []) (rest := []) (l0 := [.ref 66, .null]) (pc := 1) dX12_goProgramme_1 zC_12_285 rfl (z_recv zl_66 zh_66) rfl rfl) (by omega))
theorem b_X12_goProgramme_6 {X : zX} {d : Nat} {Q : Option Value → zH → Prop} (hd : 1 ≤ d) (σ : zS) (l1 : Int32) (l2 : Int32) (l3 : Int32)  : zwp X d MX12_goProgramme 6 [.ref 66, .int l1, .int l2, .int l3] [] (zen σ) Q = (if l1 ≤ l3 then Q none (zen σ) else (if l3 = l2 then zwp X d MX12_goProgramme 6 [.ref 66, .int l1, .int l2, .int (l3 + 1)] [] (zen σ) Q else (zin l3 21 = true ∧ zwp X (d - 1) MX12_goByte 0 [.ref 66, .int (gi σ 88 (ix l3))] [] (zen σ) (fun v h' => zwp X d MX12_goProgramme 26 [.ref 66, .int l1, .int l2, .int l3] (zpsh v []) h' Q)))) :=
  Eq.trans (q_iload_n (pc := 6) dX12_goProgramme_6 rfl rfl) (Eq.trans (q_iload_n (pc := 7) dX12_goProgramme_7 rfl rfl) (Eq.trans (q_icmp_ge (tgt := 32) (pc := 8) dX12_goProgramme_8 rfl) (zite (fun hz1 => q_vret (pc := 32) dX12_goProgramme_32 rfl) (fun hz1 => Eq.trans (q_iload_n (pc := 11) dX12_goProgramme_11 rfl rfl) (Eq.trans (q_iload_n (pc := 12) dX12_goProgramme_12 rfl rfl) (Eq.trans (q_icmp_eq (tgt := 26) (pc := 13) dX12_goProgramme_13 rfl) (zite (fun hz2 => Eq.trans (q_iinc (c := 1) (ls' := [.ref 66, .int l1, .int l2, .int (l3 + 1)]) (pc := 26) dX12_goProgramme_26 rfl rfl rfl) (Eq.trans (q_goto (tgt := 6) (pc := 29) dX12_goProgramme_29 rfl) (rfl))) (fun hz2 => Eq.trans (q_aload_n (pc := 16) dX12_goProgramme_16 rfl rfl) (Eq.trans (q_aload_n (pc := 17) dX12_goProgramme_17 rfl rfl) (Eq.trans (q_getf (pc := 18) dX12_goProgramme_18 zF_12_88 (z_rfr zl_66 zh_66 (by decide) rfl)) (Eq.trans (q_iload_n (pc := 21) dX12_goProgramme_21 rfl rfl) (Eq.trans (qe_iaload (x := (gi σ 88 (ix l3))) (pc := 22) dX12_goProgramme_22 (z_ia zl_88 zh_88 (by decide)) rfl) (zand fun hz3 => zdpos (q_callV (as := [.int (gi σ 88 (ix l3))]) (rest := []) (l0 := [.ref 66, .int (gi σ 88 (ix l3))]) (pc := 23) dX12_goProgramme_23 zC_12_288 rfl (z_recv zl_66 zh_66) rfl rfl) (by omega))))))))))))))
theorem b_X12_goProgramme_4 {X : zX} {d : Nat} {Q : Option Value → zH → Prop} (σ : zS) (l1 : Int32) (l2 : Int32)  : zwp X d MX12_goProgramme 4 [.ref 66, .int l1, .int l2, .null] [] (zen σ) Q = zwp X d MX12_goProgramme 6 [.ref 66, .int l1, .int l2, .int 0] [] (zen σ) Q :=
  Eq.trans (q_iconst (v := 0) (pc := 4) dX12_goProgramme_4 rfl) (Eq.trans (q_istore_n (ls' := [.ref 66, .int l1, .int l2, .int 0]) (pc := 5) dX12_goProgramme_5 rfl (Nat.le_of_ble_eq_true rfl) rfl) (rfl))
theorem b_X12_goProgramme_26 {X : zX} {d : Nat} {Q : Option Value → zH → Prop} (σ : zS) (l1 : Int32) (l2 : Int32) (l3 : Int32)  : zwp X d MX12_goProgramme 26 [.ref 66, .int l1, .int l2, .int l3] [] (zen σ) Q = zwp X d MX12_goProgramme 6 [.ref 66, .int l1, .int l2, .int (l3 + 1)] [] (zen σ) Q :=
  Eq.trans (q_iinc (c := 1) (ls' := [.ref 66, .int l1, .int l2, .int (l3 + 1)]) (pc := 26) dX12_goProgramme_26 rfl rfl rfl) (Eq.trans (q_goto (tgt := 6) (pc := 29) dX12_goProgramme_29 rfl) (rfl))
theorem b_X12_goAll_0 {X : zX} {d : Nat} {Q : Option Value → zH → Prop} (hd : 1 ≤ d) (σ : zS)  : zwp X d MX12_goAll 0 [.ref 66] [] (zen σ) Q = zwp X (d - 1) MX12_goProgramme 0 [.ref 66, .int (gi σ 66 39), .int (-1), .null] [] (zen σ) (fun v h' => zwp X d MX12_goAll 9 [.ref 66] (zpsh v []) h' Q) :=
  Eq.trans (q_aload_n (pc := 0) dX12_goAll_0 rfl rfl) (Eq.trans (q_aload_n (pc := 1) dX12_goAll_1 rfl rfl) (Eq.trans (q_getf (pc := 2) dX12_goAll_2 zF_12_279 (z_rfiE (x := (gi σ 66 39)) zl_66 zh_66 (by decide) rfl rfl)) (Eq.trans (q_iconst (v := (-1)) (pc := 5) dX12_goAll_5 rfl) (zdpos (q_callV (as := [.int (gi σ 66 39), .int (-1)]) (rest := []) (l0 := [.ref 66, .int (gi σ 66 39), .int (-1), .null]) (pc := 6) dX12_goAll_6 zC_12_291 rfl (z_recv zl_66 zh_66) rfl rfl) (by omega)))))
theorem b_X12_goAll_9 {X : zX} {d : Nat} {Q : Option Value → zH → Prop} (σ : zS)  : zwp X d MX12_goAll 9 [.ref 66] [] (zen σ) Q = Q none (zen σ) :=
  q_vret (pc := 9) dX12_goAll_9 rfl
theorem b_X12_layOr_0 {X : zX} {d : Nat} {Q : Option Value → zH → Prop} (hd : 1 ≤ d) (σ : zS) (a2 : Int32)  : zwp X d MX12_layOr 0 [.ref 66, .int a2, .null] [] (zen σ) Q = (p_X12_rowFault σ a2 0 ∧ (if ¬ (f_X12_rowFault σ a2 0) = 0 then Q (some (.int (f_X12_rowFault σ a2 0))) (zen σ) else zwp X (d - 1) MX12_layProgramme 0 [.ref 66, .int a2, .null, .null] [] (zen σ) (fun v h' => zwp X d MX12_layOr 16 [.ref 66, .int a2, .int (f_X12_rowFault σ a2 0)] (zpsh v []) h' Q))) :=
  Eq.trans (q_aload_n (pc := 0) dX12_layOr_0 rfl rfl) (Eq.trans (q_iload_n (pc := 1) dX12_layOr_1 rfl rfl) (Eq.trans (q_iconst (v := 0) (pc := 2) dX12_layOr_2 rfl) (Eq.trans (q_sumIP (q_callV (as := [.int a2, .int 0]) (rest := []) (l0 := [.ref 66, .int a2, .int 0]) (pc := 3) dX12_layOr_3 zC_12_294 rfl (z_recv zl_66 zh_66) rfl rfl) (by omega) (s_X12_rowFault σ a2 0)) (zand fun hz1 => Eq.trans (q_istore_n (ls' := [.ref 66, .int a2, .int (f_X12_rowFault σ a2 0)]) (pc := 6) dX12_layOr_6 rfl (Nat.le_of_ble_eq_true rfl) rfl) (Eq.trans (q_iload_n (pc := 7) dX12_layOr_7 rfl rfl) (Eq.trans (q_if_ne (tgt := 16) (pc := 8) dX12_layOr_8 rfl) (zite (fun hz2 => Eq.trans (q_iload_n (pc := 16) dX12_layOr_16 rfl rfl) (q_iret (pc := 17) dX12_layOr_17 rfl rfl)) (fun hz2 => Eq.trans (q_aload_n (pc := 11) dX12_layOr_11 rfl rfl) (Eq.trans (q_iload_n (pc := 12) dX12_layOr_12 rfl rfl) (zdpos (q_callV (as := [.int a2]) (rest := []) (l0 := [.ref 66, .int a2, .null, .null]) (pc := 13) dX12_layOr_13 zC_12_297 rfl (z_recv zl_66 zh_66) rfl rfl) (by omega)))))))))))
theorem b_X12_layOr_16 {X : zX} {d : Nat} {Q : Option Value → zH → Prop} (σ : zS) (l1 : Int32) (l2 : Int32)  : zwp X d MX12_layOr 16 [.ref 66, .int l1, .int l2] [] (zen σ) Q = Q (some (.int l2)) (zen σ) :=
  Eq.trans (q_iload_n (pc := 16) dX12_layOr_16 rfl rfl) (q_iret (pc := 17) dX12_layOr_17 rfl rfl)
theorem b_X12_ice_0 {X : zX} {d : Nat} {Q : Option Value → zH → Prop} (hd : 2 ≤ d) (σ : zS) (a2 : Int32) (a3 : Int32)  : zwp X d MX12_ice 0 [.ref 66, .int a2, .int a3, .null] [] (zen σ) Q = (if (f_X12_isShelf σ a2) = 0 then Q (some (.int (-1))) (zen σ) else (if ¬ (f_X12_in σ a3 (-4) ((gi σ 66 9) - 1)) = 0 then zwp X (d - 1) MX12_layOr 0 [.ref 66, .int a2, .null] [] (zen σ) (fun v h' => zwp X d MX12_ice 29 [.ref 66, .int a2, .int a3, .null] (zpsh v []) h' Q) else Q (some (.int (-1))) (zen σ))) :=
  Eq.trans (q_iload_n (pc := 0) dX12_ice_0 rfl rfl) (Eq.trans (q_sumI (q_callS (as := [.int a2]) (rest := []) (l0 := [.int a2]) (pc := 1) dX12_ice_1 zSN_12_139 zC_12_139 rfl rfl rfl) (by omega) (s_X12_isShelf (hd := by omega) σ a2)) (Eq.trans (q_if_eq (tgt := 22) (pc := 4) dX12_ice_4 rfl) (zite (fun hz1 => Eq.trans (q_iconst (v := (-1)) (pc := 22) dX12_ice_22 rfl) (q_iret (pc := 23) dX12_ice_23 rfl rfl)) (fun hz1 => Eq.trans (q_iload_n (pc := 7) dX12_ice_7 rfl rfl) (Eq.trans (q_bipush (v := (-4)) (pc := 8) dX12_ice_8 rfl) (Eq.trans (q_aload_n (pc := 10) dX12_ice_10 rfl rfl) (Eq.trans (q_getf (pc := 11) dX12_ice_11 zF_12_28 (z_rfiE (x := (gi σ 66 9)) zl_66 zh_66 (by decide) rfl rfl)) (Eq.trans (q_iconst (v := 1) (pc := 14) dX12_ice_14 rfl) (Eq.trans (q_isub (pc := 15) dX12_ice_15) (Eq.trans (q_sumI (q_callS (as := [.int a3, .int (-4), .int ((gi σ 66 9) - 1)]) (rest := []) (l0 := [.int a3, .int (-4), .int ((gi σ 66 9) - 1)]) (pc := 16) dX12_ice_16 zSN_12_128 zC_12_128 rfl rfl rfl) (by omega) (s_X12_in σ a3 (-4) ((gi σ 66 9) - 1))) (Eq.trans (q_if_ne (tgt := 24) (pc := 19) dX12_ice_19 rfl) (zite (fun hz2 => Eq.trans (q_aload_n (pc := 24) dX12_ice_24 rfl rfl) (Eq.trans (q_iload_n (pc := 25) dX12_ice_25 rfl rfl) (zdpos (q_callV (as := [.int a2]) (rest := []) (l0 := [.ref 66, .int a2, .null]) (pc := 26) dX12_ice_26 zC_12_300 rfl (z_recv zl_66 zh_66) rfl rfl) (by omega)))) (fun hz2 => Eq.trans (q_iconst (v := (-1)) (pc := 22) dX12_ice_22 rfl) (q_iret (pc := 23) dX12_ice_23 rfl rfl))))))))))))))
theorem b_X12_ice_29 {X : zX} {d : Nat} {Q : Option Value → zH → Prop} (hd : 1 ≤ d) (σ : zS) (l1 : Int32) (l2 : Int32) (t0 : Int32)  : zwp X d MX12_ice 29 [.ref 66, .int l1, .int l2, .null] [.int t0] (zen σ) Q = (if 0 ≤ t0 then zwp X (d - 1) MX12_goAll 0 [.ref 66] [] (zen σ) (fun v h' => zwp X d MX12_ice 40 [.ref 66, .int l1, .int l2, .int t0] (zpsh v []) h' Q) else Q (some (.int t0)) (zen σ)) :=
  Eq.trans (q_istore_n (ls' := [.ref 66, .int l1, .int l2, .int t0]) (pc := 29) dX12_ice_29 rfl (Nat.le_of_ble_eq_true rfl) rfl) (Eq.trans (q_iload_n (pc := 30) dX12_ice_30 rfl rfl) (Eq.trans (q_if_ge (tgt := 36) (pc := 31) dX12_ice_31 rfl) (zite (fun hz1 => Eq.trans (q_aload_n (pc := 36) dX12_ice_36 rfl rfl) (zdpos (q_callV (as := []) (rest := []) (l0 := [.ref 66]) (pc := 37) dX12_ice_37 zC_12_303 rfl (z_recv zl_66 zh_66) rfl rfl) (by omega))) (fun hz1 => Eq.trans (q_iload_n (pc := 34) dX12_ice_34 rfl rfl) (q_iret (pc := 35) dX12_ice_35 rfl rfl)))))
theorem b_X12_ice_40 {X : zX} {d : Nat} {Q : Option Value → zH → Prop} (hd : 1 ≤ d) (σ : zS) (l1 : Int32) (l2 : Int32) (l3 : Int32)  : zwp X d MX12_ice 40 [.ref 66, .int l1, .int l2, .int l3] [] (zen σ) Q = (if l2 = (-4) then zwp X (d - 1) MX12_thinnest 0 [.ref 66, .null, .null] [] (zen σ) (fun v h' => zwp X d MX12_ice 95 [.ref 66, .int l1, .int l2, .int l3] (zpsh v [.ref 86]) h' Q) else if l2 = (-3) then zwp X (d - 1) MX12_thinnest 0 [.ref 66, .null, .null] [] (zen σ) (fun v h' => zwp X d MX12_ice 86 [.ref 66, .int l1, .int l2, .int l3] (zpsh v []) h' Q) else if l2 = (-2) then Q (some (.int (gi σ 66 37))) (zen σ) else if l2 = (-1) then Q (some (.int (gi σ 66 39))) (zen σ) else (zin l2 16 = true ∧ Q (some (.int (gi σ 86 (ix l2)))) (zen σ))) :=
  Eq.trans (q_iload_n (pc := 40) dX12_ice_40 rfl rfl) (Eq.trans (q_tsw (pc := 41) dX12_ice_41 rfl (by decide) (by decide) (by decide)) (zsite (fun hz1 => Eq.trans (zpc_eq (pc' := 87) (zsw_at hz1 (by decide))) (Eq.trans (q_aload_n (pc := 87) dX12_ice_87 rfl rfl) (Eq.trans (q_getf (pc := 88) dX12_ice_88 zF_12_79 (z_rfr zl_66 zh_66 (by decide) rfl)) (Eq.trans (q_aload_n (pc := 91) dX12_ice_91 rfl rfl) (zdpos (q_callV (as := []) (rest := [.ref 86]) (l0 := [.ref 66, .null, .null]) (pc := 92) dX12_ice_92 zC_12_306 rfl (z_recv zl_66 zh_66) rfl rfl) (by omega)))))) (fun hz1 => zsite (fun hz2 => Eq.trans (zpc_eq (pc' := 82) (zsw_at hz2 (by decide))) (Eq.trans (q_aload_n (pc := 82) dX12_ice_82 rfl rfl) (zdpos (q_callV (as := []) (rest := []) (l0 := [.ref 66, .null, .null]) (pc := 83) dX12_ice_83 zC_12_306 rfl (z_recv zl_66 zh_66) rfl rfl) (by omega)))) (fun hz2 => zsite (fun hz3 => Eq.trans (zpc_eq (pc' := 77) (zsw_at hz3 (by decide))) (Eq.trans (q_aload_n (pc := 77) dX12_ice_77 rfl rfl) (Eq.trans (q_getf (pc := 78) dX12_ice_78 zF_12_263 (z_rfiE (x := (gi σ 66 37)) zl_66 zh_66 (by decide) rfl rfl)) (q_iret (pc := 81) dX12_ice_81 rfl rfl)))) (fun hz3 => zsite (fun hz4 => Eq.trans (zpc_eq (pc' := 72) (zsw_at hz4 (by decide))) (Eq.trans (q_aload_n (pc := 72) dX12_ice_72 rfl rfl) (Eq.trans (q_getf (pc := 73) dX12_ice_73 zF_12_279 (z_rfiE (x := (gi σ 66 39)) zl_66 zh_66 (by decide) rfl rfl)) (q_iret (pc := 76) dX12_ice_76 rfl rfl)))) (fun hz4 => Eq.trans (zpc_eq (pc' := 97) (zsw_df [(-4), (-3), (-2), (-1)] (by decide) (by decide) ⟨hz1, hz2, hz3, hz4, trivial⟩)) (Eq.trans (q_aload_n (pc := 97) dX12_ice_97 rfl rfl) (Eq.trans (q_getf (pc := 98) dX12_ice_98 zF_12_79 (z_rfr zl_66 zh_66 (by decide) rfl)) (Eq.trans (q_iload_n (pc := 101) dX12_ice_101 rfl rfl) (Eq.trans (qe_iaload (x := (gi σ 86 (ix l2))) (pc := 102) dX12_ice_102 (z_ia zl_86 zh_86 (by decide)) rfl) (zand fun hz5 => q_iret (pc := 103) dX12_ice_103 rfl rfl)))))))))))
theorem b_X12_ice_95 {X : zX} {d : Nat} {Q : Option Value → zH → Prop} (σ : zS) (l1 : Int32) (l2 : Int32) (l3 : Int32) (t0 : Int32)  : zwp X d MX12_ice 95 [.ref 66, .int l1, .int l2, .int l3] [.int t0, .ref 86] (zen σ) Q = (zin t0 16 = true ∧ Q (some (.int (gi σ 86 (ix t0)))) (zen σ)) :=
  Eq.trans (qe_iaload (x := (gi σ 86 (ix t0))) (pc := 95) dX12_ice_95 (z_ia zl_86 zh_86 (by decide)) rfl) (zand fun hz1 => q_iret (pc := 96) dX12_ice_96 rfl rfl)
theorem b_X12_ice_86 {X : zX} {d : Nat} {Q : Option Value → zH → Prop} (σ : zS) (l1 : Int32) (l2 : Int32) (l3 : Int32) (t0 : Int32)  : zwp X d MX12_ice 86 [.ref 66, .int l1, .int l2, .int l3] [.int t0] (zen σ) Q = Q (some (.int t0)) (zen σ) :=
  q_iret (pc := 86) dX12_ice_86 rfl rfl
theorem b_X12_cross_0 {X : zX} {d : Nat} {Q : Option Value → zH → Prop} (hd : 2 ≤ d) (σ : zS) (a2 : Int32) (a3 : Int32)  : zwp X d MX12_cross 0 [.ref 66, .int a2, .int a3, .null] [] (zen σ) Q = (if (f_X12_isShelf σ a2) = 0 then Q (some (.int (-1))) (zen σ) else (if ¬ (f_X12_areWeight σ a3) = 0 then zwp X (d - 1) MX12_layOr 0 [.ref 66, .int a2, .null] [] (zen σ) (fun v h' => zwp X d MX12_cross 21 [.ref 66, .int a2, .int a3, .null] (zpsh v []) h' Q) else Q (some (.int (-1))) (zen σ))) :=
  Eq.trans (q_iload_n (pc := 0) dX12_cross_0 rfl rfl) (Eq.trans (q_sumI (q_callS (as := [.int a2]) (rest := []) (l0 := [.int a2]) (pc := 1) dX12_cross_1 zSN_12_139 zC_12_139 rfl rfl rfl) (by omega) (s_X12_isShelf (hd := by omega) σ a2)) (Eq.trans (q_if_eq (tgt := 14) (pc := 4) dX12_cross_4 rfl) (zite (fun hz1 => Eq.trans (q_iconst (v := (-1)) (pc := 14) dX12_cross_14 rfl) (q_iret (pc := 15) dX12_cross_15 rfl rfl)) (fun hz1 => Eq.trans (q_iload_n (pc := 7) dX12_cross_7 rfl rfl) (Eq.trans (q_sumI (q_callS (as := [.int a3]) (rest := []) (l0 := [.int a3]) (pc := 8) dX12_cross_8 zSN_12_309 zC_12_309 rfl rfl rfl) (by omega) (s_X12_areWeight σ a3)) (Eq.trans (q_if_ne (tgt := 16) (pc := 11) dX12_cross_11 rfl) (zite (fun hz2 => Eq.trans (q_aload_n (pc := 16) dX12_cross_16 rfl rfl) (Eq.trans (q_iload_n (pc := 17) dX12_cross_17 rfl rfl) (zdpos (q_callV (as := [.int a2]) (rest := []) (l0 := [.ref 66, .int a2, .null]) (pc := 18) dX12_cross_18 zC_12_300 rfl (z_recv zl_66 zh_66) rfl rfl) (by omega)))) (fun hz2 => Eq.trans (q_iconst (v := (-1)) (pc := 14) dX12_cross_14 rfl) (q_iret (pc := 15) dX12_cross_15 rfl rfl)))))))))
theorem b_X12_cross_21 {X : zX} {d : Nat} {Q : Option Value → zH → Prop} (hd : 1 ≤ d) (σ : zS) (l1 : Int32) (l2 : Int32) (t0 : Int32)  : zwp X d MX12_cross 21 [.ref 66, .int l1, .int l2, .null] [.int t0] (zen σ) Q = (if 0 ≤ t0 then zwp X (d - 1) MX12_goAll 0 [.ref 66] [] (zen σ) (fun v h' => zwp X d MX12_cross 32 [.ref 66, .int l1, .int l2, .int t0] (zpsh v []) h' Q) else Q (some (.int t0)) (zen σ)) :=
  Eq.trans (q_istore_n (ls' := [.ref 66, .int l1, .int l2, .int t0]) (pc := 21) dX12_cross_21 rfl (Nat.le_of_ble_eq_true rfl) rfl) (Eq.trans (q_iload_n (pc := 22) dX12_cross_22 rfl rfl) (Eq.trans (q_if_ge (tgt := 28) (pc := 23) dX12_cross_23 rfl) (zite (fun hz1 => Eq.trans (q_aload_n (pc := 28) dX12_cross_28 rfl rfl) (zdpos (q_callV (as := []) (rest := []) (l0 := [.ref 66]) (pc := 29) dX12_cross_29 zC_12_303 rfl (z_recv zl_66 zh_66) rfl rfl) (by omega))) (fun hz1 => Eq.trans (q_iload_n (pc := 26) dX12_cross_26 rfl rfl) (q_iret (pc := 27) dX12_cross_27 rfl rfl)))))
theorem b_X12_cross_32 {X : zX} {d : Nat} {Q : Option Value → zH → Prop} (hd : 1 ≤ d) (σ : zS) (l1 : Int32) (l2 : Int32) (l3 : Int32)  : zwp X d MX12_cross 32 [.ref 66, .int l1, .int l2, .int l3] [] (zen σ) Q = zwp X (d - 1) MX12_fallsOn 0 [.ref 66, .int (l2 / 10), .int (l2 - l2 / 10 * 10), .null] [] (zen σ) (fun v h' => zwp X d MX12_cross 44 [.ref 66, .int l1, .int l2, .int l3] (zpsh v []) h' Q) :=
  Eq.trans (q_aload_n (pc := 32) dX12_cross_32 rfl rfl) (Eq.trans (q_iload_n (pc := 33) dX12_cross_33 rfl rfl) (Eq.trans (q_bipush (v := 10) (pc := 34) dX12_cross_34 rfl) (Eq.trans (q_idivK (pc := 36) dX12_cross_36 (by decide)) (Eq.trans (q_iload_n (pc := 37) dX12_cross_37 rfl rfl) (Eq.trans (q_bipush (v := 10) (pc := 38) dX12_cross_38 rfl) (Eq.trans (q_iremK (pc := 40) dX12_cross_40 (by decide)) (zdpos (q_callV (as := [.int (l2 / 10), .int (l2 - l2 / 10 * 10)]) (rest := []) (l0 := [.ref 66, .int (l2 / 10), .int (l2 - l2 / 10 * 10), .null]) (pc := 41) dX12_cross_41 zC_12_312 rfl (z_recv zl_66 zh_66) rfl rfl) (by omega))))))))
theorem b_X12_cross_44 {X : zX} {d : Nat} {Q : Option Value → zH → Prop} (σ : zS) (l1 : Int32) (l2 : Int32) (l3 : Int32) (t0 : Int32)  : zwp X d MX12_cross 44 [.ref 66, .int l1, .int l2, .int l3] [.int t0] (zen σ) Q = Q (some (.int t0)) (zen σ) :=
  q_iret (pc := 44) dX12_cross_44 rfl rfl
theorem b_X12_heaviest_0 {X : zX} {d : Nat} {Q : Option Value → zH → Prop} (hd : 2 ≤ d) (σ : zS) (a2 : Int32) (a3 : Int32)  : zwp X d MX12_heaviest 0 [.ref 66, .int a2, .int a3, .null] [] (zen σ) Q = (if (f_X12_isShelf σ a2) = 0 then Q (some (.int (-1))) (zen σ) else (if ¬ (f_X12_in σ a3 0 9) = 0 then zwp X (d - 1) MX12_layOr 0 [.ref 66, .int a2, .null] [] (zen σ) (fun v h' => zwp X d MX12_heaviest 24 [.ref 66, .int a2, .int a3, .null] (zpsh v []) h' Q) else Q (some (.int (-1))) (zen σ))) :=
  Eq.trans (q_iload_n (pc := 0) dX12_heaviest_0 rfl rfl) (Eq.trans (q_sumI (q_callS (as := [.int a2]) (rest := []) (l0 := [.int a2]) (pc := 1) dX12_heaviest_1 zSN_12_139 zC_12_139 rfl rfl rfl) (by omega) (s_X12_isShelf (hd := by omega) σ a2)) (Eq.trans (q_if_eq (tgt := 17) (pc := 4) dX12_heaviest_4 rfl) (zite (fun hz1 => Eq.trans (q_iconst (v := (-1)) (pc := 17) dX12_heaviest_17 rfl) (q_iret (pc := 18) dX12_heaviest_18 rfl rfl)) (fun hz1 => Eq.trans (q_iload_n (pc := 7) dX12_heaviest_7 rfl rfl) (Eq.trans (q_iconst (v := 0) (pc := 8) dX12_heaviest_8 rfl) (Eq.trans (q_bipush (v := 9) (pc := 9) dX12_heaviest_9 rfl) (Eq.trans (q_sumI (q_callS (as := [.int a3, .int 0, .int 9]) (rest := []) (l0 := [.int a3, .int 0, .int 9]) (pc := 11) dX12_heaviest_11 zSN_12_128 zC_12_128 rfl rfl rfl) (by omega) (s_X12_in σ a3 0 9)) (Eq.trans (q_if_ne (tgt := 19) (pc := 14) dX12_heaviest_14 rfl) (zite (fun hz2 => Eq.trans (q_aload_n (pc := 19) dX12_heaviest_19 rfl rfl) (Eq.trans (q_iload_n (pc := 20) dX12_heaviest_20 rfl rfl) (zdpos (q_callV (as := [.int a2]) (rest := []) (l0 := [.ref 66, .int a2, .null]) (pc := 21) dX12_heaviest_21 zC_12_300 rfl (z_recv zl_66 zh_66) rfl rfl) (by omega)))) (fun hz2 => Eq.trans (q_iconst (v := (-1)) (pc := 17) dX12_heaviest_17 rfl) (q_iret (pc := 18) dX12_heaviest_18 rfl rfl)))))))))))
theorem b_X12_heaviest_24 {X : zX} {d : Nat} {Q : Option Value → zH → Prop} (hd : 1 ≤ d) (σ : zS) (l1 : Int32) (l2 : Int32) (t0 : Int32)  : zwp X d MX12_heaviest 24 [.ref 66, .int l1, .int l2, .null] [.int t0] (zen σ) Q = (if 0 ≤ t0 then zwp X (d - 1) MX12_goAll 0 [.ref 66] [] (zen σ) (fun v h' => zwp X d MX12_heaviest 35 [.ref 66, .int l1, .int l2, .int t0] (zpsh v []) h' Q) else Q (some (.int t0)) (zen σ)) :=
  Eq.trans (q_istore_n (ls' := [.ref 66, .int l1, .int l2, .int t0]) (pc := 24) dX12_heaviest_24 rfl (Nat.le_of_ble_eq_true rfl) rfl) (Eq.trans (q_iload_n (pc := 25) dX12_heaviest_25 rfl rfl) (Eq.trans (q_if_ge (tgt := 31) (pc := 26) dX12_heaviest_26 rfl) (zite (fun hz1 => Eq.trans (q_aload_n (pc := 31) dX12_heaviest_31 rfl rfl) (zdpos (q_callV (as := []) (rest := []) (l0 := [.ref 66]) (pc := 32) dX12_heaviest_32 zC_12_303 rfl (z_recv zl_66 zh_66) rfl rfl) (by omega))) (fun hz1 => Eq.trans (q_iload_n (pc := 29) dX12_heaviest_29 rfl rfl) (q_iret (pc := 30) dX12_heaviest_30 rfl rfl)))))
theorem b_X12_heaviest_35 {X : zX} {d : Nat} {Q : Option Value → zH → Prop} (hd : 1 ≤ d) (σ : zS) (l1 : Int32) (l2 : Int32) (l3 : Int32)  : zwp X d MX12_heaviest 35 [.ref 66, .int l1, .int l2, .int l3] [] (zen σ) Q = zwp X (d - 1) MX12_heaviestAt 0 [.ref 66, .int l2, .null, .null] [] (zen σ) (fun v h' => zwp X d MX12_heaviest 40 [.ref 66, .int l1, .int l2, .int l3] (zpsh v []) h' Q) :=
  Eq.trans (q_aload_n (pc := 35) dX12_heaviest_35 rfl rfl) (Eq.trans (q_iload_n (pc := 36) dX12_heaviest_36 rfl rfl) (zdpos (q_callV (as := [.int l2]) (rest := []) (l0 := [.ref 66, .int l2, .null, .null]) (pc := 37) dX12_heaviest_37 zC_12_315 rfl (z_recv zl_66 zh_66) rfl rfl) (by omega)))
theorem b_X12_heaviest_40 {X : zX} {d : Nat} {Q : Option Value → zH → Prop} (σ : zS) (l1 : Int32) (l2 : Int32) (l3 : Int32) (t0 : Int32)  : zwp X d MX12_heaviest 40 [.ref 66, .int l1, .int l2, .int l3] [.int t0] (zen σ) Q = Q (some (.int t0)) (zen σ) :=
  q_iret (pc := 40) dX12_heaviest_40 rfl rfl
theorem b_X12_holdsBehind_0 {X : zX} {d : Nat} {Q : Option Value → zH → Prop} (σ : zS) (a2 : Int32) (a3 : Int32) (a4 : Int32)  : zwp X d MX12_holdsBehind 0 [.ref 66, .int a2, .int a3, .int a4, .null] [] (zen σ) Q = zwp X d MX12_holdsBehind 3 [.ref 66, .int a2, .int a3, .int a4, .int 0] [] (zen σ) Q :=
  Eq.trans (q_iconst (v := 0) (pc := 0) dX12_holdsBehind_0 rfl) (Eq.trans (q_istore (ls' := [.ref 66, .int a2, .int a3, .int a4, .int 0]) (pc := 1) dX12_holdsBehind_1 (Nat.le_of_ble_eq_true rfl) rfl) (rfl))
theorem b_X12_holdsBehind_3 {X : zX} {d : Nat} {Q : Option Value → zH → Prop} (hd : 1 ≤ d) (σ : zS) (l1 : Int32) (l2 : Int32) (l3 : Int32) (l4 : Int32)  : zwp X d MX12_holdsBehind 3 [.ref 66, .int l1, .int l2, .int l3, .int l4] [] (zen σ) Q = (if (gi σ 66 9) ≤ l4 then Q (some (.int 1)) (zen σ) else (p_X12_thawed σ l4 (l3 + (l4 * l2)) ∧ (if l1 ≤ (f_X12_thawed σ l4 (l3 + (l4 * l2))) then zwp X d MX12_holdsBehind 3 [.ref 66, .int l1, .int l2, .int l3, .int (l4 + 1)] [] (zen σ) Q else Q (some (.int 0)) (zen σ)))) :=
  Eq.trans (q_iload (pc := 3) dX12_holdsBehind_3 rfl) (Eq.trans (q_aload_n (pc := 5) dX12_holdsBehind_5 rfl rfl) (Eq.trans (q_getf (pc := 6) dX12_holdsBehind_6 zF_12_28 (z_rfiE (x := (gi σ 66 9)) zl_66 zh_66 (by decide) rfl rfl)) (Eq.trans (q_icmp_ge (tgt := 36) (pc := 9) dX12_holdsBehind_9 rfl) (zite (fun hz1 => Eq.trans (q_iconst (v := 1) (pc := 36) dX12_holdsBehind_36 rfl) (q_zretK (pc := 37) dX12_holdsBehind_37 rfl (by decide))) (fun hz1 => Eq.trans (q_aload_n (pc := 12) dX12_holdsBehind_12 rfl rfl) (Eq.trans (q_iload (pc := 13) dX12_holdsBehind_13 rfl) (Eq.trans (q_iload_n (pc := 15) dX12_holdsBehind_15 rfl rfl) (Eq.trans (q_iload (pc := 16) dX12_holdsBehind_16 rfl) (Eq.trans (q_iload_n (pc := 18) dX12_holdsBehind_18 rfl rfl) (Eq.trans (q_imul (pc := 19) dX12_holdsBehind_19) (Eq.trans (q_iadd (pc := 20) dX12_holdsBehind_20) (Eq.trans (q_sumIP (q_callV (as := [.int l4, .int (l3 + (l4 * l2))]) (rest := []) (l0 := [.ref 66, .int l4, .int (l3 + (l4 * l2))]) (pc := 21) dX12_holdsBehind_21 zC_12_266 rfl (z_recv zl_66 zh_66) rfl rfl) (by omega) (s_X12_thawed σ l4 (l3 + (l4 * l2)))) (zand fun hz2 => Eq.trans (q_iload_n (pc := 24) dX12_holdsBehind_24 rfl rfl) (Eq.trans (q_icmp_ge (tgt := 30) (pc := 25) dX12_holdsBehind_25 rfl) (zite (fun hz3 => Eq.trans (q_iinc (c := 1) (ls' := [.ref 66, .int l1, .int l2, .int l3, .int (l4 + 1)]) (pc := 30) dX12_holdsBehind_30 rfl rfl rfl) (Eq.trans (q_goto (tgt := 3) (pc := 33) dX12_holdsBehind_33 rfl) (rfl))) (fun hz3 => Eq.trans (q_iconst (v := 0) (pc := 28) dX12_holdsBehind_28 rfl) (q_zretK (pc := 29) dX12_holdsBehind_29 rfl (by decide))))))))))))))))))
theorem b_X12_waits_0 {X : zX} {d : Nat} {Q : Option Value → zH → Prop} (hd : 2 ≤ d) (σ : zS) (a2 : Int32) (a3 : Int32)  : zwp X d MX12_waits 0 [.ref 66, .int a2, .int a3, .null, .null, .null] [] (zen σ) Q = (if (f_X12_isShelf σ a2) = 0 then Q (some (.int (-1))) (zen σ) else (if ¬ (f_X12_areWeight σ a3) = 0 then zwp X (d - 1) MX12_layOr 0 [.ref 66, .int a2, .null] [] (zen σ) (fun v h' => zwp X d MX12_waits 21 [.ref 66, .int a2, .int a3, .null, .null, .null] (zpsh v []) h' Q) else Q (some (.int (-1))) (zen σ))) :=
  Eq.trans (q_iload_n (pc := 0) dX12_waits_0 rfl rfl) (Eq.trans (q_sumI (q_callS (as := [.int a2]) (rest := []) (l0 := [.int a2]) (pc := 1) dX12_waits_1 zSN_12_139 zC_12_139 rfl rfl rfl) (by omega) (s_X12_isShelf (hd := by omega) σ a2)) (Eq.trans (q_if_eq (tgt := 14) (pc := 4) dX12_waits_4 rfl) (zite (fun hz1 => Eq.trans (q_iconst (v := (-1)) (pc := 14) dX12_waits_14 rfl) (q_iret (pc := 15) dX12_waits_15 rfl rfl)) (fun hz1 => Eq.trans (q_iload_n (pc := 7) dX12_waits_7 rfl rfl) (Eq.trans (q_sumI (q_callS (as := [.int a3]) (rest := []) (l0 := [.int a3]) (pc := 8) dX12_waits_8 zSN_12_309 zC_12_309 rfl rfl rfl) (by omega) (s_X12_areWeight σ a3)) (Eq.trans (q_if_ne (tgt := 16) (pc := 11) dX12_waits_11 rfl) (zite (fun hz2 => Eq.trans (q_aload_n (pc := 16) dX12_waits_16 rfl rfl) (Eq.trans (q_iload_n (pc := 17) dX12_waits_17 rfl rfl) (zdpos (q_callV (as := [.int a2]) (rest := []) (l0 := [.ref 66, .int a2, .null]) (pc := 18) dX12_waits_18 zC_12_300 rfl (z_recv zl_66 zh_66) rfl rfl) (by omega)))) (fun hz2 => Eq.trans (q_iconst (v := (-1)) (pc := 14) dX12_waits_14 rfl) (q_iret (pc := 15) dX12_waits_15 rfl rfl)))))))))
theorem b_X12_waits_39 {X : zX} {d : Nat} {Q : Option Value → zH → Prop} (hd : 1 ≤ d) (σ : zS) (l1 : Int32) (l2 : Int32) (l3 : Int32) (l4 : Int32) (l5 : Int32)  : zwp X d MX12_waits 39 [.ref 66, .int l1, .int l2, .int l3, .int l4, .int l5] [] (zen σ) Q = (if 999 < l5 then Q (some (.int l4)) (zen σ) else zwp X (d - 1) MX12_holdsBehind 0 [.ref 66, .int (l2 / 10), .int (l2 - l2 / 10 * 10), .int l5, .null] [] (zen σ) (fun v h' => zwp X d MX12_waits 61 [.ref 66, .int l1, .int l2, .int l3, .int l4, .int l5] (zpsh v []) h' Q)) :=
  Eq.trans (q_iload (pc := 39) dX12_waits_39 rfl) (Eq.trans (q_sipush (v := 999) (pc := 41) dX12_waits_41 rfl) (Eq.trans (q_icmp_gt (tgt := 74) (pc := 44) dX12_waits_44 rfl) (zite (fun hz1 => Eq.trans (q_iload (pc := 74) dX12_waits_74 rfl) (q_iret (pc := 76) dX12_waits_76 rfl rfl)) (fun hz1 => Eq.trans (q_aload_n (pc := 47) dX12_waits_47 rfl rfl) (Eq.trans (q_iload_n (pc := 48) dX12_waits_48 rfl rfl) (Eq.trans (q_bipush (v := 10) (pc := 49) dX12_waits_49 rfl) (Eq.trans (q_idivK (pc := 51) dX12_waits_51 (by decide)) (Eq.trans (q_iload_n (pc := 52) dX12_waits_52 rfl rfl) (Eq.trans (q_bipush (v := 10) (pc := 53) dX12_waits_53 rfl) (Eq.trans (q_iremK (pc := 55) dX12_waits_55 (by decide)) (Eq.trans (q_iload (pc := 56) dX12_waits_56 rfl) (zdpos (q_callV (as := [.int (l2 / 10), .int (l2 - l2 / 10 * 10), .int l5]) (rest := []) (l0 := [.ref 66, .int (l2 / 10), .int (l2 - l2 / 10 * 10), .int l5, .null]) (pc := 58) dX12_waits_58 zC_12_318 rfl (z_recv zl_66 zh_66) rfl rfl) (by omega)))))))))))))
theorem b_X12_waits_21 {X : zX} {d : Nat} {Q : Option Value → zH → Prop} (hd : 1 ≤ d) (σ : zS) (l1 : Int32) (l2 : Int32) (t0 : Int32)  : zwp X d MX12_waits 21 [.ref 66, .int l1, .int l2, .null, .null, .null] [.int t0] (zen σ) Q = (if 0 ≤ t0 then zwp X (d - 1) MX12_goAll 0 [.ref 66] [] (zen σ) (fun v h' => zwp X d MX12_waits 32 [.ref 66, .int l1, .int l2, .int t0, .null, .null] (zpsh v []) h' Q) else Q (some (.int t0)) (zen σ)) :=
  Eq.trans (q_istore_n (ls' := [.ref 66, .int l1, .int l2, .int t0, .null, .null]) (pc := 21) dX12_waits_21 rfl (Nat.le_of_ble_eq_true rfl) rfl) (Eq.trans (q_iload_n (pc := 22) dX12_waits_22 rfl rfl) (Eq.trans (q_if_ge (tgt := 28) (pc := 23) dX12_waits_23 rfl) (zite (fun hz1 => Eq.trans (q_aload_n (pc := 28) dX12_waits_28 rfl rfl) (zdpos (q_callV (as := []) (rest := []) (l0 := [.ref 66]) (pc := 29) dX12_waits_29 zC_12_303 rfl (z_recv zl_66 zh_66) rfl rfl) (by omega))) (fun hz1 => Eq.trans (q_iload_n (pc := 26) dX12_waits_26 rfl rfl) (q_iret (pc := 27) dX12_waits_27 rfl rfl)))))
theorem b_X12_waits_61 {X : zX} {d : Nat} {Q : Option Value → zH → Prop} (σ : zS) (l1 : Int32) (l2 : Int32) (l3 : Int32) (l4 : Int32) (l5 : Int32) (t0 : Int32)  : zwp X d MX12_waits 61 [.ref 66, .int l1, .int l2, .int l3, .int l4, .int l5] [.int t0] (zen σ) Q = (if t0 = 0 then Q (some (.int l4)) (zen σ) else zwp X d MX12_waits 39 [.ref 66, .int l1, .int l2, .int l3, .int l5, .int (l5 + 1)] [] (zen σ) Q) :=
  Eq.trans (q_if_eq (tgt := 74) (pc := 61) dX12_waits_61 rfl) (zite (fun hz1 => Eq.trans (q_iload (pc := 74) dX12_waits_74 rfl) (q_iret (pc := 76) dX12_waits_76 rfl rfl)) (fun hz1 => Eq.trans (q_iload (pc := 64) dX12_waits_64 rfl) (Eq.trans (q_istore (ls' := [.ref 66, .int l1, .int l2, .int l3, .int l5, .int l5]) (pc := 66) dX12_waits_66 (Nat.le_of_ble_eq_true rfl) rfl) (Eq.trans (q_iinc (c := 1) (ls' := [.ref 66, .int l1, .int l2, .int l3, .int l5, .int (l5 + 1)]) (pc := 68) dX12_waits_68 rfl rfl rfl) (Eq.trans (q_goto (tgt := 39) (pc := 71) dX12_waits_71 rfl) (rfl))))))
theorem b_X12_waits_32 {X : zX} {d : Nat} {Q : Option Value → zH → Prop} (σ : zS) (l1 : Int32) (l2 : Int32) (l3 : Int32)  : zwp X d MX12_waits 32 [.ref 66, .int l1, .int l2, .int l3, .null, .null] [] (zen σ) Q = zwp X d MX12_waits 39 [.ref 66, .int l1, .int l2, .int l3, .int (-2), .int 0] [] (zen σ) Q :=
  Eq.trans (q_bipush (v := (-2)) (pc := 32) dX12_waits_32 rfl) (Eq.trans (q_istore (ls' := [.ref 66, .int l1, .int l2, .int l3, .int (-2), .null]) (pc := 34) dX12_waits_34 (Nat.le_of_ble_eq_true rfl) rfl) (Eq.trans (q_iconst (v := 0) (pc := 36) dX12_waits_36 rfl) (Eq.trans (q_istore (ls' := [.ref 66, .int l1, .int l2, .int l3, .int (-2), .int 0]) (pc := 37) dX12_waits_37 (Nat.le_of_ble_eq_true rfl) rfl) (rfl))))
theorem b_X12_first_0 {X : zX} {d : Nat} {Q : Option Value → zH → Prop} (hd : 2 ≤ d) (σ : zS) (a2 : Int32) (a3 : Int32)  : zwp X d MX12_first 0 [.ref 66, .int a2, .int a3, .null, .null] [] (zen σ) Q = (if (f_X12_isShelf σ a2) = 0 then Q (some (.int (-1))) (zen σ) else (if ¬ (f_X12_areWeight σ a3) = 0 then zwp X (d - 1) MX12_layOr 0 [.ref 66, .int a2, .null] [] (zen σ) (fun v h' => zwp X d MX12_first 21 [.ref 66, .int a2, .int a3, .null, .null] (zpsh v []) h' Q) else Q (some (.int (-1))) (zen σ))) :=
  Eq.trans (q_iload_n (pc := 0) dX12_first_0 rfl rfl) (Eq.trans (q_sumI (q_callS (as := [.int a2]) (rest := []) (l0 := [.int a2]) (pc := 1) dX12_first_1 zSN_12_139 zC_12_139 rfl rfl rfl) (by omega) (s_X12_isShelf (hd := by omega) σ a2)) (Eq.trans (q_if_eq (tgt := 14) (pc := 4) dX12_first_4 rfl) (zite (fun hz1 => Eq.trans (q_iconst (v := (-1)) (pc := 14) dX12_first_14 rfl) (q_iret (pc := 15) dX12_first_15 rfl rfl)) (fun hz1 => Eq.trans (q_iload_n (pc := 7) dX12_first_7 rfl rfl) (Eq.trans (q_sumI (q_callS (as := [.int a3]) (rest := []) (l0 := [.int a3]) (pc := 8) dX12_first_8 zSN_12_309 zC_12_309 rfl rfl rfl) (by omega) (s_X12_areWeight σ a3)) (Eq.trans (q_if_ne (tgt := 16) (pc := 11) dX12_first_11 rfl) (zite (fun hz2 => Eq.trans (q_aload_n (pc := 16) dX12_first_16 rfl rfl) (Eq.trans (q_iload_n (pc := 17) dX12_first_17 rfl rfl) (zdpos (q_callV (as := [.int a2]) (rest := []) (l0 := [.ref 66, .int a2, .null]) (pc := 18) dX12_first_18 zC_12_300 rfl (z_recv zl_66 zh_66) rfl rfl) (by omega)))) (fun hz2 => Eq.trans (q_iconst (v := (-1)) (pc := 14) dX12_first_14 rfl) (q_iret (pc := 15) dX12_first_15 rfl rfl)))))))))
theorem b_X12_first_31 {X : zX} {d : Nat} {Q : Option Value → zH → Prop} (hd : 1 ≤ d) (σ : zS) (l1 : Int32) (l2 : Int32) (l3 : Int32) (l4 : Int32)  : zwp X d MX12_first 31 [.ref 66, .int l1, .int l2, .int l3, .int l4] [] (zen σ) Q = (if (gi σ 66 39) < l4 then Q (some (.int (-2))) (zen σ) else zwp X (d - 1) MX12_goProgramme 0 [.ref 66, .int l4, .int (-1), .null] [] (zen σ) (fun v h' => zwp X d MX12_first 47 [.ref 66, .int l1, .int l2, .int l3, .int l4] (zpsh v []) h' Q)) :=
  Eq.trans (q_iload (pc := 31) dX12_first_31 rfl) (Eq.trans (q_aload_n (pc := 33) dX12_first_33 rfl rfl) (Eq.trans (q_getf (pc := 34) dX12_first_34 zF_12_279 (z_rfiE (x := (gi σ 66 39)) zl_66 zh_66 (by decide) rfl rfl)) (Eq.trans (q_icmp_gt (tgt := 73) (pc := 37) dX12_first_37 rfl) (zite (fun hz1 => Eq.trans (q_bipush (v := (-2)) (pc := 73) dX12_first_73 rfl) (q_iret (pc := 75) dX12_first_75 rfl rfl)) (fun hz1 => Eq.trans (q_aload_n (pc := 40) dX12_first_40 rfl rfl) (Eq.trans (q_iload (pc := 41) dX12_first_41 rfl) (Eq.trans (q_iconst (v := (-1)) (pc := 43) dX12_first_43 rfl) (zdpos (q_callV (as := [.int l4, .int (-1)]) (rest := []) (l0 := [.ref 66, .int l4, .int (-1), .null]) (pc := 44) dX12_first_44 zC_12_291 rfl (z_recv zl_66 zh_66) rfl rfl) (by omega)))))))))
theorem b_X12_first_21 {X : zX} {d : Nat} {Q : Option Value → zH → Prop} (σ : zS) (l1 : Int32) (l2 : Int32) (t0 : Int32)  : zwp X d MX12_first 21 [.ref 66, .int l1, .int l2, .null, .null] [.int t0] (zen σ) Q = (if 0 ≤ t0 then zwp X d MX12_first 31 [.ref 66, .int l1, .int l2, .int t0, .int 0] [] (zen σ) Q else Q (some (.int t0)) (zen σ)) :=
  Eq.trans (q_istore_n (ls' := [.ref 66, .int l1, .int l2, .int t0, .null]) (pc := 21) dX12_first_21 rfl (Nat.le_of_ble_eq_true rfl) rfl) (Eq.trans (q_iload_n (pc := 22) dX12_first_22 rfl rfl) (Eq.trans (q_if_ge (tgt := 28) (pc := 23) dX12_first_23 rfl) (zite (fun hz1 => Eq.trans (q_iconst (v := 0) (pc := 28) dX12_first_28 rfl) (Eq.trans (q_istore (ls' := [.ref 66, .int l1, .int l2, .int t0, .int 0]) (pc := 29) dX12_first_29 (Nat.le_of_ble_eq_true rfl) rfl) (rfl))) (fun hz1 => Eq.trans (q_iload_n (pc := 26) dX12_first_26 rfl rfl) (q_iret (pc := 27) dX12_first_27 rfl rfl)))))
theorem b_X12_first_47 {X : zX} {d : Nat} {Q : Option Value → zH → Prop} (hd : 1 ≤ d) (σ : zS) (l1 : Int32) (l2 : Int32) (l3 : Int32) (l4 : Int32)  : zwp X d MX12_first 47 [.ref 66, .int l1, .int l2, .int l3, .int l4] [] (zen σ) Q = zwp X (d - 1) MX12_fallsOn 0 [.ref 66, .int (l2 / 10), .int (l2 - l2 / 10 * 10), .null] [] (zen σ) (fun v h' => zwp X d MX12_first 59 [.ref 66, .int l1, .int l2, .int l3, .int l4] (zpsh v []) h' Q) :=
  Eq.trans (q_aload_n (pc := 47) dX12_first_47 rfl rfl) (Eq.trans (q_iload_n (pc := 48) dX12_first_48 rfl rfl) (Eq.trans (q_bipush (v := 10) (pc := 49) dX12_first_49 rfl) (Eq.trans (q_idivK (pc := 51) dX12_first_51 (by decide)) (Eq.trans (q_iload_n (pc := 52) dX12_first_52 rfl rfl) (Eq.trans (q_bipush (v := 10) (pc := 53) dX12_first_53 rfl) (Eq.trans (q_iremK (pc := 55) dX12_first_55 (by decide)) (zdpos (q_callV (as := [.int (l2 / 10), .int (l2 - l2 / 10 * 10)]) (rest := []) (l0 := [.ref 66, .int (l2 / 10), .int (l2 - l2 / 10 * 10), .null]) (pc := 56) dX12_first_56 zC_12_312 rfl (z_recv zl_66 zh_66) rfl rfl) (by omega))))))))
theorem b_X12_first_59 {X : zX} {d : Nat} {Q : Option Value → zH → Prop} (σ : zS) (l1 : Int32) (l2 : Int32) (l3 : Int32) (l4 : Int32) (t0 : Int32)  : zwp X d MX12_first 59 [.ref 66, .int l1, .int l2, .int l3, .int l4] [.int t0] (zen σ) Q = (if ¬ t0 = (-2) then zwp X d MX12_first 31 [.ref 66, .int l1, .int l2, .int l3, .int (l4 + 1)] [] (zen σ) Q else Q (some (.int l4)) (zen σ)) :=
  Eq.trans (q_bipush (v := (-2)) (pc := 59) dX12_first_59 rfl) (Eq.trans (q_icmp_ne (tgt := 67) (pc := 61) dX12_first_61 rfl) (zite (fun hz1 => Eq.trans (q_iinc (c := 1) (ls' := [.ref 66, .int l1, .int l2, .int l3, .int (l4 + 1)]) (pc := 67) dX12_first_67 rfl rfl rfl) (Eq.trans (q_goto (tgt := 31) (pc := 70) dX12_first_70 rfl) (rfl))) (fun hz1 => Eq.trans (q_iload (pc := 64) dX12_first_64 rfl) (q_iret (pc := 66) dX12_first_66 rfl rfl))))
theorem b_X12_metOrder_0 {X : zX} {d : Nat} {Q : Option Value → zH → Prop} (hd : 1 ≤ d) (σ : zS)  : zwp X d MX12_metOrder 0 [.ref 66, .null, .null] [] (zen σ) Q = zwp X (d - 1) MX12_goAll 0 [.ref 66] [] (zen σ) (fun v h' => zwp X d MX12_metOrder 4 [.ref 66, .null, .null] (zpsh v []) h' Q) :=
  Eq.trans (q_aload_n (pc := 0) dX12_metOrder_0 rfl rfl) (zdpos (q_callV (as := []) (rest := []) (l0 := [.ref 66]) (pc := 1) dX12_metOrder_1 zC_12_303 rfl (z_recv zl_66 zh_66) rfl rfl) (by omega))
theorem b_X12_metOrder_27 {X : zX} {d : Nat} {Q : Option Value → zH → Prop} (hd : 1 ≤ d) (σ : zS) (l1 : Int32)  : zwp X d MX12_metOrder 27 [.ref 66, .int l1, .null] [] (zen σ) Q = (if (gi σ 66 39) ≤ l1 then (if (gi σ 66 42) < 0 then Q none (zen σ) else zwp X (d - 1) MX12_wrongSeen 0 [.ref 66, .int (gi σ 66 42), .null] [] (zen σ) (fun v h' => zwp X d MX12_metOrder 68 [.ref 66, .int l1, .null] (zpsh v []) h' Q)) else (zin l1 21 = true ∧ (zin l1 8 = true ∧ zwp X d MX12_metOrder 27 [.ref 66, .int (l1 + 1), .null] [] (zen (si σ 89 (ix l1) (gi σ 88 (ix l1)))) Q))) :=
  Eq.trans (q_iload_n (pc := 27) dX12_metOrder_27 rfl rfl) (Eq.trans (q_aload_n (pc := 28) dX12_metOrder_28 rfl rfl) (Eq.trans (q_getf (pc := 29) dX12_metOrder_29 zF_12_279 (z_rfiE (x := (gi σ 66 39)) zl_66 zh_66 (by decide) rfl rfl)) (Eq.trans (q_icmp_ge (tgt := 53) (pc := 32) dX12_metOrder_32 rfl) (zite (fun hz1 => Eq.trans (q_aload_n (pc := 53) dX12_metOrder_53 rfl rfl) (Eq.trans (q_getf (pc := 54) dX12_metOrder_54 zF_12_324 (z_rfiE (x := (gi σ 66 42)) zl_66 zh_66 (by decide) rfl rfl)) (Eq.trans (q_if_lt (tgt := 71) (pc := 57) dX12_metOrder_57 rfl) (zite (fun hz2 => q_vret (pc := 71) dX12_metOrder_71 rfl) (fun hz2 => Eq.trans (q_aload_n (pc := 60) dX12_metOrder_60 rfl rfl) (Eq.trans (q_aload_n (pc := 61) dX12_metOrder_61 rfl rfl) (Eq.trans (q_getf (pc := 62) dX12_metOrder_62 zF_12_324 (z_rfiE (x := (gi σ 66 42)) zl_66 zh_66 (by decide) rfl rfl)) (zdpos (q_callV (as := [.int (gi σ 66 42)]) (rest := []) (l0 := [.ref 66, .int (gi σ 66 42), .null]) (pc := 65) dX12_metOrder_65 zC_12_327 rfl (z_recv zl_66 zh_66) rfl rfl) (by omega))))))))) (fun hz1 => Eq.trans (q_aload_n (pc := 35) dX12_metOrder_35 rfl rfl) (Eq.trans (q_getf (pc := 36) dX12_metOrder_36 zF_12_91 (z_rfr zl_66 zh_66 (by decide) rfl)) (Eq.trans (q_iload_n (pc := 39) dX12_metOrder_39 rfl rfl) (Eq.trans (q_aload_n (pc := 40) dX12_metOrder_40 rfl rfl) (Eq.trans (q_getf (pc := 41) dX12_metOrder_41 zF_12_88 (z_rfr zl_66 zh_66 (by decide) rfl)) (Eq.trans (q_iload_n (pc := 44) dX12_metOrder_44 rfl rfl) (Eq.trans (qe_iaload (x := (gi σ 88 (ix l1))) (pc := 45) dX12_metOrder_45 (z_ia zl_88 zh_88 (by decide)) rfl) (zand fun hz3 => Eq.trans (q_iastore (pc := 46) dX12_metOrder_46 (zN_lt zl_89) (z_ia zl_89 zh_89 (by decide)) (z_pi zl_89 zh_89 (by decide))) (zand fun hz4 => Eq.trans (q_iinc (c := 1) (ls' := [.ref 66, .int (l1 + 1), .null]) (pc := 47) dX12_metOrder_47 rfl rfl rfl) (Eq.trans (q_goto (tgt := 27) (pc := 50) dX12_metOrder_50 rfl) (rfl)))))))))))))))
theorem b_X12_metOrder_76 {X : zX} {d : Nat} {Q : Option Value → zH → Prop} (σ : zS) (l1 : Int32) (l2 : Int32)  : zwp X d MX12_metOrder 76 [.ref 66, .int l1, .int l2] [] (zen σ) Q = (if (gi σ 66 39) ≤ l2 then (if ¬ (gi σ 66 43) = 0 then Q none (zen (si σ 66 43 ((gi σ 66 43) + 1))) else Q none (zen (si (si σ 66 44 l1) 66 43 ((gi σ 66 43) + 1)))) else (zin l2 21 = true ∧ zwp X d MX12_metOrder 76 [.ref 66, .int ((10 * l1) + (gi σ 88 (ix l2))), .int (l2 + 1)] [] (zen σ) Q)) :=
  Eq.trans (q_iload_n (pc := 76) dX12_metOrder_76 rfl rfl) (Eq.trans (q_aload_n (pc := 77) dX12_metOrder_77 rfl rfl) (Eq.trans (q_getf (pc := 78) dX12_metOrder_78 zF_12_279 (z_rfiE (x := (gi σ 66 39)) zl_66 zh_66 (by decide) rfl rfl)) (Eq.trans (q_icmp_ge (tgt := 102) (pc := 81) dX12_metOrder_81 rfl) (zite (fun hz1 => Eq.trans (q_aload_n (pc := 102) dX12_metOrder_102 rfl rfl) (Eq.trans (q_getf (pc := 103) dX12_metOrder_103 zF_12_330 (z_rfiE (x := (gi σ 66 43)) zl_66 zh_66 (by decide) rfl rfl)) (Eq.trans (q_if_ne (tgt := 114) (pc := 106) dX12_metOrder_106 rfl) (zite (fun hz2 => Eq.trans (q_aload_n (pc := 114) dX12_metOrder_114 rfl rfl) (Eq.trans (q_dup_ref (pc := 115) dX12_metOrder_115) (Eq.trans (q_getf (pc := 116) dX12_metOrder_116 zF_12_330 (z_rfiE (x := (gi σ 66 43)) zl_66 zh_66 (by decide) rfl rfl)) (Eq.trans (q_iconst (v := 1) (pc := 119) dX12_metOrder_119 rfl) (Eq.trans (q_iadd (pc := 120) dX12_metOrder_120) (Eq.trans (q_pf (pc := 121) dX12_metOrder_121 zF_12_330 zPF_12_43 (z_pf zl_66 zh_66 rfl)) (q_vret (pc := 124) dX12_metOrder_124 rfl))))))) (fun hz2 => Eq.trans (q_aload_n (pc := 109) dX12_metOrder_109 rfl rfl) (Eq.trans (q_iload_n (pc := 110) dX12_metOrder_110 rfl rfl) (Eq.trans (q_pf (pc := 111) dX12_metOrder_111 zF_12_333 zPF_12_44 (z_pf zl_66 zh_66 rfl)) (Eq.trans (q_aload_n (pc := 114) dX12_metOrder_114 rfl rfl) (Eq.trans (q_dup_ref (pc := 115) dX12_metOrder_115) (Eq.trans (q_getf (pc := 116) dX12_metOrder_116 zF_12_330 (z_rfiE (x := (gi σ 66 43)) zl_66 zh_66 (by decide) rfl rfl)) (Eq.trans (q_iconst (v := 1) (pc := 119) dX12_metOrder_119 rfl) (Eq.trans (q_iadd (pc := 120) dX12_metOrder_120) (Eq.trans (q_pf (pc := 121) dX12_metOrder_121 zF_12_330 zPF_12_43 (z_pf zl_66 zh_66 rfl)) (q_vret (pc := 124) dX12_metOrder_124 rfl)))))))))))))) (fun hz1 => Eq.trans (q_bipush (v := 10) (pc := 84) dX12_metOrder_84 rfl) (Eq.trans (q_iload_n (pc := 86) dX12_metOrder_86 rfl rfl) (Eq.trans (q_imul (pc := 87) dX12_metOrder_87) (Eq.trans (q_aload_n (pc := 88) dX12_metOrder_88 rfl rfl) (Eq.trans (q_getf (pc := 89) dX12_metOrder_89 zF_12_88 (z_rfr zl_66 zh_66 (by decide) rfl)) (Eq.trans (q_iload_n (pc := 92) dX12_metOrder_92 rfl rfl) (Eq.trans (qe_iaload (x := (gi σ 88 (ix l2))) (pc := 93) dX12_metOrder_93 (z_ia zl_88 zh_88 (by decide)) rfl) (zand fun hz3 => Eq.trans (q_iadd (pc := 94) dX12_metOrder_94) (Eq.trans (q_istore_n (ls' := [.ref 66, .int ((10 * l1) + (gi σ 88 (ix l2))), .int l2]) (pc := 95) dX12_metOrder_95 rfl (Nat.le_of_ble_eq_true rfl) rfl) (Eq.trans (q_iinc (c := 1) (ls' := [.ref 66, .int ((10 * l1) + (gi σ 88 (ix l2))), .int (l2 + 1)]) (pc := 96) dX12_metOrder_96 rfl rfl rfl) (Eq.trans (q_goto (tgt := 76) (pc := 99) dX12_metOrder_99 rfl) (rfl))))))))))))))))
theorem b_X12_metOrder_4 {X : zX} {d : Nat} {Q : Option Value → zH → Prop} (hd : 1 ≤ d) (σ : zS)  : zwp X d MX12_metOrder 4 [.ref 66, .null, .null] [] (zen σ) Q = zwp X (d - 1) MX12_heaviestAt 0 [.ref 66, .int 0, .null, .null] [] (zen σ) (fun v h' => zwp X d MX12_metOrder 9 [.ref 66, .null, .null] (zpsh v []) h' Q) :=
  Eq.trans (q_aload_n (pc := 4) dX12_metOrder_4 rfl rfl) (Eq.trans (q_iconst (v := 0) (pc := 5) dX12_metOrder_5 rfl) (zdpos (q_callV (as := [.int 0]) (rest := []) (l0 := [.ref 66, .int 0, .null, .null]) (pc := 6) dX12_metOrder_6 zC_12_315 rfl (z_recv zl_66 zh_66) rfl rfl) (by omega)))
theorem b_X12_metOrder_68 {X : zX} {d : Nat} {Q : Option Value → zH → Prop} (σ : zS) (w1 : Value) (t0 : Int32)  : zwp X d MX12_metOrder 68 [.ref 66, w1, .null] [.int t0] (zen σ) Q = (if t0 < 0 then zwp X d MX12_metOrder 76 [.ref 66, .int 0, .int 0] [] (zen σ) Q else Q none (zen σ)) :=
  Eq.trans (q_if_lt (tgt := 72) (pc := 68) dX12_metOrder_68 rfl) (zite (fun hz1 => Eq.trans (q_iconst (v := 0) (pc := 72) dX12_metOrder_72 rfl) (Eq.trans (q_istore_n (ls' := [.ref 66, .int 0, .null]) (pc := 73) dX12_metOrder_73 rfl (Nat.le_of_ble_eq_true rfl) rfl) (Eq.trans (q_iconst (v := 0) (pc := 74) dX12_metOrder_74 rfl) (Eq.trans (q_istore_n (ls' := [.ref 66, .int 0, .int 0]) (pc := 75) dX12_metOrder_75 rfl (Nat.le_of_ble_eq_true rfl) rfl) (rfl))))) (fun hz1 => q_vret (pc := 71) dX12_metOrder_71 rfl))
theorem b_X12_metOrder_9 {X : zX} {d : Nat} {Q : Option Value → zH → Prop} (hd : 1 ≤ d) (σ : zS) (t0 : Int32)  : zwp X d MX12_metOrder 9 [.ref 66, .null, .null] [.int t0] (zen σ) Q = (if t0 ≤ (gi σ 66 41) then (if (gi σ 66 42) < 0 then Q none (zen σ) else zwp X (d - 1) MX12_wrongSeen 0 [.ref 66, .int (gi σ 66 42), .null] [] (zen σ) (fun v h' => zwp X d MX12_metOrder 68 [.ref 66, .null, .null] (zpsh v []) h' Q)) else zwp X (d - 1) MX12_heaviestAt 0 [.ref 66, .int 0, .null, .null] [] (zen σ) (fun v h' => zwp X d MX12_metOrder 22 [.ref 66, .null, .null] (zpsh v [.ref 66]) h' Q)) :=
  Eq.trans (q_aload_n (pc := 9) dX12_metOrder_9 rfl rfl) (Eq.trans (q_getf (pc := 10) dX12_metOrder_10 zF_12_321 (z_rfiE (x := (gi σ 66 41)) zl_66 zh_66 (by decide) rfl rfl)) (Eq.trans (q_icmp_le (tgt := 53) (pc := 13) dX12_metOrder_13 rfl) (zite (fun hz1 => Eq.trans (q_aload_n (pc := 53) dX12_metOrder_53 rfl rfl) (Eq.trans (q_getf (pc := 54) dX12_metOrder_54 zF_12_324 (z_rfiE (x := (gi σ 66 42)) zl_66 zh_66 (by decide) rfl rfl)) (Eq.trans (q_if_lt (tgt := 71) (pc := 57) dX12_metOrder_57 rfl) (zite (fun hz2 => q_vret (pc := 71) dX12_metOrder_71 rfl) (fun hz2 => Eq.trans (q_aload_n (pc := 60) dX12_metOrder_60 rfl rfl) (Eq.trans (q_aload_n (pc := 61) dX12_metOrder_61 rfl rfl) (Eq.trans (q_getf (pc := 62) dX12_metOrder_62 zF_12_324 (z_rfiE (x := (gi σ 66 42)) zl_66 zh_66 (by decide) rfl rfl)) (zdpos (q_callV (as := [.int (gi σ 66 42)]) (rest := []) (l0 := [.ref 66, .int (gi σ 66 42), .null]) (pc := 65) dX12_metOrder_65 zC_12_327 rfl (z_recv zl_66 zh_66) rfl rfl) (by omega))))))))) (fun hz1 => Eq.trans (q_aload_n (pc := 16) dX12_metOrder_16 rfl rfl) (Eq.trans (q_aload_n (pc := 17) dX12_metOrder_17 rfl rfl) (Eq.trans (q_iconst (v := 0) (pc := 18) dX12_metOrder_18 rfl) (zdpos (q_callV (as := [.int 0]) (rest := [.ref 66]) (l0 := [.ref 66, .int 0, .null, .null]) (pc := 19) dX12_metOrder_19 zC_12_315 rfl (z_recv zl_66 zh_66) rfl rfl) (by omega))))))))
theorem b_X12_metOrder_22 {X : zX} {d : Nat} {Q : Option Value → zH → Prop} (σ : zS) (t0 : Int32)  : zwp X d MX12_metOrder 22 [.ref 66, .null, .null] [.int t0, .ref 66] (zen σ) Q = zwp X d MX12_metOrder 27 [.ref 66, .int 0, .null] [] (zen (si σ 66 41 t0)) Q :=
  Eq.trans (q_pf (pc := 22) dX12_metOrder_22 zF_12_321 zPF_12_41 (z_pf zl_66 zh_66 rfl)) (Eq.trans (q_iconst (v := 0) (pc := 25) dX12_metOrder_25 rfl) (Eq.trans (q_istore_n (ls' := [.ref 66, .int 0, .null]) (pc := 26) dX12_metOrder_26 rfl (Nat.le_of_ble_eq_true rfl) rfl) (rfl)))
theorem b_X12_goOrders_0 {X : zX} {d : Nat} {Q : Option Value → zH → Prop} (hd : 1 ≤ d) (σ : zS) (a2 : Int32)  : zwp X d MX12_goOrders 0 [.ref 66, .int a2, .null] [] (zen σ) Q = (if ¬ (gi σ 66 39) = (gi σ 66 6) then zwp X d MX12_goOrders 18 [.ref 66, .int a2, .int 0] [] (zen σ) Q else zwp X (d - 1) MX12_metOrder 0 [.ref 66, .null, .null] [] (zen σ) (fun v h' => zwp X d MX12_goOrders 15 [.ref 66, .int a2, .null] (zpsh v []) h' Q)) :=
  Eq.trans (q_aload_n (pc := 0) dX12_goOrders_0 rfl rfl) (Eq.trans (q_getf (pc := 1) dX12_goOrders_1 zF_12_279 (z_rfiE (x := (gi σ 66 39)) zl_66 zh_66 (by decide) rfl rfl)) (Eq.trans (q_aload_n (pc := 4) dX12_goOrders_4 rfl rfl) (Eq.trans (q_getf (pc := 5) dX12_goOrders_5 zF_12_132 (z_rfiE (x := (gi σ 66 6)) zl_66 zh_66 (by decide) rfl rfl)) (Eq.trans (q_icmp_ne (tgt := 16) (pc := 8) dX12_goOrders_8 rfl) (zite (fun hz1 => Eq.trans (q_iconst (v := 0) (pc := 16) dX12_goOrders_16 rfl) (Eq.trans (q_istore_n (ls' := [.ref 66, .int a2, .int 0]) (pc := 17) dX12_goOrders_17 rfl (Nat.le_of_ble_eq_true rfl) rfl) (rfl))) (fun hz1 => Eq.trans (q_aload_n (pc := 11) dX12_goOrders_11 rfl rfl) (zdpos (q_callV (as := []) (rest := []) (l0 := [.ref 66, .null, .null]) (pc := 12) dX12_goOrders_12 zC_12_336 rfl (z_recv zl_66 zh_66) rfl rfl) (by omega))))))))
theorem b_X12_goOrders_18 {X : zX} {d : Nat} {Q : Option Value → zH → Prop} (hd : 1 ≤ d) (σ : zS) (l1 : Int32) (l2 : Int32)  : zwp X d MX12_goOrders 18 [.ref 66, .int l1, .int l2] [] (zen σ) Q = (if (gi σ 66 6) ≤ l2 then Q none (zen σ) else (if ¬ ((l1 >>> (l2 &&& 31)) &&& 1) = 1 then (zin (gi σ 66 39) 21 = true ∧ zwp X (d - 1) MX12_goOrders 0 [.ref 66, .int (l1 ||| (1 <<< (l2 &&& 31))), .null] [] (zen (si (si σ 88 (ix (gi σ 66 39)) l2) 66 39 ((gi σ 66 39) + 1))) (fun v h' => zwp X d MX12_goOrders 67 [.ref 66, .int l1, .int l2] (zpsh v []) h' Q)) else zwp X d MX12_goOrders 18 [.ref 66, .int l1, .int (l2 + 1)] [] (zen σ) Q)) :=
  Eq.trans (q_iload_n (pc := 18) dX12_goOrders_18 rfl rfl) (Eq.trans (q_aload_n (pc := 19) dX12_goOrders_19 rfl rfl) (Eq.trans (q_getf (pc := 20) dX12_goOrders_20 zF_12_132 (z_rfiE (x := (gi σ 66 6)) zl_66 zh_66 (by decide) rfl rfl)) (Eq.trans (q_icmp_ge (tgt := 83) (pc := 23) dX12_goOrders_23 rfl) (zite (fun hz1 => q_vret (pc := 83) dX12_goOrders_83 rfl) (fun hz1 => Eq.trans (q_iload_n (pc := 26) dX12_goOrders_26 rfl rfl) (Eq.trans (q_iload_n (pc := 27) dX12_goOrders_27 rfl rfl) (Eq.trans (q_ishr (pc := 28) dX12_goOrders_28) (Eq.trans (q_iconst (v := 1) (pc := 29) dX12_goOrders_29 rfl) (Eq.trans (q_iand (pc := 30) dX12_goOrders_30) (Eq.trans (q_iconst (v := 1) (pc := 31) dX12_goOrders_31 rfl) (Eq.trans (q_icmp_ne (tgt := 38) (pc := 32) dX12_goOrders_32 rfl) (zite (fun hz2 => Eq.trans (q_aload_n (pc := 38) dX12_goOrders_38 rfl rfl) (Eq.trans (q_getf (pc := 39) dX12_goOrders_39 zF_12_88 (z_rfr zl_66 zh_66 (by decide) rfl)) (Eq.trans (q_aload_n (pc := 42) dX12_goOrders_42 rfl rfl) (Eq.trans (q_getf (pc := 43) dX12_goOrders_43 zF_12_279 (z_rfiE (x := (gi σ 66 39)) zl_66 zh_66 (by decide) rfl rfl)) (Eq.trans (q_iload_n (pc := 46) dX12_goOrders_46 rfl rfl) (Eq.trans (q_iastore (pc := 47) dX12_goOrders_47 (zN_lt zl_88) (z_ia zl_88 zh_88 (by decide)) (z_pi zl_88 zh_88 (by decide))) (zand fun hz3 => Eq.trans (q_aload_n (pc := 48) dX12_goOrders_48 rfl rfl) (Eq.trans (q_dup_ref (pc := 49) dX12_goOrders_49) (Eq.trans (q_getf (pc := 50) dX12_goOrders_50 zF_12_279 (z_rfiE (x := (gi σ 66 39)) zl_66 zh_66 (by decide) rfl rfl)) (Eq.trans (q_iconst (v := 1) (pc := 53) dX12_goOrders_53 rfl) (Eq.trans (q_iadd (pc := 54) dX12_goOrders_54) (Eq.trans (q_pf (pc := 55) dX12_goOrders_55 zF_12_279 zPF_12_39 (z_pf zl_66 zh_66 rfl)) (Eq.trans (q_aload_n (pc := 58) dX12_goOrders_58 rfl rfl) (Eq.trans (q_iload_n (pc := 59) dX12_goOrders_59 rfl rfl) (Eq.trans (q_iconst (v := 1) (pc := 60) dX12_goOrders_60 rfl) (Eq.trans (q_iload_n (pc := 61) dX12_goOrders_61 rfl rfl) (Eq.trans (q_ishl (pc := 62) dX12_goOrders_62) (Eq.trans (q_ior (pc := 63) dX12_goOrders_63) (zdpos (q_callV (as := [.int (l1 ||| (1 <<< (l2 &&& 31)))]) (rest := []) (l0 := [.ref 66, .int (l1 ||| (1 <<< (l2 &&& 31))), .null]) (pc := 64) dX12_goOrders_64 zC_12_339 rfl (z_recv zl_66 zh_66) rfl rfl) (by omega)))))))))))))))))))) (fun hz2 => Eq.trans (q_goto (tgt := 77) (pc := 35) dX12_goOrders_35 rfl) (Eq.trans (q_iinc (c := 1) (ls' := [.ref 66, .int l1, .int (l2 + 1)]) (pc := 77) dX12_goOrders_77 rfl rfl rfl) (Eq.trans (q_goto (tgt := 18) (pc := 80) dX12_goOrders_80 rfl) (rfl))))))))))))))))
theorem b_X12_goOrders_15 {X : zX} {d : Nat} {Q : Option Value → zH → Prop} (σ : zS) (l1 : Int32)  : zwp X d MX12_goOrders 15 [.ref 66, .int l1, .null] [] (zen σ) Q = Q none (zen σ) :=
  q_vret (pc := 15) dX12_goOrders_15 rfl
theorem b_X12_goOrders_67 {X : zX} {d : Nat} {Q : Option Value → zH → Prop} (σ : zS) (l1 : Int32) (l2 : Int32)  : zwp X d MX12_goOrders 67 [.ref 66, .int l1, .int l2] [] (zen σ) Q = zwp X d MX12_goOrders 18 [.ref 66, .int l1, .int (l2 + 1)] [] (zen (si σ 66 39 ((gi σ 66 39) - 1))) Q :=
  Eq.trans (q_aload_n (pc := 67) dX12_goOrders_67 rfl rfl) (Eq.trans (q_dup_ref (pc := 68) dX12_goOrders_68) (Eq.trans (q_getf (pc := 69) dX12_goOrders_69 zF_12_279 (z_rfiE (x := (gi σ 66 39)) zl_66 zh_66 (by decide) rfl rfl)) (Eq.trans (q_iconst (v := 1) (pc := 72) dX12_goOrders_72 rfl) (Eq.trans (q_isub (pc := 73) dX12_goOrders_73) (Eq.trans (q_pf (pc := 74) dX12_goOrders_74 zF_12_279 zPF_12_39 (z_pf zl_66 zh_66 rfl)) (Eq.trans (q_iinc (c := 1) (ls' := [.ref 66, .int l1, .int (l2 + 1)]) (pc := 77) dX12_goOrders_77 rfl rfl rfl) (Eq.trans (q_goto (tgt := 18) (pc := 80) dX12_goOrders_80 rfl) (rfl))))))))
theorem b_X12_findOrders_0 {X : zX} {d : Nat} {Q : Option Value → zH → Prop} (hd : 1 ≤ d) (σ : zS) (a2 : Int32)  : zwp X d MX12_findOrders 0 [.ref 66, .int a2] [] (zen σ) Q = zwp X (d - 1) MX12_goOrders 0 [.ref 66, .int 0, .null] [] (zen (si (si (si (si (si σ 66 41 (-1)) 66 42 a2) 66 43 0) 66 44 (-2)) 66 39 0)) (fun v h' => zwp X d MX12_findOrders 31 [.ref 66, .int a2] (zpsh v []) h' Q) :=
  Eq.trans (q_aload_n (pc := 0) dX12_findOrders_0 rfl rfl) (Eq.trans (q_iconst (v := (-1)) (pc := 1) dX12_findOrders_1 rfl) (Eq.trans (q_pf (pc := 2) dX12_findOrders_2 zF_12_321 zPF_12_41 (z_pf zl_66 zh_66 rfl)) (Eq.trans (q_aload_n (pc := 5) dX12_findOrders_5 rfl rfl) (Eq.trans (q_iload_n (pc := 6) dX12_findOrders_6 rfl rfl) (Eq.trans (q_pf (pc := 7) dX12_findOrders_7 zF_12_324 zPF_12_42 (z_pf zl_66 zh_66 rfl)) (Eq.trans (q_aload_n (pc := 10) dX12_findOrders_10 rfl rfl) (Eq.trans (q_iconst (v := 0) (pc := 11) dX12_findOrders_11 rfl) (Eq.trans (q_pf (pc := 12) dX12_findOrders_12 zF_12_330 zPF_12_43 (z_pf zl_66 zh_66 rfl)) (Eq.trans (q_aload_n (pc := 15) dX12_findOrders_15 rfl rfl) (Eq.trans (q_bipush (v := (-2)) (pc := 16) dX12_findOrders_16 rfl) (Eq.trans (q_pf (pc := 18) dX12_findOrders_18 zF_12_333 zPF_12_44 (z_pf zl_66 zh_66 rfl)) (Eq.trans (q_aload_n (pc := 21) dX12_findOrders_21 rfl rfl) (Eq.trans (q_iconst (v := 0) (pc := 22) dX12_findOrders_22 rfl) (Eq.trans (q_pf (pc := 23) dX12_findOrders_23 zF_12_279 zPF_12_39 (z_pf zl_66 zh_66 rfl)) (Eq.trans (q_aload_n (pc := 26) dX12_findOrders_26 rfl rfl) (Eq.trans (q_iconst (v := 0) (pc := 27) dX12_findOrders_27 rfl) (zdpos (q_callV (as := [.int 0]) (rest := []) (l0 := [.ref 66, .int 0, .null]) (pc := 28) dX12_findOrders_28 zC_12_339 rfl (z_recv zl_66 zh_66) rfl rfl) (by omega))))))))))))))))))
theorem b_X12_findOrders_31 {X : zX} {d : Nat} {Q : Option Value → zH → Prop} (σ : zS) (l1 : Int32)  : zwp X d MX12_findOrders 31 [.ref 66, .int l1] [] (zen σ) Q = Q none (zen σ) :=
  q_vret (pc := 31) dX12_findOrders_31 rfl
theorem b_X12_order_0 {X : zX} {d : Nat} {Q : Option Value → zH → Prop} (hd : 1 ≤ d) (σ : zS) (a2 : Int32)  : zwp X d MX12_order 0 [.ref 66, .int a2] [] (zen σ) Q = (if (-1) ≤ a2 then (if (gi σ 66 6) ≤ 6 then zwp X (d - 1) MX12_findOrders 0 [.ref 66, .int (-1)] [] (zen σ) (fun v h' => zwp X d MX12_order 24 [.ref 66, .int a2] (zpsh v []) h' Q) else Q (some (.int (-5))) (zen σ)) else Q (some (.int (-1))) (zen σ)) :=
  Eq.trans (q_iload_n (pc := 0) dX12_order_0 rfl rfl) (Eq.trans (q_iconst (v := (-1)) (pc := 1) dX12_order_1 rfl) (Eq.trans (q_icmp_ge (tgt := 7) (pc := 2) dX12_order_2 rfl) (zite (fun hz1 => Eq.trans (q_aload_n (pc := 7) dX12_order_7 rfl rfl) (Eq.trans (q_getf (pc := 8) dX12_order_8 zF_12_132 (z_rfiE (x := (gi σ 66 6)) zl_66 zh_66 (by decide) rfl rfl)) (Eq.trans (q_bipush (v := 6) (pc := 11) dX12_order_11 rfl) (Eq.trans (q_icmp_le (tgt := 19) (pc := 13) dX12_order_13 rfl) (zite (fun hz2 => Eq.trans (q_aload_n (pc := 19) dX12_order_19 rfl rfl) (Eq.trans (q_iconst (v := (-1)) (pc := 20) dX12_order_20 rfl) (zdpos (q_callV (as := [.int (-1)]) (rest := []) (l0 := [.ref 66, .int (-1)]) (pc := 21) dX12_order_21 zC_12_342 rfl (z_recv zl_66 zh_66) rfl rfl) (by omega)))) (fun hz2 => Eq.trans (q_bipush (v := (-5)) (pc := 16) dX12_order_16 rfl) (q_iret (pc := 18) dX12_order_18 rfl rfl))))))) (fun hz1 => Eq.trans (q_iconst (v := (-1)) (pc := 5) dX12_order_5 rfl) (q_iret (pc := 6) dX12_order_6 rfl rfl)))))
theorem b_X12_order_24 {X : zX} {d : Nat} {Q : Option Value → zH → Prop} (σ : zS) (l1 : Int32)  : zwp X d MX12_order 24 [.ref 66, .int l1] [] (zen σ) Q = (if 0 ≤ l1 then (if (gi σ 66 6) ≤ l1 then Q (some (.int (-2))) (zen σ) else (zin l1 8 = true ∧ Q (some (.int (gi σ 89 (ix l1)))) (zen σ))) else Q (some (.int (gi σ 66 41))) (zen σ)) :=
  Eq.trans (q_iload_n (pc := 24) dX12_order_24 rfl rfl) (Eq.trans (q_if_ge (tgt := 35) (pc := 25) dX12_order_25 rfl) (zite (fun hz1 => Eq.trans (q_iload_n (pc := 35) dX12_order_35 rfl rfl) (Eq.trans (q_aload_n (pc := 36) dX12_order_36 rfl rfl) (Eq.trans (q_getf (pc := 37) dX12_order_37 zF_12_132 (z_rfiE (x := (gi σ 66 6)) zl_66 zh_66 (by decide) rfl rfl)) (Eq.trans (q_icmp_ge (tgt := 52) (pc := 40) dX12_order_40 rfl) (zite (fun hz2 => Eq.trans (q_bipush (v := (-2)) (pc := 52) dX12_order_52 rfl) (q_iret (pc := 54) dX12_order_54 rfl rfl)) (fun hz2 => Eq.trans (q_aload_n (pc := 43) dX12_order_43 rfl rfl) (Eq.trans (q_getf (pc := 44) dX12_order_44 zF_12_91 (z_rfr zl_66 zh_66 (by decide) rfl)) (Eq.trans (q_iload_n (pc := 47) dX12_order_47 rfl rfl) (Eq.trans (qe_iaload (x := (gi σ 89 (ix l1))) (pc := 48) dX12_order_48 (z_ia zl_89 zh_89 (by decide)) rfl) (zand fun hz3 => Eq.trans (q_goto (tgt := 54) (pc := 49) dX12_order_49 rfl) (q_iret (pc := 54) dX12_order_54 rfl rfl))))))))))) (fun hz1 => Eq.trans (q_aload_n (pc := 28) dX12_order_28 rfl rfl) (Eq.trans (q_getf (pc := 29) dX12_order_29 zF_12_321 (z_rfiE (x := (gi σ 66 41)) zl_66 zh_66 (by decide) rfl rfl)) (Eq.trans (q_goto (tgt := 54) (pc := 32) dX12_order_32 rfl) (q_iret (pc := 54) dX12_order_54 rfl rfl))))))
theorem b_X12_goesFewest_0 {X : zX} {d : Nat} {Q : Option Value → zH → Prop} (hd : 1 ≤ d) (σ : zS) (a2 : Int32) (a3 : Int32)  : zwp X d MX12_goesFewest 0 [.ref 66, .int a2, .int a3, .null] [] (zen σ) Q = (if ¬ a2 = 0 then zwp X d MX12_goesFewest 27 [.ref 66, .int a2, .int a3, .int 0] [] (zen σ) Q else zwp X (d - 1) MX12_goAll 0 [.ref 66] [] (zen σ) (fun v h' => zwp X d MX12_goesFewest 8 [.ref 66, .int a2, .int a3, .null] (zpsh v []) h' Q)) :=
  Eq.trans (q_iload_n (pc := 0) dX12_goesFewest_0 rfl rfl) (Eq.trans (q_if_ne (tgt := 25) (pc := 1) dX12_goesFewest_1 rfl) (zite (fun hz1 => Eq.trans (q_iconst (v := 0) (pc := 25) dX12_goesFewest_25 rfl) (Eq.trans (q_istore_n (ls' := [.ref 66, .int a2, .int a3, .int 0]) (pc := 26) dX12_goesFewest_26 rfl (Nat.le_of_ble_eq_true rfl) rfl) (rfl))) (fun hz1 => Eq.trans (q_aload_n (pc := 4) dX12_goesFewest_4 rfl rfl) (zdpos (q_callV (as := []) (rest := []) (l0 := [.ref 66]) (pc := 5) dX12_goesFewest_5 zC_12_303 rfl (z_recv zl_66 zh_66) rfl rfl) (by omega)))))
theorem b_X12_goesFewest_27 {X : zX} {d : Nat} {Q : Option Value → zH → Prop} (hd : 1 ≤ d) (σ : zS) (l1 : Int32) (l2 : Int32) (l3 : Int32)  : zwp X d MX12_goesFewest 27 [.ref 66, .int l1, .int l2, .int l3] [] (zen σ) Q = (if (gi σ 66 6) ≤ l3 then Q (some (.int 0)) (zen σ) else (zin (gi σ 66 39) 21 = true ∧ zwp X (d - 1) MX12_goesFewest 0 [.ref 66, .int (l1 - 1), .int l2, .null] [] (zen (si (si σ 88 (ix (gi σ 66 39)) l3) 66 39 ((gi σ 66 39) + 1))) (fun v h' => zwp X d MX12_goesFewest 63 [.ref 66, .int l1, .int l2, .int l3] (zpsh v []) h' Q))) :=
  Eq.trans (q_iload_n (pc := 27) dX12_goesFewest_27 rfl rfl) (Eq.trans (q_aload_n (pc := 28) dX12_goesFewest_28 rfl rfl) (Eq.trans (q_getf (pc := 29) dX12_goesFewest_29 zF_12_132 (z_rfiE (x := (gi σ 66 6)) zl_66 zh_66 (by decide) rfl rfl)) (Eq.trans (q_icmp_ge (tgt := 84) (pc := 32) dX12_goesFewest_32 rfl) (zite (fun hz1 => Eq.trans (q_iconst (v := 0) (pc := 84) dX12_goesFewest_84 rfl) (q_zretK (pc := 85) dX12_goesFewest_85 rfl (by decide))) (fun hz1 => Eq.trans (q_aload_n (pc := 35) dX12_goesFewest_35 rfl rfl) (Eq.trans (q_getf (pc := 36) dX12_goesFewest_36 zF_12_88 (z_rfr zl_66 zh_66 (by decide) rfl)) (Eq.trans (q_aload_n (pc := 39) dX12_goesFewest_39 rfl rfl) (Eq.trans (q_getf (pc := 40) dX12_goesFewest_40 zF_12_279 (z_rfiE (x := (gi σ 66 39)) zl_66 zh_66 (by decide) rfl rfl)) (Eq.trans (q_iload_n (pc := 43) dX12_goesFewest_43 rfl rfl) (Eq.trans (q_iastore (pc := 44) dX12_goesFewest_44 (zN_lt zl_88) (z_ia zl_88 zh_88 (by decide)) (z_pi zl_88 zh_88 (by decide))) (zand fun hz2 => Eq.trans (q_aload_n (pc := 45) dX12_goesFewest_45 rfl rfl) (Eq.trans (q_dup_ref (pc := 46) dX12_goesFewest_46) (Eq.trans (q_getf (pc := 47) dX12_goesFewest_47 zF_12_279 (z_rfiE (x := (gi σ 66 39)) zl_66 zh_66 (by decide) rfl rfl)) (Eq.trans (q_iconst (v := 1) (pc := 50) dX12_goesFewest_50 rfl) (Eq.trans (q_iadd (pc := 51) dX12_goesFewest_51) (Eq.trans (q_pf (pc := 52) dX12_goesFewest_52 zF_12_279 zPF_12_39 (z_pf zl_66 zh_66 rfl)) (Eq.trans (q_aload_n (pc := 55) dX12_goesFewest_55 rfl rfl) (Eq.trans (q_iload_n (pc := 56) dX12_goesFewest_56 rfl rfl) (Eq.trans (q_iconst (v := 1) (pc := 57) dX12_goesFewest_57 rfl) (Eq.trans (q_isub (pc := 58) dX12_goesFewest_58) (Eq.trans (q_iload_n (pc := 59) dX12_goesFewest_59 rfl rfl) (zdpos (q_callV (as := [.int (l1 - 1), .int l2]) (rest := []) (l0 := [.ref 66, .int (l1 - 1), .int l2, .null]) (pc := 60) dX12_goesFewest_60 zC_12_345 rfl (z_recv zl_66 zh_66) rfl rfl) (by omega)))))))))))))))))))))))
theorem b_X12_goesFewest_8 {X : zX} {d : Nat} {Q : Option Value → zH → Prop} (hd : 1 ≤ d) (σ : zS) (l1 : Int32) (l2 : Int32)  : zwp X d MX12_goesFewest 8 [.ref 66, .int l1, .int l2, .null] [] (zen σ) Q = zwp X (d - 1) MX12_fallsOn 0 [.ref 66, .int l2, .int 0, .null] [] (zen σ) (fun v h' => zwp X d MX12_goesFewest 14 [.ref 66, .int l1, .int l2, .null] (zpsh v []) h' Q) :=
  Eq.trans (q_aload_n (pc := 8) dX12_goesFewest_8 rfl rfl) (Eq.trans (q_iload_n (pc := 9) dX12_goesFewest_9 rfl rfl) (Eq.trans (q_iconst (v := 0) (pc := 10) dX12_goesFewest_10 rfl) (zdpos (q_callV (as := [.int l2, .int 0]) (rest := []) (l0 := [.ref 66, .int l2, .int 0, .null]) (pc := 11) dX12_goesFewest_11 zC_12_312 rfl (z_recv zl_66 zh_66) rfl rfl) (by omega))))
theorem b_X12_goesFewest_63 {X : zX} {d : Nat} {Q : Option Value → zH → Prop} (σ : zS) (l1 : Int32) (l2 : Int32) (l3 : Int32) (t0 : Int32)  : zwp X d MX12_goesFewest 63 [.ref 66, .int l1, .int l2, .int l3] [.int t0] (zen σ) Q = (if t0 = 0 then zwp X d MX12_goesFewest 27 [.ref 66, .int l1, .int l2, .int (l3 + 1)] [] (zen (si σ 66 39 ((gi σ 66 39) - 1))) Q else Q (some (.int 1)) (zen σ)) :=
  Eq.trans (q_if_eq (tgt := 68) (pc := 63) dX12_goesFewest_63 rfl) (zite (fun hz1 => Eq.trans (q_aload_n (pc := 68) dX12_goesFewest_68 rfl rfl) (Eq.trans (q_dup_ref (pc := 69) dX12_goesFewest_69) (Eq.trans (q_getf (pc := 70) dX12_goesFewest_70 zF_12_279 (z_rfiE (x := (gi σ 66 39)) zl_66 zh_66 (by decide) rfl rfl)) (Eq.trans (q_iconst (v := 1) (pc := 73) dX12_goesFewest_73 rfl) (Eq.trans (q_isub (pc := 74) dX12_goesFewest_74) (Eq.trans (q_pf (pc := 75) dX12_goesFewest_75 zF_12_279 zPF_12_39 (z_pf zl_66 zh_66 rfl)) (Eq.trans (q_iinc (c := 1) (ls' := [.ref 66, .int l1, .int l2, .int (l3 + 1)]) (pc := 78) dX12_goesFewest_78 rfl rfl rfl) (Eq.trans (q_goto (tgt := 27) (pc := 81) dX12_goesFewest_81 rfl) (rfl))))))))) (fun hz1 => Eq.trans (q_iconst (v := 1) (pc := 66) dX12_goesFewest_66 rfl) (q_zretK (pc := 67) dX12_goesFewest_67 rfl (by decide))))
theorem b_X12_goesFewest_14 {X : zX} {d : Nat} {Q : Option Value → zH → Prop} (σ : zS) (l1 : Int32) (l2 : Int32) (t0 : Int32)  : zwp X d MX12_goesFewest 14 [.ref 66, .int l1, .int l2, .null] [.int t0] (zen σ) Q = (if ¬ t0 = (-2) then Q (some (.int 0)) (zen σ) else Q (some (.int 1)) (zen σ)) :=
  Eq.trans (q_bipush (v := (-2)) (pc := 14) dX12_goesFewest_14 rfl) (Eq.trans (q_icmp_ne (tgt := 23) (pc := 16) dX12_goesFewest_16 rfl) (zite (fun hz1 => Eq.trans (q_iconst (v := 0) (pc := 23) dX12_goesFewest_23 rfl) (q_zretK (pc := 24) dX12_goesFewest_24 rfl (by decide))) (fun hz1 => Eq.trans (q_iconst (v := 1) (pc := 19) dX12_goesFewest_19 rfl) (Eq.trans (q_goto (tgt := 24) (pc := 20) dX12_goesFewest_20 rfl) (q_zretK (pc := 24) dX12_goesFewest_24 rfl (by decide))))))
theorem b_X12_fewest_0 {X : zX} {d : Nat} {Q : Option Value → zH → Prop} (hd : 1 ≤ d) (σ : zS) (a2 : Int32) (a3 : Int32)  : zwp X d MX12_fewest 0 [.ref 66, .int a2, .int a3, .null] [] (zen σ) Q = (if (f_X12_in σ a2 0 999) = 0 then Q (some (.int (-1))) (zen σ) else (if (-1) ≤ a3 then (if (gi σ 66 6) ≤ 5 then zwp X d MX12_fewest 31 [.ref 66, .int a2, .int a3, .int 0] [] (zen σ) Q else Q (some (.int (-5))) (zen σ)) else Q (some (.int (-1))) (zen σ))) :=
  Eq.trans (q_iload_n (pc := 0) dX12_fewest_0 rfl rfl) (Eq.trans (q_iconst (v := 0) (pc := 1) dX12_fewest_1 rfl) (Eq.trans (q_sipush (v := 999) (pc := 2) dX12_fewest_2 rfl) (Eq.trans (q_sumI (q_callS (as := [.int a2, .int 0, .int 999]) (rest := []) (l0 := [.int a2, .int 0, .int 999]) (pc := 5) dX12_fewest_5 zSN_12_128 zC_12_128 rfl rfl rfl) (by omega) (s_X12_in σ a2 0 999)) (Eq.trans (q_if_eq (tgt := 16) (pc := 8) dX12_fewest_8 rfl) (zite (fun hz1 => Eq.trans (q_iconst (v := (-1)) (pc := 16) dX12_fewest_16 rfl) (q_iret (pc := 17) dX12_fewest_17 rfl rfl)) (fun hz1 => Eq.trans (q_iload_n (pc := 11) dX12_fewest_11 rfl rfl) (Eq.trans (q_iconst (v := (-1)) (pc := 12) dX12_fewest_12 rfl) (Eq.trans (q_icmp_ge (tgt := 18) (pc := 13) dX12_fewest_13 rfl) (zite (fun hz2 => Eq.trans (q_aload_n (pc := 18) dX12_fewest_18 rfl rfl) (Eq.trans (q_getf (pc := 19) dX12_fewest_19 zF_12_132 (z_rfiE (x := (gi σ 66 6)) zl_66 zh_66 (by decide) rfl rfl)) (Eq.trans (q_iconst (v := 5) (pc := 22) dX12_fewest_22 rfl) (Eq.trans (q_icmp_le (tgt := 29) (pc := 23) dX12_fewest_23 rfl) (zite (fun hz3 => Eq.trans (q_iconst (v := 0) (pc := 29) dX12_fewest_29 rfl) (Eq.trans (q_istore_n (ls' := [.ref 66, .int a2, .int a3, .int 0]) (pc := 30) dX12_fewest_30 rfl (Nat.le_of_ble_eq_true rfl) rfl) (rfl))) (fun hz3 => Eq.trans (q_bipush (v := (-5)) (pc := 26) dX12_fewest_26 rfl) (q_iret (pc := 28) dX12_fewest_28 rfl rfl))))))) (fun hz2 => Eq.trans (q_iconst (v := (-1)) (pc := 16) dX12_fewest_16 rfl) (q_iret (pc := 17) dX12_fewest_17 rfl rfl)))))))))))
theorem b_X12_fewest_31 {X : zX} {d : Nat} {Q : Option Value → zH → Prop} (hd : 1 ≤ d) (σ : zS) (l1 : Int32) (l2 : Int32) (l3 : Int32)  : zwp X d MX12_fewest 31 [.ref 66, .int l1, .int l2, .int l3] [] (zen σ) Q = (if 5 < l3 then Q (some (.int (-2))) (zen σ) else zwp X (d - 1) MX12_goesFewest 0 [.ref 66, .int l3, .int l1, .null] [] (zen (si σ 66 39 0)) (fun v h' => zwp X d MX12_fewest 47 [.ref 66, .int l1, .int l2, .int l3] (zpsh v []) h' Q)) :=
  Eq.trans (q_iload_n (pc := 31) dX12_fewest_31 rfl rfl) (Eq.trans (q_iconst (v := 5) (pc := 32) dX12_fewest_32 rfl) (Eq.trans (q_icmp_gt (tgt := 81) (pc := 33) dX12_fewest_33 rfl) (zite (fun hz1 => Eq.trans (q_bipush (v := (-2)) (pc := 81) dX12_fewest_81 rfl) (q_iret (pc := 83) dX12_fewest_83 rfl rfl)) (fun hz1 => Eq.trans (q_aload_n (pc := 36) dX12_fewest_36 rfl rfl) (Eq.trans (q_iconst (v := 0) (pc := 37) dX12_fewest_37 rfl) (Eq.trans (q_pf (pc := 38) dX12_fewest_38 zF_12_279 zPF_12_39 (z_pf zl_66 zh_66 rfl)) (Eq.trans (q_aload_n (pc := 41) dX12_fewest_41 rfl rfl) (Eq.trans (q_iload_n (pc := 42) dX12_fewest_42 rfl rfl) (Eq.trans (q_iload_n (pc := 43) dX12_fewest_43 rfl rfl) (zdpos (q_callV (as := [.int l3, .int l1]) (rest := []) (l0 := [.ref 66, .int l3, .int l1, .null]) (pc := 44) dX12_fewest_44 zC_12_345 rfl (z_recv zl_66 zh_66) rfl rfl) (by omega)))))))))))
theorem b_X12_fewest_47 {X : zX} {d : Nat} {Q : Option Value → zH → Prop} (σ : zS) (l1 : Int32) (l2 : Int32) (l3 : Int32) (t0 : Int32)  : zwp X d MX12_fewest 47 [.ref 66, .int l1, .int l2, .int l3] [.int t0] (zen σ) Q = (if t0 = 0 then zwp X d MX12_fewest 31 [.ref 66, .int l1, .int l2, .int (l3 + 1)] [] (zen σ) Q else (if 0 ≤ l2 then (if l3 ≤ l2 then Q (some (.int (-2))) (zen σ) else (zin l2 21 = true ∧ Q (some (.int (gi σ 88 (ix l2)))) (zen σ))) else Q (some (.int l3)) (zen σ))) :=
  Eq.trans (q_if_eq (tgt := 75) (pc := 47) dX12_fewest_47 rfl) (zite (fun hz1 => Eq.trans (q_iinc (c := 1) (ls' := [.ref 66, .int l1, .int l2, .int (l3 + 1)]) (pc := 75) dX12_fewest_75 rfl rfl rfl) (Eq.trans (q_goto (tgt := 31) (pc := 78) dX12_fewest_78 rfl) (rfl))) (fun hz1 => Eq.trans (q_iload_n (pc := 50) dX12_fewest_50 rfl rfl) (Eq.trans (q_if_ge (tgt := 58) (pc := 51) dX12_fewest_51 rfl) (zite (fun hz2 => Eq.trans (q_iload_n (pc := 58) dX12_fewest_58 rfl rfl) (Eq.trans (q_iload_n (pc := 59) dX12_fewest_59 rfl rfl) (Eq.trans (q_icmp_ge (tgt := 72) (pc := 60) dX12_fewest_60 rfl) (zite (fun hz3 => Eq.trans (q_bipush (v := (-2)) (pc := 72) dX12_fewest_72 rfl) (q_iret (pc := 74) dX12_fewest_74 rfl rfl)) (fun hz3 => Eq.trans (q_aload_n (pc := 63) dX12_fewest_63 rfl rfl) (Eq.trans (q_getf (pc := 64) dX12_fewest_64 zF_12_88 (z_rfr zl_66 zh_66 (by decide) rfl)) (Eq.trans (q_iload_n (pc := 67) dX12_fewest_67 rfl rfl) (Eq.trans (qe_iaload (x := (gi σ 88 (ix l2))) (pc := 68) dX12_fewest_68 (z_ia zl_88 zh_88 (by decide)) rfl) (zand fun hz4 => Eq.trans (q_goto (tgt := 74) (pc := 69) dX12_fewest_69 rfl) (q_iret (pc := 74) dX12_fewest_74 rfl rfl)))))))))) (fun hz2 => Eq.trans (q_iload_n (pc := 54) dX12_fewest_54 rfl rfl) (Eq.trans (q_goto (tgt := 74) (pc := 55) dX12_fewest_55 rfl) (q_iret (pc := 74) dX12_fewest_74 rfl rfl)))))))
theorem b_X12_spare_0 {X : zX} {d : Nat} {Q : Option Value → zH → Prop} (hd : 2 ≤ d) (σ : zS) (a2 : Int32) (a3 : Int32)  : zwp X d MX12_spare 0 [.ref 66, .int a2, .int a3, .null, .null, .null, .null] [] (zen σ) Q = (if (f_X12_isShelf σ a2) = 0 then Q (some (.int (-1))) (zen σ) else (if ¬ (f_X12_in σ a3 0 1) = 0 then zwp X (d - 1) MX12_layOr 0 [.ref 66, .int a2, .null] [] (zen σ) (fun v h' => zwp X d MX12_spare 23 [.ref 66, .int a2, .int a3, .null, .null, .null, .null] (zpsh v []) h' Q) else Q (some (.int (-1))) (zen σ))) :=
  Eq.trans (q_iload_n (pc := 0) dX12_spare_0 rfl rfl) (Eq.trans (q_sumI (q_callS (as := [.int a2]) (rest := []) (l0 := [.int a2]) (pc := 1) dX12_spare_1 zSN_12_139 zC_12_139 rfl rfl rfl) (by omega) (s_X12_isShelf (hd := by omega) σ a2)) (Eq.trans (q_if_eq (tgt := 16) (pc := 4) dX12_spare_4 rfl) (zite (fun hz1 => Eq.trans (q_iconst (v := (-1)) (pc := 16) dX12_spare_16 rfl) (q_iret (pc := 17) dX12_spare_17 rfl rfl)) (fun hz1 => Eq.trans (q_iload_n (pc := 7) dX12_spare_7 rfl rfl) (Eq.trans (q_iconst (v := 0) (pc := 8) dX12_spare_8 rfl) (Eq.trans (q_iconst (v := 1) (pc := 9) dX12_spare_9 rfl) (Eq.trans (q_sumI (q_callS (as := [.int a3, .int 0, .int 1]) (rest := []) (l0 := [.int a3, .int 0, .int 1]) (pc := 10) dX12_spare_10 zSN_12_128 zC_12_128 rfl rfl rfl) (by omega) (s_X12_in σ a3 0 1)) (Eq.trans (q_if_ne (tgt := 18) (pc := 13) dX12_spare_13 rfl) (zite (fun hz2 => Eq.trans (q_aload_n (pc := 18) dX12_spare_18 rfl rfl) (Eq.trans (q_iload_n (pc := 19) dX12_spare_19 rfl rfl) (zdpos (q_callV (as := [.int a2]) (rest := []) (l0 := [.ref 66, .int a2, .null]) (pc := 20) dX12_spare_20 zC_12_300 rfl (z_recv zl_66 zh_66) rfl rfl) (by omega)))) (fun hz2 => Eq.trans (q_iconst (v := (-1)) (pc := 16) dX12_spare_16 rfl) (q_iret (pc := 17) dX12_spare_17 rfl rfl)))))))))))
theorem b_X12_spare_41 {X : zX} {d : Nat} {Q : Option Value → zH → Prop} (hd : 1 ≤ d) (σ : zS) (l1 : Int32) (l2 : Int32) (l3 : Int32) (l4 : Int32) (l5 : Int32) (l6 : Int32)  : zwp X d MX12_spare 41 [.ref 66, .int l1, .int l2, .int l3, .int l4, .int l5, .int l6] [] (zen σ) Q = (if (gi σ 66 39) ≤ l6 then (if ¬ l2 = 0 then Q (some (.int l5)) (zen σ) else Q (some (.int l4)) (zen σ)) else zwp X (d - 1) MX12_goProgramme 0 [.ref 66, .int (gi σ 66 39), .int l6, .null] [] (zen σ) (fun v h' => zwp X d MX12_spare 60 [.ref 66, .int l1, .int l2, .int l3, .int l4, .int l5, .int l6] (zpsh v []) h' Q)) :=
  Eq.trans (q_iload (pc := 41) dX12_spare_41 rfl) (Eq.trans (q_aload_n (pc := 43) dX12_spare_43 rfl rfl) (Eq.trans (q_getf (pc := 44) dX12_spare_44 zF_12_279 (z_rfiE (x := (gi σ 66 39)) zl_66 zh_66 (by decide) rfl rfl)) (Eq.trans (q_icmp_ge (tgt := 95) (pc := 47) dX12_spare_47 rfl) (zite (fun hz1 => Eq.trans (q_iload_n (pc := 95) dX12_spare_95 rfl rfl) (Eq.trans (q_if_ne (tgt := 104) (pc := 96) dX12_spare_96 rfl) (zite (fun hz2 => Eq.trans (q_iload (pc := 104) dX12_spare_104 rfl) (q_iret (pc := 106) dX12_spare_106 rfl rfl)) (fun hz2 => Eq.trans (q_iload (pc := 99) dX12_spare_99 rfl) (Eq.trans (q_goto (tgt := 106) (pc := 101) dX12_spare_101 rfl) (q_iret (pc := 106) dX12_spare_106 rfl rfl)))))) (fun hz1 => Eq.trans (q_aload_n (pc := 50) dX12_spare_50 rfl rfl) (Eq.trans (q_aload_n (pc := 51) dX12_spare_51 rfl rfl) (Eq.trans (q_getf (pc := 52) dX12_spare_52 zF_12_279 (z_rfiE (x := (gi σ 66 39)) zl_66 zh_66 (by decide) rfl rfl)) (Eq.trans (q_iload (pc := 55) dX12_spare_55 rfl) (zdpos (q_callV (as := [.int (gi σ 66 39), .int l6]) (rest := []) (l0 := [.ref 66, .int (gi σ 66 39), .int l6, .null]) (pc := 57) dX12_spare_57 zC_12_291 rfl (z_recv zl_66 zh_66) rfl rfl) (by omega))))))))))
theorem b_X12_spare_23 {X : zX} {d : Nat} {Q : Option Value → zH → Prop} (σ : zS) (l1 : Int32) (l2 : Int32) (t0 : Int32)  : zwp X d MX12_spare 23 [.ref 66, .int l1, .int l2, .null, .null, .null, .null] [.int t0] (zen σ) Q = (if 0 ≤ t0 then zwp X d MX12_spare 41 [.ref 66, .int l1, .int l2, .int t0, .int (-2), .int (-2), .int 0] [] (zen σ) Q else Q (some (.int t0)) (zen σ)) :=
  Eq.trans (q_istore_n (ls' := [.ref 66, .int l1, .int l2, .int t0, .null, .null, .null]) (pc := 23) dX12_spare_23 rfl (Nat.le_of_ble_eq_true rfl) rfl) (Eq.trans (q_iload_n (pc := 24) dX12_spare_24 rfl rfl) (Eq.trans (q_if_ge (tgt := 30) (pc := 25) dX12_spare_25 rfl) (zite (fun hz1 => Eq.trans (q_bipush (v := (-2)) (pc := 30) dX12_spare_30 rfl) (Eq.trans (q_istore (ls' := [.ref 66, .int l1, .int l2, .int t0, .int (-2), .null, .null]) (pc := 32) dX12_spare_32 (Nat.le_of_ble_eq_true rfl) rfl) (Eq.trans (q_bipush (v := (-2)) (pc := 34) dX12_spare_34 rfl) (Eq.trans (q_istore (ls' := [.ref 66, .int l1, .int l2, .int t0, .int (-2), .int (-2), .null]) (pc := 36) dX12_spare_36 (Nat.le_of_ble_eq_true rfl) rfl) (Eq.trans (q_iconst (v := 0) (pc := 38) dX12_spare_38 rfl) (Eq.trans (q_istore (ls' := [.ref 66, .int l1, .int l2, .int t0, .int (-2), .int (-2), .int 0]) (pc := 39) dX12_spare_39 (Nat.le_of_ble_eq_true rfl) rfl) (rfl))))))) (fun hz1 => Eq.trans (q_iload_n (pc := 28) dX12_spare_28 rfl rfl) (q_iret (pc := 29) dX12_spare_29 rfl rfl)))))
theorem b_X12_spare_60 {X : zX} {d : Nat} {Q : Option Value → zH → Prop} (hd : 1 ≤ d) (σ : zS) (l1 : Int32) (l2 : Int32) (l3 : Int32) (l4 : Int32) (l5 : Int32) (l6 : Int32)  : zwp X d MX12_spare 60 [.ref 66, .int l1, .int l2, .int l3, .int l4, .int l5, .int l6] [] (zen σ) Q = (if l4 < 0 then zwp X (d - 1) MX12_heaviestAt 0 [.ref 66, .int 0, .null, .null] [] (zen σ) (fun v h' => zwp X d MX12_spare 87 [.ref 66, .int l1, .int l2, .int l3, .int l6, .int l5, .int l6] (zpsh v []) h' Q) else zwp X (d - 1) MX12_heaviestAt 0 [.ref 66, .int 0, .null, .null] [] (zen σ) (fun v h' => zwp X d MX12_spare 70 [.ref 66, .int l1, .int l2, .int l3, .int l4, .int l5, .int l6] (zpsh v []) h' Q)) :=
  Eq.trans (q_iload (pc := 60) dX12_spare_60 rfl) (Eq.trans (q_if_lt (tgt := 78) (pc := 62) dX12_spare_62 rfl) (zite (fun hz1 => Eq.trans (q_iload (pc := 78) dX12_spare_78 rfl) (Eq.trans (q_istore (ls' := [.ref 66, .int l1, .int l2, .int l3, .int l6, .int l5, .int l6]) (pc := 80) dX12_spare_80 (Nat.le_of_ble_eq_true rfl) rfl) (Eq.trans (q_aload_n (pc := 82) dX12_spare_82 rfl rfl) (Eq.trans (q_iconst (v := 0) (pc := 83) dX12_spare_83 rfl) (zdpos (q_callV (as := [.int 0]) (rest := []) (l0 := [.ref 66, .int 0, .null, .null]) (pc := 84) dX12_spare_84 zC_12_315 rfl (z_recv zl_66 zh_66) rfl rfl) (by omega)))))) (fun hz1 => Eq.trans (q_aload_n (pc := 65) dX12_spare_65 rfl rfl) (Eq.trans (q_iconst (v := 0) (pc := 66) dX12_spare_66 rfl) (zdpos (q_callV (as := [.int 0]) (rest := []) (l0 := [.ref 66, .int 0, .null, .null]) (pc := 67) dX12_spare_67 zC_12_315 rfl (z_recv zl_66 zh_66) rfl rfl) (by omega))))))
theorem b_X12_spare_87 {X : zX} {d : Nat} {Q : Option Value → zH → Prop} (σ : zS) (l1 : Int32) (l2 : Int32) (l3 : Int32) (l4 : Int32) (l5 : Int32) (l6 : Int32) (t0 : Int32)  : zwp X d MX12_spare 87 [.ref 66, .int l1, .int l2, .int l3, .int l4, .int l5, .int l6] [.int t0] (zen σ) Q = zwp X d MX12_spare 41 [.ref 66, .int l1, .int l2, .int l3, .int l4, .int t0, .int (l6 + 1)] [] (zen σ) Q :=
  Eq.trans (q_istore (ls' := [.ref 66, .int l1, .int l2, .int l3, .int l4, .int t0, .int l6]) (pc := 87) dX12_spare_87 (Nat.le_of_ble_eq_true rfl) rfl) (Eq.trans (q_iinc (c := 1) (ls' := [.ref 66, .int l1, .int l2, .int l3, .int l4, .int t0, .int (l6 + 1)]) (pc := 89) dX12_spare_89 rfl rfl rfl) (Eq.trans (q_goto (tgt := 41) (pc := 92) dX12_spare_92 rfl) (rfl)))
theorem b_X12_spare_70 {X : zX} {d : Nat} {Q : Option Value → zH → Prop} (hd : 1 ≤ d) (σ : zS) (l1 : Int32) (l2 : Int32) (l3 : Int32) (l4 : Int32) (l5 : Int32) (l6 : Int32) (t0 : Int32)  : zwp X d MX12_spare 70 [.ref 66, .int l1, .int l2, .int l3, .int l4, .int l5, .int l6] [.int t0] (zen σ) Q = (if l5 < t0 then zwp X (d - 1) MX12_heaviestAt 0 [.ref 66, .int 0, .null, .null] [] (zen σ) (fun v h' => zwp X d MX12_spare 87 [.ref 66, .int l1, .int l2, .int l3, .int l6, .int l5, .int l6] (zpsh v []) h' Q) else zwp X d MX12_spare 41 [.ref 66, .int l1, .int l2, .int l3, .int l4, .int l5, .int (l6 + 1)] [] (zen σ) Q) :=
  Eq.trans (q_iload (pc := 70) dX12_spare_70 rfl) (Eq.trans (q_icmp_gt (tgt := 78) (pc := 72) dX12_spare_72 rfl) (zite (fun hz1 => Eq.trans (q_iload (pc := 78) dX12_spare_78 rfl) (Eq.trans (q_istore (ls' := [.ref 66, .int l1, .int l2, .int l3, .int l6, .int l5, .int l6]) (pc := 80) dX12_spare_80 (Nat.le_of_ble_eq_true rfl) rfl) (Eq.trans (q_aload_n (pc := 82) dX12_spare_82 rfl rfl) (Eq.trans (q_iconst (v := 0) (pc := 83) dX12_spare_83 rfl) (zdpos (q_callV (as := [.int 0]) (rest := []) (l0 := [.ref 66, .int 0, .null, .null]) (pc := 84) dX12_spare_84 zC_12_315 rfl (z_recv zl_66 zh_66) rfl rfl) (by omega)))))) (fun hz1 => Eq.trans (q_goto (tgt := 89) (pc := 75) dX12_spare_75 rfl) (Eq.trans (q_iinc (c := 1) (ls' := [.ref 66, .int l1, .int l2, .int l3, .int l4, .int l5, .int (l6 + 1)]) (pc := 89) dX12_spare_89 rfl rfl rfl) (Eq.trans (q_goto (tgt := 41) (pc := 92) dX12_spare_92 rfl) (rfl))))))
theorem b_X12_harm_0 {X : zX} {d : Nat} {Q : Option Value → zH → Prop} (hd : 2 ≤ d) (σ : zS) (a2 : Int32)  : zwp X d MX12_harm 0 [.ref 66, .int a2, .null, .null, .null, .null] [] (zen σ) Q = (if ¬ (f_X12_isShelf σ a2) = 0 then zwp X (d - 1) MX12_layOr 0 [.ref 66, .int a2, .null] [] (zen σ) (fun v h' => zwp X d MX12_harm 14 [.ref 66, .int a2, .null, .null, .null, .null] (zpsh v []) h' Q) else Q (some (.int (-1))) (zen σ)) :=
  Eq.trans (q_iload_n (pc := 0) dX12_harm_0 rfl rfl) (Eq.trans (q_sumI (q_callS (as := [.int a2]) (rest := []) (l0 := [.int a2]) (pc := 1) dX12_harm_1 zSN_12_139 zC_12_139 rfl rfl rfl) (by omega) (s_X12_isShelf (hd := by omega) σ a2)) (Eq.trans (q_if_ne (tgt := 9) (pc := 4) dX12_harm_4 rfl) (zite (fun hz1 => Eq.trans (q_aload_n (pc := 9) dX12_harm_9 rfl rfl) (Eq.trans (q_iload_n (pc := 10) dX12_harm_10 rfl rfl) (zdpos (q_callV (as := [.int a2]) (rest := []) (l0 := [.ref 66, .int a2, .null]) (pc := 11) dX12_harm_11 zC_12_300 rfl (z_recv zl_66 zh_66) rfl rfl) (by omega)))) (fun hz1 => Eq.trans (q_iconst (v := (-1)) (pc := 7) dX12_harm_7 rfl) (q_iret (pc := 8) dX12_harm_8 rfl rfl)))))
theorem b_X12_harm_37 {X : zX} {d : Nat} {Q : Option Value → zH → Prop} (hd : 1 ≤ d) (σ : zS) (l1 : Int32) (l2 : Int32) (l3 : Int32) (l4 : Int32) (l5 : Int32)  : zwp X d MX12_harm 37 [.ref 66, .int l1, .int l2, .int l3, .int l4, .int l5] [] (zen σ) Q = (if (gi σ 66 1) ≤ l5 then Q (some (.int l4)) (zen (si σ 66 36 (-1))) else zwp X (d - 1) MX12_goAll 0 [.ref 66] [] (zen (si σ 66 36 l5)) (fun v h' => zwp X d MX12_harm 56 [.ref 66, .int l1, .int l2, .int l3, .int l4, .int l5] (zpsh v []) h' Q)) :=
  Eq.trans (q_iload (pc := 37) dX12_harm_37 rfl) (Eq.trans (q_aload_n (pc := 39) dX12_harm_39 rfl rfl) (Eq.trans (q_getf (pc := 40) dX12_harm_40 zF_12_125 (z_rfiE (x := (gi σ 66 1)) zl_66 zh_66 (by decide) rfl rfl)) (Eq.trans (q_icmp_ge (tgt := 80) (pc := 43) dX12_harm_43 rfl) (zite (fun hz1 => Eq.trans (q_aload_n (pc := 80) dX12_harm_80 rfl rfl) (Eq.trans (q_iconst (v := (-1)) (pc := 81) dX12_harm_81 rfl) (Eq.trans (q_pf (pc := 82) dX12_harm_82 zF_12_85 zPF_12_36 (z_pf zl_66 zh_66 rfl)) (Eq.trans (q_iload (pc := 85) dX12_harm_85 rfl) (q_iret (pc := 87) dX12_harm_87 rfl rfl))))) (fun hz1 => Eq.trans (q_aload_n (pc := 46) dX12_harm_46 rfl rfl) (Eq.trans (q_iload (pc := 47) dX12_harm_47 rfl) (Eq.trans (q_pf (pc := 49) dX12_harm_49 zF_12_85 zPF_12_36 (z_pf zl_66 zh_66 rfl)) (Eq.trans (q_aload_n (pc := 52) dX12_harm_52 rfl rfl) (zdpos (q_callV (as := []) (rest := []) (l0 := [.ref 66]) (pc := 53) dX12_harm_53 zC_12_303 rfl (z_recv zl_66 zh_66) rfl rfl) (by omega))))))))))
theorem b_X12_harm_14 {X : zX} {d : Nat} {Q : Option Value → zH → Prop} (hd : 1 ≤ d) (σ : zS) (l1 : Int32) (t0 : Int32)  : zwp X d MX12_harm 14 [.ref 66, .int l1, .null, .null, .null, .null] [.int t0] (zen σ) Q = (if 0 ≤ t0 then zwp X (d - 1) MX12_goAll 0 [.ref 66] [] (zen σ) (fun v h' => zwp X d MX12_harm 25 [.ref 66, .int l1, .int t0, .null, .null, .null] (zpsh v []) h' Q) else Q (some (.int t0)) (zen σ)) :=
  Eq.trans (q_istore_n (ls' := [.ref 66, .int l1, .int t0, .null, .null, .null]) (pc := 14) dX12_harm_14 rfl (Nat.le_of_ble_eq_true rfl) rfl) (Eq.trans (q_iload_n (pc := 15) dX12_harm_15 rfl rfl) (Eq.trans (q_if_ge (tgt := 21) (pc := 16) dX12_harm_16 rfl) (zite (fun hz1 => Eq.trans (q_aload_n (pc := 21) dX12_harm_21 rfl rfl) (zdpos (q_callV (as := []) (rest := []) (l0 := [.ref 66]) (pc := 22) dX12_harm_22 zC_12_303 rfl (z_recv zl_66 zh_66) rfl rfl) (by omega))) (fun hz1 => Eq.trans (q_iload_n (pc := 19) dX12_harm_19 rfl rfl) (q_iret (pc := 20) dX12_harm_20 rfl rfl)))))
theorem b_X12_harm_56 {X : zX} {d : Nat} {Q : Option Value → zH → Prop} (hd : 1 ≤ d) (σ : zS) (l1 : Int32) (l2 : Int32) (l3 : Int32) (l4 : Int32) (l5 : Int32)  : zwp X d MX12_harm 56 [.ref 66, .int l1, .int l2, .int l3, .int l4, .int l5] [] (zen σ) Q = zwp X (d - 1) MX12_heaviestAt 0 [.ref 66, .int 0, .null, .null] [] (zen σ) (fun v h' => zwp X d MX12_harm 61 [.ref 66, .int l1, .int l2, .int l3, .int l4, .int l5] (zpsh v []) h' Q) :=
  Eq.trans (q_aload_n (pc := 56) dX12_harm_56 rfl rfl) (Eq.trans (q_iconst (v := 0) (pc := 57) dX12_harm_57 rfl) (zdpos (q_callV (as := [.int 0]) (rest := []) (l0 := [.ref 66, .int 0, .null, .null]) (pc := 58) dX12_harm_58 zC_12_315 rfl (z_recv zl_66 zh_66) rfl rfl) (by omega)))
theorem b_X12_harm_25 {X : zX} {d : Nat} {Q : Option Value → zH → Prop} (hd : 1 ≤ d) (σ : zS) (l1 : Int32) (l2 : Int32)  : zwp X d MX12_harm 25 [.ref 66, .int l1, .int l2, .null, .null, .null] [] (zen σ) Q = zwp X (d - 1) MX12_heaviestAt 0 [.ref 66, .int 0, .null, .null] [] (zen σ) (fun v h' => zwp X d MX12_harm 30 [.ref 66, .int l1, .int l2, .null, .null, .null] (zpsh v []) h' Q) :=
  Eq.trans (q_aload_n (pc := 25) dX12_harm_25 rfl rfl) (Eq.trans (q_iconst (v := 0) (pc := 26) dX12_harm_26 rfl) (zdpos (q_callV (as := [.int 0]) (rest := []) (l0 := [.ref 66, .int 0, .null, .null]) (pc := 27) dX12_harm_27 zC_12_315 rfl (z_recv zl_66 zh_66) rfl rfl) (by omega)))
theorem b_X12_harm_61 {X : zX} {d : Nat} {Q : Option Value → zH → Prop} (σ : zS) (l1 : Int32) (l2 : Int32) (l3 : Int32) (l4 : Int32) (l5 : Int32) (t0 : Int32)  : zwp X d MX12_harm 61 [.ref 66, .int l1, .int l2, .int l3, .int l4, .int l5] [.int t0] (zen σ) Q = (if t0 ≤ l3 then zwp X d MX12_harm 37 [.ref 66, .int l1, .int l2, .int l3, .int l4, .int (l5 + 1)] [] (zen σ) Q else zwp X d MX12_harm 37 [.ref 66, .int l1, .int l2, .int l3, .int (l4 ||| (1 <<< (l5 &&& 31))), .int (l5 + 1)] [] (zen σ) Q) :=
  Eq.trans (q_iload_n (pc := 61) dX12_harm_61 rfl rfl) (Eq.trans (q_icmp_le (tgt := 74) (pc := 62) dX12_harm_62 rfl) (zite (fun hz1 => Eq.trans (q_iinc (c := 1) (ls' := [.ref 66, .int l1, .int l2, .int l3, .int l4, .int (l5 + 1)]) (pc := 74) dX12_harm_74 rfl rfl rfl) (Eq.trans (q_goto (tgt := 37) (pc := 77) dX12_harm_77 rfl) (rfl))) (fun hz1 => Eq.trans (q_iload (pc := 65) dX12_harm_65 rfl) (Eq.trans (q_iconst (v := 1) (pc := 67) dX12_harm_67 rfl) (Eq.trans (q_iload (pc := 68) dX12_harm_68 rfl) (Eq.trans (q_ishl (pc := 70) dX12_harm_70) (Eq.trans (q_ior (pc := 71) dX12_harm_71) (Eq.trans (q_istore (ls' := [.ref 66, .int l1, .int l2, .int l3, .int (l4 ||| (1 <<< (l5 &&& 31))), .int l5]) (pc := 72) dX12_harm_72 (Nat.le_of_ble_eq_true rfl) rfl) (Eq.trans (q_iinc (c := 1) (ls' := [.ref 66, .int l1, .int l2, .int l3, .int (l4 ||| (1 <<< (l5 &&& 31))), .int (l5 + 1)]) (pc := 74) dX12_harm_74 rfl rfl rfl) (Eq.trans (q_goto (tgt := 37) (pc := 77) dX12_harm_77 rfl) (rfl)))))))))))
theorem b_X12_harm_30 {X : zX} {d : Nat} {Q : Option Value → zH → Prop} (σ : zS) (l1 : Int32) (l2 : Int32) (t0 : Int32)  : zwp X d MX12_harm 30 [.ref 66, .int l1, .int l2, .null, .null, .null] [.int t0] (zen σ) Q = zwp X d MX12_harm 37 [.ref 66, .int l1, .int l2, .int t0, .int 0, .int 0] [] (zen σ) Q :=
  Eq.trans (q_istore_n (ls' := [.ref 66, .int l1, .int l2, .int t0, .null, .null]) (pc := 30) dX12_harm_30 rfl (Nat.le_of_ble_eq_true rfl) rfl) (Eq.trans (q_iconst (v := 0) (pc := 31) dX12_harm_31 rfl) (Eq.trans (q_istore (ls' := [.ref 66, .int l1, .int l2, .int t0, .int 0, .null]) (pc := 32) dX12_harm_32 (Nat.le_of_ble_eq_true rfl) rfl) (Eq.trans (q_iconst (v := 0) (pc := 34) dX12_harm_34 rfl) (Eq.trans (q_istore (ls' := [.ref 66, .int l1, .int l2, .int t0, .int 0, .int 0]) (pc := 35) dX12_harm_35 (Nat.le_of_ble_eq_true rfl) rfl) (rfl)))))
theorem b_X12_seat_0 {X : zX} {d : Nat} {Q : Option Value → zH → Prop} (hd : 2 ≤ d) (σ : zS) (a2 : Int32) (a3 : Int32) (a4 : Int32)  : zwp X d MX12_seat 0 [.ref 66, .int a2, .int a3, .int a4, .null, .null, .null, .null, .null] [] (zen σ) Q = (if (f_X12_isShelf σ a2) = 0 then Q (some (.int (-1))) (zen σ) else (if (f_X12_isRow σ a3) = 0 then Q (some (.int (-1))) (zen σ) else (if ¬ (f_X12_in σ a4 0 1) = 0 then zwp X (d - 1) MX12_layOr 0 [.ref 66, .int a2, .null] [] (zen σ) (fun v h' => zwp X d MX12_seat 31 [.ref 66, .int a2, .int a3, .int a4, .null, .null, .null, .null, .null] (zpsh v []) h' Q) else Q (some (.int (-1))) (zen σ)))) :=
  Eq.trans (q_iload_n (pc := 0) dX12_seat_0 rfl rfl) (Eq.trans (q_sumI (q_callS (as := [.int a2]) (rest := []) (l0 := [.int a2]) (pc := 1) dX12_seat_1 zSN_12_139 zC_12_139 rfl rfl rfl) (by omega) (s_X12_isShelf (hd := by omega) σ a2)) (Eq.trans (q_if_eq (tgt := 24) (pc := 4) dX12_seat_4 rfl) (zite (fun hz1 => Eq.trans (q_iconst (v := (-1)) (pc := 24) dX12_seat_24 rfl) (q_iret (pc := 25) dX12_seat_25 rfl rfl)) (fun hz1 => Eq.trans (q_aload_n (pc := 7) dX12_seat_7 rfl rfl) (Eq.trans (q_iload_n (pc := 8) dX12_seat_8 rfl rfl) (Eq.trans (q_sumI (q_callV (as := [.int a3]) (rest := []) (l0 := [.ref 66, .int a3]) (pc := 9) dX12_seat_9 zC_12_162 rfl (z_recv zl_66 zh_66) rfl rfl) (by omega) (s_X12_isRow (hd := by omega) σ a3)) (Eq.trans (q_if_eq (tgt := 24) (pc := 12) dX12_seat_12 rfl) (zite (fun hz2 => Eq.trans (q_iconst (v := (-1)) (pc := 24) dX12_seat_24 rfl) (q_iret (pc := 25) dX12_seat_25 rfl rfl)) (fun hz2 => Eq.trans (q_iload_n (pc := 15) dX12_seat_15 rfl rfl) (Eq.trans (q_iconst (v := 0) (pc := 16) dX12_seat_16 rfl) (Eq.trans (q_iconst (v := 1) (pc := 17) dX12_seat_17 rfl) (Eq.trans (q_sumI (q_callS (as := [.int a4, .int 0, .int 1]) (rest := []) (l0 := [.int a4, .int 0, .int 1]) (pc := 18) dX12_seat_18 zSN_12_128 zC_12_128 rfl rfl rfl) (by omega) (s_X12_in σ a4 0 1)) (Eq.trans (q_if_ne (tgt := 26) (pc := 21) dX12_seat_21 rfl) (zite (fun hz3 => Eq.trans (q_aload_n (pc := 26) dX12_seat_26 rfl rfl) (Eq.trans (q_iload_n (pc := 27) dX12_seat_27 rfl rfl) (zdpos (q_callV (as := [.int a2]) (rest := []) (l0 := [.ref 66, .int a2, .null]) (pc := 28) dX12_seat_28 zC_12_300 rfl (z_recv zl_66 zh_66) rfl rfl) (by omega)))) (fun hz3 => Eq.trans (q_iconst (v := (-1)) (pc := 24) dX12_seat_24 rfl) (q_iret (pc := 25) dX12_seat_25 rfl rfl))))))))))))))))
theorem b_X12_seat_58 {X : zX} {d : Nat} {Q : Option Value → zH → Prop} (hd : 1 ≤ d) (σ : zS) (l1 : Int32) (l2 : Int32) (l3 : Int32) (l4 : Int32) (l5 : Int32) (l6 : Int32) (l7 : Int32) (l8 : Int32)  : zwp X d MX12_seat 58 [.ref 66, .int l1, .int l2, .int l3, .int l4, .int l5, .int l6, .int l7, .int l8] [] (zen σ) Q = (if (gi σ 66 9) ≤ l8 then (zin l2 6 = true ∧ (if ¬ l3 = 0 then Q (some (.int l7)) (zen (si σ 68 (ix l2) l5)) else Q (some (.int l6)) (zen (si σ 68 (ix l2) l5)))) else (zin l2 6 = true ∧ zwp X (d - 1) MX12_goAll 0 [.ref 66] [] (zen (si σ 68 (ix l2) l8)) (fun v h' => zwp X d MX12_seat 79 [.ref 66, .int l1, .int l2, .int l3, .int l4, .int l5, .int l6, .int l7, .int l8] (zpsh v []) h' Q))) :=
  Eq.trans (q_iload (pc := 58) dX12_seat_58 rfl) (Eq.trans (q_aload_n (pc := 60) dX12_seat_60 rfl rfl) (Eq.trans (q_getf (pc := 61) dX12_seat_61 zF_12_28 (z_rfiE (x := (gi σ 66 9)) zl_66 zh_66 (by decide) rfl rfl)) (Eq.trans (q_icmp_ge (tgt := 109) (pc := 64) dX12_seat_64 rfl) (zite (fun hz1 => Eq.trans (q_aload_n (pc := 109) dX12_seat_109 rfl rfl) (Eq.trans (q_getf (pc := 110) dX12_seat_110 zF_12_13 (z_rfr zl_66 zh_66 (by decide) rfl)) (Eq.trans (q_iload_n (pc := 113) dX12_seat_113 rfl rfl) (Eq.trans (q_iload (pc := 114) dX12_seat_114 rfl) (Eq.trans (q_iastore (pc := 116) dX12_seat_116 (zN_lt zl_68) (z_ia zl_68 zh_68 (by decide)) (z_pi zl_68 zh_68 (by decide))) (zand fun hz2 => Eq.trans (q_iload_n (pc := 117) dX12_seat_117 rfl rfl) (Eq.trans (q_if_ne (tgt := 126) (pc := 118) dX12_seat_118 rfl) (zite (fun hz3 => Eq.trans (q_iload (pc := 126) dX12_seat_126 rfl) (q_iret (pc := 128) dX12_seat_128 rfl rfl)) (fun hz3 => Eq.trans (q_iload (pc := 121) dX12_seat_121 rfl) (Eq.trans (q_goto (tgt := 128) (pc := 123) dX12_seat_123 rfl) (q_iret (pc := 128) dX12_seat_128 rfl rfl))))))))))) (fun hz1 => Eq.trans (q_aload_n (pc := 67) dX12_seat_67 rfl rfl) (Eq.trans (q_getf (pc := 68) dX12_seat_68 zF_12_13 (z_rfr zl_66 zh_66 (by decide) rfl)) (Eq.trans (q_iload_n (pc := 71) dX12_seat_71 rfl rfl) (Eq.trans (q_iload (pc := 72) dX12_seat_72 rfl) (Eq.trans (q_iastore (pc := 74) dX12_seat_74 (zN_lt zl_68) (z_ia zl_68 zh_68 (by decide)) (z_pi zl_68 zh_68 (by decide))) (zand fun hz4 => Eq.trans (q_aload_n (pc := 75) dX12_seat_75 rfl rfl) (zdpos (q_callV (as := []) (rest := []) (l0 := [.ref 66]) (pc := 76) dX12_seat_76 zC_12_303 rfl (z_recv zl_66 zh_66) rfl rfl) (by omega))))))))))))
theorem b_X12_seat_31 {X : zX} {d : Nat} {Q : Option Value → zH → Prop} (σ : zS) (l1 : Int32) (l2 : Int32) (l3 : Int32) (t0 : Int32)  : zwp X d MX12_seat 31 [.ref 66, .int l1, .int l2, .int l3, .null, .null, .null, .null, .null] [.int t0] (zen σ) Q = (if 0 ≤ t0 then (zin l2 6 = true ∧ zwp X d MX12_seat 58 [.ref 66, .int l1, .int l2, .int l3, .int t0, .int (gi σ 68 (ix l2)), .int 0, .int (-1), .int 0] [] (zen σ) Q) else Q (some (.int t0)) (zen σ)) :=
  Eq.trans (q_istore (ls' := [.ref 66, .int l1, .int l2, .int l3, .int t0, .null, .null, .null, .null]) (pc := 31) dX12_seat_31 (Nat.le_of_ble_eq_true rfl) rfl) (Eq.trans (q_iload (pc := 33) dX12_seat_33 rfl) (Eq.trans (q_if_ge (tgt := 41) (pc := 35) dX12_seat_35 rfl) (zite (fun hz1 => Eq.trans (q_aload_n (pc := 41) dX12_seat_41 rfl rfl) (Eq.trans (q_getf (pc := 42) dX12_seat_42 zF_12_13 (z_rfr zl_66 zh_66 (by decide) rfl)) (Eq.trans (q_iload_n (pc := 45) dX12_seat_45 rfl rfl) (Eq.trans (qe_iaload (x := (gi σ 68 (ix l2))) (pc := 46) dX12_seat_46 (z_ia zl_68 zh_68 (by decide)) rfl) (zand fun hz2 => Eq.trans (q_istore (ls' := [.ref 66, .int l1, .int l2, .int l3, .int t0, .int (gi σ 68 (ix l2)), .null, .null, .null]) (pc := 47) dX12_seat_47 (Nat.le_of_ble_eq_true rfl) rfl) (Eq.trans (q_iconst (v := 0) (pc := 49) dX12_seat_49 rfl) (Eq.trans (q_istore (ls' := [.ref 66, .int l1, .int l2, .int l3, .int t0, .int (gi σ 68 (ix l2)), .int 0, .null, .null]) (pc := 50) dX12_seat_50 (Nat.le_of_ble_eq_true rfl) rfl) (Eq.trans (q_iconst (v := (-1)) (pc := 52) dX12_seat_52 rfl) (Eq.trans (q_istore (ls' := [.ref 66, .int l1, .int l2, .int l3, .int t0, .int (gi σ 68 (ix l2)), .int 0, .int (-1), .null]) (pc := 53) dX12_seat_53 (Nat.le_of_ble_eq_true rfl) rfl) (Eq.trans (q_iconst (v := 0) (pc := 55) dX12_seat_55 rfl) (Eq.trans (q_istore (ls' := [.ref 66, .int l1, .int l2, .int l3, .int t0, .int (gi σ 68 (ix l2)), .int 0, .int (-1), .int 0]) (pc := 56) dX12_seat_56 (Nat.le_of_ble_eq_true rfl) rfl) (rfl)))))))))))) (fun hz1 => Eq.trans (q_iload (pc := 38) dX12_seat_38 rfl) (q_iret (pc := 40) dX12_seat_40 rfl rfl)))))
theorem b_X12_seat_79 {X : zX} {d : Nat} {Q : Option Value → zH → Prop} (hd : 1 ≤ d) (σ : zS) (l1 : Int32) (l2 : Int32) (l3 : Int32) (l4 : Int32) (l5 : Int32) (l6 : Int32) (l7 : Int32) (l8 : Int32)  : zwp X d MX12_seat 79 [.ref 66, .int l1, .int l2, .int l3, .int l4, .int l5, .int l6, .int l7, .int l8] [] (zen σ) Q = zwp X (d - 1) MX12_heaviestAt 0 [.ref 66, .int 0, .null, .null] [] (zen σ) (fun v h' => zwp X d MX12_seat 84 [.ref 66, .int l1, .int l2, .int l3, .int l4, .int l5, .int l6, .int l7, .int l8] (zpsh v []) h' Q) :=
  Eq.trans (q_aload_n (pc := 79) dX12_seat_79 rfl rfl) (Eq.trans (q_iconst (v := 0) (pc := 80) dX12_seat_80 rfl) (zdpos (q_callV (as := [.int 0]) (rest := []) (l0 := [.ref 66, .int 0, .null, .null]) (pc := 81) dX12_seat_81 zC_12_315 rfl (z_recv zl_66 zh_66) rfl rfl) (by omega)))
theorem b_X12_seat_84 {X : zX} {d : Nat} {Q : Option Value → zH → Prop} (hd : 1 ≤ d) (σ : zS) (l1 : Int32) (l2 : Int32) (l3 : Int32) (l4 : Int32) (l5 : Int32) (l6 : Int32) (l7 : Int32) (l8 : Int32) (t0 : Int32)  : zwp X d MX12_seat 84 [.ref 66, .int l1, .int l2, .int l3, .int l4, .int l5, .int l6, .int l7, .int l8] [.int t0] (zen σ) Q = (if l7 < t0 then zwp X (d - 1) MX12_heaviestAt 0 [.ref 66, .int 0, .null, .null] [] (zen σ) (fun v h' => zwp X d MX12_seat 101 [.ref 66, .int l1, .int l2, .int l3, .int l4, .int l5, .int l8, .int l7, .int l8] (zpsh v []) h' Q) else zwp X d MX12_seat 58 [.ref 66, .int l1, .int l2, .int l3, .int l4, .int l5, .int l6, .int l7, .int (l8 + 1)] [] (zen σ) Q) :=
  Eq.trans (q_iload (pc := 84) dX12_seat_84 rfl) (Eq.trans (q_icmp_gt (tgt := 92) (pc := 86) dX12_seat_86 rfl) (zite (fun hz1 => Eq.trans (q_iload (pc := 92) dX12_seat_92 rfl) (Eq.trans (q_istore (ls' := [.ref 66, .int l1, .int l2, .int l3, .int l4, .int l5, .int l8, .int l7, .int l8]) (pc := 94) dX12_seat_94 (Nat.le_of_ble_eq_true rfl) rfl) (Eq.trans (q_aload_n (pc := 96) dX12_seat_96 rfl rfl) (Eq.trans (q_iconst (v := 0) (pc := 97) dX12_seat_97 rfl) (zdpos (q_callV (as := [.int 0]) (rest := []) (l0 := [.ref 66, .int 0, .null, .null]) (pc := 98) dX12_seat_98 zC_12_315 rfl (z_recv zl_66 zh_66) rfl rfl) (by omega)))))) (fun hz1 => Eq.trans (q_goto (tgt := 103) (pc := 89) dX12_seat_89 rfl) (Eq.trans (q_iinc (c := 1) (ls' := [.ref 66, .int l1, .int l2, .int l3, .int l4, .int l5, .int l6, .int l7, .int (l8 + 1)]) (pc := 103) dX12_seat_103 rfl rfl rfl) (Eq.trans (q_goto (tgt := 58) (pc := 106) dX12_seat_106 rfl) (rfl))))))
theorem b_X12_seat_101 {X : zX} {d : Nat} {Q : Option Value → zH → Prop} (σ : zS) (l1 : Int32) (l2 : Int32) (l3 : Int32) (l4 : Int32) (l5 : Int32) (l6 : Int32) (l7 : Int32) (l8 : Int32) (t0 : Int32)  : zwp X d MX12_seat 101 [.ref 66, .int l1, .int l2, .int l3, .int l4, .int l5, .int l6, .int l7, .int l8] [.int t0] (zen σ) Q = zwp X d MX12_seat 58 [.ref 66, .int l1, .int l2, .int l3, .int l4, .int l5, .int l6, .int t0, .int (l8 + 1)] [] (zen σ) Q :=
  Eq.trans (q_istore (ls' := [.ref 66, .int l1, .int l2, .int l3, .int l4, .int l5, .int l6, .int t0, .int l8]) (pc := 101) dX12_seat_101 (Nat.le_of_ble_eq_true rfl) rfl) (Eq.trans (q_iinc (c := 1) (ls' := [.ref 66, .int l1, .int l2, .int l3, .int l4, .int l5, .int l6, .int t0, .int (l8 + 1)]) (pc := 103) dX12_seat_103 rfl rfl rfl) (Eq.trans (q_goto (tgt := 58) (pc := 106) dX12_seat_106 rfl) (rfl)))
theorem b_X12_encore_0 {X : zX} {d : Nat} {Q : Option Value → zH → Prop} (hd : 2 ≤ d) (σ : zS) (a2 : Int32)  : zwp X d MX12_encore 0 [.ref 66, .int a2, .null, .null] [] (zen σ) Q = (if (f_X12_isShelf σ a2) = 0 then Q (some (.int (-2000000000))) (zen σ) else zwp X (d - 1) MX12_layOr 0 [.ref 66, .int a2, .null] [] (zen σ) (fun v h' => zwp X d MX12_encore 12 [.ref 66, .int a2, .null, .null] (zpsh v []) h' Q)) :=
  Eq.trans (q_iload_n (pc := 0) dX12_encore_0 rfl rfl) (Eq.trans (q_sumI (q_callS (as := [.int a2]) (rest := []) (l0 := [.int a2]) (pc := 1) dX12_encore_1 zSN_12_139 zC_12_139 rfl rfl rfl) (by omega) (s_X12_isShelf (hd := by omega) σ a2)) (Eq.trans (q_if_eq (tgt := 15) (pc := 4) dX12_encore_4 rfl) (zite (fun hz1 => Eq.trans (q_ldcw (v := (-2000000000)) (pc := 15) dX12_encore_15 zK_12_262) (q_iret (pc := 18) dX12_encore_18 rfl rfl)) (fun hz1 => Eq.trans (q_aload_n (pc := 7) dX12_encore_7 rfl rfl) (Eq.trans (q_iload_n (pc := 8) dX12_encore_8 rfl rfl) (zdpos (q_callV (as := [.int a2]) (rest := []) (l0 := [.ref 66, .int a2, .null]) (pc := 9) dX12_encore_9 zC_12_300 rfl (z_recv zl_66 zh_66) rfl rfl) (by omega)))))))
theorem b_X12_encore_26 {X : zX} {d : Nat} {Q : Option Value → zH → Prop} (hd : 1 ≤ d) (σ : zS) (l1 : Int32) (l2 : Int32)  : zwp X d MX12_encore 26 [.ref 66, .int l1, .int l2, .null] [] (zen σ) Q = (if l2 < 0 then (if 0 ≤ l2 then zwp X (d - 1) MX12_goAll 0 [.ref 66] [] (zen σ) (fun v h' => zwp X d MX12_encore 57 [.ref 66, .int l1, .int l2, .null] (zpsh v []) h' Q) else Q (some (.int 0)) (zen σ)) else (zin l2 21 = true ∧ (if ¬ (gi σ 88 (ix l2)) = 20 then (if 0 ≤ l2 then zwp X (d - 1) MX12_goAll 0 [.ref 66] [] (zen σ) (fun v h' => zwp X d MX12_encore 57 [.ref 66, .int l1, .int l2, .null] (zpsh v []) h' Q) else Q (some (.int 0)) (zen σ)) else zwp X d MX12_encore 26 [.ref 66, .int l1, .int (l2 + (-1)), .null] [] (zen σ) Q))) :=
  Eq.trans (q_iload_n (pc := 26) dX12_encore_26 rfl rfl) (Eq.trans (q_if_lt (tgt := 47) (pc := 27) dX12_encore_27 rfl) (zite (fun hz1 => Eq.trans (q_iload_n (pc := 47) dX12_encore_47 rfl rfl) (Eq.trans (q_if_ge (tgt := 53) (pc := 48) dX12_encore_48 rfl) (zite (fun hz2 => Eq.trans (q_aload_n (pc := 53) dX12_encore_53 rfl rfl) (zdpos (q_callV (as := []) (rest := []) (l0 := [.ref 66]) (pc := 54) dX12_encore_54 zC_12_303 rfl (z_recv zl_66 zh_66) rfl rfl) (by omega))) (fun hz2 => Eq.trans (q_iconst (v := 0) (pc := 51) dX12_encore_51 rfl) (q_iret (pc := 52) dX12_encore_52 rfl rfl))))) (fun hz1 => Eq.trans (q_aload_n (pc := 30) dX12_encore_30 rfl rfl) (Eq.trans (q_getf (pc := 31) dX12_encore_31 zF_12_88 (z_rfr zl_66 zh_66 (by decide) rfl)) (Eq.trans (q_iload_n (pc := 34) dX12_encore_34 rfl rfl) (Eq.trans (qe_iaload (x := (gi σ 88 (ix l2))) (pc := 35) dX12_encore_35 (z_ia zl_88 zh_88 (by decide)) rfl) (zand fun hz3 => Eq.trans (q_bipush (v := 20) (pc := 36) dX12_encore_36 rfl) (Eq.trans (q_icmp_ne (tgt := 47) (pc := 38) dX12_encore_38 rfl) (zite (fun hz4 => Eq.trans (q_iload_n (pc := 47) dX12_encore_47 rfl rfl) (Eq.trans (q_if_ge (tgt := 53) (pc := 48) dX12_encore_48 rfl) (zite (fun hz5 => Eq.trans (q_aload_n (pc := 53) dX12_encore_53 rfl rfl) (zdpos (q_callV (as := []) (rest := []) (l0 := [.ref 66]) (pc := 54) dX12_encore_54 zC_12_303 rfl (z_recv zl_66 zh_66) rfl rfl) (by omega))) (fun hz5 => Eq.trans (q_iconst (v := 0) (pc := 51) dX12_encore_51 rfl) (q_iret (pc := 52) dX12_encore_52 rfl rfl))))) (fun hz4 => Eq.trans (q_iinc (c := (-1)) (ls' := [.ref 66, .int l1, .int (l2 + (-1)), .null]) (pc := 41) dX12_encore_41 rfl rfl rfl) (Eq.trans (q_goto (tgt := 26) (pc := 44) dX12_encore_44 rfl) (rfl))))))))))))
theorem b_X12_encore_12 {X : zX} {d : Nat} {Q : Option Value → zH → Prop} (σ : zS) (l1 : Int32) (t0 : Int32)  : zwp X d MX12_encore 12 [.ref 66, .int l1, .null, .null] [.int t0] (zen σ) Q = (if 0 ≤ t0 then zwp X d MX12_encore 26 [.ref 66, .int l1, .int ((gi σ 66 39) - 1), .null] [] (zen σ) Q else Q (some (.int (-2000000000))) (zen σ)) :=
  Eq.trans (q_if_ge (tgt := 19) (pc := 12) dX12_encore_12 rfl) (zite (fun hz1 => Eq.trans (q_aload_n (pc := 19) dX12_encore_19 rfl rfl) (Eq.trans (q_getf (pc := 20) dX12_encore_20 zF_12_279 (z_rfiE (x := (gi σ 66 39)) zl_66 zh_66 (by decide) rfl rfl)) (Eq.trans (q_iconst (v := 1) (pc := 23) dX12_encore_23 rfl) (Eq.trans (q_isub (pc := 24) dX12_encore_24) (Eq.trans (q_istore_n (ls' := [.ref 66, .int l1, .int ((gi σ 66 39) - 1), .null]) (pc := 25) dX12_encore_25 rfl (Nat.le_of_ble_eq_true rfl) rfl) (rfl)))))) (fun hz1 => Eq.trans (q_ldcw (v := (-2000000000)) (pc := 15) dX12_encore_15 zK_12_262) (q_iret (pc := 18) dX12_encore_18 rfl rfl)))
theorem b_X12_encore_57 {X : zX} {d : Nat} {Q : Option Value → zH → Prop} (hd : 1 ≤ d) (σ : zS) (l1 : Int32) (l2 : Int32)  : zwp X d MX12_encore 57 [.ref 66, .int l1, .int l2, .null] [] (zen σ) Q = zwp X (d - 1) MX12_heaviestAt 0 [.ref 66, .int 0, .null, .null] [] (zen σ) (fun v h' => zwp X d MX12_encore 62 [.ref 66, .int l1, .int l2, .null] (zpsh v []) h' Q) :=
  Eq.trans (q_aload_n (pc := 57) dX12_encore_57 rfl rfl) (Eq.trans (q_iconst (v := 0) (pc := 58) dX12_encore_58 rfl) (zdpos (q_callV (as := [.int 0]) (rest := []) (l0 := [.ref 66, .int 0, .null, .null]) (pc := 59) dX12_encore_59 zC_12_315 rfl (z_recv zl_66 zh_66) rfl rfl) (by omega)))
theorem b_X12_encore_62 {X : zX} {d : Nat} {Q : Option Value → zH → Prop} (hd : 1 ≤ d) (σ : zS) (l1 : Int32) (l2 : Int32) (t0 : Int32)  : zwp X d MX12_encore 62 [.ref 66, .int l1, .int l2, .null] [.int t0] (zen σ) Q = (zin l2 21 = true ∧ zwp X (d - 1) MX12_goTurn 0 [.ref 66, .int (gi σ 88 (ix l2))] [] (zen σ) (fun v h' => zwp X d MX12_encore 73 [.ref 66, .int l1, .int l2, .int t0] (zpsh v []) h' Q)) :=
  Eq.trans (q_istore_n (ls' := [.ref 66, .int l1, .int l2, .int t0]) (pc := 62) dX12_encore_62 rfl (Nat.le_of_ble_eq_true rfl) rfl) (Eq.trans (q_aload_n (pc := 63) dX12_encore_63 rfl rfl) (Eq.trans (q_aload_n (pc := 64) dX12_encore_64 rfl rfl) (Eq.trans (q_getf (pc := 65) dX12_encore_65 zF_12_88 (z_rfr zl_66 zh_66 (by decide) rfl)) (Eq.trans (q_iload_n (pc := 68) dX12_encore_68 rfl rfl) (Eq.trans (qe_iaload (x := (gi σ 88 (ix l2))) (pc := 69) dX12_encore_69 (z_ia zl_88 zh_88 (by decide)) rfl) (zand fun hz1 => zdpos (q_callV (as := [.int (gi σ 88 (ix l2))]) (rest := []) (l0 := [.ref 66, .int (gi σ 88 (ix l2))]) (pc := 70) dX12_encore_70 zC_12_276 rfl (z_recv zl_66 zh_66) rfl rfl) (by omega)))))))
theorem b_X12_encore_73 {X : zX} {d : Nat} {Q : Option Value → zH → Prop} (hd : 1 ≤ d) (σ : zS) (l1 : Int32) (l2 : Int32) (l3 : Int32)  : zwp X d MX12_encore 73 [.ref 66, .int l1, .int l2, .int l3] [] (zen σ) Q = zwp X (d - 1) MX12_heaviestAt 0 [.ref 66, .int 0, .null, .null] [] (zen σ) (fun v h' => zwp X d MX12_encore 78 [.ref 66, .int l1, .int l2, .int l3] (zpsh v []) h' Q) :=
  Eq.trans (q_aload_n (pc := 73) dX12_encore_73 rfl rfl) (Eq.trans (q_iconst (v := 0) (pc := 74) dX12_encore_74 rfl) (zdpos (q_callV (as := [.int 0]) (rest := []) (l0 := [.ref 66, .int 0, .null, .null]) (pc := 75) dX12_encore_75 zC_12_315 rfl (z_recv zl_66 zh_66) rfl rfl) (by omega)))
theorem b_X12_encore_78 {X : zX} {d : Nat} {Q : Option Value → zH → Prop} (σ : zS) (l1 : Int32) (l2 : Int32) (l3 : Int32) (t0 : Int32)  : zwp X d MX12_encore 78 [.ref 66, .int l1, .int l2, .int l3] [.int t0] (zen σ) Q = Q (some (.int (t0 - l3))) (zen σ) :=
  Eq.trans (q_iload_n (pc := 78) dX12_encore_78 rfl rfl) (Eq.trans (q_isub (pc := 79) dX12_encore_79) (q_iret (pc := 80) dX12_encore_80 rfl rfl))
