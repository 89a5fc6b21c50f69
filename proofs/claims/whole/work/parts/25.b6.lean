set_option maxRecDepth 100000
theorem dX12_claque_0 : decode cX12_claque 0 = .ok (.iload_n 1, 1) := by decide +kernel
theorem dX12_claque_1 : decode cX12_claque 1 = .ok (.invokestatic 139, 3) := by decide +kernel
theorem dX12_claque_4 : decode cX12_claque 4 = .ok (.ifCond .eq 19, 3) := by decide +kernel
theorem dX12_claque_7 : decode cX12_claque 7 = .ok (.iload_n 2, 1) := by decide +kernel
theorem dX12_claque_8 : decode cX12_claque 8 = .ok (.ifCond .lt 15, 3) := by decide +kernel
theorem dX12_claque_11 : decode cX12_claque 11 = .ok (.aload_n 0, 1) := by decide +kernel
theorem dX12_claque_12 : decode cX12_claque 12 = .ok (.iload_n 2, 1) := by decide +kernel
theorem dX12_claque_13 : decode cX12_claque 13 = .ok (.sipush 1000, 3) := by decide +kernel
theorem dX12_claque_16 : decode cX12_claque 16 = .ok (.idiv, 1) := by decide +kernel
theorem dX12_claque_17 : decode cX12_claque 17 = .ok (.invokevirtual 162, 3) := by decide +kernel
theorem dX12_claque_20 : decode cX12_claque 20 = .ok (.ifCond .ne 5, 3) := by decide +kernel
theorem dX12_claque_23 : decode cX12_claque 23 = .ok (.iconst (-1), 1) := by decide +kernel
theorem dX12_claque_24 : decode cX12_claque 24 = .ok (.ireturn, 1) := by decide +kernel
theorem dX12_claque_25 : decode cX12_claque 25 = .ok (.aload_n 0, 1) := by decide +kernel
theorem dX12_claque_26 : decode cX12_claque 26 = .ok (.iload_n 1, 1) := by decide +kernel
theorem dX12_claque_27 : decode cX12_claque 27 = .ok (.invokevirtual 300, 3) := by decide +kernel
theorem dX12_claque_30 : decode cX12_claque 30 = .ok (.istore_n 3, 1) := by decide +kernel
theorem dX12_claque_31 : decode cX12_claque 31 = .ok (.iload_n 3, 1) := by decide +kernel
theorem dX12_claque_32 : decode cX12_claque 32 = .ok (.ifCond .ge 5, 3) := by decide +kernel
theorem dX12_claque_35 : decode cX12_claque 35 = .ok (.iload_n 3, 1) := by decide +kernel
theorem dX12_claque_36 : decode cX12_claque 36 = .ok (.ireturn, 1) := by decide +kernel
theorem dX12_claque_37 : decode cX12_claque 37 = .ok (.iload_n 2, 1) := by decide +kernel
theorem dX12_claque_38 : decode cX12_claque 38 = .ok (.sipush 1000, 3) := by decide +kernel
theorem dX12_claque_41 : decode cX12_claque 41 = .ok (.idiv, 1) := by decide +kernel
theorem dX12_claque_42 : decode cX12_claque 42 = .ok (.istore 4, 2) := by decide +kernel
theorem dX12_claque_44 : decode cX12_claque 44 = .ok (.aload_n 0, 1) := by decide +kernel
theorem dX12_claque_45 : decode cX12_claque 45 = .ok (.getfield 7, 3) := by decide +kernel
theorem dX12_claque_48 : decode cX12_claque 48 = .ok (.iload 4, 2) := by decide +kernel
theorem dX12_claque_50 : decode cX12_claque 50 = .ok (.iaload, 1) := by decide +kernel
theorem dX12_claque_51 : decode cX12_claque 51 = .ok (.istore 5, 2) := by decide +kernel
theorem dX12_claque_53 : decode cX12_claque 53 = .ok (.bipush (-2), 2) := by decide +kernel
theorem dX12_claque_55 : decode cX12_claque 55 = .ok (.istore 6, 2) := by decide +kernel
theorem dX12_claque_57 : decode cX12_claque 57 = .ok (.iconst 0, 1) := by decide +kernel
theorem dX12_claque_58 : decode cX12_claque 58 = .ok (.istore 7, 2) := by decide +kernel
theorem dX12_claque_60 : decode cX12_claque 60 = .ok (.iload 5, 2) := by decide +kernel
theorem dX12_claque_62 : decode cX12_claque 62 = .ok (.iload 7, 2) := by decide +kernel
theorem dX12_claque_64 : decode cX12_claque 64 = .ok (.iadd, 1) := by decide +kernel
theorem dX12_claque_65 : decode cX12_claque 65 = .ok (.bipush 99, 2) := by decide +kernel
theorem dX12_claque_67 : decode cX12_claque 67 = .ok (.if_icmp .gt 49, 3) := by decide +kernel
theorem dX12_claque_70 : decode cX12_claque 70 = .ok (.iload 6, 2) := by decide +kernel
theorem dX12_claque_72 : decode cX12_claque 72 = .ok (.ifCond .ge 44, 3) := by decide +kernel
theorem dX12_claque_75 : decode cX12_claque 75 = .ok (.aload_n 0, 1) := by decide +kernel
theorem dX12_claque_76 : decode cX12_claque 76 = .ok (.getfield 7, 3) := by decide +kernel
theorem dX12_claque_79 : decode cX12_claque 79 = .ok (.iload 4, 2) := by decide +kernel
theorem dX12_claque_81 : decode cX12_claque 81 = .ok (.iload 5, 2) := by decide +kernel
theorem dX12_claque_83 : decode cX12_claque 83 = .ok (.iload 7, 2) := by decide +kernel
theorem dX12_claque_85 : decode cX12_claque 85 = .ok (.iadd, 1) := by decide +kernel
theorem dX12_claque_86 : decode cX12_claque 86 = .ok (.iastore, 1) := by decide +kernel
theorem dX12_claque_87 : decode cX12_claque 87 = .ok (.aload_n 0, 1) := by decide +kernel
theorem dX12_claque_88 : decode cX12_claque 88 = .ok (.invokevirtual 303, 3) := by decide +kernel
theorem dX12_claque_91 : decode cX12_claque 91 = .ok (.aload_n 0, 1) := by decide +kernel
theorem dX12_claque_92 : decode cX12_claque 92 = .ok (.iload_n 2, 1) := by decide +kernel
theorem dX12_claque_93 : decode cX12_claque 93 = .ok (.sipush 1000, 3) := by decide +kernel
theorem dX12_claque_96 : decode cX12_claque 96 = .ok (.irem, 1) := by decide +kernel
theorem dX12_claque_97 : decode cX12_claque 97 = .ok (.iconst 0, 1) := by decide +kernel
theorem dX12_claque_98 : decode cX12_claque 98 = .ok (.invokevirtual 312, 3) := by decide +kernel
theorem dX12_claque_101 : decode cX12_claque 101 = .ok (.bipush (-2), 2) := by decide +kernel
theorem dX12_claque_103 : decode cX12_claque 103 = .ok (.if_icmp .ne 7, 3) := by decide +kernel
theorem dX12_claque_106 : decode cX12_claque 106 = .ok (.iload 7, 2) := by decide +kernel
theorem dX12_claque_108 : decode cX12_claque 108 = .ok (.istore 6, 2) := by decide +kernel
theorem dX12_claque_110 : decode cX12_claque 110 = .ok (.iinc 7 1, 3) := by decide +kernel
theorem dX12_claque_113 : decode cX12_claque 113 = .ok (.goto (-53), 3) := by decide +kernel
theorem dX12_claque_116 : decode cX12_claque 116 = .ok (.aload_n 0, 1) := by decide +kernel
theorem dX12_claque_117 : decode cX12_claque 117 = .ok (.getfield 7, 3) := by decide +kernel
theorem dX12_claque_120 : decode cX12_claque 120 = .ok (.iload 4, 2) := by decide +kernel
theorem dX12_claque_122 : decode cX12_claque 122 = .ok (.iload 5, 2) := by decide +kernel
theorem dX12_claque_124 : decode cX12_claque 124 = .ok (.iastore, 1) := by decide +kernel
theorem dX12_claque_125 : decode cX12_claque 125 = .ok (.iload 6, 2) := by decide +kernel
theorem dX12_claque_127 : decode cX12_claque 127 = .ok (.ireturn, 1) := by decide +kernel
theorem dX12_wrongSeen_0 : decode cX12_wrongSeen 0 = .ok (.iconst 0, 1) := by decide +kernel
theorem dX12_wrongSeen_1 : decode cX12_wrongSeen 1 = .ok (.istore_n 2, 1) := by decide +kernel
theorem dX12_wrongSeen_2 : decode cX12_wrongSeen 2 = .ok (.iload_n 2, 1) := by decide +kernel
theorem dX12_wrongSeen_3 : decode cX12_wrongSeen 3 = .ok (.aload_n 0, 1) := by decide +kernel
theorem dX12_wrongSeen_4 : decode cX12_wrongSeen 4 = .ok (.getfield 112, 3) := by decide +kernel
theorem dX12_wrongSeen_7 : decode cX12_wrongSeen 7 = .ok (.iload_n 1, 1) := by decide +kernel
theorem dX12_wrongSeen_8 : decode cX12_wrongSeen 8 = .ok (.iaload, 1) := by decide +kernel
theorem dX12_wrongSeen_9 : decode cX12_wrongSeen 9 = .ok (.if_icmp .ge 34, 3) := by decide +kernel
theorem dX12_wrongSeen_12 : decode cX12_wrongSeen 12 = .ok (.iload_n 2, 1) := by decide +kernel
theorem dX12_wrongSeen_13 : decode cX12_wrongSeen 13 = .ok (.aload_n 0, 1) := by decide +kernel
theorem dX12_wrongSeen_14 : decode cX12_wrongSeen 14 = .ok (.getfield 28, 3) := by decide +kernel
theorem dX12_wrongSeen_17 : decode cX12_wrongSeen 17 = .ok (.if_icmp .ge 26, 3) := by decide +kernel
theorem dX12_wrongSeen_20 : decode cX12_wrongSeen 20 = .ok (.aload_n 0, 1) := by decide +kernel
theorem dX12_wrongSeen_21 : decode cX12_wrongSeen 21 = .ok (.iload_n 1, 1) := by decide +kernel
theorem dX12_wrongSeen_22 : decode cX12_wrongSeen 22 = .ok (.iload_n 2, 1) := by decide +kernel
theorem dX12_wrongSeen_23 : decode cX12_wrongSeen 23 = .ok (.invokevirtual 282, 3) := by decide +kernel
theorem dX12_wrongSeen_26 : decode cX12_wrongSeen 26 = .ok (.aload_n 0, 1) := by decide +kernel
theorem dX12_wrongSeen_27 : decode cX12_wrongSeen 27 = .ok (.getfield 79, 3) := by decide +kernel
theorem dX12_wrongSeen_30 : decode cX12_wrongSeen 30 = .ok (.iload_n 2, 1) := by decide +kernel
theorem dX12_wrongSeen_31 : decode cX12_wrongSeen 31 = .ok (.iaload, 1) := by decide +kernel
theorem dX12_wrongSeen_32 : decode cX12_wrongSeen 32 = .ok (.if_icmp .eq 5, 3) := by decide +kernel
theorem dX12_wrongSeen_35 : decode cX12_wrongSeen 35 = .ok (.iload_n 2, 1) := by decide +kernel
theorem dX12_wrongSeen_36 : decode cX12_wrongSeen 36 = .ok (.ireturn, 1) := by decide +kernel
theorem dX12_wrongSeen_37 : decode cX12_wrongSeen 37 = .ok (.iinc 2 1, 3) := by decide +kernel
theorem dX12_wrongSeen_40 : decode cX12_wrongSeen 40 = .ok (.goto (-38), 3) := by decide +kernel
theorem dX12_wrongSeen_43 : decode cX12_wrongSeen 43 = .ok (.bipush (-2), 2) := by decide +kernel
theorem dX12_wrongSeen_45 : decode cX12_wrongSeen 45 = .ok (.ireturn, 1) := by decide +kernel
theorem dX12_layBoth_0 : decode cX12_layBoth 0 = .ok (.aload_n 0, 1) := by decide +kernel
theorem dX12_layBoth_1 : decode cX12_layBoth 1 = .ok (.getfield 109, 3) := by decide +kernel
theorem dX12_layBoth_4 : decode cX12_layBoth 4 = .ok (.iload_n 1, 1) := by decide +kernel
theorem dX12_layBoth_5 : decode cX12_layBoth 5 = .ok (.bipush 10, 2) := by decide +kernel
theorem dX12_layBoth_7 : decode cX12_layBoth 7 = .ok (.idiv, 1) := by decide +kernel
theorem dX12_layBoth_8 : decode cX12_layBoth 8 = .ok (.iaload, 1) := by decide +kernel
theorem dX12_layBoth_9 : decode cX12_layBoth 9 = .ok (.iconst (-1), 1) := by decide +kernel
theorem dX12_layBoth_10 : decode cX12_layBoth 10 = .ok (.if_icmp .eq 16, 3) := by decide +kernel
theorem dX12_layBoth_13 : decode cX12_layBoth 13 = .ok (.aload_n 0, 1) := by decide +kernel
theorem dX12_layBoth_14 : decode cX12_layBoth 14 = .ok (.getfield 109, 3) := by decide +kernel
theorem dX12_layBoth_17 : decode cX12_layBoth 17 = .ok (.iload_n 1, 1) := by decide +kernel
theorem dX12_layBoth_18 : decode cX12_layBoth 18 = .ok (.bipush 10, 2) := by decide +kernel
theorem dX12_layBoth_20 : decode cX12_layBoth 20 = .ok (.irem, 1) := by decide +kernel
theorem dX12_layBoth_21 : decode cX12_layBoth 21 = .ok (.iaload, 1) := by decide +kernel
theorem dX12_layBoth_22 : decode cX12_layBoth 22 = .ok (.iconst (-1), 1) := by decide +kernel
theorem dX12_layBoth_23 : decode cX12_layBoth 23 = .ok (.if_icmp .ne 6, 3) := by decide +kernel
theorem dX12_layBoth_26 : decode cX12_layBoth 26 = .ok (.bipush (-11), 2) := by decide +kernel
theorem dX12_layBoth_28 : decode cX12_layBoth 28 = .ok (.ireturn, 1) := by decide +kernel
theorem dX12_layBoth_29 : decode cX12_layBoth 29 = .ok (.aload_n 0, 1) := by decide +kernel
theorem dX12_layBoth_30 : decode cX12_layBoth 30 = .ok (.iload_n 1, 1) := by decide +kernel
theorem dX12_layBoth_31 : decode cX12_layBoth 31 = .ok (.bipush 10, 2) := by decide +kernel
theorem dX12_layBoth_33 : decode cX12_layBoth 33 = .ok (.idiv, 1) := by decide +kernel
theorem dX12_layBoth_34 : decode cX12_layBoth 34 = .ok (.iconst 0, 1) := by decide +kernel
theorem dX12_layBoth_35 : decode cX12_layBoth 35 = .ok (.invokevirtual 294, 3) := by decide +kernel
theorem dX12_layBoth_38 : decode cX12_layBoth 38 = .ok (.ifCond .lt 15, 3) := by decide +kernel
theorem dX12_layBoth_41 : decode cX12_layBoth 41 = .ok (.aload_n 0, 1) := by decide +kernel
theorem dX12_layBoth_42 : decode cX12_layBoth 42 = .ok (.iload_n 1, 1) := by decide +kernel
theorem dX12_layBoth_43 : decode cX12_layBoth 43 = .ok (.bipush 10, 2) := by decide +kernel
theorem dX12_layBoth_45 : decode cX12_layBoth 45 = .ok (.irem, 1) := by decide +kernel
theorem dX12_layBoth_46 : decode cX12_layBoth 46 = .ok (.iconst 1, 1) := by decide +kernel
theorem dX12_layBoth_47 : decode cX12_layBoth 47 = .ok (.invokevirtual 294, 3) := by decide +kernel
theorem dX12_layBoth_50 : decode cX12_layBoth 50 = .ok (.ifCond .ge 6, 3) := by decide +kernel
theorem dX12_layBoth_53 : decode cX12_layBoth 53 = .ok (.bipush (-12), 2) := by decide +kernel
theorem dX12_layBoth_55 : decode cX12_layBoth 55 = .ok (.ireturn, 1) := by decide +kernel
theorem dX12_layBoth_56 : decode cX12_layBoth 56 = .ok (.aload_n 0, 1) := by decide +kernel
theorem dX12_layBoth_57 : decode cX12_layBoth 57 = .ok (.iload_n 1, 1) := by decide +kernel
theorem dX12_layBoth_58 : decode cX12_layBoth 58 = .ok (.bipush 10, 2) := by decide +kernel
theorem dX12_layBoth_60 : decode cX12_layBoth 60 = .ok (.idiv, 1) := by decide +kernel
theorem dX12_layBoth_61 : decode cX12_layBoth 61 = .ok (.invokevirtual 297, 3) := by decide +kernel
theorem dX12_layBoth_64 : decode cX12_layBoth 64 = .ok (.iconst 0, 1) := by decide +kernel
theorem dX12_layBoth_65 : decode cX12_layBoth 65 = .ok (.ireturn, 1) := by decide +kernel
theorem dX12_judge_0 : decode cX12_judge 0 = .ok (.iload_n 1, 1) := by decide +kernel
theorem dX12_judge_1 : decode cX12_judge 1 = .ok (.invokestatic 348, 3) := by decide +kernel
theorem dX12_judge_4 : decode cX12_judge 4 = .ok (.ifCond .ne 5, 3) := by decide +kernel
theorem dX12_judge_7 : decode cX12_judge 7 = .ok (.iconst (-1), 1) := by decide +kernel
theorem dX12_judge_8 : decode cX12_judge 8 = .ok (.ireturn, 1) := by decide +kernel
theorem dX12_judge_9 : decode cX12_judge 9 = .ok (.aload_n 0, 1) := by decide +kernel
theorem dX12_judge_10 : decode cX12_judge 10 = .ok (.iload_n 1, 1) := by decide +kernel
theorem dX12_judge_11 : decode cX12_judge 11 = .ok (.invokevirtual 351, 3) := by decide +kernel
theorem dX12_judge_14 : decode cX12_judge 14 = .ok (.istore_n 2, 1) := by decide +kernel
theorem dX12_judge_15 : decode cX12_judge 15 = .ok (.iload_n 2, 1) := by decide +kernel
theorem dX12_judge_16 : decode cX12_judge 16 = .ok (.ifCond .ge 5, 3) := by decide +kernel
theorem dX12_judge_19 : decode cX12_judge 19 = .ok (.iload_n 2, 1) := by decide +kernel
theorem dX12_judge_20 : decode cX12_judge 20 = .ok (.ireturn, 1) := by decide +kernel
theorem dX12_judge_21 : decode cX12_judge 21 = .ok (.aload_n 0, 1) := by decide +kernel
theorem dX12_judge_22 : decode cX12_judge 22 = .ok (.invokevirtual 303, 3) := by decide +kernel
theorem dX12_judge_25 : decode cX12_judge 25 = .ok (.aload_n 0, 1) := by decide +kernel
theorem dX12_judge_26 : decode cX12_judge 26 = .ok (.iload_n 1, 1) := by decide +kernel
theorem dX12_judge_27 : decode cX12_judge 27 = .ok (.bipush 10, 2) := by decide +kernel
theorem dX12_judge_29 : decode cX12_judge 29 = .ok (.irem, 1) := by decide +kernel
theorem dX12_judge_30 : decode cX12_judge 30 = .ok (.invokevirtual 327, 3) := by decide +kernel
theorem dX12_judge_33 : decode cX12_judge 33 = .ok (.ireturn, 1) := by decide +kernel
theorem dX12_isAlone_0 : decode cX12_isAlone 0 = .ok (.aload_n 0, 1) := by decide +kernel
theorem dX12_isAlone_1 : decode cX12_isAlone 1 = .ok (.invokevirtual 285, 3) := by decide +kernel
theorem dX12_isAlone_4 : decode cX12_isAlone 4 = .ok (.aload_n 0, 1) := by decide +kernel
theorem dX12_isAlone_5 : decode cX12_isAlone 5 = .ok (.iload_n 1, 1) := by decide +kernel
theorem dX12_isAlone_6 : decode cX12_isAlone 6 = .ok (.invokevirtual 276, 3) := by decide +kernel
theorem dX12_isAlone_9 : decode cX12_isAlone 9 = .ok (.aload_n 0, 1) := by decide +kernel
theorem dX12_isAlone_10 : decode cX12_isAlone 10 = .ok (.iload_n 2, 1) := by decide +kernel
theorem dX12_isAlone_11 : decode cX12_isAlone 11 = .ok (.invokevirtual 327, 3) := by decide +kernel
theorem dX12_isAlone_14 : decode cX12_isAlone 14 = .ok (.ifCond .ge 7, 3) := by decide +kernel
theorem dX12_isAlone_17 : decode cX12_isAlone 17 = .ok (.iconst 1, 1) := by decide +kernel
theorem dX12_isAlone_18 : decode cX12_isAlone 18 = .ok (.goto 4, 3) := by decide +kernel
theorem dX12_isAlone_21 : decode cX12_isAlone 21 = .ok (.iconst 0, 1) := by decide +kernel
theorem dX12_isAlone_22 : decode cX12_isAlone 22 = .ok (.ireturn, 1) := by decide +kernel
theorem dX12_which_0 : decode cX12_which 0 = .ok (.iload_n 1, 1) := by decide +kernel
theorem dX12_which_1 : decode cX12_which 1 = .ok (.invokestatic 139, 3) := by decide +kernel
theorem dX12_which_4 : decode cX12_which 4 = .ok (.ifCond .eq 12, 3) := by decide +kernel
theorem dX12_which_7 : decode cX12_which 7 = .ok (.iload_n 2, 1) := by decide +kernel
theorem dX12_which_8 : decode cX12_which 8 = .ok (.iconst 0, 1) := by decide +kernel
theorem dX12_which_9 : decode cX12_which 9 = .ok (.iconst 1, 1) := by decide +kernel
theorem dX12_which_10 : decode cX12_which 10 = .ok (.invokestatic 128, 3) := by decide +kernel
theorem dX12_which_13 : decode cX12_which 13 = .ok (.ifCond .ne 5, 3) := by decide +kernel
theorem dX12_which_16 : decode cX12_which 16 = .ok (.iconst (-1), 1) := by decide +kernel
theorem dX12_which_17 : decode cX12_which 17 = .ok (.ireturn, 1) := by decide +kernel
theorem dX12_which_18 : decode cX12_which 18 = .ok (.aload_n 0, 1) := by decide +kernel
theorem dX12_which_19 : decode cX12_which 19 = .ok (.iload_n 1, 1) := by decide +kernel
theorem dX12_which_20 : decode cX12_which 20 = .ok (.iconst 1, 1) := by decide +kernel
theorem dX12_which_21 : decode cX12_which 21 = .ok (.invokevirtual 294, 3) := by decide +kernel
theorem dX12_which_24 : decode cX12_which 24 = .ok (.ifCond .ge 10, 3) := by decide +kernel
theorem dX12_which_27 : decode cX12_which 27 = .ok (.aload_n 0, 1) := by decide +kernel
theorem dX12_which_28 : decode cX12_which 28 = .ok (.iload_n 1, 1) := by decide +kernel
theorem dX12_which_29 : decode cX12_which 29 = .ok (.iconst 1, 1) := by decide +kernel
theorem dX12_which_30 : decode cX12_which 30 = .ok (.invokevirtual 294, 3) := by decide +kernel
theorem dX12_which_33 : decode cX12_which 33 = .ok (.ireturn, 1) := by decide +kernel
theorem dX12_which_34 : decode cX12_which 34 = .ok (.iconst 0, 1) := by decide +kernel
theorem dX12_which_35 : decode cX12_which 35 = .ok (.istore_n 3, 1) := by decide +kernel
theorem dX12_which_36 : decode cX12_which 36 = .ok (.bipush (-2), 2) := by decide +kernel
theorem dX12_which_38 : decode cX12_which 38 = .ok (.istore 4, 2) := by decide +kernel
theorem dX12_which_40 : decode cX12_which 40 = .ok (.iconst 0, 1) := by decide +kernel
theorem dX12_which_41 : decode cX12_which 41 = .ok (.istore 5, 2) := by decide +kernel
theorem dX12_which_43 : decode cX12_which 43 = .ok (.iload 5, 2) := by decide +kernel
theorem dX12_which_45 : decode cX12_which 45 = .ok (.aload_n 0, 1) := by decide +kernel
theorem dX12_which_46 : decode cX12_which 46 = .ok (.getfield 132, 3) := by decide +kernel
theorem dX12_which_49 : decode cX12_which 49 = .ok (.if_icmp .ge 33, 3) := by decide +kernel
theorem dX12_which_52 : decode cX12_which 52 = .ok (.aload_n 0, 1) := by decide +kernel
theorem dX12_which_53 : decode cX12_which 53 = .ok (.iload 5, 2) := by decide +kernel
theorem dX12_which_55 : decode cX12_which 55 = .ok (.iload_n 1, 1) := by decide +kernel
theorem dX12_which_56 : decode cX12_which 56 = .ok (.invokevirtual 354, 3) := by decide +kernel
theorem dX12_which_59 : decode cX12_which 59 = .ok (.ifCond .ne 6, 3) := by decide +kernel
theorem dX12_which_62 : decode cX12_which 62 = .ok (.goto 14, 3) := by decide +kernel
theorem dX12_which_65 : decode cX12_which 65 = .ok (.iload_n 3, 1) := by decide +kernel
theorem dX12_which_66 : decode cX12_which 66 = .ok (.ifCond .ne 7, 3) := by decide +kernel
theorem dX12_which_69 : decode cX12_which 69 = .ok (.iload 5, 2) := by decide +kernel
theorem dX12_which_71 : decode cX12_which 71 = .ok (.istore 4, 2) := by decide +kernel
theorem dX12_which_73 : decode cX12_which 73 = .ok (.iinc 3 1, 3) := by decide +kernel
theorem dX12_which_76 : decode cX12_which 76 = .ok (.iinc 5 1, 3) := by decide +kernel
theorem dX12_which_79 : decode cX12_which 79 = .ok (.goto (-36), 3) := by decide +kernel
theorem dX12_which_82 : decode cX12_which 82 = .ok (.iload_n 2, 1) := by decide +kernel
theorem dX12_which_83 : decode cX12_which 83 = .ok (.ifCond .ne 7, 3) := by decide +kernel
theorem dX12_which_86 : decode cX12_which 86 = .ok (.iload_n 3, 1) := by decide +kernel
theorem dX12_which_87 : decode cX12_which 87 = .ok (.goto 5, 3) := by decide +kernel
theorem dX12_which_90 : decode cX12_which 90 = .ok (.iload 4, 2) := by decide +kernel
theorem dX12_which_92 : decode cX12_which 92 = .ok (.ireturn, 1) := by decide +kernel
theorem dX12_good_0 : decode cX12_good 0 = .ok (.iload_n 1, 1) := by decide +kernel
theorem dX12_good_1 : decode cX12_good 1 = .ok (.invokestatic 139, 3) := by decide +kernel
theorem dX12_good_4 : decode cX12_good 4 = .ok (.ifCond .eq 20, 3) := by decide +kernel
theorem dX12_good_7 : decode cX12_good 7 = .ok (.aload_n 0, 1) := by decide +kernel
theorem dX12_good_8 : decode cX12_good 8 = .ok (.iload_n 2, 1) := by decide +kernel
theorem dX12_good_9 : decode cX12_good 9 = .ok (.invokevirtual 165, 3) := by decide +kernel
theorem dX12_good_12 : decode cX12_good 12 = .ok (.ifCond .eq 12, 3) := by decide +kernel
theorem dX12_good_15 : decode cX12_good 15 = .ok (.iload_n 3, 1) := by decide +kernel
theorem dX12_good_16 : decode cX12_good 16 = .ok (.iconst 0, 1) := by decide +kernel
theorem dX12_good_17 : decode cX12_good 17 = .ok (.iconst 1, 1) := by decide +kernel
theorem dX12_good_18 : decode cX12_good 18 = .ok (.invokestatic 128, 3) := by decide +kernel
theorem dX12_good_21 : decode cX12_good 21 = .ok (.ifCond .ne 5, 3) := by decide +kernel
theorem dX12_good_24 : decode cX12_good 24 = .ok (.iconst (-1), 1) := by decide +kernel
theorem dX12_good_25 : decode cX12_good 25 = .ok (.ireturn, 1) := by decide +kernel
theorem dX12_good_26 : decode cX12_good 26 = .ok (.aload_n 0, 1) := by decide +kernel
theorem dX12_good_27 : decode cX12_good 27 = .ok (.iload_n 1, 1) := by decide +kernel
theorem dX12_good_28 : decode cX12_good 28 = .ok (.iconst 1, 1) := by decide +kernel
theorem dX12_good_29 : decode cX12_good 29 = .ok (.invokevirtual 294, 3) := by decide +kernel
theorem dX12_good_32 : decode cX12_good 32 = .ok (.ifCond .ge 10, 3) := by decide +kernel
theorem dX12_good_35 : decode cX12_good 35 = .ok (.aload_n 0, 1) := by decide +kernel
theorem dX12_good_36 : decode cX12_good 36 = .ok (.iload_n 1, 1) := by decide +kernel
theorem dX12_good_37 : decode cX12_good 37 = .ok (.iconst 1, 1) := by decide +kernel
theorem dX12_good_38 : decode cX12_good 38 = .ok (.invokevirtual 294, 3) := by decide +kernel
theorem dX12_good_41 : decode cX12_good 41 = .ok (.ireturn, 1) := by decide +kernel
theorem dX12_good_42 : decode cX12_good 42 = .ok (.aload_n 0, 1) := by decide +kernel
theorem dX12_good_43 : decode cX12_good 43 = .ok (.getfield 22, 3) := by decide +kernel
theorem dX12_good_46 : decode cX12_good 46 = .ok (.iload_n 2, 1) := by decide +kernel
theorem dX12_good_47 : decode cX12_good 47 = .ok (.iaload, 1) := by decide +kernel
theorem dX12_good_48 : decode cX12_good 48 = .ok (.istore 4, 2) := by decide +kernel
theorem dX12_good_50 : decode cX12_good 50 = .ok (.iconst 0, 1) := by decide +kernel
theorem dX12_good_51 : decode cX12_good 51 = .ok (.istore 5, 2) := by decide +kernel
theorem dX12_good_53 : decode cX12_good 53 = .ok (.bipush (-2), 2) := by decide +kernel
theorem dX12_good_55 : decode cX12_good 55 = .ok (.istore 6, 2) := by decide +kernel
theorem dX12_good_57 : decode cX12_good 57 = .ok (.iconst 0, 1) := by decide +kernel
theorem dX12_good_58 : decode cX12_good 58 = .ok (.istore 7, 2) := by decide +kernel
theorem dX12_good_60 : decode cX12_good 60 = .ok (.iload 7, 2) := by decide +kernel
theorem dX12_good_62 : decode cX12_good 62 = .ok (.bipush 9, 2) := by decide +kernel
theorem dX12_good_64 : decode cX12_good 64 = .ok (.if_icmp .gt 41, 3) := by decide +kernel
theorem dX12_good_67 : decode cX12_good 67 = .ok (.aload_n 0, 1) := by decide +kernel
theorem dX12_good_68 : decode cX12_good 68 = .ok (.getfield 22, 3) := by decide +kernel
theorem dX12_good_71 : decode cX12_good 71 = .ok (.iload_n 2, 1) := by decide +kernel
theorem dX12_good_72 : decode cX12_good 72 = .ok (.iload 7, 2) := by decide +kernel
theorem dX12_good_74 : decode cX12_good 74 = .ok (.iastore, 1) := by decide +kernel
theorem dX12_good_75 : decode cX12_good 75 = .ok (.aload_n 0, 1) := by decide +kernel
theorem dX12_good_76 : decode cX12_good 76 = .ok (.iload_n 2, 1) := by decide +kernel
theorem dX12_good_77 : decode cX12_good 77 = .ok (.iload_n 1, 1) := by decide +kernel
theorem dX12_good_78 : decode cX12_good 78 = .ok (.invokevirtual 354, 3) := by decide +kernel
theorem dX12_good_81 : decode cX12_good 81 = .ok (.ifCond .ne 6, 3) := by decide +kernel
theorem dX12_good_84 : decode cX12_good 84 = .ok (.goto 15, 3) := by decide +kernel
theorem dX12_good_87 : decode cX12_good 87 = .ok (.iload 5, 2) := by decide +kernel
theorem dX12_good_89 : decode cX12_good 89 = .ok (.ifCond .ne 7, 3) := by decide +kernel
theorem dX12_good_92 : decode cX12_good 92 = .ok (.iload 7, 2) := by decide +kernel
theorem dX12_good_94 : decode cX12_good 94 = .ok (.istore 6, 2) := by decide +kernel
theorem dX12_good_96 : decode cX12_good 96 = .ok (.iinc 5 1, 3) := by decide +kernel
theorem dX12_good_99 : decode cX12_good 99 = .ok (.iinc 7 1, 3) := by decide +kernel
theorem dX12_good_102 : decode cX12_good 102 = .ok (.goto (-42), 3) := by decide +kernel
theorem dX12_good_105 : decode cX12_good 105 = .ok (.aload_n 0, 1) := by decide +kernel
theorem dX12_good_106 : decode cX12_good 106 = .ok (.getfield 22, 3) := by decide +kernel
theorem dX12_good_109 : decode cX12_good 109 = .ok (.iload_n 2, 1) := by decide +kernel
theorem dX12_good_110 : decode cX12_good 110 = .ok (.iload 4, 2) := by decide +kernel
theorem dX12_good_112 : decode cX12_good 112 = .ok (.iastore, 1) := by decide +kernel
theorem dX12_good_113 : decode cX12_good 113 = .ok (.iload_n 3, 1) := by decide +kernel
theorem dX12_good_114 : decode cX12_good 114 = .ok (.ifCond .ne 8, 3) := by decide +kernel
theorem dX12_good_117 : decode cX12_good 117 = .ok (.iload 5, 2) := by decide +kernel
theorem dX12_good_119 : decode cX12_good 119 = .ok (.goto 5, 3) := by decide +kernel
theorem dX12_good_122 : decode cX12_good 122 = .ok (.iload 6, 2) := by decide +kernel
theorem dX12_good_124 : decode cX12_good 124 = .ok (.ireturn, 1) := by decide +kernel
theorem dX12_orders_0 : decode cX12_orders 0 = .ok (.iload_n 1, 1) := by decide +kernel
theorem dX12_orders_1 : decode cX12_orders 1 = .ok (.invokestatic 139, 3) := by decide +kernel
theorem dX12_orders_4 : decode cX12_orders 4 = .ok (.ifCond .eq 12, 3) := by decide +kernel
theorem dX12_orders_7 : decode cX12_orders 7 = .ok (.iload_n 2, 1) := by decide +kernel
theorem dX12_orders_8 : decode cX12_orders 8 = .ok (.iconst 0, 1) := by decide +kernel
theorem dX12_orders_9 : decode cX12_orders 9 = .ok (.iconst 1, 1) := by decide +kernel
theorem dX12_orders_10 : decode cX12_orders 10 = .ok (.invokestatic 128, 3) := by decide +kernel
theorem dX12_orders_13 : decode cX12_orders 13 = .ok (.ifCond .ne 5, 3) := by decide +kernel
theorem dX12_orders_16 : decode cX12_orders 16 = .ok (.iconst (-1), 1) := by decide +kernel
theorem dX12_orders_17 : decode cX12_orders 17 = .ok (.ireturn, 1) := by decide +kernel
theorem dX12_orders_18 : decode cX12_orders 18 = .ok (.aload_n 0, 1) := by decide +kernel
theorem dX12_orders_19 : decode cX12_orders 19 = .ok (.iload_n 1, 1) := by decide +kernel
theorem dX12_orders_20 : decode cX12_orders 20 = .ok (.iconst 1, 1) := by decide +kernel
theorem dX12_orders_21 : decode cX12_orders 21 = .ok (.invokevirtual 294, 3) := by decide +kernel
theorem dX12_orders_24 : decode cX12_orders 24 = .ok (.ifCond .ge 10, 3) := by decide +kernel
theorem dX12_orders_27 : decode cX12_orders 27 = .ok (.aload_n 0, 1) := by decide +kernel
theorem dX12_orders_28 : decode cX12_orders 28 = .ok (.iload_n 1, 1) := by decide +kernel
theorem dX12_orders_29 : decode cX12_orders 29 = .ok (.iconst 1, 1) := by decide +kernel
theorem dX12_orders_30 : decode cX12_orders 30 = .ok (.invokevirtual 294, 3) := by decide +kernel
theorem dX12_orders_33 : decode cX12_orders 33 = .ok (.ireturn, 1) := by decide +kernel
theorem dX12_orders_34 : decode cX12_orders 34 = .ok (.aload_n 0, 1) := by decide +kernel
theorem dX12_orders_35 : decode cX12_orders 35 = .ok (.getfield 132, 3) := by decide +kernel
theorem dX12_orders_38 : decode cX12_orders 38 = .ok (.bipush 6, 2) := by decide +kernel
theorem dX12_orders_40 : decode cX12_orders 40 = .ok (.if_icmp .le 6, 3) := by decide +kernel
theorem dX12_orders_43 : decode cX12_orders 43 = .ok (.bipush (-5), 2) := by decide +kernel
theorem dX12_orders_45 : decode cX12_orders 45 = .ok (.ireturn, 1) := by decide +kernel
theorem dX12_orders_46 : decode cX12_orders 46 = .ok (.aload_n 0, 1) := by decide +kernel
theorem dX12_orders_47 : decode cX12_orders 47 = .ok (.iload_n 1, 1) := by decide +kernel
theorem dX12_orders_48 : decode cX12_orders 48 = .ok (.invokevirtual 342, 3) := by decide +kernel
theorem dX12_orders_51 : decode cX12_orders 51 = .ok (.iload_n 2, 1) := by decide +kernel
theorem dX12_orders_52 : decode cX12_orders 52 = .ok (.ifCond .ne 10, 3) := by decide +kernel
theorem dX12_orders_55 : decode cX12_orders 55 = .ok (.aload_n 0, 1) := by decide +kernel
theorem dX12_orders_56 : decode cX12_orders 56 = .ok (.getfield 330, 3) := by decide +kernel
theorem dX12_orders_59 : decode cX12_orders 59 = .ok (.goto 7, 3) := by decide +kernel
theorem dX12_orders_62 : decode cX12_orders 62 = .ok (.aload_n 0, 1) := by decide +kernel
theorem dX12_orders_63 : decode cX12_orders 63 = .ok (.getfield 333, 3) := by decide +kernel
theorem dX12_orders_66 : decode cX12_orders 66 = .ok (.ireturn, 1) := by decide +kernel
theorem dX12_warm_0 : decode cX12_warm 0 = .ok (.iload_n 1, 1) := by decide +kernel
theorem dX12_warm_1 : decode cX12_warm 1 = .ok (.invokestatic 348, 3) := by decide +kernel
theorem dX12_warm_4 : decode cX12_warm 4 = .ok (.ifCond .ne 5, 3) := by decide +kernel
theorem dX12_warm_7 : decode cX12_warm 7 = .ok (.iconst (-1), 1) := by decide +kernel
theorem dX12_warm_8 : decode cX12_warm 8 = .ok (.ireturn, 1) := by decide +kernel
theorem dX12_warm_9 : decode cX12_warm 9 = .ok (.aload_n 0, 1) := by decide +kernel
theorem dX12_warm_10 : decode cX12_warm 10 = .ok (.iload_n 1, 1) := by decide +kernel
theorem dX12_warm_11 : decode cX12_warm 11 = .ok (.invokevirtual 351, 3) := by decide +kernel
theorem dX12_warm_14 : decode cX12_warm 14 = .ok (.istore_n 2, 1) := by decide +kernel
theorem dX12_warm_15 : decode cX12_warm 15 = .ok (.iload_n 2, 1) := by decide +kernel
theorem dX12_warm_16 : decode cX12_warm 16 = .ok (.ifCond .ge 5, 3) := by decide +kernel
theorem dX12_warm_19 : decode cX12_warm 19 = .ok (.iload_n 2, 1) := by decide +kernel
theorem dX12_warm_20 : decode cX12_warm 20 = .ok (.ireturn, 1) := by decide +kernel
theorem dX12_warm_21 : decode cX12_warm 21 = .ok (.aload_n 0, 1) := by decide +kernel
theorem dX12_warm_22 : decode cX12_warm 22 = .ok (.getfield 32, 3) := by decide +kernel
theorem dX12_warm_25 : decode cX12_warm 25 = .ok (.istore_n 3, 1) := by decide +kernel
theorem dX12_warm_26 : decode cX12_warm 26 = .ok (.bipush (-2), 2) := by decide +kernel
theorem dX12_warm_28 : decode cX12_warm 28 = .ok (.istore 4, 2) := by decide +kernel
theorem dX12_warm_30 : decode cX12_warm 30 = .ok (.iconst 0, 1) := by decide +kernel
theorem dX12_warm_31 : decode cX12_warm 31 = .ok (.istore 5, 2) := by decide +kernel
theorem dX12_warm_33 : decode cX12_warm 33 = .ok (.iload 5, 2) := by decide +kernel
theorem dX12_warm_35 : decode cX12_warm 35 = .ok (.bipush 9, 2) := by decide +kernel
theorem dX12_warm_37 : decode cX12_warm 37 = .ok (.if_icmp .gt 39, 3) := by decide +kernel
theorem dX12_warm_40 : decode cX12_warm 40 = .ok (.iload 4, 2) := by decide +kernel
theorem dX12_warm_42 : decode cX12_warm 42 = .ok (.ifCond .ge 34, 3) := by decide +kernel
theorem dX12_warm_45 : decode cX12_warm 45 = .ok (.aload_n 0, 1) := by decide +kernel
theorem dX12_warm_46 : decode cX12_warm 46 = .ok (.iload 5, 2) := by decide +kernel
theorem dX12_warm_48 : decode cX12_warm 48 = .ok (.putfield 32, 3) := by decide +kernel
theorem dX12_warm_51 : decode cX12_warm 51 = .ok (.aload_n 0, 1) := by decide +kernel
theorem dX12_warm_52 : decode cX12_warm 52 = .ok (.invokevirtual 303, 3) := by decide +kernel
theorem dX12_warm_55 : decode cX12_warm 55 = .ok (.aload_n 0, 1) := by decide +kernel
theorem dX12_warm_56 : decode cX12_warm 56 = .ok (.iload_n 1, 1) := by decide +kernel
theorem dX12_warm_57 : decode cX12_warm 57 = .ok (.bipush 10, 2) := by decide +kernel
theorem dX12_warm_59 : decode cX12_warm 59 = .ok (.irem, 1) := by decide +kernel
theorem dX12_warm_60 : decode cX12_warm 60 = .ok (.invokevirtual 327, 3) := by decide +kernel
theorem dX12_warm_63 : decode cX12_warm 63 = .ok (.ifCond .ge 7, 3) := by decide +kernel
theorem dX12_warm_66 : decode cX12_warm 66 = .ok (.iload 5, 2) := by decide +kernel
theorem dX12_warm_68 : decode cX12_warm 68 = .ok (.istore 4, 2) := by decide +kernel
theorem dX12_warm_70 : decode cX12_warm 70 = .ok (.iinc 5 1, 3) := by decide +kernel
theorem dX12_warm_73 : decode cX12_warm 73 = .ok (.goto (-40), 3) := by decide +kernel
theorem dX12_warm_76 : decode cX12_warm 76 = .ok (.aload_n 0, 1) := by decide +kernel
theorem dX12_warm_77 : decode cX12_warm 77 = .ok (.iload_n 3, 1) := by decide +kernel
theorem dX12_warm_78 : decode cX12_warm 78 = .ok (.putfield 32, 3) := by decide +kernel
theorem dX12_warm_81 : decode cX12_warm 81 = .ok (.iload 4, 2) := by decide +kernel
theorem dX12_warm_83 : decode cX12_warm 83 = .ok (.ireturn, 1) := by decide +kernel
theorem dX12_drawn_0 : decode cX12_drawn 0 = .ok (.iload_n 2, 1) := by decide +kernel
theorem dX12_drawn_1 : decode cX12_drawn 1 = .ok (.ifCond .lt 38, 3) := by decide +kernel
theorem dX12_drawn_4 : decode cX12_drawn 4 = .ok (.iload_n 2, 1) := by decide +kernel
theorem dX12_drawn_5 : decode cX12_drawn 5 = .ok (.bipush 100, 2) := by decide +kernel
theorem dX12_drawn_7 : decode cX12_drawn 7 = .ok (.idiv, 1) := by decide +kernel
theorem dX12_drawn_8 : decode cX12_drawn 8 = .ok (.iconst 1, 1) := by decide +kernel
theorem dX12_drawn_9 : decode cX12_drawn 9 = .ok (.bipush 30, 2) := by decide +kernel
theorem dX12_drawn_11 : decode cX12_drawn 11 = .ok (.invokestatic 128, 3) := by decide +kernel
theorem dX12_drawn_14 : decode cX12_drawn 14 = .ok (.ifCond .eq 25, 3) := by decide +kernel
theorem dX12_drawn_17 : decode cX12_drawn 17 = .ok (.iload_n 2, 1) := by decide +kernel
theorem dX12_drawn_18 : decode cX12_drawn 18 = .ok (.bipush 100, 2) := by decide +kernel
theorem dX12_drawn_20 : decode cX12_drawn 20 = .ok (.irem, 1) := by decide +kernel
theorem dX12_drawn_21 : decode cX12_drawn 21 = .ok (.iconst 1, 1) := by decide +kernel
theorem dX12_drawn_22 : decode cX12_drawn 22 = .ok (.bipush 20, 2) := by decide +kernel
theorem dX12_drawn_24 : decode cX12_drawn 24 = .ok (.invokestatic 128, 3) := by decide +kernel
theorem dX12_drawn_27 : decode cX12_drawn 27 = .ok (.ifCond .eq 12, 3) := by decide +kernel
theorem dX12_drawn_30 : decode cX12_drawn 30 = .ok (.iload_n 3, 1) := by decide +kernel
theorem dX12_drawn_31 : decode cX12_drawn 31 = .ok (.iconst 0, 1) := by decide +kernel
theorem dX12_drawn_32 : decode cX12_drawn 32 = .ok (.iconst 1, 1) := by decide +kernel
theorem dX12_drawn_33 : decode cX12_drawn 33 = .ok (.invokestatic 128, 3) := by decide +kernel
theorem dX12_drawn_36 : decode cX12_drawn 36 = .ok (.ifCond .ne 5, 3) := by decide +kernel
theorem dX12_drawn_39 : decode cX12_drawn 39 = .ok (.iconst (-1), 1) := by decide +kernel
theorem dX12_drawn_40 : decode cX12_drawn 40 = .ok (.ireturn, 1) := by decide +kernel
theorem dX12_drawn_41 : decode cX12_drawn 41 = .ok (.iload_n 1, 1) := by decide +kernel
theorem dX12_drawn_42 : decode cX12_drawn 42 = .ok (.istore 4, 2) := by decide +kernel
theorem dX12_drawn_44 : decode cX12_drawn 44 = .ok (.iconst 0, 1) := by decide +kernel
theorem dX12_drawn_45 : decode cX12_drawn 45 = .ok (.istore 5, 2) := by decide +kernel
theorem dX12_drawn_47 : decode cX12_drawn 47 = .ok (.iconst 0, 1) := by decide +kernel
theorem dX12_drawn_48 : decode cX12_drawn 48 = .ok (.istore 6, 2) := by decide +kernel
theorem dX12_drawn_50 : decode cX12_drawn 50 = .ok (.iconst 0, 1) := by decide +kernel
theorem dX12_drawn_51 : decode cX12_drawn 51 = .ok (.istore 7, 2) := by decide +kernel
theorem dX12_drawn_53 : decode cX12_drawn 53 = .ok (.iload 7, 2) := by decide +kernel
theorem dX12_drawn_55 : decode cX12_drawn 55 = .ok (.iload_n 2, 1) := by decide +kernel
theorem dX12_drawn_56 : decode cX12_drawn 56 = .ok (.bipush 100, 2) := by decide +kernel
theorem dX12_drawn_58 : decode cX12_drawn 58 = .ok (.idiv, 1) := by decide +kernel
theorem dX12_drawn_59 : decode cX12_drawn 59 = .ok (.if_icmp .ge 117, 3) := by decide +kernel
theorem dX12_drawn_62 : decode cX12_drawn 62 = .ok (.aload_n 0, 1) := by decide +kernel
theorem dX12_drawn_63 : decode cX12_drawn 63 = .ok (.invokevirtual 285, 3) := by decide +kernel
theorem dX12_drawn_66 : decode cX12_drawn 66 = .ok (.iconst 0, 1) := by decide +kernel
theorem dX12_drawn_67 : decode cX12_drawn 67 = .ok (.istore 8, 2) := by decide +kernel
theorem dX12_drawn_69 : decode cX12_drawn 69 = .ok (.iload 8, 2) := by decide +kernel
theorem dX12_drawn_71 : decode cX12_drawn 71 = .ok (.iload_n 2, 1) := by decide +kernel
theorem dX12_drawn_72 : decode cX12_drawn 72 = .ok (.bipush 100, 2) := by decide +kernel
theorem dX12_drawn_74 : decode cX12_drawn 74 = .ok (.irem, 1) := by decide +kernel
theorem dX12_drawn_75 : decode cX12_drawn 75 = .ok (.if_icmp .ge 72, 3) := by decide +kernel
theorem dX12_drawn_78 : decode cX12_drawn 78 = .ok (.aload_n 0, 1) := by decide +kernel
theorem dX12_drawn_79 : decode cX12_drawn 79 = .ok (.getfield 132, 3) := by decide +kernel
theorem dX12_drawn_82 : decode cX12_drawn 82 = .ok (.ifCond .le 65, 3) := by decide +kernel
theorem dX12_drawn_85 : decode cX12_drawn 85 = .ok (.iload 4, 2) := by decide +kernel
theorem dX12_drawn_87 : decode cX12_drawn 87 = .ok (.ldc_w 357, 3) := by decide +kernel
theorem dX12_drawn_90 : decode cX12_drawn 90 = .ok (.imul, 1) := by decide +kernel
theorem dX12_drawn_91 : decode cX12_drawn 91 = .ok (.sipush 12345, 3) := by decide +kernel
theorem dX12_drawn_94 : decode cX12_drawn 94 = .ok (.iadd, 1) := by decide +kernel
theorem dX12_drawn_95 : decode cX12_drawn 95 = .ok (.istore 4, 2) := by decide +kernel
theorem dX12_drawn_97 : decode cX12_drawn 97 = .ok (.iload 4, 2) := by decide +kernel
theorem dX12_drawn_99 : decode cX12_drawn 99 = .ok (.bipush 8, 2) := by decide +kernel
theorem dX12_drawn_101 : decode cX12_drawn 101 = .ok (.iushr, 1) := by decide +kernel
theorem dX12_drawn_102 : decode cX12_drawn 102 = .ok (.aload_n 0, 1) := by decide +kernel
theorem dX12_drawn_103 : decode cX12_drawn 103 = .ok (.getfield 132, 3) := by decide +kernel
theorem dX12_drawn_106 : decode cX12_drawn 106 = .ok (.irem, 1) := by decide +kernel
theorem dX12_drawn_107 : decode cX12_drawn 107 = .ok (.istore 9, 2) := by decide +kernel
theorem dX12_drawn_109 : decode cX12_drawn 109 = .ok (.aload_n 0, 1) := by decide +kernel
theorem dX12_drawn_110 : decode cX12_drawn 110 = .ok (.aload_n 0, 1) := by decide +kernel
theorem dX12_drawn_111 : decode cX12_drawn 111 = .ok (.getfield 25, 3) := by decide +kernel
theorem dX12_drawn_114 : decode cX12_drawn 114 = .ok (.iload 9, 2) := by decide +kernel
theorem dX12_drawn_116 : decode cX12_drawn 116 = .ok (.iaload, 1) := by decide +kernel
theorem dX12_drawn_117 : decode cX12_drawn 117 = .ok (.invokevirtual 269, 3) := by decide +kernel
theorem dX12_drawn_120 : decode cX12_drawn 120 = .ok (.iload 4, 2) := by decide +kernel
theorem dX12_drawn_122 : decode cX12_drawn 122 = .ok (.bipush 16, 2) := by decide +kernel
theorem dX12_drawn_124 : decode cX12_drawn 124 = .ok (.iushr, 1) := by decide +kernel
theorem dX12_drawn_125 : decode cX12_drawn 125 = .ok (.bipush 12, 2) := by decide +kernel
theorem dX12_drawn_127 : decode cX12_drawn 127 = .ok (.irem, 1) := by decide +kernel
theorem dX12_drawn_128 : decode cX12_drawn 128 = .ok (.aload_n 0, 1) := by decide +kernel
theorem dX12_drawn_129 : decode cX12_drawn 129 = .ok (.getfield 145, 3) := by decide +kernel
theorem dX12_drawn_132 : decode cX12_drawn 132 = .ok (.if_icmp .lt 9, 3) := by decide +kernel
theorem dX12_drawn_135 : decode cX12_drawn 135 = .ok (.aload_n 0, 1) := by decide +kernel
theorem dX12_drawn_136 : decode cX12_drawn 136 = .ok (.iload 9, 2) := by decide +kernel
theorem dX12_drawn_138 : decode cX12_drawn 138 = .ok (.invokevirtual 273, 3) := by decide +kernel
theorem dX12_drawn_141 : decode cX12_drawn 141 = .ok (.iinc 8 1, 3) := by decide +kernel
theorem dX12_drawn_144 : decode cX12_drawn 144 = .ok (.goto (-75), 3) := by decide +kernel
theorem dX12_drawn_147 : decode cX12_drawn 147 = .ok (.iload 5, 2) := by decide +kernel
theorem dX12_drawn_149 : decode cX12_drawn 149 = .ok (.aload_n 0, 1) := by decide +kernel
theorem dX12_drawn_150 : decode cX12_drawn 150 = .ok (.iconst 0, 1) := by decide +kernel
theorem dX12_drawn_151 : decode cX12_drawn 151 = .ok (.invokevirtual 315, 3) := by decide +kernel
theorem dX12_drawn_154 : decode cX12_drawn 154 = .ok (.iadd, 1) := by decide +kernel
theorem dX12_drawn_155 : decode cX12_drawn 155 = .ok (.istore 5, 2) := by decide +kernel
theorem dX12_drawn_157 : decode cX12_drawn 157 = .ok (.aload_n 0, 1) := by decide +kernel
theorem dX12_drawn_158 : decode cX12_drawn 158 = .ok (.iconst 0, 1) := by decide +kernel
theorem dX12_drawn_159 : decode cX12_drawn 159 = .ok (.invokevirtual 315, 3) := by decide +kernel
theorem dX12_drawn_162 : decode cX12_drawn 162 = .ok (.bipush 100, 2) := by decide +kernel
theorem dX12_drawn_164 : decode cX12_drawn 164 = .ok (.if_icmp .lt 6, 3) := by decide +kernel
theorem dX12_drawn_167 : decode cX12_drawn 167 = .ok (.iinc 6 1, 3) := by decide +kernel
theorem dX12_drawn_170 : decode cX12_drawn 170 = .ok (.iinc 7 1, 3) := by decide +kernel
theorem dX12_drawn_173 : decode cX12_drawn 173 = .ok (.goto (-120), 3) := by decide +kernel
theorem dX12_drawn_176 : decode cX12_drawn 176 = .ok (.iload_n 3, 1) := by decide +kernel
theorem dX12_drawn_177 : decode cX12_drawn 177 = .ok (.ifCond .ne 8, 3) := by decide +kernel
theorem dX12_drawn_180 : decode cX12_drawn 180 = .ok (.iload 5, 2) := by decide +kernel
theorem dX12_drawn_182 : decode cX12_drawn 182 = .ok (.goto 5, 3) := by decide +kernel
theorem dX12_drawn_185 : decode cX12_drawn 185 = .ok (.iload 6, 2) := by decide +kernel
theorem dX12_drawn_187 : decode cX12_drawn 187 = .ok (.ireturn, 1) := by decide +kernel
theorem dX12_become_0 : decode cX12_become 0 = .ok (.iconst 0, 1) := by decide +kernel
theorem dX12_become_1 : decode cX12_become 1 = .ok (.istore_n 1, 1) := by decide +kernel
theorem dX12_become_2 : decode cX12_become 2 = .ok (.iload_n 1, 1) := by decide +kernel
theorem dX12_become_3 : decode cX12_become 3 = .ok (.bipush 16, 2) := by decide +kernel
theorem dX12_become_5 : decode cX12_become 5 = .ok (.if_icmp .ge 21, 3) := by decide +kernel
theorem dX12_become_8 : decode cX12_become 8 = .ok (.aload_n 0, 1) := by decide +kernel
theorem dX12_become_9 : decode cX12_become 9 = .ok (.getfield 76, 3) := by decide +kernel
theorem dX12_become_12 : decode cX12_become 12 = .ok (.iload_n 1, 1) := by decide +kernel
theorem dX12_become_13 : decode cX12_become 13 = .ok (.aload_n 0, 1) := by decide +kernel
theorem dX12_become_14 : decode cX12_become 14 = .ok (.getfield 79, 3) := by decide +kernel
theorem dX12_become_17 : decode cX12_become 17 = .ok (.iload_n 1, 1) := by decide +kernel
theorem dX12_become_18 : decode cX12_become 18 = .ok (.iaload, 1) := by decide +kernel
theorem dX12_become_19 : decode cX12_become 19 = .ok (.iastore, 1) := by decide +kernel
theorem dX12_become_20 : decode cX12_become 20 = .ok (.iinc 1 1, 3) := by decide +kernel
theorem dX12_become_23 : decode cX12_become 23 = .ok (.goto (-21), 3) := by decide +kernel
theorem dX12_become_26 : decode cX12_become 26 = .ok (.aload_n 0, 1) := by decide +kernel
theorem dX12_become_27 : decode cX12_become 27 = .ok (.getfield 94, 3) := by decide +kernel
theorem dX12_become_30 : decode cX12_become 30 = .ok (.iconst 4, 1) := by decide +kernel
theorem dX12_become_31 : decode cX12_become 31 = .ok (.dup2, 1) := by decide +kernel
theorem dX12_become_32 : decode cX12_become 32 = .ok (.iaload, 1) := by decide +kernel
theorem dX12_become_33 : decode cX12_become 33 = .ok (.aload_n 0, 1) := by decide +kernel
theorem dX12_become_34 : decode cX12_become 34 = .ok (.getfield 263, 3) := by decide +kernel
theorem dX12_become_37 : decode cX12_become 37 = .ok (.iadd, 1) := by decide +kernel
theorem dX12_become_38 : decode cX12_become 38 = .ok (.iastore, 1) := by decide +kernel
theorem dX12_become_39 : decode cX12_become 39 = .ok (.aload_n 0, 1) := by decide +kernel
theorem dX12_become_40 : decode cX12_become 40 = .ok (.getfield 79, 3) := by decide +kernel
theorem dX12_become_43 : decode cX12_become 43 = .ok (.aload_n 0, 1) := by decide +kernel
theorem dX12_become_44 : decode cX12_become 44 = .ok (.invokevirtual 306, 3) := by decide +kernel
theorem dX12_become_47 : decode cX12_become 47 = .ok (.iaload, 1) := by decide +kernel
theorem dX12_become_48 : decode cX12_become 48 = .ok (.ireturn, 1) := by decide +kernel
theorem dX12_play_0 : decode cX12_play 0 = .ok (.aload_n 0, 1) := by decide +kernel
theorem dX12_play_1 : decode cX12_play 1 = .ok (.iload_n 1, 1) := by decide +kernel
theorem dX12_play_2 : decode cX12_play 2 = .ok (.invokevirtual 165, 3) := by decide +kernel
theorem dX12_play_5 : decode cX12_play 5 = .ok (.ifCond .ne 5, 3) := by decide +kernel
theorem dX12_play_8 : decode cX12_play 8 = .ok (.iconst (-1), 1) := by decide +kernel
theorem dX12_play_9 : decode cX12_play 9 = .ok (.ireturn, 1) := by decide +kernel
theorem dX12_play_10 : decode cX12_play 10 = .ok (.aload_n 0, 1) := by decide +kernel
theorem dX12_play_11 : decode cX12_play 11 = .ok (.invokevirtual 285, 3) := by decide +kernel
theorem dX12_play_14 : decode cX12_play 14 = .ok (.aload_n 0, 1) := by decide +kernel
theorem dX12_play_15 : decode cX12_play 15 = .ok (.iload_n 1, 1) := by decide +kernel
theorem dX12_play_16 : decode cX12_play 16 = .ok (.invokevirtual 276, 3) := by decide +kernel
theorem dX12_play_19 : decode cX12_play 19 = .ok (.aload_n 0, 1) := by decide +kernel
theorem dX12_play_20 : decode cX12_play 20 = .ok (.getfield 94, 3) := by decide +kernel
theorem dX12_play_23 : decode cX12_play 23 = .ok (.iconst 0, 1) := by decide +kernel
theorem dX12_play_24 : decode cX12_play 24 = .ok (.dup2, 1) := by decide +kernel
theorem dX12_play_25 : decode cX12_play 25 = .ok (.iaload, 1) := by decide +kernel
theorem dX12_play_26 : decode cX12_play 26 = .ok (.iconst 1, 1) := by decide +kernel
theorem dX12_play_27 : decode cX12_play 27 = .ok (.iadd, 1) := by decide +kernel
theorem dX12_play_28 : decode cX12_play 28 = .ok (.iastore, 1) := by decide +kernel
theorem dX12_play_29 : decode cX12_play 29 = .ok (.aload_n 0, 1) := by decide +kernel
theorem dX12_play_30 : decode cX12_play 30 = .ok (.invokevirtual 358, 3) := by decide +kernel
theorem dX12_play_33 : decode cX12_play 33 = .ok (.ireturn, 1) := by decide +kernel
theorem dX12_interval_0 : decode cX12_interval 0 = .ok (.aload_n 0, 1) := by decide +kernel
theorem dX12_interval_1 : decode cX12_interval 1 = .ok (.invokevirtual 285, 3) := by decide +kernel
theorem dX12_interval_4 : decode cX12_interval 4 = .ok (.aload_n 0, 1) := by decide +kernel
theorem dX12_interval_5 : decode cX12_interval 5 = .ok (.aload_n 0, 1) := by decide +kernel
theorem dX12_interval_6 : decode cX12_interval 6 = .ok (.getfield 35, 3) := by decide +kernel
theorem dX12_interval_9 : decode cX12_interval 9 = .ok (.invokevirtual 269, 3) := by decide +kernel
theorem dX12_interval_12 : decode cX12_interval 12 = .ok (.aload_n 0, 1) := by decide +kernel
theorem dX12_interval_13 : decode cX12_interval 13 = .ok (.getfield 94, 3) := by decide +kernel
theorem dX12_interval_16 : decode cX12_interval 16 = .ok (.iconst 1, 1) := by decide +kernel
theorem dX12_interval_17 : decode cX12_interval 17 = .ok (.dup2, 1) := by decide +kernel
theorem dX12_interval_18 : decode cX12_interval 18 = .ok (.iaload, 1) := by decide +kernel
theorem dX12_interval_19 : decode cX12_interval 19 = .ok (.iconst 1, 1) := by decide +kernel
theorem dX12_interval_20 : decode cX12_interval 20 = .ok (.iadd, 1) := by decide +kernel
theorem dX12_interval_21 : decode cX12_interval 21 = .ok (.iastore, 1) := by decide +kernel
theorem dX12_interval_22 : decode cX12_interval 22 = .ok (.aload_n 0, 1) := by decide +kernel
theorem dX12_interval_23 : decode cX12_interval 23 = .ok (.invokevirtual 358, 3) := by decide +kernel
theorem dX12_interval_26 : decode cX12_interval 26 = .ok (.ireturn, 1) := by decide +kernel
theorem dX12_goes_0 : decode cX12_goes 0 = .ok (.iload_n 1, 1) := by decide +kernel
theorem dX12_goes_1 : decode cX12_goes 1 = .ok (.invokestatic 309, 3) := by decide +kernel
theorem dX12_goes_4 : decode cX12_goes 4 = .ok (.ifCond .ne 5, 3) := by decide +kernel
theorem dX12_goes_7 : decode cX12_goes 7 = .ok (.iconst (-1), 1) := by decide +kernel
theorem dX12_goes_8 : decode cX12_goes 8 = .ok (.ireturn, 1) := by decide +kernel
theorem dX12_goes_9 : decode cX12_goes 9 = .ok (.aload_n 0, 1) := by decide +kernel
theorem dX12_goes_10 : decode cX12_goes 10 = .ok (.invokevirtual 285, 3) := by decide +kernel
theorem dX12_goes_13 : decode cX12_goes 13 = .ok (.aload_n 0, 1) := by decide +kernel
theorem dX12_goes_14 : decode cX12_goes 14 = .ok (.iload_n 1, 1) := by decide +kernel
theorem dX12_goes_15 : decode cX12_goes 15 = .ok (.bipush 10, 2) := by decide +kernel
theorem dX12_goes_17 : decode cX12_goes 17 = .ok (.idiv, 1) := by decide +kernel
theorem dX12_goes_18 : decode cX12_goes 18 = .ok (.iload_n 1, 1) := by decide +kernel
theorem dX12_goes_19 : decode cX12_goes 19 = .ok (.bipush 10, 2) := by decide +kernel
theorem dX12_goes_21 : decode cX12_goes 21 = .ok (.irem, 1) := by decide +kernel
theorem dX12_goes_22 : decode cX12_goes 22 = .ok (.invokevirtual 312, 3) := by decide +kernel
theorem dX12_goes_25 : decode cX12_goes 25 = .ok (.istore_n 2, 1) := by decide +kernel
theorem dX12_goes_26 : decode cX12_goes 26 = .ok (.aload_n 0, 1) := by decide +kernel
theorem dX12_goes_27 : decode cX12_goes 27 = .ok (.iload_n 1, 1) := by decide +kernel
theorem dX12_goes_28 : decode cX12_goes 28 = .ok (.bipush 10, 2) := by decide +kernel
theorem dX12_goes_30 : decode cX12_goes 30 = .ok (.irem, 1) := by decide +kernel
theorem dX12_goes_31 : decode cX12_goes 31 = .ok (.iload_n 2, 1) := by decide +kernel
theorem dX12_goes_32 : decode cX12_goes 32 = .ok (.ifCond .ge 10, 3) := by decide +kernel
theorem dX12_goes_35 : decode cX12_goes 35 = .ok (.aload_n 0, 1) := by decide +kernel
theorem dX12_goes_36 : decode cX12_goes 36 = .ok (.getfield 28, 3) := by decide +kernel
theorem dX12_goes_39 : decode cX12_goes 39 = .ok (.goto 6, 3) := by decide +kernel
theorem dX12_goes_42 : decode cX12_goes 42 = .ok (.iload_n 2, 1) := by decide +kernel
theorem dX12_goes_43 : decode cX12_goes 43 = .ok (.iconst 1, 1) := by decide +kernel
theorem dX12_goes_44 : decode cX12_goes 44 = .ok (.iadd, 1) := by decide +kernel
theorem dX12_goes_45 : decode cX12_goes 45 = .ok (.imul, 1) := by decide +kernel
theorem dX12_goes_46 : decode cX12_goes 46 = .ok (.invokevirtual 269, 3) := by decide +kernel
theorem dX12_goes_49 : decode cX12_goes 49 = .ok (.iload_n 2, 1) := by decide +kernel
theorem dX12_goes_50 : decode cX12_goes 50 = .ok (.ifCond .lt 20, 3) := by decide +kernel
theorem dX12_goes_53 : decode cX12_goes 53 = .ok (.aload_n 0, 1) := by decide +kernel
theorem dX12_goes_54 : decode cX12_goes 54 = .ok (.getfield 79, 3) := by decide +kernel
theorem dX12_goes_57 : decode cX12_goes 57 = .ok (.iload_n 2, 1) := by decide +kernel
theorem dX12_goes_58 : decode cX12_goes 58 = .ok (.iconst 0, 1) := by decide +kernel
theorem dX12_goes_59 : decode cX12_goes 59 = .ok (.iastore, 1) := by decide +kernel
theorem dX12_goes_60 : decode cX12_goes 60 = .ok (.aload_n 0, 1) := by decide +kernel
theorem dX12_goes_61 : decode cX12_goes 61 = .ok (.getfield 94, 3) := by decide +kernel
theorem dX12_goes_64 : decode cX12_goes 64 = .ok (.iconst 3, 1) := by decide +kernel
theorem dX12_goes_65 : decode cX12_goes 65 = .ok (.dup2, 1) := by decide +kernel
theorem dX12_goes_66 : decode cX12_goes 66 = .ok (.iaload, 1) := by decide +kernel
theorem dX12_goes_67 : decode cX12_goes 67 = .ok (.iconst 1, 1) := by decide +kernel
theorem dX12_goes_68 : decode cX12_goes 68 = .ok (.iadd, 1) := by decide +kernel
theorem dX12_goes_69 : decode cX12_goes 69 = .ok (.iastore, 1) := by decide +kernel
theorem dX12_goes_70 : decode cX12_goes 70 = .ok (.aload_n 0, 1) := by decide +kernel
theorem dX12_goes_71 : decode cX12_goes 71 = .ok (.getfield 94, 3) := by decide +kernel
theorem dX12_goes_74 : decode cX12_goes 74 = .ok (.iconst 2, 1) := by decide +kernel
theorem dX12_goes_75 : decode cX12_goes 75 = .ok (.dup2, 1) := by decide +kernel
theorem dX12_goes_76 : decode cX12_goes 76 = .ok (.iaload, 1) := by decide +kernel
theorem dX12_goes_77 : decode cX12_goes 77 = .ok (.iconst 1, 1) := by decide +kernel
theorem dX12_goes_78 : decode cX12_goes 78 = .ok (.iadd, 1) := by decide +kernel
theorem dX12_goes_79 : decode cX12_goes 79 = .ok (.iastore, 1) := by decide +kernel
theorem dX12_goes_80 : decode cX12_goes 80 = .ok (.aload_n 0, 1) := by decide +kernel
theorem dX12_goes_81 : decode cX12_goes 81 = .ok (.invokevirtual 358, 3) := by decide +kernel
theorem dX12_goes_84 : decode cX12_goes 84 = .ok (.pop, 1) := by decide +kernel
theorem dX12_goes_85 : decode cX12_goes 85 = .ok (.iload_n 2, 1) := by decide +kernel
theorem dX12_goes_86 : decode cX12_goes 86 = .ok (.ireturn, 1) := by decide +kernel
theorem dX12_image_0 : decode cX12_image 0 = .ok (.aload_n 0, 1) := by decide +kernel
theorem dX12_image_1 : decode cX12_image 1 = .ok (.iconst 1, 1) := by decide +kernel
theorem dX12_image_2 : decode cX12_image 2 = .ok (.putfield 361, 3) := by decide +kernel
theorem dX12_image_5 : decode cX12_image 5 = .ok (.iconst 0, 1) := by decide +kernel
theorem dX12_image_6 : decode cX12_image 6 = .ok (.istore_n 1, 1) := by decide +kernel
theorem dX12_image_7 : decode cX12_image 7 = .ok (.iload_n 1, 1) := by decide +kernel
theorem dX12_image_8 : decode cX12_image 8 = .ok (.bipush 16, 2) := by decide +kernel
theorem dX12_image_10 : decode cX12_image 10 = .ok (.if_icmp .ge 21, 3) := by decide +kernel
theorem dX12_image_13 : decode cX12_image 13 = .ok (.aload_n 0, 1) := by decide +kernel
theorem dX12_image_14 : decode cX12_image 14 = .ok (.getfield 97, 3) := by decide +kernel
theorem dX12_image_17 : decode cX12_image 17 = .ok (.iload_n 1, 1) := by decide +kernel
theorem dX12_image_18 : decode cX12_image 18 = .ok (.aload_n 0, 1) := by decide +kernel
theorem dX12_image_19 : decode cX12_image 19 = .ok (.getfield 76, 3) := by decide +kernel
theorem dX12_image_22 : decode cX12_image 22 = .ok (.iload_n 1, 1) := by decide +kernel
theorem dX12_image_23 : decode cX12_image 23 = .ok (.iaload, 1) := by decide +kernel
theorem dX12_image_24 : decode cX12_image 24 = .ok (.iastore, 1) := by decide +kernel
theorem dX12_image_25 : decode cX12_image 25 = .ok (.iinc 1 1, 3) := by decide +kernel
theorem dX12_image_28 : decode cX12_image 28 = .ok (.goto (-21), 3) := by decide +kernel
theorem dX12_image_31 : decode cX12_image 31 = .ok (.iconst 0, 1) := by decide +kernel
theorem dX12_image_32 : decode cX12_image 32 = .ok (.istore_n 1, 1) := by decide +kernel
theorem dX12_image_33 : decode cX12_image 33 = .ok (.iload_n 1, 1) := by decide +kernel
theorem dX12_image_34 : decode cX12_image 34 = .ok (.iconst 5, 1) := by decide +kernel
theorem dX12_image_35 : decode cX12_image 35 = .ok (.if_icmp .ge 21, 3) := by decide +kernel
theorem dX12_image_38 : decode cX12_image 38 = .ok (.aload_n 0, 1) := by decide +kernel
theorem dX12_image_39 : decode cX12_image 39 = .ok (.getfield 100, 3) := by decide +kernel
theorem dX12_image_42 : decode cX12_image 42 = .ok (.iload_n 1, 1) := by decide +kernel
theorem dX12_image_43 : decode cX12_image 43 = .ok (.aload_n 0, 1) := by decide +kernel
theorem dX12_image_44 : decode cX12_image 44 = .ok (.getfield 94, 3) := by decide +kernel
theorem dX12_image_47 : decode cX12_image 47 = .ok (.iload_n 1, 1) := by decide +kernel
theorem dX12_image_48 : decode cX12_image 48 = .ok (.iaload, 1) := by decide +kernel
theorem dX12_image_49 : decode cX12_image 49 = .ok (.iastore, 1) := by decide +kernel
theorem dX12_image_50 : decode cX12_image 50 = .ok (.iinc 1 1, 3) := by decide +kernel
theorem dX12_image_53 : decode cX12_image 53 = .ok (.goto (-20), 3) := by decide +kernel
theorem dX12_image_56 : decode cX12_image 56 = .ok (.aload_n 0, 1) := by decide +kernel
theorem dX12_image_57 : decode cX12_image 57 = .ok (.getfield 94, 3) := by decide +kernel
theorem dX12_image_60 : decode cX12_image 60 = .ok (.iconst 0, 1) := by decide +kernel
theorem dX12_image_61 : decode cX12_image 61 = .ok (.iaload, 1) := by decide +kernel
theorem dX12_image_62 : decode cX12_image 62 = .ok (.ireturn, 1) := by decide +kernel
theorem dX12_back_0 : decode cX12_back 0 = .ok (.aload_n 0, 1) := by decide +kernel
theorem dX12_back_1 : decode cX12_back 1 = .ok (.getfield 361, 3) := by decide +kernel
theorem dX12_back_4 : decode cX12_back 4 = .ok (.ifCond .ne 6, 3) := by decide +kernel
theorem dX12_back_7 : decode cX12_back 7 = .ok (.bipush (-5), 2) := by decide +kernel
theorem dX12_back_9 : decode cX12_back 9 = .ok (.ireturn, 1) := by decide +kernel
theorem dX12_back_10 : decode cX12_back 10 = .ok (.iconst 0, 1) := by decide +kernel
theorem dX12_back_11 : decode cX12_back 11 = .ok (.istore_n 1, 1) := by decide +kernel
theorem dX12_back_12 : decode cX12_back 12 = .ok (.iload_n 1, 1) := by decide +kernel
theorem dX12_back_13 : decode cX12_back 13 = .ok (.bipush 16, 2) := by decide +kernel
theorem dX12_back_15 : decode cX12_back 15 = .ok (.if_icmp .ge 21, 3) := by decide +kernel
theorem dX12_back_18 : decode cX12_back 18 = .ok (.aload_n 0, 1) := by decide +kernel
theorem dX12_back_19 : decode cX12_back 19 = .ok (.getfield 76, 3) := by decide +kernel
theorem dX12_back_22 : decode cX12_back 22 = .ok (.iload_n 1, 1) := by decide +kernel
theorem dX12_back_23 : decode cX12_back 23 = .ok (.aload_n 0, 1) := by decide +kernel
theorem dX12_back_24 : decode cX12_back 24 = .ok (.getfield 97, 3) := by decide +kernel
theorem dX12_back_27 : decode cX12_back 27 = .ok (.iload_n 1, 1) := by decide +kernel
theorem dX12_back_28 : decode cX12_back 28 = .ok (.iaload, 1) := by decide +kernel
theorem dX12_back_29 : decode cX12_back 29 = .ok (.iastore, 1) := by decide +kernel
theorem dX12_back_30 : decode cX12_back 30 = .ok (.iinc 1 1, 3) := by decide +kernel
theorem dX12_back_33 : decode cX12_back 33 = .ok (.goto (-21), 3) := by decide +kernel
theorem dX12_back_36 : decode cX12_back 36 = .ok (.iconst 0, 1) := by decide +kernel
theorem dX12_back_37 : decode cX12_back 37 = .ok (.istore_n 1, 1) := by decide +kernel
theorem dX12_back_38 : decode cX12_back 38 = .ok (.iload_n 1, 1) := by decide +kernel
theorem dX12_back_39 : decode cX12_back 39 = .ok (.iconst 5, 1) := by decide +kernel
theorem dX12_back_40 : decode cX12_back 40 = .ok (.if_icmp .ge 21, 3) := by decide +kernel
theorem dX12_back_43 : decode cX12_back 43 = .ok (.aload_n 0, 1) := by decide +kernel
theorem dX12_back_44 : decode cX12_back 44 = .ok (.getfield 94, 3) := by decide +kernel
theorem dX12_back_47 : decode cX12_back 47 = .ok (.iload_n 1, 1) := by decide +kernel
theorem dX12_back_48 : decode cX12_back 48 = .ok (.aload_n 0, 1) := by decide +kernel
theorem dX12_back_49 : decode cX12_back 49 = .ok (.getfield 100, 3) := by decide +kernel
theorem dX12_back_52 : decode cX12_back 52 = .ok (.iload_n 1, 1) := by decide +kernel
theorem dX12_back_53 : decode cX12_back 53 = .ok (.iaload, 1) := by decide +kernel
theorem dX12_back_54 : decode cX12_back 54 = .ok (.iastore, 1) := by decide +kernel
theorem dX12_back_55 : decode cX12_back 55 = .ok (.iinc 1 1, 3) := by decide +kernel
theorem dX12_back_58 : decode cX12_back 58 = .ok (.goto (-20), 3) := by decide +kernel
theorem dX12_back_61 : decode cX12_back 61 = .ok (.aload_n 0, 1) := by decide +kernel
theorem dX12_back_62 : decode cX12_back 62 = .ok (.getfield 94, 3) := by decide +kernel
theorem dX12_back_65 : decode cX12_back 65 = .ok (.iconst 0, 1) := by decide +kernel
theorem dX12_back_66 : decode cX12_back 66 = .ok (.iaload, 1) := by decide +kernel
theorem dX12_back_67 : decode cX12_back 67 = .ok (.ireturn, 1) := by decide +kernel
theorem dX12_row_0 : decode cX12_row 0 = .ok (.iload_n 1, 1) := by decide +kernel
theorem dX12_row_1 : decode cX12_row 1 = .ok (.invokestatic 139, 3) := by decide +kernel
theorem dX12_row_4 : decode cX12_row 4 = .ok (.ifCond .eq 18, 3) := by decide +kernel
theorem dX12_row_7 : decode cX12_row 7 = .ok (.iload_n 2, 1) := by decide +kernel
theorem dX12_row_8 : decode cX12_row 8 = .ok (.iconst 0, 1) := by decide +kernel
theorem dX12_row_9 : decode cX12_row 9 = .ok (.iconst 4, 1) := by decide +kernel
theorem dX12_row_10 : decode cX12_row 10 = .ok (.invokestatic 128, 3) := by decide +kernel
theorem dX12_row_13 : decode cX12_row 13 = .ok (.ifCond .eq 9, 3) := by decide +kernel
theorem dX12_row_16 : decode cX12_row 16 = .ok (.iload_n 3, 1) := by decide +kernel
theorem dX12_row_17 : decode cX12_row 17 = .ok (.bipush 60, 2) := by decide +kernel
theorem dX12_row_19 : decode cX12_row 19 = .ok (.if_icmp .le 5, 3) := by decide +kernel
theorem dX12_row_22 : decode cX12_row 22 = .ok (.iconst (-1), 1) := by decide +kernel
theorem dX12_row_23 : decode cX12_row 23 = .ok (.ireturn, 1) := by decide +kernel
theorem dX12_row_24 : decode cX12_row 24 = .ok (.iload_n 3, 1) := by decide +kernel
theorem dX12_row_25 : decode cX12_row 25 = .ok (.ifCond .ge 6, 3) := by decide +kernel
theorem dX12_row_28 : decode cX12_row 28 = .ok (.bipush (-14), 2) := by decide +kernel
theorem dX12_row_30 : decode cX12_row 30 = .ok (.ireturn, 1) := by decide +kernel
theorem dX12_row_31 : decode cX12_row 31 = .ok (.aload_n 0, 1) := by decide +kernel
theorem dX12_row_32 : decode cX12_row 32 = .ok (.getfield 109, 3) := by decide +kernel
theorem dX12_row_35 : decode cX12_row 35 = .ok (.iload_n 1, 1) := by decide +kernel
theorem dX12_row_36 : decode cX12_row 36 = .ok (.bipush (-2), 2) := by decide +kernel
theorem dX12_row_38 : decode cX12_row 38 = .ok (.iload_n 2, 1) := by decide +kernel
theorem dX12_row_39 : decode cX12_row 39 = .ok (.isub, 1) := by decide +kernel
theorem dX12_row_40 : decode cX12_row 40 = .ok (.iastore, 1) := by decide +kernel
theorem dX12_row_41 : decode cX12_row 41 = .ok (.aload_n 0, 1) := by decide +kernel
theorem dX12_row_42 : decode cX12_row 42 = .ok (.getfield 112, 3) := by decide +kernel
theorem dX12_row_45 : decode cX12_row 45 = .ok (.iload_n 1, 1) := by decide +kernel
theorem dX12_row_46 : decode cX12_row 46 = .ok (.iload_n 3, 1) := by decide +kernel
theorem dX12_row_47 : decode cX12_row 47 = .ok (.iastore, 1) := by decide +kernel
theorem dX12_row_48 : decode cX12_row 48 = .ok (.bipush 60, 2) := by decide +kernel
theorem dX12_row_50 : decode cX12_row 50 = .ok (.iload_n 1, 1) := by decide +kernel
theorem dX12_row_51 : decode cX12_row 51 = .ok (.imul, 1) := by decide +kernel
theorem dX12_row_52 : decode cX12_row 52 = .ok (.istore 4, 2) := by decide +kernel
theorem dX12_row_54 : decode cX12_row 54 = .ok (.iload 4, 2) := by decide +kernel
theorem dX12_row_56 : decode cX12_row 56 = .ok (.bipush 60, 2) := by decide +kernel
theorem dX12_row_58 : decode cX12_row 58 = .ok (.iload_n 1, 1) := by decide +kernel
theorem dX12_row_59 : decode cX12_row 59 = .ok (.imul, 1) := by decide +kernel
theorem dX12_row_60 : decode cX12_row 60 = .ok (.bipush 60, 2) := by decide +kernel
theorem dX12_row_62 : decode cX12_row 62 = .ok (.iadd, 1) := by decide +kernel
theorem dX12_row_63 : decode cX12_row 63 = .ok (.if_icmp .ge 17, 3) := by decide +kernel
theorem dX12_row_66 : decode cX12_row 66 = .ok (.aload_n 0, 1) := by decide +kernel
theorem dX12_row_67 : decode cX12_row 67 = .ok (.getfield 115, 3) := by decide +kernel
theorem dX12_row_70 : decode cX12_row 70 = .ok (.iload 4, 2) := by decide +kernel
theorem dX12_row_72 : decode cX12_row 72 = .ok (.lconst 0, 1) := by decide +kernel
theorem dX12_row_73 : decode cX12_row 73 = .ok (.lastore, 1) := by decide +kernel
theorem dX12_row_74 : decode cX12_row 74 = .ok (.iinc 4 1, 3) := by decide +kernel
theorem dX12_row_77 : decode cX12_row 77 = .ok (.goto (-23), 3) := by decide +kernel
theorem dX12_row_80 : decode cX12_row 80 = .ok (.iconst 1, 1) := by decide +kernel
theorem dX12_row_81 : decode cX12_row 81 = .ok (.ireturn, 1) := by decide +kernel
theorem dX12_shift_0 : decode cX12_shift 0 = .ok (.iload_n 1, 1) := by decide +kernel
theorem dX12_shift_1 : decode cX12_shift 1 = .ok (.invokestatic 139, 3) := by decide +kernel
theorem dX12_shift_4 : decode cX12_shift 4 = .ok (.ifCond .eq 10, 3) := by decide +kernel
theorem dX12_shift_7 : decode cX12_shift 7 = .ok (.iload_n 3, 1) := by decide +kernel
theorem dX12_shift_8 : decode cX12_shift 8 = .ok (.invokestatic 139, 3) := by decide +kernel
theorem dX12_shift_11 : decode cX12_shift 11 = .ok (.ifCond .ne 5, 3) := by decide +kernel
theorem dX12_shift_14 : decode cX12_shift 14 = .ok (.iconst (-1), 1) := by decide +kernel
theorem dX12_shift_15 : decode cX12_shift 15 = .ok (.ireturn, 1) := by decide +kernel
theorem dX12_shift_16 : decode cX12_shift 16 = .ok (.aload_n 0, 1) := by decide +kernel
theorem dX12_shift_17 : decode cX12_shift 17 = .ok (.getfield 109, 3) := by decide +kernel
theorem dX12_shift_20 : decode cX12_shift 20 = .ok (.iload_n 1, 1) := by decide +kernel
theorem dX12_shift_21 : decode cX12_shift 21 = .ok (.iaload, 1) := by decide +kernel
theorem dX12_shift_22 : decode cX12_shift 22 = .ok (.iconst (-1), 1) := by decide +kernel
theorem dX12_shift_23 : decode cX12_shift 23 = .ok (.if_icmp .eq 13, 3) := by decide +kernel
theorem dX12_shift_26 : decode cX12_shift 26 = .ok (.aload_n 0, 1) := by decide +kernel
theorem dX12_shift_27 : decode cX12_shift 27 = .ok (.getfield 109, 3) := by decide +kernel
theorem dX12_shift_30 : decode cX12_shift 30 = .ok (.iload_n 3, 1) := by decide +kernel
theorem dX12_shift_31 : decode cX12_shift 31 = .ok (.iaload, 1) := by decide +kernel
theorem dX12_shift_32 : decode cX12_shift 32 = .ok (.iconst (-1), 1) := by decide +kernel
theorem dX12_shift_33 : decode cX12_shift 33 = .ok (.if_icmp .ne 6, 3) := by decide +kernel
theorem dX12_shift_36 : decode cX12_shift 36 = .ok (.bipush (-11), 2) := by decide +kernel
theorem dX12_shift_38 : decode cX12_shift 38 = .ok (.ireturn, 1) := by decide +kernel
theorem dX12_shift_39 : decode cX12_shift 39 = .ok (.aload_n 0, 1) := by decide +kernel
theorem dX12_shift_40 : decode cX12_shift 40 = .ok (.getfield 109, 3) := by decide +kernel
theorem dX12_shift_43 : decode cX12_shift 43 = .ok (.iload_n 1, 1) := by decide +kernel
theorem dX12_shift_44 : decode cX12_shift 44 = .ok (.iaload, 1) := by decide +kernel
theorem dX12_shift_45 : decode cX12_shift 45 = .ok (.ifCond .ge 18, 3) := by decide +kernel
theorem dX12_shift_48 : decode cX12_shift 48 = .ok (.aload_n 0, 1) := by decide +kernel
theorem dX12_shift_49 : decode cX12_shift 49 = .ok (.getfield 109, 3) := by decide +kernel
theorem dX12_shift_52 : decode cX12_shift 52 = .ok (.iload_n 1, 1) := by decide +kernel
theorem dX12_shift_53 : decode cX12_shift 53 = .ok (.iaload, 1) := by decide +kernel
theorem dX12_shift_54 : decode cX12_shift 54 = .ok (.aload_n 0, 1) := by decide +kernel
theorem dX12_shift_55 : decode cX12_shift 55 = .ok (.getfield 109, 3) := by decide +kernel
theorem dX12_shift_58 : decode cX12_shift 58 = .ok (.iload_n 3, 1) := by decide +kernel
theorem dX12_shift_59 : decode cX12_shift 59 = .ok (.iaload, 1) := by decide +kernel
theorem dX12_shift_60 : decode cX12_shift 60 = .ok (.if_icmp .eq 6, 3) := by decide +kernel
theorem dX12_shift_63 : decode cX12_shift 63 = .ok (.bipush (-12), 2) := by decide +kernel
theorem dX12_shift_65 : decode cX12_shift 65 = .ok (.ireturn, 1) := by decide +kernel
theorem dX12_shift_66 : decode cX12_shift 66 = .ok (.iload 5, 2) := by decide +kernel
theorem dX12_shift_68 : decode cX12_shift 68 = .ok (.ifCond .lt 39, 3) := by decide +kernel
theorem dX12_shift_71 : decode cX12_shift 71 = .ok (.iload_n 2, 1) := by decide +kernel
theorem dX12_shift_72 : decode cX12_shift 72 = .ok (.ifCond .lt 35, 3) := by decide +kernel
theorem dX12_shift_75 : decode cX12_shift 75 = .ok (.iload 4, 2) := by decide +kernel
theorem dX12_shift_77 : decode cX12_shift 77 = .ok (.ifCond .lt 30, 3) := by decide +kernel
theorem dX12_shift_80 : decode cX12_shift 80 = .ok (.iload_n 2, 1) := by decide +kernel
theorem dX12_shift_81 : decode cX12_shift 81 = .ok (.aload_n 0, 1) := by decide +kernel
theorem dX12_shift_82 : decode cX12_shift 82 = .ok (.getfield 112, 3) := by decide +kernel
theorem dX12_shift_85 : decode cX12_shift 85 = .ok (.iload_n 1, 1) := by decide +kernel
theorem dX12_shift_86 : decode cX12_shift 86 = .ok (.iaload, 1) := by decide +kernel
theorem dX12_shift_87 : decode cX12_shift 87 = .ok (.iload 5, 2) := by decide +kernel
theorem dX12_shift_89 : decode cX12_shift 89 = .ok (.isub, 1) := by decide +kernel
theorem dX12_shift_90 : decode cX12_shift 90 = .ok (.if_icmp .gt 17, 3) := by decide +kernel
theorem dX12_shift_93 : decode cX12_shift 93 = .ok (.iload 4, 2) := by decide +kernel
theorem dX12_shift_95 : decode cX12_shift 95 = .ok (.aload_n 0, 1) := by decide +kernel
theorem dX12_shift_96 : decode cX12_shift 96 = .ok (.getfield 112, 3) := by decide +kernel
theorem dX12_shift_99 : decode cX12_shift 99 = .ok (.iload_n 3, 1) := by decide +kernel
theorem dX12_shift_100 : decode cX12_shift 100 = .ok (.iaload, 1) := by decide +kernel
theorem dX12_shift_101 : decode cX12_shift 101 = .ok (.iload 5, 2) := by decide +kernel
theorem dX12_shift_103 : decode cX12_shift 103 = .ok (.isub, 1) := by decide +kernel
theorem dX12_shift_104 : decode cX12_shift 104 = .ok (.if_icmp .le 6, 3) := by decide +kernel
theorem dX12_shift_107 : decode cX12_shift 107 = .ok (.bipush (-13), 2) := by decide +kernel
theorem dX12_shift_109 : decode cX12_shift 109 = .ok (.ireturn, 1) := by decide +kernel
theorem dX12_shift_110 : decode cX12_shift 110 = .ok (.iconst 0, 1) := by decide +kernel
theorem dX12_shift_111 : decode cX12_shift 111 = .ok (.istore 6, 2) := by decide +kernel
theorem dX12_shift_113 : decode cX12_shift 113 = .ok (.iload 6, 2) := by decide +kernel
theorem dX12_shift_115 : decode cX12_shift 115 = .ok (.iload 5, 2) := by decide +kernel
theorem dX12_shift_117 : decode cX12_shift 117 = .ok (.if_icmp .ge 30, 3) := by decide +kernel
theorem dX12_shift_120 : decode cX12_shift 120 = .ok (.aload_n 0, 1) := by decide +kernel
theorem dX12_shift_121 : decode cX12_shift 121 = .ok (.getfield 119, 3) := by decide +kernel
theorem dX12_shift_124 : decode cX12_shift 124 = .ok (.iload 6, 2) := by decide +kernel
theorem dX12_shift_126 : decode cX12_shift 126 = .ok (.aload_n 0, 1) := by decide +kernel
theorem dX12_shift_127 : decode cX12_shift 127 = .ok (.getfield 115, 3) := by decide +kernel
theorem dX12_shift_130 : decode cX12_shift 130 = .ok (.bipush 60, 2) := by decide +kernel
theorem dX12_shift_132 : decode cX12_shift 132 = .ok (.iload_n 1, 1) := by decide +kernel
theorem dX12_shift_133 : decode cX12_shift 133 = .ok (.imul, 1) := by decide +kernel
theorem dX12_shift_134 : decode cX12_shift 134 = .ok (.iload_n 2, 1) := by decide +kernel
theorem dX12_shift_135 : decode cX12_shift 135 = .ok (.iadd, 1) := by decide +kernel
theorem dX12_shift_136 : decode cX12_shift 136 = .ok (.iload 6, 2) := by decide +kernel
theorem dX12_shift_138 : decode cX12_shift 138 = .ok (.iadd, 1) := by decide +kernel
theorem dX12_shift_139 : decode cX12_shift 139 = .ok (.laload, 1) := by decide +kernel
theorem dX12_shift_140 : decode cX12_shift 140 = .ok (.lastore, 1) := by decide +kernel
theorem dX12_shift_141 : decode cX12_shift 141 = .ok (.iinc 6 1, 3) := by decide +kernel
theorem dX12_shift_144 : decode cX12_shift 144 = .ok (.goto (-31), 3) := by decide +kernel
theorem dX12_shift_147 : decode cX12_shift 147 = .ok (.iconst 0, 1) := by decide +kernel
theorem dX12_shift_148 : decode cX12_shift 148 = .ok (.istore 6, 2) := by decide +kernel
theorem dX12_shift_150 : decode cX12_shift 150 = .ok (.iload 6, 2) := by decide +kernel
theorem dX12_shift_152 : decode cX12_shift 152 = .ok (.iload 5, 2) := by decide +kernel
theorem dX12_shift_154 : decode cX12_shift 154 = .ok (.if_icmp .ge 31, 3) := by decide +kernel
theorem dX12_shift_157 : decode cX12_shift 157 = .ok (.aload_n 0, 1) := by decide +kernel
theorem dX12_shift_158 : decode cX12_shift 158 = .ok (.getfield 115, 3) := by decide +kernel
theorem dX12_shift_161 : decode cX12_shift 161 = .ok (.bipush 60, 2) := by decide +kernel
theorem dX12_shift_163 : decode cX12_shift 163 = .ok (.iload_n 3, 1) := by decide +kernel
theorem dX12_shift_164 : decode cX12_shift 164 = .ok (.imul, 1) := by decide +kernel
theorem dX12_shift_165 : decode cX12_shift 165 = .ok (.iload 4, 2) := by decide +kernel
theorem dX12_shift_167 : decode cX12_shift 167 = .ok (.iadd, 1) := by decide +kernel
theorem dX12_shift_168 : decode cX12_shift 168 = .ok (.iload 6, 2) := by decide +kernel
theorem dX12_shift_170 : decode cX12_shift 170 = .ok (.iadd, 1) := by decide +kernel
theorem dX12_shift_171 : decode cX12_shift 171 = .ok (.aload_n 0, 1) := by decide +kernel
theorem dX12_shift_172 : decode cX12_shift 172 = .ok (.getfield 119, 3) := by decide +kernel
theorem dX12_shift_175 : decode cX12_shift 175 = .ok (.iload 6, 2) := by decide +kernel
theorem dX12_shift_177 : decode cX12_shift 177 = .ok (.laload, 1) := by decide +kernel
theorem dX12_shift_178 : decode cX12_shift 178 = .ok (.lastore, 1) := by decide +kernel
theorem dX12_shift_179 : decode cX12_shift 179 = .ok (.iinc 6 1, 3) := by decide +kernel
theorem dX12_shift_182 : decode cX12_shift 182 = .ok (.goto (-32), 3) := by decide +kernel
theorem dX12_shift_185 : decode cX12_shift 185 = .ok (.iload 5, 2) := by decide +kernel
theorem dX12_shift_187 : decode cX12_shift 187 = .ok (.ireturn, 1) := by decide +kernel
theorem dJ0_indexOf_0f7a4_0 : decode cJ0_indexOf_0f7a4 0 = .ok (.aload_n 0, 1) := by decide +kernel
theorem dJ0_indexOf_0f7a4_1 : decode cJ0_indexOf_0f7a4 1 = .ok (.iload_n 1, 1) := by decide +kernel
theorem dJ0_indexOf_0f7a4_2 : decode cJ0_indexOf_0f7a4 2 = .ok (.iconst 0, 1) := by decide +kernel
theorem dJ0_indexOf_0f7a4_3 : decode cJ0_indexOf_0f7a4 3 = .ok (.invokevirtual 633, 3) := by decide +kernel
theorem dJ0_indexOf_0f7a4_6 : decode cJ0_indexOf_0f7a4 6 = .ok (.ireturn, 1) := by decide +kernel
theorem dJ0_indexOf_7cf53_0 : decode cJ0_indexOf_7cf53 0 = .ok (.aload_n 0, 1) := by decide +kernel
theorem dJ0_indexOf_7cf53_1 : decode cJ0_indexOf_7cf53 1 = .ok (.invokevirtual 492, 3) := by decide +kernel
theorem dJ0_indexOf_7cf53_4 : decode cJ0_indexOf_7cf53 4 = .ok (.ifCond .eq 19, 3) := by decide +kernel
theorem dJ0_indexOf_7cf53_7 : decode cJ0_indexOf_7cf53 7 = .ok (.aload_n 0, 1) := by decide +kernel
theorem dJ0_indexOf_7cf53_8 : decode cJ0_indexOf_7cf53 8 = .ok (.getfield 9, 3) := by decide +kernel
theorem dJ0_indexOf_7cf53_11 : decode cJ0_indexOf_7cf53 11 = .ok (.iload_n 1, 1) := by decide +kernel
theorem dJ0_indexOf_7cf53_12 : decode cJ0_indexOf_7cf53 12 = .ok (.iload_n 2, 1) := by decide +kernel
theorem dJ0_indexOf_7cf53_13 : decode cJ0_indexOf_7cf53 13 = .ok (.aload_n 0, 1) := by decide +kernel
theorem dJ0_indexOf_7cf53_14 : decode cJ0_indexOf_7cf53 14 = .ok (.invokevirtual 505, 3) := by decide +kernel
theorem dJ0_indexOf_7cf53_17 : decode cJ0_indexOf_7cf53 17 = .ok (.invokestatic 637, 3) := by decide +kernel
theorem dJ0_indexOf_7cf53_20 : decode cJ0_indexOf_7cf53 20 = .ok (.goto 16, 3) := by decide +kernel
theorem dJ0_indexOf_7cf53_36 : decode cJ0_indexOf_7cf53 36 = .ok (.ireturn, 1) := by decide +kernel
theorem dJ1_indexOf_4cfef_0 : decode cJ1_indexOf_4cfef 0 = .ok (.iload_n 1, 1) := by decide +kernel
theorem dJ1_indexOf_4cfef_1 : decode cJ1_indexOf_4cfef 1 = .ok (.invokestatic 88, 3) := by decide +kernel
theorem dJ1_indexOf_4cfef_4 : decode cJ1_indexOf_4cfef 4 = .ok (.ifCond .ne 5, 3) := by decide +kernel
theorem dJ1_indexOf_4cfef_7 : decode cJ1_indexOf_4cfef 7 = .ok (.iconst (-1), 1) := by decide +kernel
theorem dJ1_indexOf_4cfef_8 : decode cJ1_indexOf_4cfef 8 = .ok (.ireturn, 1) := by decide +kernel
theorem dJ1_indexOf_4cfef_9 : decode cJ1_indexOf_4cfef 9 = .ok (.iload_n 2, 1) := by decide +kernel
theorem dJ1_indexOf_4cfef_10 : decode cJ1_indexOf_4cfef 10 = .ok (.iconst 0, 1) := by decide +kernel
theorem dJ1_indexOf_4cfef_11 : decode cJ1_indexOf_4cfef 11 = .ok (.invokestatic 92, 3) := by decide +kernel
theorem dJ1_indexOf_4cfef_14 : decode cJ1_indexOf_4cfef 14 = .ok (.istore_n 2, 1) := by decide +kernel
theorem dJ1_indexOf_4cfef_15 : decode cJ1_indexOf_4cfef 15 = .ok (.iload_n 3, 1) := by decide +kernel
theorem dJ1_indexOf_4cfef_16 : decode cJ1_indexOf_4cfef 16 = .ok (.aload_n 0, 1) := by decide +kernel
theorem dJ1_indexOf_4cfef_17 : decode cJ1_indexOf_4cfef 17 = .ok (.arraylength, 1) := by decide +kernel
theorem dJ1_indexOf_4cfef_18 : decode cJ1_indexOf_4cfef 18 = .ok (.invokestatic 38, 3) := by decide +kernel
theorem dJ1_indexOf_4cfef_21 : decode cJ1_indexOf_4cfef 21 = .ok (.istore_n 3, 1) := by decide +kernel
theorem dJ1_indexOf_4cfef_22 : decode cJ1_indexOf_4cfef 22 = .ok (.iload_n 2, 1) := by decide +kernel
theorem dJ1_indexOf_4cfef_23 : decode cJ1_indexOf_4cfef 23 = .ok (.iload_n 3, 1) := by decide +kernel
theorem dJ1_indexOf_4cfef_24 : decode cJ1_indexOf_4cfef 24 = .ok (.if_icmp .lt 5, 3) := by decide +kernel
theorem dJ1_indexOf_4cfef_27 : decode cJ1_indexOf_4cfef 27 = .ok (.iconst (-1), 1) := by decide +kernel
theorem dJ1_indexOf_4cfef_28 : decode cJ1_indexOf_4cfef 28 = .ok (.ireturn, 1) := by decide +kernel
theorem dJ1_indexOf_4cfef_29 : decode cJ1_indexOf_4cfef 29 = .ok (.aload_n 0, 1) := by decide +kernel
theorem dJ1_indexOf_4cfef_30 : decode cJ1_indexOf_4cfef 30 = .ok (.iload_n 1, 1) := by decide +kernel
theorem dJ1_indexOf_4cfef_31 : decode cJ1_indexOf_4cfef 31 = .ok (.iload_n 2, 1) := by decide +kernel
theorem dJ1_indexOf_4cfef_32 : decode cJ1_indexOf_4cfef 32 = .ok (.iload_n 3, 1) := by decide +kernel
theorem dJ1_indexOf_4cfef_33 : decode cJ1_indexOf_4cfef 33 = .ok (.invokestatic 95, 3) := by decide +kernel
theorem dJ1_indexOf_4cfef_36 : decode cJ1_indexOf_4cfef 36 = .ok (.ireturn, 1) := by decide +kernel
theorem dJ1_indexOfChar_4cfef_0 : decode cJ1_indexOfChar_4cfef 0 = .ok (.iload_n 1, 1) := by decide +kernel
theorem dJ1_indexOfChar_4cfef_1 : decode cJ1_indexOfChar_4cfef 1 = .ok (.i2b, 1) := by decide +kernel
theorem dJ1_indexOfChar_4cfef_2 : decode cJ1_indexOfChar_4cfef 2 = .ok (.istore 4, 2) := by decide +kernel
theorem dJ1_indexOfChar_4cfef_4 : decode cJ1_indexOfChar_4cfef 4 = .ok (.iload_n 2, 1) := by decide +kernel
theorem dJ1_indexOfChar_4cfef_5 : decode cJ1_indexOfChar_4cfef 5 = .ok (.istore 5, 2) := by decide +kernel
theorem dJ1_indexOfChar_4cfef_7 : decode cJ1_indexOfChar_4cfef 7 = .ok (.iload 5, 2) := by decide +kernel
theorem dJ1_indexOfChar_4cfef_9 : decode cJ1_indexOfChar_4cfef 9 = .ok (.iload_n 3, 1) := by decide +kernel
theorem dJ1_indexOfChar_4cfef_10 : decode cJ1_indexOfChar_4cfef 10 = .ok (.if_icmp .ge 21, 3) := by decide +kernel
theorem dJ1_indexOfChar_4cfef_13 : decode cJ1_indexOfChar_4cfef 13 = .ok (.aload_n 0, 1) := by decide +kernel
theorem dJ1_indexOfChar_4cfef_14 : decode cJ1_indexOfChar_4cfef 14 = .ok (.iload 5, 2) := by decide +kernel
theorem dJ1_indexOfChar_4cfef_16 : decode cJ1_indexOfChar_4cfef 16 = .ok (.baload, 1) := by decide +kernel
theorem dJ1_indexOfChar_4cfef_17 : decode cJ1_indexOfChar_4cfef 17 = .ok (.iload 4, 2) := by decide +kernel
theorem dJ1_indexOfChar_4cfef_19 : decode cJ1_indexOfChar_4cfef 19 = .ok (.if_icmp .ne 6, 3) := by decide +kernel
theorem dJ1_indexOfChar_4cfef_22 : decode cJ1_indexOfChar_4cfef 22 = .ok (.iload 5, 2) := by decide +kernel
theorem dJ1_indexOfChar_4cfef_24 : decode cJ1_indexOfChar_4cfef 24 = .ok (.ireturn, 1) := by decide +kernel
theorem dJ1_indexOfChar_4cfef_25 : decode cJ1_indexOfChar_4cfef 25 = .ok (.iinc 5 1, 3) := by decide +kernel
theorem dJ1_indexOfChar_4cfef_28 : decode cJ1_indexOfChar_4cfef 28 = .ok (.goto (-21), 3) := by decide +kernel
theorem dJ1_indexOfChar_4cfef_31 : decode cJ1_indexOfChar_4cfef 31 = .ok (.iconst (-1), 1) := by decide +kernel
theorem dJ1_indexOfChar_4cfef_32 : decode cJ1_indexOfChar_4cfef 32 = .ok (.ireturn, 1) := by decide +kernel
theorem b_X12_claque_0 {X : zX} {d : Nat} {Q : Option Value → zH → Prop} (hd : 2 ≤ d) (σ : zS) (a2 : Int32) (a3 : Int32)  : zwp X d MX12_claque 0 [.ref 66, .int a2, .int a3, .null, .null, .null, .null, .null] [] (zen σ) Q = (if (f_X12_isShelf σ a2) = 0 then Q (some (.int (-1))) (zen σ) else (if a3 < 0 then Q (some (.int (-1))) (zen σ) else (if ¬ (f_X12_isRow σ (a3 / 1000)) = 0 then zwp X (d - 1) MX12_layOr 0 [.ref 66, .int a2, .null] [] (zen σ) (fun v h' => zwp X d MX12_claque 30 [.ref 66, .int a2, .int a3, .null, .null, .null, .null, .null] (zpsh v []) h' Q) else Q (some (.int (-1))) (zen σ)))) :=
  Eq.trans (q_iload_n (pc := 0) dX12_claque_0 rfl rfl) (Eq.trans (q_sumI (q_callS (as := [.int a2]) (rest := []) (l0 := [.int a2]) (pc := 1) dX12_claque_1 zSN_12_139 zC_12_139 rfl rfl rfl) (by omega) (s_X12_isShelf (hd := by omega) σ a2)) (Eq.trans (q_if_eq (tgt := 23) (pc := 4) dX12_claque_4 rfl) (zite (fun hz1 => Eq.trans (q_iconst (v := (-1)) (pc := 23) dX12_claque_23 rfl) (q_iret (pc := 24) dX12_claque_24 rfl rfl)) (fun hz1 => Eq.trans (q_iload_n (pc := 7) dX12_claque_7 rfl rfl) (Eq.trans (q_if_lt (tgt := 23) (pc := 8) dX12_claque_8 rfl) (zite (fun hz2 => Eq.trans (q_iconst (v := (-1)) (pc := 23) dX12_claque_23 rfl) (q_iret (pc := 24) dX12_claque_24 rfl rfl)) (fun hz2 => Eq.trans (q_aload_n (pc := 11) dX12_claque_11 rfl rfl) (Eq.trans (q_iload_n (pc := 12) dX12_claque_12 rfl rfl) (Eq.trans (q_sipush (v := 1000) (pc := 13) dX12_claque_13 rfl) (Eq.trans (q_idivK (pc := 16) dX12_claque_16 (by decide)) (Eq.trans (q_sumI (q_callV (as := [.int (a3 / 1000)]) (rest := []) (l0 := [.ref 66, .int (a3 / 1000)]) (pc := 17) dX12_claque_17 zC_12_162 rfl (z_recv zl_66 zh_66) rfl rfl) (by omega) (s_X12_isRow (hd := by omega) σ (a3 / 1000))) (Eq.trans (q_if_ne (tgt := 25) (pc := 20) dX12_claque_20 rfl) (zite (fun hz3 => Eq.trans (q_aload_n (pc := 25) dX12_claque_25 rfl rfl) (Eq.trans (q_iload_n (pc := 26) dX12_claque_26 rfl rfl) (zdpos (q_callV (as := [.int a2]) (rest := []) (l0 := [.ref 66, .int a2, .null]) (pc := 27) dX12_claque_27 zC_12_300 rfl (z_recv zl_66 zh_66) rfl rfl) (by omega)))) (fun hz3 => Eq.trans (q_iconst (v := (-1)) (pc := 23) dX12_claque_23 rfl) (q_iret (pc := 24) dX12_claque_24 rfl rfl)))))))))))))))
theorem b_X12_claque_60 {X : zX} {d : Nat} {Q : Option Value → zH → Prop} (hd : 1 ≤ d) (σ : zS) (l1 : Int32) (l2 : Int32) (l3 : Int32) (l4 : Int32) (l5 : Int32) (l6 : Int32) (l7 : Int32)  : zwp X d MX12_claque 60 [.ref 66, .int l1, .int l2, .int l3, .int l4, .int l5, .int l6, .int l7] [] (zen σ) Q = (if 99 < (l5 + l7) then (zin l4 6 = true ∧ Q (some (.int l6)) (zen (si σ 67 (ix l4) l5))) else (if 0 ≤ l6 then (zin l4 6 = true ∧ Q (some (.int l6)) (zen (si σ 67 (ix l4) l5))) else (zin l4 6 = true ∧ zwp X (d - 1) MX12_goAll 0 [.ref 66] [] (zen (si σ 67 (ix l4) (l5 + l7))) (fun v h' => zwp X d MX12_claque 91 [.ref 66, .int l1, .int l2, .int l3, .int l4, .int l5, .int l6, .int l7] (zpsh v []) h' Q)))) :=
  Eq.trans (q_iload (pc := 60) dX12_claque_60 rfl) (Eq.trans (q_iload (pc := 62) dX12_claque_62 rfl) (Eq.trans (q_iadd (pc := 64) dX12_claque_64) (Eq.trans (q_bipush (v := 99) (pc := 65) dX12_claque_65 rfl) (Eq.trans (q_icmp_gt (tgt := 116) (pc := 67) dX12_claque_67 rfl) (zite (fun hz1 => Eq.trans (q_aload_n (pc := 116) dX12_claque_116 rfl rfl) (Eq.trans (q_getf (pc := 117) dX12_claque_117 zF_12_7 (z_rfr zl_66 zh_66 (by decide) rfl)) (Eq.trans (q_iload (pc := 120) dX12_claque_120 rfl) (Eq.trans (q_iload (pc := 122) dX12_claque_122 rfl) (Eq.trans (q_iastore (pc := 124) dX12_claque_124 (zN_lt zl_67) (z_ia zl_67 zh_67 (by decide)) (z_pi zl_67 zh_67 (by decide))) (zand fun hz2 => Eq.trans (q_iload (pc := 125) dX12_claque_125 rfl) (q_iret (pc := 127) dX12_claque_127 rfl rfl))))))) (fun hz1 => Eq.trans (q_iload (pc := 70) dX12_claque_70 rfl) (Eq.trans (q_if_ge (tgt := 116) (pc := 72) dX12_claque_72 rfl) (zite (fun hz3 => Eq.trans (q_aload_n (pc := 116) dX12_claque_116 rfl rfl) (Eq.trans (q_getf (pc := 117) dX12_claque_117 zF_12_7 (z_rfr zl_66 zh_66 (by decide) rfl)) (Eq.trans (q_iload (pc := 120) dX12_claque_120 rfl) (Eq.trans (q_iload (pc := 122) dX12_claque_122 rfl) (Eq.trans (q_iastore (pc := 124) dX12_claque_124 (zN_lt zl_67) (z_ia zl_67 zh_67 (by decide)) (z_pi zl_67 zh_67 (by decide))) (zand fun hz4 => Eq.trans (q_iload (pc := 125) dX12_claque_125 rfl) (q_iret (pc := 127) dX12_claque_127 rfl rfl))))))) (fun hz3 => Eq.trans (q_aload_n (pc := 75) dX12_claque_75 rfl rfl) (Eq.trans (q_getf (pc := 76) dX12_claque_76 zF_12_7 (z_rfr zl_66 zh_66 (by decide) rfl)) (Eq.trans (q_iload (pc := 79) dX12_claque_79 rfl) (Eq.trans (q_iload (pc := 81) dX12_claque_81 rfl) (Eq.trans (q_iload (pc := 83) dX12_claque_83 rfl) (Eq.trans (q_iadd (pc := 85) dX12_claque_85) (Eq.trans (q_iastore (pc := 86) dX12_claque_86 (zN_lt zl_67) (z_ia zl_67 zh_67 (by decide)) (z_pi zl_67 zh_67 (by decide))) (zand fun hz5 => Eq.trans (q_aload_n (pc := 87) dX12_claque_87 rfl rfl) (zdpos (q_callV (as := []) (rest := []) (l0 := [.ref 66]) (pc := 88) dX12_claque_88 zC_12_303 rfl (z_recv zl_66 zh_66) rfl rfl) (by omega))))))))))))))))))
theorem b_X12_claque_30 {X : zX} {d : Nat} {Q : Option Value → zH → Prop} (σ : zS) (l1 : Int32) (l2 : Int32) (t0 : Int32)  : zwp X d MX12_claque 30 [.ref 66, .int l1, .int l2, .null, .null, .null, .null, .null] [.int t0] (zen σ) Q = (if 0 ≤ t0 then (zin (l2 / 1000) 6 = true ∧ zwp X d MX12_claque 60 [.ref 66, .int l1, .int l2, .int t0, .int (l2 / 1000), .int (gi σ 67 (ix (l2 / 1000))), .int (-2), .int 0] [] (zen σ) Q) else Q (some (.int t0)) (zen σ)) :=
  Eq.trans (q_istore_n (ls' := [.ref 66, .int l1, .int l2, .int t0, .null, .null, .null, .null]) (pc := 30) dX12_claque_30 rfl (Nat.le_of_ble_eq_true rfl) rfl) (Eq.trans (q_iload_n (pc := 31) dX12_claque_31 rfl rfl) (Eq.trans (q_if_ge (tgt := 37) (pc := 32) dX12_claque_32 rfl) (zite (fun hz1 => Eq.trans (q_iload_n (pc := 37) dX12_claque_37 rfl rfl) (Eq.trans (q_sipush (v := 1000) (pc := 38) dX12_claque_38 rfl) (Eq.trans (q_idivK (pc := 41) dX12_claque_41 (by decide)) (Eq.trans (q_istore (ls' := [.ref 66, .int l1, .int l2, .int t0, .int (l2 / 1000), .null, .null, .null]) (pc := 42) dX12_claque_42 (Nat.le_of_ble_eq_true rfl) rfl) (Eq.trans (q_aload_n (pc := 44) dX12_claque_44 rfl rfl) (Eq.trans (q_getf (pc := 45) dX12_claque_45 zF_12_7 (z_rfr zl_66 zh_66 (by decide) rfl)) (Eq.trans (q_iload (pc := 48) dX12_claque_48 rfl) (Eq.trans (qe_iaload (x := (gi σ 67 (ix (l2 / 1000)))) (pc := 50) dX12_claque_50 (z_ia zl_67 zh_67 (by decide)) rfl) (zand fun hz2 => Eq.trans (q_istore (ls' := [.ref 66, .int l1, .int l2, .int t0, .int (l2 / 1000), .int (gi σ 67 (ix (l2 / 1000))), .null, .null]) (pc := 51) dX12_claque_51 (Nat.le_of_ble_eq_true rfl) rfl) (Eq.trans (q_bipush (v := (-2)) (pc := 53) dX12_claque_53 rfl) (Eq.trans (q_istore (ls' := [.ref 66, .int l1, .int l2, .int t0, .int (l2 / 1000), .int (gi σ 67 (ix (l2 / 1000))), .int (-2), .null]) (pc := 55) dX12_claque_55 (Nat.le_of_ble_eq_true rfl) rfl) (Eq.trans (q_iconst (v := 0) (pc := 57) dX12_claque_57 rfl) (Eq.trans (q_istore (ls' := [.ref 66, .int l1, .int l2, .int t0, .int (l2 / 1000), .int (gi σ 67 (ix (l2 / 1000))), .int (-2), .int 0]) (pc := 58) dX12_claque_58 (Nat.le_of_ble_eq_true rfl) rfl) (rfl)))))))))))))) (fun hz1 => Eq.trans (q_iload_n (pc := 35) dX12_claque_35 rfl rfl) (q_iret (pc := 36) dX12_claque_36 rfl rfl)))))
theorem b_X12_claque_91 {X : zX} {d : Nat} {Q : Option Value → zH → Prop} (hd : 1 ≤ d) (σ : zS) (l1 : Int32) (l2 : Int32) (l3 : Int32) (l4 : Int32) (l5 : Int32) (l6 : Int32) (l7 : Int32)  : zwp X d MX12_claque 91 [.ref 66, .int l1, .int l2, .int l3, .int l4, .int l5, .int l6, .int l7] [] (zen σ) Q = zwp X (d - 1) MX12_fallsOn 0 [.ref 66, .int (l2 - l2 / 1000 * 1000), .int 0, .null] [] (zen σ) (fun v h' => zwp X d MX12_claque 101 [.ref 66, .int l1, .int l2, .int l3, .int l4, .int l5, .int l6, .int l7] (zpsh v []) h' Q) :=
  Eq.trans (q_aload_n (pc := 91) dX12_claque_91 rfl rfl) (Eq.trans (q_iload_n (pc := 92) dX12_claque_92 rfl rfl) (Eq.trans (q_sipush (v := 1000) (pc := 93) dX12_claque_93 rfl) (Eq.trans (q_iremK (pc := 96) dX12_claque_96 (by decide)) (Eq.trans (q_iconst (v := 0) (pc := 97) dX12_claque_97 rfl) (zdpos (q_callV (as := [.int (l2 - l2 / 1000 * 1000), .int 0]) (rest := []) (l0 := [.ref 66, .int (l2 - l2 / 1000 * 1000), .int 0, .null]) (pc := 98) dX12_claque_98 zC_12_312 rfl (z_recv zl_66 zh_66) rfl rfl) (by omega))))))
theorem b_X12_claque_101 {X : zX} {d : Nat} {Q : Option Value → zH → Prop} (σ : zS) (l1 : Int32) (l2 : Int32) (l3 : Int32) (l4 : Int32) (l5 : Int32) (l6 : Int32) (l7 : Int32) (t0 : Int32)  : zwp X d MX12_claque 101 [.ref 66, .int l1, .int l2, .int l3, .int l4, .int l5, .int l6, .int l7] [.int t0] (zen σ) Q = (if ¬ t0 = (-2) then zwp X d MX12_claque 60 [.ref 66, .int l1, .int l2, .int l3, .int l4, .int l5, .int l6, .int (l7 + 1)] [] (zen σ) Q else zwp X d MX12_claque 60 [.ref 66, .int l1, .int l2, .int l3, .int l4, .int l5, .int l7, .int (l7 + 1)] [] (zen σ) Q) :=
  Eq.trans (q_bipush (v := (-2)) (pc := 101) dX12_claque_101 rfl) (Eq.trans (q_icmp_ne (tgt := 110) (pc := 103) dX12_claque_103 rfl) (zite (fun hz1 => Eq.trans (q_iinc (c := 1) (ls' := [.ref 66, .int l1, .int l2, .int l3, .int l4, .int l5, .int l6, .int (l7 + 1)]) (pc := 110) dX12_claque_110 rfl rfl rfl) (Eq.trans (q_goto (tgt := 60) (pc := 113) dX12_claque_113 rfl) (rfl))) (fun hz1 => Eq.trans (q_iload (pc := 106) dX12_claque_106 rfl) (Eq.trans (q_istore (ls' := [.ref 66, .int l1, .int l2, .int l3, .int l4, .int l5, .int l7, .int l7]) (pc := 108) dX12_claque_108 (Nat.le_of_ble_eq_true rfl) rfl) (Eq.trans (q_iinc (c := 1) (ls' := [.ref 66, .int l1, .int l2, .int l3, .int l4, .int l5, .int l7, .int (l7 + 1)]) (pc := 110) dX12_claque_110 rfl rfl rfl) (Eq.trans (q_goto (tgt := 60) (pc := 113) dX12_claque_113 rfl) (rfl)))))))
theorem b_X12_wrongSeen_0 {X : zX} {d : Nat} {Q : Option Value → zH → Prop} (σ : zS) (a2 : Int32)  : zwp X d MX12_wrongSeen 0 [.ref 66, .int a2, .null] [] (zen σ) Q = zwp X d MX12_wrongSeen 2 [.ref 66, .int a2, .int 0] [] (zen σ) Q :=
  Eq.trans (q_iconst (v := 0) (pc := 0) dX12_wrongSeen_0 rfl) (Eq.trans (q_istore_n (ls' := [.ref 66, .int a2, .int 0]) (pc := 1) dX12_wrongSeen_1 rfl (Nat.le_of_ble_eq_true rfl) rfl) (rfl))
theorem b_X12_wrongSeen_2 {X : zX} {d : Nat} {Q : Option Value → zH → Prop} (hd : 1 ≤ d) (σ : zS) (l1 : Int32) (l2 : Int32)  : zwp X d MX12_wrongSeen 2 [.ref 66, .int l1, .int l2] [] (zen σ) Q = (zin l1 6 = true ∧ (if (gi σ 96 (ix l1)) ≤ l2 then Q (some (.int (-2))) (zen σ) else (if (gi σ 66 9) ≤ l2 then Q (some (.int (-2))) (zen σ) else (p_X12_at σ l1 l2 ∧ (zin l2 16 = true ∧ (if (f_X12_at σ l1 l2) = (gi σ 86 (ix l2)) then zwp X d MX12_wrongSeen 2 [.ref 66, .int l1, .int (l2 + 1)] [] (zen σ) Q else Q (some (.int l2)) (zen σ))))))) :=
  Eq.trans (q_iload_n (pc := 2) dX12_wrongSeen_2 rfl rfl) (Eq.trans (q_aload_n (pc := 3) dX12_wrongSeen_3 rfl rfl) (Eq.trans (q_getf (pc := 4) dX12_wrongSeen_4 zF_12_112 (z_rfr zl_66 zh_66 (by decide) rfl)) (Eq.trans (q_iload_n (pc := 7) dX12_wrongSeen_7 rfl rfl) (Eq.trans (qe_iaload (x := (gi σ 96 (ix l1))) (pc := 8) dX12_wrongSeen_8 (z_ia zl_96 zh_96 (by decide)) rfl) (zand fun hz1 => Eq.trans (q_icmp_ge (tgt := 43) (pc := 9) dX12_wrongSeen_9 rfl) (zite (fun hz2 => Eq.trans (q_bipush (v := (-2)) (pc := 43) dX12_wrongSeen_43 rfl) (q_iret (pc := 45) dX12_wrongSeen_45 rfl rfl)) (fun hz2 => Eq.trans (q_iload_n (pc := 12) dX12_wrongSeen_12 rfl rfl) (Eq.trans (q_aload_n (pc := 13) dX12_wrongSeen_13 rfl rfl) (Eq.trans (q_getf (pc := 14) dX12_wrongSeen_14 zF_12_28 (z_rfiE (x := (gi σ 66 9)) zl_66 zh_66 (by decide) rfl rfl)) (Eq.trans (q_icmp_ge (tgt := 43) (pc := 17) dX12_wrongSeen_17 rfl) (zite (fun hz3 => Eq.trans (q_bipush (v := (-2)) (pc := 43) dX12_wrongSeen_43 rfl) (q_iret (pc := 45) dX12_wrongSeen_45 rfl rfl)) (fun hz3 => Eq.trans (q_aload_n (pc := 20) dX12_wrongSeen_20 rfl rfl) (Eq.trans (q_iload_n (pc := 21) dX12_wrongSeen_21 rfl rfl) (Eq.trans (q_iload_n (pc := 22) dX12_wrongSeen_22 rfl rfl) (Eq.trans (q_sumIP (q_callV (as := [.int l1, .int l2]) (rest := []) (l0 := [.ref 66, .int l1, .int l2]) (pc := 23) dX12_wrongSeen_23 zC_12_282 rfl (z_recv zl_66 zh_66) rfl rfl) (by omega) (s_X12_at σ l1 l2)) (zand fun hz4 => Eq.trans (q_aload_n (pc := 26) dX12_wrongSeen_26 rfl rfl) (Eq.trans (q_getf (pc := 27) dX12_wrongSeen_27 zF_12_79 (z_rfr zl_66 zh_66 (by decide) rfl)) (Eq.trans (q_iload_n (pc := 30) dX12_wrongSeen_30 rfl rfl) (Eq.trans (qe_iaload (x := (gi σ 86 (ix l2))) (pc := 31) dX12_wrongSeen_31 (z_ia zl_86 zh_86 (by decide)) rfl) (zand fun hz5 => Eq.trans (q_icmp_eq (tgt := 37) (pc := 32) dX12_wrongSeen_32 rfl) (zite (fun hz6 => Eq.trans (q_iinc (c := 1) (ls' := [.ref 66, .int l1, .int (l2 + 1)]) (pc := 37) dX12_wrongSeen_37 rfl rfl rfl) (Eq.trans (q_goto (tgt := 2) (pc := 40) dX12_wrongSeen_40 rfl) (rfl))) (fun hz6 => Eq.trans (q_iload_n (pc := 35) dX12_wrongSeen_35 rfl rfl) (q_iret (pc := 36) dX12_wrongSeen_36 rfl rfl)))))))))))))))))))))))
theorem b_X12_layBoth_0 {X : zX} {d : Nat} {Q : Option Value → zH → Prop} (hd : 1 ≤ d) (σ : zS) (a2 : Int32)  : zwp X d MX12_layBoth 0 [.ref 66, .int a2] [] (zen σ) Q = (zin (a2 / 10) 6 = true ∧ (if (gi σ 95 (ix (a2 / 10))) = (-1) then Q (some (.int (-11))) (zen σ) else (zin (a2 - a2 / 10 * 10) 6 = true ∧ (if ¬ (gi σ 95 (ix (a2 - a2 / 10 * 10))) = (-1) then (p_X12_rowFault σ (a2 / 10) 0 ∧ (if (f_X12_rowFault σ (a2 / 10) 0) < 0 then Q (some (.int (-12))) (zen σ) else (p_X12_rowFault σ (a2 - a2 / 10 * 10) 1 ∧ (if 0 ≤ (f_X12_rowFault σ (a2 - a2 / 10 * 10) 1) then zwp X (d - 1) MX12_layProgramme 0 [.ref 66, .int (a2 / 10), .null, .null] [] (zen σ) (fun v h' => zwp X d MX12_layBoth 64 [.ref 66, .int a2] (zpsh v []) h' Q) else Q (some (.int (-12))) (zen σ))))) else Q (some (.int (-11))) (zen σ))))) :=
  Eq.trans (q_aload_n (pc := 0) dX12_layBoth_0 rfl rfl) (Eq.trans (q_getf (pc := 1) dX12_layBoth_1 zF_12_109 (z_rfr zl_66 zh_66 (by decide) rfl)) (Eq.trans (q_iload_n (pc := 4) dX12_layBoth_4 rfl rfl) (Eq.trans (q_bipush (v := 10) (pc := 5) dX12_layBoth_5 rfl) (Eq.trans (q_idivK (pc := 7) dX12_layBoth_7 (by decide)) (Eq.trans (qe_iaload (x := (gi σ 95 (ix (a2 / 10)))) (pc := 8) dX12_layBoth_8 (z_ia zl_95 zh_95 (by decide)) rfl) (zand fun hz1 => Eq.trans (q_iconst (v := (-1)) (pc := 9) dX12_layBoth_9 rfl) (Eq.trans (q_icmp_eq (tgt := 26) (pc := 10) dX12_layBoth_10 rfl) (zite (fun hz2 => Eq.trans (q_bipush (v := (-11)) (pc := 26) dX12_layBoth_26 rfl) (q_iret (pc := 28) dX12_layBoth_28 rfl rfl)) (fun hz2 => Eq.trans (q_aload_n (pc := 13) dX12_layBoth_13 rfl rfl) (Eq.trans (q_getf (pc := 14) dX12_layBoth_14 zF_12_109 (z_rfr zl_66 zh_66 (by decide) rfl)) (Eq.trans (q_iload_n (pc := 17) dX12_layBoth_17 rfl rfl) (Eq.trans (q_bipush (v := 10) (pc := 18) dX12_layBoth_18 rfl) (Eq.trans (q_iremK (pc := 20) dX12_layBoth_20 (by decide)) (Eq.trans (qe_iaload (x := (gi σ 95 (ix (a2 - a2 / 10 * 10)))) (pc := 21) dX12_layBoth_21 (z_ia zl_95 zh_95 (by decide)) rfl) (zand fun hz3 => Eq.trans (q_iconst (v := (-1)) (pc := 22) dX12_layBoth_22 rfl) (Eq.trans (q_icmp_ne (tgt := 29) (pc := 23) dX12_layBoth_23 rfl) (zite (fun hz4 => Eq.trans (q_aload_n (pc := 29) dX12_layBoth_29 rfl rfl) (Eq.trans (q_iload_n (pc := 30) dX12_layBoth_30 rfl rfl) (Eq.trans (q_bipush (v := 10) (pc := 31) dX12_layBoth_31 rfl) (Eq.trans (q_idivK (pc := 33) dX12_layBoth_33 (by decide)) (Eq.trans (q_iconst (v := 0) (pc := 34) dX12_layBoth_34 rfl) (Eq.trans (q_sumIP (q_callV (as := [.int (a2 / 10), .int 0]) (rest := []) (l0 := [.ref 66, .int (a2 / 10), .int 0]) (pc := 35) dX12_layBoth_35 zC_12_294 rfl (z_recv zl_66 zh_66) rfl rfl) (by omega) (s_X12_rowFault σ (a2 / 10) 0)) (zand fun hz5 => Eq.trans (q_if_lt (tgt := 53) (pc := 38) dX12_layBoth_38 rfl) (zite (fun hz6 => Eq.trans (q_bipush (v := (-12)) (pc := 53) dX12_layBoth_53 rfl) (q_iret (pc := 55) dX12_layBoth_55 rfl rfl)) (fun hz6 => Eq.trans (q_aload_n (pc := 41) dX12_layBoth_41 rfl rfl) (Eq.trans (q_iload_n (pc := 42) dX12_layBoth_42 rfl rfl) (Eq.trans (q_bipush (v := 10) (pc := 43) dX12_layBoth_43 rfl) (Eq.trans (q_iremK (pc := 45) dX12_layBoth_45 (by decide)) (Eq.trans (q_iconst (v := 1) (pc := 46) dX12_layBoth_46 rfl) (Eq.trans (q_sumIP (q_callV (as := [.int (a2 - a2 / 10 * 10), .int 1]) (rest := []) (l0 := [.ref 66, .int (a2 - a2 / 10 * 10), .int 1]) (pc := 47) dX12_layBoth_47 zC_12_294 rfl (z_recv zl_66 zh_66) rfl rfl) (by omega) (s_X12_rowFault σ (a2 - a2 / 10 * 10) 1)) (zand fun hz7 => Eq.trans (q_if_ge (tgt := 56) (pc := 50) dX12_layBoth_50 rfl) (zite (fun hz8 => Eq.trans (q_aload_n (pc := 56) dX12_layBoth_56 rfl rfl) (Eq.trans (q_iload_n (pc := 57) dX12_layBoth_57 rfl rfl) (Eq.trans (q_bipush (v := 10) (pc := 58) dX12_layBoth_58 rfl) (Eq.trans (q_idivK (pc := 60) dX12_layBoth_60 (by decide)) (zdpos (q_callV (as := [.int (a2 / 10)]) (rest := []) (l0 := [.ref 66, .int (a2 / 10), .null, .null]) (pc := 61) dX12_layBoth_61 zC_12_297 rfl (z_recv zl_66 zh_66) rfl rfl) (by omega)))))) (fun hz8 => Eq.trans (q_bipush (v := (-12)) (pc := 53) dX12_layBoth_53 rfl) (q_iret (pc := 55) dX12_layBoth_55 rfl rfl)))))))))))))))))) (fun hz4 => Eq.trans (q_bipush (v := (-11)) (pc := 26) dX12_layBoth_26 rfl) (q_iret (pc := 28) dX12_layBoth_28 rfl rfl)))))))))))))))))))
theorem b_X12_layBoth_64 {X : zX} {d : Nat} {Q : Option Value → zH → Prop} (σ : zS) (l1 : Int32)  : zwp X d MX12_layBoth 64 [.ref 66, .int l1] [] (zen σ) Q = Q (some (.int 0)) (zen σ) :=
  Eq.trans (q_iconst (v := 0) (pc := 64) dX12_layBoth_64 rfl) (q_iret (pc := 65) dX12_layBoth_65 rfl rfl)
theorem b_X12_judge_0 {X : zX} {d : Nat} {Q : Option Value → zH → Prop} (hd : 3 ≤ d) (σ : zS) (a2 : Int32)  : zwp X d MX12_judge 0 [.ref 66, .int a2, .null] [] (zen σ) Q = (if ¬ (f_X12_areShelves σ a2) = 0 then zwp X (d - 1) MX12_layBoth 0 [.ref 66, .int a2] [] (zen σ) (fun v h' => zwp X d MX12_judge 14 [.ref 66, .int a2, .null] (zpsh v []) h' Q) else Q (some (.int (-1))) (zen σ)) :=
  Eq.trans (q_iload_n (pc := 0) dX12_judge_0 rfl rfl) (Eq.trans (q_sumI (q_callS (as := [.int a2]) (rest := []) (l0 := [.int a2]) (pc := 1) dX12_judge_1 zSN_12_348 zC_12_348 rfl rfl rfl) (by omega) (s_X12_areShelves (hd := by omega) σ a2)) (Eq.trans (q_if_ne (tgt := 9) (pc := 4) dX12_judge_4 rfl) (zite (fun hz1 => Eq.trans (q_aload_n (pc := 9) dX12_judge_9 rfl rfl) (Eq.trans (q_iload_n (pc := 10) dX12_judge_10 rfl rfl) (zdpos (q_callV (as := [.int a2]) (rest := []) (l0 := [.ref 66, .int a2]) (pc := 11) dX12_judge_11 zC_12_351 rfl (z_recv zl_66 zh_66) rfl rfl) (by omega)))) (fun hz1 => Eq.trans (q_iconst (v := (-1)) (pc := 7) dX12_judge_7 rfl) (q_iret (pc := 8) dX12_judge_8 rfl rfl)))))
theorem b_X12_judge_14 {X : zX} {d : Nat} {Q : Option Value → zH → Prop} (hd : 1 ≤ d) (σ : zS) (l1 : Int32) (t0 : Int32)  : zwp X d MX12_judge 14 [.ref 66, .int l1, .null] [.int t0] (zen σ) Q = (if 0 ≤ t0 then zwp X (d - 1) MX12_goAll 0 [.ref 66] [] (zen σ) (fun v h' => zwp X d MX12_judge 25 [.ref 66, .int l1, .int t0] (zpsh v []) h' Q) else Q (some (.int t0)) (zen σ)) :=
  Eq.trans (q_istore_n (ls' := [.ref 66, .int l1, .int t0]) (pc := 14) dX12_judge_14 rfl (Nat.le_of_ble_eq_true rfl) rfl) (Eq.trans (q_iload_n (pc := 15) dX12_judge_15 rfl rfl) (Eq.trans (q_if_ge (tgt := 21) (pc := 16) dX12_judge_16 rfl) (zite (fun hz1 => Eq.trans (q_aload_n (pc := 21) dX12_judge_21 rfl rfl) (zdpos (q_callV (as := []) (rest := []) (l0 := [.ref 66]) (pc := 22) dX12_judge_22 zC_12_303 rfl (z_recv zl_66 zh_66) rfl rfl) (by omega))) (fun hz1 => Eq.trans (q_iload_n (pc := 19) dX12_judge_19 rfl rfl) (q_iret (pc := 20) dX12_judge_20 rfl rfl)))))
theorem b_X12_judge_25 {X : zX} {d : Nat} {Q : Option Value → zH → Prop} (hd : 1 ≤ d) (σ : zS) (l1 : Int32) (l2 : Int32)  : zwp X d MX12_judge 25 [.ref 66, .int l1, .int l2] [] (zen σ) Q = zwp X (d - 1) MX12_wrongSeen 0 [.ref 66, .int (l1 - l1 / 10 * 10), .null] [] (zen σ) (fun v h' => zwp X d MX12_judge 33 [.ref 66, .int l1, .int l2] (zpsh v []) h' Q) :=
  Eq.trans (q_aload_n (pc := 25) dX12_judge_25 rfl rfl) (Eq.trans (q_iload_n (pc := 26) dX12_judge_26 rfl rfl) (Eq.trans (q_bipush (v := 10) (pc := 27) dX12_judge_27 rfl) (Eq.trans (q_iremK (pc := 29) dX12_judge_29 (by decide)) (zdpos (q_callV (as := [.int (l1 - l1 / 10 * 10)]) (rest := []) (l0 := [.ref 66, .int (l1 - l1 / 10 * 10), .null]) (pc := 30) dX12_judge_30 zC_12_327 rfl (z_recv zl_66 zh_66) rfl rfl) (by omega)))))
theorem b_X12_judge_33 {X : zX} {d : Nat} {Q : Option Value → zH → Prop} (σ : zS) (l1 : Int32) (l2 : Int32) (t0 : Int32)  : zwp X d MX12_judge 33 [.ref 66, .int l1, .int l2] [.int t0] (zen σ) Q = Q (some (.int t0)) (zen σ) :=
  q_iret (pc := 33) dX12_judge_33 rfl rfl
theorem b_X12_isAlone_0 {X : zX} {d : Nat} {Q : Option Value → zH → Prop} (hd : 1 ≤ d) (σ : zS) (a2 : Int32) (a3 : Int32)  : zwp X d MX12_isAlone 0 [.ref 66, .int a2, .int a3] [] (zen σ) Q = zwp X (d - 1) MX12_beginIce 0 [.ref 66, .null] [] (zen σ) (fun v h' => zwp X d MX12_isAlone 4 [.ref 66, .int a2, .int a3] (zpsh v []) h' Q) :=
  Eq.trans (q_aload_n (pc := 0) dX12_isAlone_0 rfl rfl) (zdpos (q_callV (as := []) (rest := []) (l0 := [.ref 66, .null]) (pc := 1) dX12_isAlone_1 zC_12_285 rfl (z_recv zl_66 zh_66) rfl rfl) (by omega))
theorem b_X12_isAlone_4 {X : zX} {d : Nat} {Q : Option Value → zH → Prop} (hd : 1 ≤ d) (σ : zS) (l1 : Int32) (l2 : Int32)  : zwp X d MX12_isAlone 4 [.ref 66, .int l1, .int l2] [] (zen σ) Q = zwp X (d - 1) MX12_goTurn 0 [.ref 66, .int l1] [] (zen σ) (fun v h' => zwp X d MX12_isAlone 9 [.ref 66, .int l1, .int l2] (zpsh v []) h' Q) :=
  Eq.trans (q_aload_n (pc := 4) dX12_isAlone_4 rfl rfl) (Eq.trans (q_iload_n (pc := 5) dX12_isAlone_5 rfl rfl) (zdpos (q_callV (as := [.int l1]) (rest := []) (l0 := [.ref 66, .int l1]) (pc := 6) dX12_isAlone_6 zC_12_276 rfl (z_recv zl_66 zh_66) rfl rfl) (by omega)))
theorem b_X12_isAlone_9 {X : zX} {d : Nat} {Q : Option Value → zH → Prop} (hd : 1 ≤ d) (σ : zS) (l1 : Int32) (l2 : Int32)  : zwp X d MX12_isAlone 9 [.ref 66, .int l1, .int l2] [] (zen σ) Q = zwp X (d - 1) MX12_wrongSeen 0 [.ref 66, .int l2, .null] [] (zen σ) (fun v h' => zwp X d MX12_isAlone 14 [.ref 66, .int l1, .int l2] (zpsh v []) h' Q) :=
  Eq.trans (q_aload_n (pc := 9) dX12_isAlone_9 rfl rfl) (Eq.trans (q_iload_n (pc := 10) dX12_isAlone_10 rfl rfl) (zdpos (q_callV (as := [.int l2]) (rest := []) (l0 := [.ref 66, .int l2, .null]) (pc := 11) dX12_isAlone_11 zC_12_327 rfl (z_recv zl_66 zh_66) rfl rfl) (by omega)))
theorem b_X12_isAlone_14 {X : zX} {d : Nat} {Q : Option Value → zH → Prop} (σ : zS) (l1 : Int32) (l2 : Int32) (t0 : Int32)  : zwp X d MX12_isAlone 14 [.ref 66, .int l1, .int l2] [.int t0] (zen σ) Q = (if 0 ≤ t0 then Q (some (.int 0)) (zen σ) else Q (some (.int 1)) (zen σ)) :=
  Eq.trans (q_if_ge (tgt := 21) (pc := 14) dX12_isAlone_14 rfl) (zite (fun hz1 => Eq.trans (q_iconst (v := 0) (pc := 21) dX12_isAlone_21 rfl) (q_zretK (pc := 22) dX12_isAlone_22 rfl (by decide))) (fun hz1 => Eq.trans (q_iconst (v := 1) (pc := 17) dX12_isAlone_17 rfl) (Eq.trans (q_goto (tgt := 22) (pc := 18) dX12_isAlone_18 rfl) (q_zretK (pc := 22) dX12_isAlone_22 rfl (by decide)))))
theorem b_X12_which_0 {X : zX} {d : Nat} {Q : Option Value → zH → Prop} (hd : 2 ≤ d) (σ : zS) (a2 : Int32) (a3 : Int32)  : zwp X d MX12_which 0 [.ref 66, .int a2, .int a3, .null, .null, .null] [] (zen σ) Q = (if (f_X12_isShelf σ a2) = 0 then Q (some (.int (-1))) (zen σ) else (if ¬ (f_X12_in σ a3 0 1) = 0 then (p_X12_rowFault σ a2 1 ∧ (if 0 ≤ (f_X12_rowFault σ a2 1) then zwp X d MX12_which 43 [.ref 66, .int a2, .int a3, .int 0, .int (-2), .int 0] [] (zen σ) Q else (p_X12_rowFault σ a2 1 ∧ Q (some (.int (f_X12_rowFault σ a2 1))) (zen σ)))) else Q (some (.int (-1))) (zen σ))) :=
  Eq.trans (q_iload_n (pc := 0) dX12_which_0 rfl rfl) (Eq.trans (q_sumI (q_callS (as := [.int a2]) (rest := []) (l0 := [.int a2]) (pc := 1) dX12_which_1 zSN_12_139 zC_12_139 rfl rfl rfl) (by omega) (s_X12_isShelf (hd := by omega) σ a2)) (Eq.trans (q_if_eq (tgt := 16) (pc := 4) dX12_which_4 rfl) (zite (fun hz1 => Eq.trans (q_iconst (v := (-1)) (pc := 16) dX12_which_16 rfl) (q_iret (pc := 17) dX12_which_17 rfl rfl)) (fun hz1 => Eq.trans (q_iload_n (pc := 7) dX12_which_7 rfl rfl) (Eq.trans (q_iconst (v := 0) (pc := 8) dX12_which_8 rfl) (Eq.trans (q_iconst (v := 1) (pc := 9) dX12_which_9 rfl) (Eq.trans (q_sumI (q_callS (as := [.int a3, .int 0, .int 1]) (rest := []) (l0 := [.int a3, .int 0, .int 1]) (pc := 10) dX12_which_10 zSN_12_128 zC_12_128 rfl rfl rfl) (by omega) (s_X12_in σ a3 0 1)) (Eq.trans (q_if_ne (tgt := 18) (pc := 13) dX12_which_13 rfl) (zite (fun hz2 => Eq.trans (q_aload_n (pc := 18) dX12_which_18 rfl rfl) (Eq.trans (q_iload_n (pc := 19) dX12_which_19 rfl rfl) (Eq.trans (q_iconst (v := 1) (pc := 20) dX12_which_20 rfl) (Eq.trans (q_sumIP (q_callV (as := [.int a2, .int 1]) (rest := []) (l0 := [.ref 66, .int a2, .int 1]) (pc := 21) dX12_which_21 zC_12_294 rfl (z_recv zl_66 zh_66) rfl rfl) (by omega) (s_X12_rowFault σ a2 1)) (zand fun hz3 => Eq.trans (q_if_ge (tgt := 34) (pc := 24) dX12_which_24 rfl) (zite (fun hz4 => Eq.trans (q_iconst (v := 0) (pc := 34) dX12_which_34 rfl) (Eq.trans (q_istore_n (ls' := [.ref 66, .int a2, .int a3, .int 0, .null, .null]) (pc := 35) dX12_which_35 rfl (Nat.le_of_ble_eq_true rfl) rfl) (Eq.trans (q_bipush (v := (-2)) (pc := 36) dX12_which_36 rfl) (Eq.trans (q_istore (ls' := [.ref 66, .int a2, .int a3, .int 0, .int (-2), .null]) (pc := 38) dX12_which_38 (Nat.le_of_ble_eq_true rfl) rfl) (Eq.trans (q_iconst (v := 0) (pc := 40) dX12_which_40 rfl) (Eq.trans (q_istore (ls' := [.ref 66, .int a2, .int a3, .int 0, .int (-2), .int 0]) (pc := 41) dX12_which_41 (Nat.le_of_ble_eq_true rfl) rfl) (rfl))))))) (fun hz4 => Eq.trans (q_aload_n (pc := 27) dX12_which_27 rfl rfl) (Eq.trans (q_iload_n (pc := 28) dX12_which_28 rfl rfl) (Eq.trans (q_iconst (v := 1) (pc := 29) dX12_which_29 rfl) (Eq.trans (q_sumIP (q_callV (as := [.int a2, .int 1]) (rest := []) (l0 := [.ref 66, .int a2, .int 1]) (pc := 30) dX12_which_30 zC_12_294 rfl (z_recv zl_66 zh_66) rfl rfl) (by omega) (s_X12_rowFault σ a2 1)) (zand fun hz5 => q_iret (pc := 33) dX12_which_33 rfl rfl))))))))))) (fun hz2 => Eq.trans (q_iconst (v := (-1)) (pc := 16) dX12_which_16 rfl) (q_iret (pc := 17) dX12_which_17 rfl rfl)))))))))))
theorem b_X12_which_43 {X : zX} {d : Nat} {Q : Option Value → zH → Prop} (hd : 1 ≤ d) (σ : zS) (l1 : Int32) (l2 : Int32) (l3 : Int32) (l4 : Int32) (l5 : Int32)  : zwp X d MX12_which 43 [.ref 66, .int l1, .int l2, .int l3, .int l4, .int l5] [] (zen σ) Q = (if (gi σ 66 6) ≤ l5 then (if ¬ l2 = 0 then Q (some (.int l4)) (zen σ) else Q (some (.int l3)) (zen σ)) else zwp X (d - 1) MX12_isAlone 0 [.ref 66, .int l5, .int l1] [] (zen σ) (fun v h' => zwp X d MX12_which 59 [.ref 66, .int l1, .int l2, .int l3, .int l4, .int l5] (zpsh v []) h' Q)) :=
  Eq.trans (q_iload (pc := 43) dX12_which_43 rfl) (Eq.trans (q_aload_n (pc := 45) dX12_which_45 rfl rfl) (Eq.trans (q_getf (pc := 46) dX12_which_46 zF_12_132 (z_rfiE (x := (gi σ 66 6)) zl_66 zh_66 (by decide) rfl rfl)) (Eq.trans (q_icmp_ge (tgt := 82) (pc := 49) dX12_which_49 rfl) (zite (fun hz1 => Eq.trans (q_iload_n (pc := 82) dX12_which_82 rfl rfl) (Eq.trans (q_if_ne (tgt := 90) (pc := 83) dX12_which_83 rfl) (zite (fun hz2 => Eq.trans (q_iload (pc := 90) dX12_which_90 rfl) (q_iret (pc := 92) dX12_which_92 rfl rfl)) (fun hz2 => Eq.trans (q_iload_n (pc := 86) dX12_which_86 rfl rfl) (Eq.trans (q_goto (tgt := 92) (pc := 87) dX12_which_87 rfl) (q_iret (pc := 92) dX12_which_92 rfl rfl)))))) (fun hz1 => Eq.trans (q_aload_n (pc := 52) dX12_which_52 rfl rfl) (Eq.trans (q_iload (pc := 53) dX12_which_53 rfl) (Eq.trans (q_iload_n (pc := 55) dX12_which_55 rfl rfl) (zdpos (q_callV (as := [.int l5, .int l1]) (rest := []) (l0 := [.ref 66, .int l5, .int l1]) (pc := 56) dX12_which_56 zC_12_354 rfl (z_recv zl_66 zh_66) rfl rfl) (by omega)))))))))
theorem b_X12_which_59 {X : zX} {d : Nat} {Q : Option Value → zH → Prop} (σ : zS) (l1 : Int32) (l2 : Int32) (l3 : Int32) (l4 : Int32) (l5 : Int32) (t0 : Int32)  : zwp X d MX12_which 59 [.ref 66, .int l1, .int l2, .int l3, .int l4, .int l5] [.int t0] (zen σ) Q = (if ¬ t0 = 0 then (if ¬ l3 = 0 then zwp X d MX12_which 43 [.ref 66, .int l1, .int l2, .int (l3 + 1), .int l4, .int (l5 + 1)] [] (zen σ) Q else zwp X d MX12_which 43 [.ref 66, .int l1, .int l2, .int (l3 + 1), .int l5, .int (l5 + 1)] [] (zen σ) Q) else zwp X d MX12_which 43 [.ref 66, .int l1, .int l2, .int l3, .int l4, .int (l5 + 1)] [] (zen σ) Q) :=
  Eq.trans (q_if_ne (tgt := 65) (pc := 59) dX12_which_59 rfl) (zite (fun hz1 => Eq.trans (q_iload_n (pc := 65) dX12_which_65 rfl rfl) (Eq.trans (q_if_ne (tgt := 73) (pc := 66) dX12_which_66 rfl) (zite (fun hz2 => Eq.trans (q_iinc (c := 1) (ls' := [.ref 66, .int l1, .int l2, .int (l3 + 1), .int l4, .int l5]) (pc := 73) dX12_which_73 rfl rfl rfl) (Eq.trans (q_iinc (c := 1) (ls' := [.ref 66, .int l1, .int l2, .int (l3 + 1), .int l4, .int (l5 + 1)]) (pc := 76) dX12_which_76 rfl rfl rfl) (Eq.trans (q_goto (tgt := 43) (pc := 79) dX12_which_79 rfl) (rfl)))) (fun hz2 => Eq.trans (q_iload (pc := 69) dX12_which_69 rfl) (Eq.trans (q_istore (ls' := [.ref 66, .int l1, .int l2, .int l3, .int l5, .int l5]) (pc := 71) dX12_which_71 (Nat.le_of_ble_eq_true rfl) rfl) (Eq.trans (q_iinc (c := 1) (ls' := [.ref 66, .int l1, .int l2, .int (l3 + 1), .int l5, .int l5]) (pc := 73) dX12_which_73 rfl rfl rfl) (Eq.trans (q_iinc (c := 1) (ls' := [.ref 66, .int l1, .int l2, .int (l3 + 1), .int l5, .int (l5 + 1)]) (pc := 76) dX12_which_76 rfl rfl rfl) (Eq.trans (q_goto (tgt := 43) (pc := 79) dX12_which_79 rfl) (rfl))))))))) (fun hz1 => Eq.trans (q_goto (tgt := 76) (pc := 62) dX12_which_62 rfl) (Eq.trans (q_iinc (c := 1) (ls' := [.ref 66, .int l1, .int l2, .int l3, .int l4, .int (l5 + 1)]) (pc := 76) dX12_which_76 rfl rfl rfl) (Eq.trans (q_goto (tgt := 43) (pc := 79) dX12_which_79 rfl) (rfl)))))
theorem b_X12_good_0 {X : zX} {d : Nat} {Q : Option Value → zH → Prop} (hd : 2 ≤ d) (σ : zS) (a2 : Int32) (a3 : Int32) (a4 : Int32)  : zwp X d MX12_good 0 [.ref 66, .int a2, .int a3, .int a4, .null, .null, .null, .null] [] (zen σ) Q = (if (f_X12_isShelf σ a2) = 0 then Q (some (.int (-1))) (zen σ) else (if (f_X12_isTurn σ a3) = 0 then Q (some (.int (-1))) (zen σ) else (if ¬ (f_X12_in σ a4 0 1) = 0 then (p_X12_rowFault σ a2 1 ∧ (if 0 ≤ (f_X12_rowFault σ a2 1) then (zin a3 8 = true ∧ zwp X d MX12_good 60 [.ref 66, .int a2, .int a3, .int a4, .int (gi σ 71 (ix a3)), .int 0, .int (-2), .int 0] [] (zen σ) Q) else (p_X12_rowFault σ a2 1 ∧ Q (some (.int (f_X12_rowFault σ a2 1))) (zen σ)))) else Q (some (.int (-1))) (zen σ)))) :=
  Eq.trans (q_iload_n (pc := 0) dX12_good_0 rfl rfl) (Eq.trans (q_sumI (q_callS (as := [.int a2]) (rest := []) (l0 := [.int a2]) (pc := 1) dX12_good_1 zSN_12_139 zC_12_139 rfl rfl rfl) (by omega) (s_X12_isShelf (hd := by omega) σ a2)) (Eq.trans (q_if_eq (tgt := 24) (pc := 4) dX12_good_4 rfl) (zite (fun hz1 => Eq.trans (q_iconst (v := (-1)) (pc := 24) dX12_good_24 rfl) (q_iret (pc := 25) dX12_good_25 rfl rfl)) (fun hz1 => Eq.trans (q_aload_n (pc := 7) dX12_good_7 rfl rfl) (Eq.trans (q_iload_n (pc := 8) dX12_good_8 rfl rfl) (Eq.trans (q_sumI (q_callV (as := [.int a3]) (rest := []) (l0 := [.ref 66, .int a3]) (pc := 9) dX12_good_9 zC_12_165 rfl (z_recv zl_66 zh_66) rfl rfl) (by omega) (s_X12_isTurn (hd := by omega) σ a3)) (Eq.trans (q_if_eq (tgt := 24) (pc := 12) dX12_good_12 rfl) (zite (fun hz2 => Eq.trans (q_iconst (v := (-1)) (pc := 24) dX12_good_24 rfl) (q_iret (pc := 25) dX12_good_25 rfl rfl)) (fun hz2 => Eq.trans (q_iload_n (pc := 15) dX12_good_15 rfl rfl) (Eq.trans (q_iconst (v := 0) (pc := 16) dX12_good_16 rfl) (Eq.trans (q_iconst (v := 1) (pc := 17) dX12_good_17 rfl) (Eq.trans (q_sumI (q_callS (as := [.int a4, .int 0, .int 1]) (rest := []) (l0 := [.int a4, .int 0, .int 1]) (pc := 18) dX12_good_18 zSN_12_128 zC_12_128 rfl rfl rfl) (by omega) (s_X12_in σ a4 0 1)) (Eq.trans (q_if_ne (tgt := 26) (pc := 21) dX12_good_21 rfl) (zite (fun hz3 => Eq.trans (q_aload_n (pc := 26) dX12_good_26 rfl rfl) (Eq.trans (q_iload_n (pc := 27) dX12_good_27 rfl rfl) (Eq.trans (q_iconst (v := 1) (pc := 28) dX12_good_28 rfl) (Eq.trans (q_sumIP (q_callV (as := [.int a2, .int 1]) (rest := []) (l0 := [.ref 66, .int a2, .int 1]) (pc := 29) dX12_good_29 zC_12_294 rfl (z_recv zl_66 zh_66) rfl rfl) (by omega) (s_X12_rowFault σ a2 1)) (zand fun hz4 => Eq.trans (q_if_ge (tgt := 42) (pc := 32) dX12_good_32 rfl) (zite (fun hz5 => Eq.trans (q_aload_n (pc := 42) dX12_good_42 rfl rfl) (Eq.trans (q_getf (pc := 43) dX12_good_43 zF_12_22 (z_rfr zl_66 zh_66 (by decide) rfl)) (Eq.trans (q_iload_n (pc := 46) dX12_good_46 rfl rfl) (Eq.trans (qe_iaload (x := (gi σ 71 (ix a3))) (pc := 47) dX12_good_47 (z_ia zl_71 zh_71 (by decide)) rfl) (zand fun hz6 => Eq.trans (q_istore (ls' := [.ref 66, .int a2, .int a3, .int a4, .int (gi σ 71 (ix a3)), .null, .null, .null]) (pc := 48) dX12_good_48 (Nat.le_of_ble_eq_true rfl) rfl) (Eq.trans (q_iconst (v := 0) (pc := 50) dX12_good_50 rfl) (Eq.trans (q_istore (ls' := [.ref 66, .int a2, .int a3, .int a4, .int (gi σ 71 (ix a3)), .int 0, .null, .null]) (pc := 51) dX12_good_51 (Nat.le_of_ble_eq_true rfl) rfl) (Eq.trans (q_bipush (v := (-2)) (pc := 53) dX12_good_53 rfl) (Eq.trans (q_istore (ls' := [.ref 66, .int a2, .int a3, .int a4, .int (gi σ 71 (ix a3)), .int 0, .int (-2), .null]) (pc := 55) dX12_good_55 (Nat.le_of_ble_eq_true rfl) rfl) (Eq.trans (q_iconst (v := 0) (pc := 57) dX12_good_57 rfl) (Eq.trans (q_istore (ls' := [.ref 66, .int a2, .int a3, .int a4, .int (gi σ 71 (ix a3)), .int 0, .int (-2), .int 0]) (pc := 58) dX12_good_58 (Nat.le_of_ble_eq_true rfl) rfl) (rfl)))))))))))) (fun hz5 => Eq.trans (q_aload_n (pc := 35) dX12_good_35 rfl rfl) (Eq.trans (q_iload_n (pc := 36) dX12_good_36 rfl rfl) (Eq.trans (q_iconst (v := 1) (pc := 37) dX12_good_37 rfl) (Eq.trans (q_sumIP (q_callV (as := [.int a2, .int 1]) (rest := []) (l0 := [.ref 66, .int a2, .int 1]) (pc := 38) dX12_good_38 zC_12_294 rfl (z_recv zl_66 zh_66) rfl rfl) (by omega) (s_X12_rowFault σ a2 1)) (zand fun hz7 => q_iret (pc := 41) dX12_good_41 rfl rfl))))))))))) (fun hz3 => Eq.trans (q_iconst (v := (-1)) (pc := 24) dX12_good_24 rfl) (q_iret (pc := 25) dX12_good_25 rfl rfl))))))))))))))))
theorem b_X12_good_60 {X : zX} {d : Nat} {Q : Option Value → zH → Prop} (hd : 1 ≤ d) (σ : zS) (l1 : Int32) (l2 : Int32) (l3 : Int32) (l4 : Int32) (l5 : Int32) (l6 : Int32) (l7 : Int32)  : zwp X d MX12_good 60 [.ref 66, .int l1, .int l2, .int l3, .int l4, .int l5, .int l6, .int l7] [] (zen σ) Q = (if 9 < l7 then (zin l2 8 = true ∧ (if ¬ l3 = 0 then Q (some (.int l6)) (zen (si σ 71 (ix l2) l4)) else Q (some (.int l5)) (zen (si σ 71 (ix l2) l4)))) else (zin l2 8 = true ∧ zwp X (d - 1) MX12_isAlone 0 [.ref 66, .int l2, .int l1] [] (zen (si σ 71 (ix l2) l7)) (fun v h' => zwp X d MX12_good 81 [.ref 66, .int l1, .int l2, .int l3, .int l4, .int l5, .int l6, .int l7] (zpsh v []) h' Q))) :=
  Eq.trans (q_iload (pc := 60) dX12_good_60 rfl) (Eq.trans (q_bipush (v := 9) (pc := 62) dX12_good_62 rfl) (Eq.trans (q_icmp_gt (tgt := 105) (pc := 64) dX12_good_64 rfl) (zite (fun hz1 => Eq.trans (q_aload_n (pc := 105) dX12_good_105 rfl rfl) (Eq.trans (q_getf (pc := 106) dX12_good_106 zF_12_22 (z_rfr zl_66 zh_66 (by decide) rfl)) (Eq.trans (q_iload_n (pc := 109) dX12_good_109 rfl rfl) (Eq.trans (q_iload (pc := 110) dX12_good_110 rfl) (Eq.trans (q_iastore (pc := 112) dX12_good_112 (zN_lt zl_71) (z_ia zl_71 zh_71 (by decide)) (z_pi zl_71 zh_71 (by decide))) (zand fun hz2 => Eq.trans (q_iload_n (pc := 113) dX12_good_113 rfl rfl) (Eq.trans (q_if_ne (tgt := 122) (pc := 114) dX12_good_114 rfl) (zite (fun hz3 => Eq.trans (q_iload (pc := 122) dX12_good_122 rfl) (q_iret (pc := 124) dX12_good_124 rfl rfl)) (fun hz3 => Eq.trans (q_iload (pc := 117) dX12_good_117 rfl) (Eq.trans (q_goto (tgt := 124) (pc := 119) dX12_good_119 rfl) (q_iret (pc := 124) dX12_good_124 rfl rfl))))))))))) (fun hz1 => Eq.trans (q_aload_n (pc := 67) dX12_good_67 rfl rfl) (Eq.trans (q_getf (pc := 68) dX12_good_68 zF_12_22 (z_rfr zl_66 zh_66 (by decide) rfl)) (Eq.trans (q_iload_n (pc := 71) dX12_good_71 rfl rfl) (Eq.trans (q_iload (pc := 72) dX12_good_72 rfl) (Eq.trans (q_iastore (pc := 74) dX12_good_74 (zN_lt zl_71) (z_ia zl_71 zh_71 (by decide)) (z_pi zl_71 zh_71 (by decide))) (zand fun hz4 => Eq.trans (q_aload_n (pc := 75) dX12_good_75 rfl rfl) (Eq.trans (q_iload_n (pc := 76) dX12_good_76 rfl rfl) (Eq.trans (q_iload_n (pc := 77) dX12_good_77 rfl rfl) (zdpos (q_callV (as := [.int l2, .int l1]) (rest := []) (l0 := [.ref 66, .int l2, .int l1]) (pc := 78) dX12_good_78 zC_12_354 rfl (z_recv zl_66 zh_66) rfl rfl) (by omega)))))))))))))
theorem b_X12_good_81 {X : zX} {d : Nat} {Q : Option Value → zH → Prop} (σ : zS) (l1 : Int32) (l2 : Int32) (l3 : Int32) (l4 : Int32) (l5 : Int32) (l6 : Int32) (l7 : Int32) (t0 : Int32)  : zwp X d MX12_good 81 [.ref 66, .int l1, .int l2, .int l3, .int l4, .int l5, .int l6, .int l7] [.int t0] (zen σ) Q = (if ¬ t0 = 0 then (if ¬ l5 = 0 then zwp X d MX12_good 60 [.ref 66, .int l1, .int l2, .int l3, .int l4, .int (l5 + 1), .int l6, .int (l7 + 1)] [] (zen σ) Q else zwp X d MX12_good 60 [.ref 66, .int l1, .int l2, .int l3, .int l4, .int (l5 + 1), .int l7, .int (l7 + 1)] [] (zen σ) Q) else zwp X d MX12_good 60 [.ref 66, .int l1, .int l2, .int l3, .int l4, .int l5, .int l6, .int (l7 + 1)] [] (zen σ) Q) :=
  Eq.trans (q_if_ne (tgt := 87) (pc := 81) dX12_good_81 rfl) (zite (fun hz1 => Eq.trans (q_iload (pc := 87) dX12_good_87 rfl) (Eq.trans (q_if_ne (tgt := 96) (pc := 89) dX12_good_89 rfl) (zite (fun hz2 => Eq.trans (q_iinc (c := 1) (ls' := [.ref 66, .int l1, .int l2, .int l3, .int l4, .int (l5 + 1), .int l6, .int l7]) (pc := 96) dX12_good_96 rfl rfl rfl) (Eq.trans (q_iinc (c := 1) (ls' := [.ref 66, .int l1, .int l2, .int l3, .int l4, .int (l5 + 1), .int l6, .int (l7 + 1)]) (pc := 99) dX12_good_99 rfl rfl rfl) (Eq.trans (q_goto (tgt := 60) (pc := 102) dX12_good_102 rfl) (rfl)))) (fun hz2 => Eq.trans (q_iload (pc := 92) dX12_good_92 rfl) (Eq.trans (q_istore (ls' := [.ref 66, .int l1, .int l2, .int l3, .int l4, .int l5, .int l7, .int l7]) (pc := 94) dX12_good_94 (Nat.le_of_ble_eq_true rfl) rfl) (Eq.trans (q_iinc (c := 1) (ls' := [.ref 66, .int l1, .int l2, .int l3, .int l4, .int (l5 + 1), .int l7, .int l7]) (pc := 96) dX12_good_96 rfl rfl rfl) (Eq.trans (q_iinc (c := 1) (ls' := [.ref 66, .int l1, .int l2, .int l3, .int l4, .int (l5 + 1), .int l7, .int (l7 + 1)]) (pc := 99) dX12_good_99 rfl rfl rfl) (Eq.trans (q_goto (tgt := 60) (pc := 102) dX12_good_102 rfl) (rfl))))))))) (fun hz1 => Eq.trans (q_goto (tgt := 99) (pc := 84) dX12_good_84 rfl) (Eq.trans (q_iinc (c := 1) (ls' := [.ref 66, .int l1, .int l2, .int l3, .int l4, .int l5, .int l6, .int (l7 + 1)]) (pc := 99) dX12_good_99 rfl rfl rfl) (Eq.trans (q_goto (tgt := 60) (pc := 102) dX12_good_102 rfl) (rfl)))))
theorem b_X12_orders_0 {X : zX} {d : Nat} {Q : Option Value → zH → Prop} (hd : 2 ≤ d) (σ : zS) (a2 : Int32) (a3 : Int32)  : zwp X d MX12_orders 0 [.ref 66, .int a2, .int a3] [] (zen σ) Q = (if (f_X12_isShelf σ a2) = 0 then Q (some (.int (-1))) (zen σ) else (if ¬ (f_X12_in σ a3 0 1) = 0 then (p_X12_rowFault σ a2 1 ∧ (if 0 ≤ (f_X12_rowFault σ a2 1) then (if (gi σ 66 6) ≤ 6 then zwp X (d - 1) MX12_findOrders 0 [.ref 66, .int a2] [] (zen σ) (fun v h' => zwp X d MX12_orders 51 [.ref 66, .int a2, .int a3] (zpsh v []) h' Q) else Q (some (.int (-5))) (zen σ)) else (p_X12_rowFault σ a2 1 ∧ Q (some (.int (f_X12_rowFault σ a2 1))) (zen σ)))) else Q (some (.int (-1))) (zen σ))) :=
  Eq.trans (q_iload_n (pc := 0) dX12_orders_0 rfl rfl) (Eq.trans (q_sumI (q_callS (as := [.int a2]) (rest := []) (l0 := [.int a2]) (pc := 1) dX12_orders_1 zSN_12_139 zC_12_139 rfl rfl rfl) (by omega) (s_X12_isShelf (hd := by omega) σ a2)) (Eq.trans (q_if_eq (tgt := 16) (pc := 4) dX12_orders_4 rfl) (zite (fun hz1 => Eq.trans (q_iconst (v := (-1)) (pc := 16) dX12_orders_16 rfl) (q_iret (pc := 17) dX12_orders_17 rfl rfl)) (fun hz1 => Eq.trans (q_iload_n (pc := 7) dX12_orders_7 rfl rfl) (Eq.trans (q_iconst (v := 0) (pc := 8) dX12_orders_8 rfl) (Eq.trans (q_iconst (v := 1) (pc := 9) dX12_orders_9 rfl) (Eq.trans (q_sumI (q_callS (as := [.int a3, .int 0, .int 1]) (rest := []) (l0 := [.int a3, .int 0, .int 1]) (pc := 10) dX12_orders_10 zSN_12_128 zC_12_128 rfl rfl rfl) (by omega) (s_X12_in σ a3 0 1)) (Eq.trans (q_if_ne (tgt := 18) (pc := 13) dX12_orders_13 rfl) (zite (fun hz2 => Eq.trans (q_aload_n (pc := 18) dX12_orders_18 rfl rfl) (Eq.trans (q_iload_n (pc := 19) dX12_orders_19 rfl rfl) (Eq.trans (q_iconst (v := 1) (pc := 20) dX12_orders_20 rfl) (Eq.trans (q_sumIP (q_callV (as := [.int a2, .int 1]) (rest := []) (l0 := [.ref 66, .int a2, .int 1]) (pc := 21) dX12_orders_21 zC_12_294 rfl (z_recv zl_66 zh_66) rfl rfl) (by omega) (s_X12_rowFault σ a2 1)) (zand fun hz3 => Eq.trans (q_if_ge (tgt := 34) (pc := 24) dX12_orders_24 rfl) (zite (fun hz4 => Eq.trans (q_aload_n (pc := 34) dX12_orders_34 rfl rfl) (Eq.trans (q_getf (pc := 35) dX12_orders_35 zF_12_132 (z_rfiE (x := (gi σ 66 6)) zl_66 zh_66 (by decide) rfl rfl)) (Eq.trans (q_bipush (v := 6) (pc := 38) dX12_orders_38 rfl) (Eq.trans (q_icmp_le (tgt := 46) (pc := 40) dX12_orders_40 rfl) (zite (fun hz5 => Eq.trans (q_aload_n (pc := 46) dX12_orders_46 rfl rfl) (Eq.trans (q_iload_n (pc := 47) dX12_orders_47 rfl rfl) (zdpos (q_callV (as := [.int a2]) (rest := []) (l0 := [.ref 66, .int a2]) (pc := 48) dX12_orders_48 zC_12_342 rfl (z_recv zl_66 zh_66) rfl rfl) (by omega)))) (fun hz5 => Eq.trans (q_bipush (v := (-5)) (pc := 43) dX12_orders_43 rfl) (q_iret (pc := 45) dX12_orders_45 rfl rfl))))))) (fun hz4 => Eq.trans (q_aload_n (pc := 27) dX12_orders_27 rfl rfl) (Eq.trans (q_iload_n (pc := 28) dX12_orders_28 rfl rfl) (Eq.trans (q_iconst (v := 1) (pc := 29) dX12_orders_29 rfl) (Eq.trans (q_sumIP (q_callV (as := [.int a2, .int 1]) (rest := []) (l0 := [.ref 66, .int a2, .int 1]) (pc := 30) dX12_orders_30 zC_12_294 rfl (z_recv zl_66 zh_66) rfl rfl) (by omega) (s_X12_rowFault σ a2 1)) (zand fun hz6 => q_iret (pc := 33) dX12_orders_33 rfl rfl))))))))))) (fun hz2 => Eq.trans (q_iconst (v := (-1)) (pc := 16) dX12_orders_16 rfl) (q_iret (pc := 17) dX12_orders_17 rfl rfl)))))))))))
theorem b_X12_orders_51 {X : zX} {d : Nat} {Q : Option Value → zH → Prop} (σ : zS) (l1 : Int32) (l2 : Int32)  : zwp X d MX12_orders 51 [.ref 66, .int l1, .int l2] [] (zen σ) Q = (if ¬ l2 = 0 then Q (some (.int (gi σ 66 44))) (zen σ) else Q (some (.int (gi σ 66 43))) (zen σ)) :=
  Eq.trans (q_iload_n (pc := 51) dX12_orders_51 rfl rfl) (Eq.trans (q_if_ne (tgt := 62) (pc := 52) dX12_orders_52 rfl) (zite (fun hz1 => Eq.trans (q_aload_n (pc := 62) dX12_orders_62 rfl rfl) (Eq.trans (q_getf (pc := 63) dX12_orders_63 zF_12_333 (z_rfiE (x := (gi σ 66 44)) zl_66 zh_66 (by decide) rfl rfl)) (q_iret (pc := 66) dX12_orders_66 rfl rfl))) (fun hz1 => Eq.trans (q_aload_n (pc := 55) dX12_orders_55 rfl rfl) (Eq.trans (q_getf (pc := 56) dX12_orders_56 zF_12_330 (z_rfiE (x := (gi σ 66 43)) zl_66 zh_66 (by decide) rfl rfl)) (Eq.trans (q_goto (tgt := 66) (pc := 59) dX12_orders_59 rfl) (q_iret (pc := 66) dX12_orders_66 rfl rfl))))))
theorem b_X12_warm_0 {X : zX} {d : Nat} {Q : Option Value → zH → Prop} (hd : 3 ≤ d) (σ : zS) (a2 : Int32)  : zwp X d MX12_warm 0 [.ref 66, .int a2, .null, .null, .null, .null] [] (zen σ) Q = (if ¬ (f_X12_areShelves σ a2) = 0 then zwp X (d - 1) MX12_layBoth 0 [.ref 66, .int a2] [] (zen σ) (fun v h' => zwp X d MX12_warm 14 [.ref 66, .int a2, .null, .null, .null, .null] (zpsh v []) h' Q) else Q (some (.int (-1))) (zen σ)) :=
  Eq.trans (q_iload_n (pc := 0) dX12_warm_0 rfl rfl) (Eq.trans (q_sumI (q_callS (as := [.int a2]) (rest := []) (l0 := [.int a2]) (pc := 1) dX12_warm_1 zSN_12_348 zC_12_348 rfl rfl rfl) (by omega) (s_X12_areShelves (hd := by omega) σ a2)) (Eq.trans (q_if_ne (tgt := 9) (pc := 4) dX12_warm_4 rfl) (zite (fun hz1 => Eq.trans (q_aload_n (pc := 9) dX12_warm_9 rfl rfl) (Eq.trans (q_iload_n (pc := 10) dX12_warm_10 rfl rfl) (zdpos (q_callV (as := [.int a2]) (rest := []) (l0 := [.ref 66, .int a2]) (pc := 11) dX12_warm_11 zC_12_351 rfl (z_recv zl_66 zh_66) rfl rfl) (by omega)))) (fun hz1 => Eq.trans (q_iconst (v := (-1)) (pc := 7) dX12_warm_7 rfl) (q_iret (pc := 8) dX12_warm_8 rfl rfl)))))
theorem b_X12_warm_33 {X : zX} {d : Nat} {Q : Option Value → zH → Prop} (hd : 1 ≤ d) (σ : zS) (l1 : Int32) (l2 : Int32) (l3 : Int32) (l4 : Int32) (l5 : Int32)  : zwp X d MX12_warm 33 [.ref 66, .int l1, .int l2, .int l3, .int l4, .int l5] [] (zen σ) Q = (if 9 < l5 then Q (some (.int l4)) (zen (si σ 66 10 l3)) else (if 0 ≤ l4 then Q (some (.int l4)) (zen (si σ 66 10 l3)) else zwp X (d - 1) MX12_goAll 0 [.ref 66] [] (zen (si σ 66 10 l5)) (fun v h' => zwp X d MX12_warm 55 [.ref 66, .int l1, .int l2, .int l3, .int l4, .int l5] (zpsh v []) h' Q))) :=
  Eq.trans (q_iload (pc := 33) dX12_warm_33 rfl) (Eq.trans (q_bipush (v := 9) (pc := 35) dX12_warm_35 rfl) (Eq.trans (q_icmp_gt (tgt := 76) (pc := 37) dX12_warm_37 rfl) (zite (fun hz1 => Eq.trans (q_aload_n (pc := 76) dX12_warm_76 rfl rfl) (Eq.trans (q_iload_n (pc := 77) dX12_warm_77 rfl rfl) (Eq.trans (q_pf (pc := 78) dX12_warm_78 zF_12_32 zPF_12_10 (z_pf zl_66 zh_66 rfl)) (Eq.trans (q_iload (pc := 81) dX12_warm_81 rfl) (q_iret (pc := 83) dX12_warm_83 rfl rfl))))) (fun hz1 => Eq.trans (q_iload (pc := 40) dX12_warm_40 rfl) (Eq.trans (q_if_ge (tgt := 76) (pc := 42) dX12_warm_42 rfl) (zite (fun hz2 => Eq.trans (q_aload_n (pc := 76) dX12_warm_76 rfl rfl) (Eq.trans (q_iload_n (pc := 77) dX12_warm_77 rfl rfl) (Eq.trans (q_pf (pc := 78) dX12_warm_78 zF_12_32 zPF_12_10 (z_pf zl_66 zh_66 rfl)) (Eq.trans (q_iload (pc := 81) dX12_warm_81 rfl) (q_iret (pc := 83) dX12_warm_83 rfl rfl))))) (fun hz2 => Eq.trans (q_aload_n (pc := 45) dX12_warm_45 rfl rfl) (Eq.trans (q_iload (pc := 46) dX12_warm_46 rfl) (Eq.trans (q_pf (pc := 48) dX12_warm_48 zF_12_32 zPF_12_10 (z_pf zl_66 zh_66 rfl)) (Eq.trans (q_aload_n (pc := 51) dX12_warm_51 rfl rfl) (zdpos (q_callV (as := []) (rest := []) (l0 := [.ref 66]) (pc := 52) dX12_warm_52 zC_12_303 rfl (z_recv zl_66 zh_66) rfl rfl) (by omega))))))))))))
theorem b_X12_warm_14 {X : zX} {d : Nat} {Q : Option Value → zH → Prop} (σ : zS) (l1 : Int32) (t0 : Int32)  : zwp X d MX12_warm 14 [.ref 66, .int l1, .null, .null, .null, .null] [.int t0] (zen σ) Q = (if 0 ≤ t0 then zwp X d MX12_warm 33 [.ref 66, .int l1, .int t0, .int (gi σ 66 10), .int (-2), .int 0] [] (zen σ) Q else Q (some (.int t0)) (zen σ)) :=
  Eq.trans (q_istore_n (ls' := [.ref 66, .int l1, .int t0, .null, .null, .null]) (pc := 14) dX12_warm_14 rfl (Nat.le_of_ble_eq_true rfl) rfl) (Eq.trans (q_iload_n (pc := 15) dX12_warm_15 rfl rfl) (Eq.trans (q_if_ge (tgt := 21) (pc := 16) dX12_warm_16 rfl) (zite (fun hz1 => Eq.trans (q_aload_n (pc := 21) dX12_warm_21 rfl rfl) (Eq.trans (q_getf (pc := 22) dX12_warm_22 zF_12_32 (z_rfiE (x := (gi σ 66 10)) zl_66 zh_66 (by decide) rfl rfl)) (Eq.trans (q_istore_n (ls' := [.ref 66, .int l1, .int t0, .int (gi σ 66 10), .null, .null]) (pc := 25) dX12_warm_25 rfl (Nat.le_of_ble_eq_true rfl) rfl) (Eq.trans (q_bipush (v := (-2)) (pc := 26) dX12_warm_26 rfl) (Eq.trans (q_istore (ls' := [.ref 66, .int l1, .int t0, .int (gi σ 66 10), .int (-2), .null]) (pc := 28) dX12_warm_28 (Nat.le_of_ble_eq_true rfl) rfl) (Eq.trans (q_iconst (v := 0) (pc := 30) dX12_warm_30 rfl) (Eq.trans (q_istore (ls' := [.ref 66, .int l1, .int t0, .int (gi σ 66 10), .int (-2), .int 0]) (pc := 31) dX12_warm_31 (Nat.le_of_ble_eq_true rfl) rfl) (rfl)))))))) (fun hz1 => Eq.trans (q_iload_n (pc := 19) dX12_warm_19 rfl rfl) (q_iret (pc := 20) dX12_warm_20 rfl rfl)))))
theorem b_X12_warm_55 {X : zX} {d : Nat} {Q : Option Value → zH → Prop} (hd : 1 ≤ d) (σ : zS) (l1 : Int32) (l2 : Int32) (l3 : Int32) (l4 : Int32) (l5 : Int32)  : zwp X d MX12_warm 55 [.ref 66, .int l1, .int l2, .int l3, .int l4, .int l5] [] (zen σ) Q = zwp X (d - 1) MX12_wrongSeen 0 [.ref 66, .int (l1 - l1 / 10 * 10), .null] [] (zen σ) (fun v h' => zwp X d MX12_warm 63 [.ref 66, .int l1, .int l2, .int l3, .int l4, .int l5] (zpsh v []) h' Q) :=
  Eq.trans (q_aload_n (pc := 55) dX12_warm_55 rfl rfl) (Eq.trans (q_iload_n (pc := 56) dX12_warm_56 rfl rfl) (Eq.trans (q_bipush (v := 10) (pc := 57) dX12_warm_57 rfl) (Eq.trans (q_iremK (pc := 59) dX12_warm_59 (by decide)) (zdpos (q_callV (as := [.int (l1 - l1 / 10 * 10)]) (rest := []) (l0 := [.ref 66, .int (l1 - l1 / 10 * 10), .null]) (pc := 60) dX12_warm_60 zC_12_327 rfl (z_recv zl_66 zh_66) rfl rfl) (by omega)))))
theorem b_X12_warm_63 {X : zX} {d : Nat} {Q : Option Value → zH → Prop} (σ : zS) (l1 : Int32) (l2 : Int32) (l3 : Int32) (l4 : Int32) (l5 : Int32) (t0 : Int32)  : zwp X d MX12_warm 63 [.ref 66, .int l1, .int l2, .int l3, .int l4, .int l5] [.int t0] (zen σ) Q = (if 0 ≤ t0 then zwp X d MX12_warm 33 [.ref 66, .int l1, .int l2, .int l3, .int l4, .int (l5 + 1)] [] (zen σ) Q else zwp X d MX12_warm 33 [.ref 66, .int l1, .int l2, .int l3, .int l5, .int (l5 + 1)] [] (zen σ) Q) :=
  Eq.trans (q_if_ge (tgt := 70) (pc := 63) dX12_warm_63 rfl) (zite (fun hz1 => Eq.trans (q_iinc (c := 1) (ls' := [.ref 66, .int l1, .int l2, .int l3, .int l4, .int (l5 + 1)]) (pc := 70) dX12_warm_70 rfl rfl rfl) (Eq.trans (q_goto (tgt := 33) (pc := 73) dX12_warm_73 rfl) (rfl))) (fun hz1 => Eq.trans (q_iload (pc := 66) dX12_warm_66 rfl) (Eq.trans (q_istore (ls' := [.ref 66, .int l1, .int l2, .int l3, .int l5, .int l5]) (pc := 68) dX12_warm_68 (Nat.le_of_ble_eq_true rfl) rfl) (Eq.trans (q_iinc (c := 1) (ls' := [.ref 66, .int l1, .int l2, .int l3, .int l5, .int (l5 + 1)]) (pc := 70) dX12_warm_70 rfl rfl rfl) (Eq.trans (q_goto (tgt := 33) (pc := 73) dX12_warm_73 rfl) (rfl))))))
theorem b_X12_drawn_0 {X : zX} {d : Nat} {Q : Option Value → zH → Prop} (hd : 1 ≤ d) (σ : zS) (a2 : Int32) (a3 : Int32) (a4 : Int32)  : zwp X d MX12_drawn 0 [.ref 66, .int a2, .int a3, .int a4, .null, .null, .null, .null, .null, .null] [] (zen σ) Q = (if a3 < 0 then Q (some (.int (-1))) (zen σ) else (if (f_X12_in σ (a3 / 100) 1 30) = 0 then Q (some (.int (-1))) (zen σ) else (if (f_X12_in σ (a3 - a3 / 100 * 100) 1 20) = 0 then Q (some (.int (-1))) (zen σ) else (if ¬ (f_X12_in σ a4 0 1) = 0 then zwp X d MX12_drawn 53 [.ref 66, .int a2, .int a3, .int a4, .int a2, .int 0, .int 0, .int 0, .null, .null] [] (zen σ) Q else Q (some (.int (-1))) (zen σ))))) :=
  Eq.trans (q_iload_n (pc := 0) dX12_drawn_0 rfl rfl) (Eq.trans (q_if_lt (tgt := 39) (pc := 1) dX12_drawn_1 rfl) (zite (fun hz1 => Eq.trans (q_iconst (v := (-1)) (pc := 39) dX12_drawn_39 rfl) (q_iret (pc := 40) dX12_drawn_40 rfl rfl)) (fun hz1 => Eq.trans (q_iload_n (pc := 4) dX12_drawn_4 rfl rfl) (Eq.trans (q_bipush (v := 100) (pc := 5) dX12_drawn_5 rfl) (Eq.trans (q_idivK (pc := 7) dX12_drawn_7 (by decide)) (Eq.trans (q_iconst (v := 1) (pc := 8) dX12_drawn_8 rfl) (Eq.trans (q_bipush (v := 30) (pc := 9) dX12_drawn_9 rfl) (Eq.trans (q_sumI (q_callS (as := [.int (a3 / 100), .int 1, .int 30]) (rest := []) (l0 := [.int (a3 / 100), .int 1, .int 30]) (pc := 11) dX12_drawn_11 zSN_12_128 zC_12_128 rfl rfl rfl) (by omega) (s_X12_in σ (a3 / 100) 1 30)) (Eq.trans (q_if_eq (tgt := 39) (pc := 14) dX12_drawn_14 rfl) (zite (fun hz2 => Eq.trans (q_iconst (v := (-1)) (pc := 39) dX12_drawn_39 rfl) (q_iret (pc := 40) dX12_drawn_40 rfl rfl)) (fun hz2 => Eq.trans (q_iload_n (pc := 17) dX12_drawn_17 rfl rfl) (Eq.trans (q_bipush (v := 100) (pc := 18) dX12_drawn_18 rfl) (Eq.trans (q_iremK (pc := 20) dX12_drawn_20 (by decide)) (Eq.trans (q_iconst (v := 1) (pc := 21) dX12_drawn_21 rfl) (Eq.trans (q_bipush (v := 20) (pc := 22) dX12_drawn_22 rfl) (Eq.trans (q_sumI (q_callS (as := [.int (a3 - a3 / 100 * 100), .int 1, .int 20]) (rest := []) (l0 := [.int (a3 - a3 / 100 * 100), .int 1, .int 20]) (pc := 24) dX12_drawn_24 zSN_12_128 zC_12_128 rfl rfl rfl) (by omega) (s_X12_in σ (a3 - a3 / 100 * 100) 1 20)) (Eq.trans (q_if_eq (tgt := 39) (pc := 27) dX12_drawn_27 rfl) (zite (fun hz3 => Eq.trans (q_iconst (v := (-1)) (pc := 39) dX12_drawn_39 rfl) (q_iret (pc := 40) dX12_drawn_40 rfl rfl)) (fun hz3 => Eq.trans (q_iload_n (pc := 30) dX12_drawn_30 rfl rfl) (Eq.trans (q_iconst (v := 0) (pc := 31) dX12_drawn_31 rfl) (Eq.trans (q_iconst (v := 1) (pc := 32) dX12_drawn_32 rfl) (Eq.trans (q_sumI (q_callS (as := [.int a4, .int 0, .int 1]) (rest := []) (l0 := [.int a4, .int 0, .int 1]) (pc := 33) dX12_drawn_33 zSN_12_128 zC_12_128 rfl rfl rfl) (by omega) (s_X12_in σ a4 0 1)) (Eq.trans (q_if_ne (tgt := 41) (pc := 36) dX12_drawn_36 rfl) (zite (fun hz4 => Eq.trans (q_iload_n (pc := 41) dX12_drawn_41 rfl rfl) (Eq.trans (q_istore (ls' := [.ref 66, .int a2, .int a3, .int a4, .int a2, .null, .null, .null, .null, .null]) (pc := 42) dX12_drawn_42 (Nat.le_of_ble_eq_true rfl) rfl) (Eq.trans (q_iconst (v := 0) (pc := 44) dX12_drawn_44 rfl) (Eq.trans (q_istore (ls' := [.ref 66, .int a2, .int a3, .int a4, .int a2, .int 0, .null, .null, .null, .null]) (pc := 45) dX12_drawn_45 (Nat.le_of_ble_eq_true rfl) rfl) (Eq.trans (q_iconst (v := 0) (pc := 47) dX12_drawn_47 rfl) (Eq.trans (q_istore (ls' := [.ref 66, .int a2, .int a3, .int a4, .int a2, .int 0, .int 0, .null, .null, .null]) (pc := 48) dX12_drawn_48 (Nat.le_of_ble_eq_true rfl) rfl) (Eq.trans (q_iconst (v := 0) (pc := 50) dX12_drawn_50 rfl) (Eq.trans (q_istore (ls' := [.ref 66, .int a2, .int a3, .int a4, .int a2, .int 0, .int 0, .int 0, .null, .null]) (pc := 51) dX12_drawn_51 (Nat.le_of_ble_eq_true rfl) rfl) (rfl))))))))) (fun hz4 => Eq.trans (q_iconst (v := (-1)) (pc := 39) dX12_drawn_39 rfl) (q_iret (pc := 40) dX12_drawn_40 rfl rfl))))))))))))))))))))))))))
theorem b_X12_drawn_53 {X : zX} {d : Nat} {Q : Option Value → zH → Prop} (hd : 1 ≤ d) (σ : zS) (l1 : Int32) (l2 : Int32) (l3 : Int32) (l4 : Int32) (l5 : Int32) (l6 : Int32) (l7 : Int32) (w8 : Value) (w9 : Value)  : zwp X d MX12_drawn 53 [.ref 66, .int l1, .int l2, .int l3, .int l4, .int l5, .int l6, .int l7, w8, w9] [] (zen σ) Q = (if (l2 / 100) ≤ l7 then (if ¬ l3 = 0 then Q (some (.int l6)) (zen σ) else Q (some (.int l5)) (zen σ)) else zwp X (d - 1) MX12_beginIce 0 [.ref 66, .null] [] (zen σ) (fun v h' => zwp X d MX12_drawn 66 [.ref 66, .int l1, .int l2, .int l3, .int l4, .int l5, .int l6, .int l7, w8, w9] (zpsh v []) h' Q)) :=
  Eq.trans (q_iload (pc := 53) dX12_drawn_53 rfl) (Eq.trans (q_iload_n (pc := 55) dX12_drawn_55 rfl rfl) (Eq.trans (q_bipush (v := 100) (pc := 56) dX12_drawn_56 rfl) (Eq.trans (q_idivK (pc := 58) dX12_drawn_58 (by decide)) (Eq.trans (q_icmp_ge (tgt := 176) (pc := 59) dX12_drawn_59 rfl) (zite (fun hz1 => Eq.trans (q_iload_n (pc := 176) dX12_drawn_176 rfl rfl) (Eq.trans (q_if_ne (tgt := 185) (pc := 177) dX12_drawn_177 rfl) (zite (fun hz2 => Eq.trans (q_iload (pc := 185) dX12_drawn_185 rfl) (q_iret (pc := 187) dX12_drawn_187 rfl rfl)) (fun hz2 => Eq.trans (q_iload (pc := 180) dX12_drawn_180 rfl) (Eq.trans (q_goto (tgt := 187) (pc := 182) dX12_drawn_182 rfl) (q_iret (pc := 187) dX12_drawn_187 rfl rfl)))))) (fun hz1 => Eq.trans (q_aload_n (pc := 62) dX12_drawn_62 rfl rfl) (zdpos (q_callV (as := []) (rest := []) (l0 := [.ref 66, .null]) (pc := 63) dX12_drawn_63 zC_12_285 rfl (z_recv zl_66 zh_66) rfl rfl) (by omega))))))))
theorem b_X12_drawn_69 {X : zX} {d : Nat} {Q : Option Value → zH → Prop} (hd : 1 ≤ d) (σ : zS) (l1 : Int32) (l2 : Int32) (l3 : Int32) (l4 : Int32) (l5 : Int32) (l6 : Int32) (l7 : Int32) (l8 : Int32) (w9 : Value)  : zwp X d MX12_drawn 69 [.ref 66, .int l1, .int l2, .int l3, .int l4, .int l5, .int l6, .int l7, .int l8, w9] [] (zen σ) Q = (if (l2 - l2 / 100 * 100) ≤ l8 then zwp X (d - 1) MX12_heaviestAt 0 [.ref 66, .int 0, .null, .null] [] (zen σ) (fun v h' => zwp X d MX12_drawn 154 [.ref 66, .int l1, .int l2, .int l3, .int l4, .int l5, .int l6, .int l7, .int l8, w9] (zpsh v [.int l5]) h' Q) else (if (gi σ 66 6) ≤ 0 then zwp X (d - 1) MX12_heaviestAt 0 [.ref 66, .int 0, .null, .null] [] (zen σ) (fun v h' => zwp X d MX12_drawn 154 [.ref 66, .int l1, .int l2, .int l3, .int l4, .int l5, .int l6, .int l7, .int l8, w9] (zpsh v [.int l5]) h' Q) else (decide (¬ (gi σ 66 6) = 0) = true ∧ (zin (((Int32.toUInt32 ((l4 * 1103515245) + 12345) >>> (Int32.toUInt32 8 &&& Int32.toUInt32 31)).toInt32) - ((Int32.toUInt32 ((l4 * 1103515245) + 12345) >>> (Int32.toUInt32 8 &&& Int32.toUInt32 31)).toInt32) / (gi σ 66 6) * (gi σ 66 6)) 8 = true ∧ zwp X (d - 1) MX12_thaw 0 [.ref 66, .int (gi σ 72 (ix (((Int32.toUInt32 ((l4 * 1103515245) + 12345) >>> (Int32.toUInt32 8 &&& Int32.toUInt32 31)).toInt32) - ((Int32.toUInt32 ((l4 * 1103515245) + 12345) >>> (Int32.toUInt32 8 &&& Int32.toUInt32 31)).toInt32) / (gi σ 66 6) * (gi σ 66 6)))), .null] [] (zen σ) (fun v h' => zwp X d MX12_drawn 120 [.ref 66, .int l1, .int l2, .int l3, .int ((l4 * 1103515245) + 12345), .int l5, .int l6, .int l7, .int l8, .int (((Int32.toUInt32 ((l4 * 1103515245) + 12345) >>> (Int32.toUInt32 8 &&& Int32.toUInt32 31)).toInt32) - ((Int32.toUInt32 ((l4 * 1103515245) + 12345) >>> (Int32.toUInt32 8 &&& Int32.toUInt32 31)).toInt32) / (gi σ 66 6) * (gi σ 66 6))] (zpsh v []) h' Q))))) :=
  Eq.trans (q_iload (pc := 69) dX12_drawn_69 rfl) (Eq.trans (q_iload_n (pc := 71) dX12_drawn_71 rfl rfl) (Eq.trans (q_bipush (v := 100) (pc := 72) dX12_drawn_72 rfl) (Eq.trans (q_iremK (pc := 74) dX12_drawn_74 (by decide)) (Eq.trans (q_icmp_ge (tgt := 147) (pc := 75) dX12_drawn_75 rfl) (zite (fun hz1 => Eq.trans (q_iload (pc := 147) dX12_drawn_147 rfl) (Eq.trans (q_aload_n (pc := 149) dX12_drawn_149 rfl rfl) (Eq.trans (q_iconst (v := 0) (pc := 150) dX12_drawn_150 rfl) (zdpos (q_callV (as := [.int 0]) (rest := [.int l5]) (l0 := [.ref 66, .int 0, .null, .null]) (pc := 151) dX12_drawn_151 zC_12_315 rfl (z_recv zl_66 zh_66) rfl rfl) (by omega))))) (fun hz1 => Eq.trans (q_aload_n (pc := 78) dX12_drawn_78 rfl rfl) (Eq.trans (q_getf (pc := 79) dX12_drawn_79 zF_12_132 (z_rfiE (x := (gi σ 66 6)) zl_66 zh_66 (by decide) rfl rfl)) (Eq.trans (q_if_le (tgt := 147) (pc := 82) dX12_drawn_82 rfl) (zite (fun hz2 => Eq.trans (q_iload (pc := 147) dX12_drawn_147 rfl) (Eq.trans (q_aload_n (pc := 149) dX12_drawn_149 rfl rfl) (Eq.trans (q_iconst (v := 0) (pc := 150) dX12_drawn_150 rfl) (zdpos (q_callV (as := [.int 0]) (rest := [.int l5]) (l0 := [.ref 66, .int 0, .null, .null]) (pc := 151) dX12_drawn_151 zC_12_315 rfl (z_recv zl_66 zh_66) rfl rfl) (by omega))))) (fun hz2 => Eq.trans (q_iload (pc := 85) dX12_drawn_85 rfl) (Eq.trans (q_ldcw (v := 1103515245) (pc := 87) dX12_drawn_87 zK_12_357) (Eq.trans (q_imul (pc := 90) dX12_drawn_90) (Eq.trans (q_sipush (v := 12345) (pc := 91) dX12_drawn_91 rfl) (Eq.trans (q_iadd (pc := 94) dX12_drawn_94) (Eq.trans (q_istore (ls' := [.ref 66, .int l1, .int l2, .int l3, .int ((l4 * 1103515245) + 12345), .int l5, .int l6, .int l7, .int l8, w9]) (pc := 95) dX12_drawn_95 (Nat.le_of_ble_eq_true rfl) rfl) (Eq.trans (q_iload (pc := 97) dX12_drawn_97 rfl) (Eq.trans (q_bipush (v := 8) (pc := 99) dX12_drawn_99 rfl) (Eq.trans (q_iushr (pc := 101) dX12_drawn_101) (Eq.trans (q_aload_n (pc := 102) dX12_drawn_102 rfl rfl) (Eq.trans (q_getf (pc := 103) dX12_drawn_103 zF_12_132 (z_rfiE (x := (gi σ 66 6)) zl_66 zh_66 (by decide) rfl rfl)) (Eq.trans (q_irem (pc := 106) dX12_drawn_106) (zand fun hz3 => Eq.trans (q_istore (ls' := [.ref 66, .int l1, .int l2, .int l3, .int ((l4 * 1103515245) + 12345), .int l5, .int l6, .int l7, .int l8, .int (((Int32.toUInt32 ((l4 * 1103515245) + 12345) >>> (Int32.toUInt32 8 &&& Int32.toUInt32 31)).toInt32) - ((Int32.toUInt32 ((l4 * 1103515245) + 12345) >>> (Int32.toUInt32 8 &&& Int32.toUInt32 31)).toInt32) / (gi σ 66 6) * (gi σ 66 6))]) (pc := 107) dX12_drawn_107 (Nat.le_of_ble_eq_true rfl) rfl) (Eq.trans (q_aload_n (pc := 109) dX12_drawn_109 rfl rfl) (Eq.trans (q_aload_n (pc := 110) dX12_drawn_110 rfl rfl) (Eq.trans (q_getf (pc := 111) dX12_drawn_111 zF_12_25 (z_rfr zl_66 zh_66 (by decide) rfl)) (Eq.trans (q_iload (pc := 114) dX12_drawn_114 rfl) (Eq.trans (qe_iaload (x := (gi σ 72 (ix (((Int32.toUInt32 ((l4 * 1103515245) + 12345) >>> (Int32.toUInt32 8 &&& Int32.toUInt32 31)).toInt32) - ((Int32.toUInt32 ((l4 * 1103515245) + 12345) >>> (Int32.toUInt32 8 &&& Int32.toUInt32 31)).toInt32) / (gi σ 66 6) * (gi σ 66 6))))) (pc := 116) dX12_drawn_116 (z_ia zl_72 zh_72 (by decide)) rfl) (zand fun hz4 => zdpos (q_callV (as := [.int (gi σ 72 (ix (((Int32.toUInt32 ((l4 * 1103515245) + 12345) >>> (Int32.toUInt32 8 &&& Int32.toUInt32 31)).toInt32) - ((Int32.toUInt32 ((l4 * 1103515245) + 12345) >>> (Int32.toUInt32 8 &&& Int32.toUInt32 31)).toInt32) / (gi σ 66 6) * (gi σ 66 6))))]) (rest := []) (l0 := [.ref 66, .int (gi σ 72 (ix (((Int32.toUInt32 ((l4 * 1103515245) + 12345) >>> (Int32.toUInt32 8 &&& Int32.toUInt32 31)).toInt32) - ((Int32.toUInt32 ((l4 * 1103515245) + 12345) >>> (Int32.toUInt32 8 &&& Int32.toUInt32 31)).toInt32) / (gi σ 66 6) * (gi σ 66 6)))), .null]) (pc := 117) dX12_drawn_117 zC_12_269 rfl (z_recv zl_66 zh_66) rfl rfl) (by omega)))))))))))))))))))))))))))))
theorem b_X12_drawn_66 {X : zX} {d : Nat} {Q : Option Value → zH → Prop} (σ : zS) (l1 : Int32) (l2 : Int32) (l3 : Int32) (l4 : Int32) (l5 : Int32) (l6 : Int32) (l7 : Int32) (w8 : Value) (w9 : Value)  : zwp X d MX12_drawn 66 [.ref 66, .int l1, .int l2, .int l3, .int l4, .int l5, .int l6, .int l7, w8, w9] [] (zen σ) Q = zwp X d MX12_drawn 69 [.ref 66, .int l1, .int l2, .int l3, .int l4, .int l5, .int l6, .int l7, .int 0, w9] [] (zen σ) Q :=
  Eq.trans (q_iconst (v := 0) (pc := 66) dX12_drawn_66 rfl) (Eq.trans (q_istore (ls' := [.ref 66, .int l1, .int l2, .int l3, .int l4, .int l5, .int l6, .int l7, .int 0, w9]) (pc := 67) dX12_drawn_67 (Nat.le_of_ble_eq_true rfl) rfl) (rfl))
theorem b_X12_drawn_154 {X : zX} {d : Nat} {Q : Option Value → zH → Prop} (hd : 1 ≤ d) (σ : zS) (l1 : Int32) (l2 : Int32) (l3 : Int32) (l4 : Int32) (l5 : Int32) (l6 : Int32) (l7 : Int32) (l8 : Int32) (w9 : Value) (t0 : Int32) (t1 : Int32)  : zwp X d MX12_drawn 154 [.ref 66, .int l1, .int l2, .int l3, .int l4, .int l5, .int l6, .int l7, .int l8, w9] [.int t0, .int t1] (zen σ) Q = zwp X (d - 1) MX12_heaviestAt 0 [.ref 66, .int 0, .null, .null] [] (zen σ) (fun v h' => zwp X d MX12_drawn 162 [.ref 66, .int l1, .int l2, .int l3, .int l4, .int (t1 + t0), .int l6, .int l7, .int l8, w9] (zpsh v []) h' Q) :=
  Eq.trans (q_iadd (pc := 154) dX12_drawn_154) (Eq.trans (q_istore (ls' := [.ref 66, .int l1, .int l2, .int l3, .int l4, .int (t1 + t0), .int l6, .int l7, .int l8, w9]) (pc := 155) dX12_drawn_155 (Nat.le_of_ble_eq_true rfl) rfl) (Eq.trans (q_aload_n (pc := 157) dX12_drawn_157 rfl rfl) (Eq.trans (q_iconst (v := 0) (pc := 158) dX12_drawn_158 rfl) (zdpos (q_callV (as := [.int 0]) (rest := []) (l0 := [.ref 66, .int 0, .null, .null]) (pc := 159) dX12_drawn_159 zC_12_315 rfl (z_recv zl_66 zh_66) rfl rfl) (by omega)))))
theorem b_X12_drawn_120 {X : zX} {d : Nat} {Q : Option Value → zH → Prop} (hd : 1 ≤ d) (σ : zS) (l1 : Int32) (l2 : Int32) (l3 : Int32) (l4 : Int32) (l5 : Int32) (l6 : Int32) (l7 : Int32) (l8 : Int32) (l9 : Int32)  : zwp X d MX12_drawn 120 [.ref 66, .int l1, .int l2, .int l3, .int l4, .int l5, .int l6, .int l7, .int l8, .int l9] [] (zen σ) Q = (if (((Int32.toUInt32 l4 >>> (Int32.toUInt32 16 &&& Int32.toUInt32 31)).toInt32) - ((Int32.toUInt32 l4 >>> (Int32.toUInt32 16 &&& Int32.toUInt32 31)).toInt32) / 12 * 12) < (gi σ 66 12) then zwp X d MX12_drawn 69 [.ref 66, .int l1, .int l2, .int l3, .int l4, .int l5, .int l6, .int l7, .int (l8 + 1), .int l9] [] (zen σ) Q else zwp X (d - 1) MX12_clap 0 [.ref 66, .int l9, .null, .null, .null] [] (zen σ) (fun v h' => zwp X d MX12_drawn 141 [.ref 66, .int l1, .int l2, .int l3, .int l4, .int l5, .int l6, .int l7, .int l8, .int l9] (zpsh v []) h' Q)) :=
  Eq.trans (q_iload (pc := 120) dX12_drawn_120 rfl) (Eq.trans (q_bipush (v := 16) (pc := 122) dX12_drawn_122 rfl) (Eq.trans (q_iushr (pc := 124) dX12_drawn_124) (Eq.trans (q_bipush (v := 12) (pc := 125) dX12_drawn_125 rfl) (Eq.trans (q_iremK (pc := 127) dX12_drawn_127 (by decide)) (Eq.trans (q_aload_n (pc := 128) dX12_drawn_128 rfl rfl) (Eq.trans (q_getf (pc := 129) dX12_drawn_129 zF_12_145 (z_rfiE (x := (gi σ 66 12)) zl_66 zh_66 (by decide) rfl rfl)) (Eq.trans (q_icmp_lt (tgt := 141) (pc := 132) dX12_drawn_132 rfl) (zite (fun hz1 => Eq.trans (q_iinc (c := 1) (ls' := [.ref 66, .int l1, .int l2, .int l3, .int l4, .int l5, .int l6, .int l7, .int (l8 + 1), .int l9]) (pc := 141) dX12_drawn_141 rfl rfl rfl) (Eq.trans (q_goto (tgt := 69) (pc := 144) dX12_drawn_144 rfl) (rfl))) (fun hz1 => Eq.trans (q_aload_n (pc := 135) dX12_drawn_135 rfl rfl) (Eq.trans (q_iload (pc := 136) dX12_drawn_136 rfl) (zdpos (q_callV (as := [.int l9]) (rest := []) (l0 := [.ref 66, .int l9, .null, .null, .null]) (pc := 138) dX12_drawn_138 zC_12_273 rfl (z_recv zl_66 zh_66) rfl rfl) (by omega))))))))))))
theorem b_X12_drawn_162 {X : zX} {d : Nat} {Q : Option Value → zH → Prop} (σ : zS) (l1 : Int32) (l2 : Int32) (l3 : Int32) (l4 : Int32) (l5 : Int32) (l6 : Int32) (l7 : Int32) (l8 : Int32) (w9 : Value) (t0 : Int32)  : zwp X d MX12_drawn 162 [.ref 66, .int l1, .int l2, .int l3, .int l4, .int l5, .int l6, .int l7, .int l8, w9] [.int t0] (zen σ) Q = (if t0 < 100 then zwp X d MX12_drawn 53 [.ref 66, .int l1, .int l2, .int l3, .int l4, .int l5, .int l6, .int (l7 + 1), .int l8, w9] [] (zen σ) Q else zwp X d MX12_drawn 53 [.ref 66, .int l1, .int l2, .int l3, .int l4, .int l5, .int (l6 + 1), .int (l7 + 1), .int l8, w9] [] (zen σ) Q) :=
  Eq.trans (q_bipush (v := 100) (pc := 162) dX12_drawn_162 rfl) (Eq.trans (q_icmp_lt (tgt := 170) (pc := 164) dX12_drawn_164 rfl) (zite (fun hz1 => Eq.trans (q_iinc (c := 1) (ls' := [.ref 66, .int l1, .int l2, .int l3, .int l4, .int l5, .int l6, .int (l7 + 1), .int l8, w9]) (pc := 170) dX12_drawn_170 rfl rfl rfl) (Eq.trans (q_goto (tgt := 53) (pc := 173) dX12_drawn_173 rfl) (rfl))) (fun hz1 => Eq.trans (q_iinc (c := 1) (ls' := [.ref 66, .int l1, .int l2, .int l3, .int l4, .int l5, .int (l6 + 1), .int l7, .int l8, w9]) (pc := 167) dX12_drawn_167 rfl rfl rfl) (Eq.trans (q_iinc (c := 1) (ls' := [.ref 66, .int l1, .int l2, .int l3, .int l4, .int l5, .int (l6 + 1), .int (l7 + 1), .int l8, w9]) (pc := 170) dX12_drawn_170 rfl rfl rfl) (Eq.trans (q_goto (tgt := 53) (pc := 173) dX12_drawn_173 rfl) (rfl))))))
theorem b_X12_drawn_141 {X : zX} {d : Nat} {Q : Option Value → zH → Prop} (σ : zS) (l1 : Int32) (l2 : Int32) (l3 : Int32) (l4 : Int32) (l5 : Int32) (l6 : Int32) (l7 : Int32) (l8 : Int32) (l9 : Int32)  : zwp X d MX12_drawn 141 [.ref 66, .int l1, .int l2, .int l3, .int l4, .int l5, .int l6, .int l7, .int l8, .int l9] [] (zen σ) Q = zwp X d MX12_drawn 69 [.ref 66, .int l1, .int l2, .int l3, .int l4, .int l5, .int l6, .int l7, .int (l8 + 1), .int l9] [] (zen σ) Q :=
  Eq.trans (q_iinc (c := 1) (ls' := [.ref 66, .int l1, .int l2, .int l3, .int l4, .int l5, .int l6, .int l7, .int (l8 + 1), .int l9]) (pc := 141) dX12_drawn_141 rfl rfl rfl) (Eq.trans (q_goto (tgt := 69) (pc := 144) dX12_drawn_144 rfl) (rfl))
theorem b_X12_become_0 {X : zX} {d : Nat} {Q : Option Value → zH → Prop} (σ : zS)  : zwp X d MX12_become 0 [.ref 66, .null] [] (zen σ) Q = zwp X d MX12_become 2 [.ref 66, .int 0] [] (zen σ) Q :=
  Eq.trans (q_iconst (v := 0) (pc := 0) dX12_become_0 rfl) (Eq.trans (q_istore_n (ls' := [.ref 66, .int 0]) (pc := 1) dX12_become_1 rfl (Nat.le_of_ble_eq_true rfl) rfl) (rfl))
theorem b_X12_become_2 {X : zX} {d : Nat} {Q : Option Value → zH → Prop} (hd : 1 ≤ d) (σ : zS) (l1 : Int32)  : zwp X d MX12_become 2 [.ref 66, .int l1] [] (zen σ) Q = (if 16 ≤ l1 then zwp X (d - 1) MX12_thinnest 0 [.ref 66, .null, .null] [] (zen (si σ 90 (ix 4) ((gi σ 90 (ix 4)) + (gi σ 66 37)))) (fun v h' => zwp X d MX12_become 47 [.ref 66, .int l1] (zpsh v [.ref 86]) h' Q) else (zin l1 16 = true ∧ (zin l1 16 = true ∧ zwp X d MX12_become 2 [.ref 66, .int (l1 + 1)] [] (zen (si σ 85 (ix l1) (gi σ 86 (ix l1)))) Q))) :=
  Eq.trans (q_iload_n (pc := 2) dX12_become_2 rfl rfl) (Eq.trans (q_bipush (v := 16) (pc := 3) dX12_become_3 rfl) (Eq.trans (q_icmp_ge (tgt := 26) (pc := 5) dX12_become_5 rfl) (zite (fun hz1 => Eq.trans (q_aload_n (pc := 26) dX12_become_26 rfl rfl) (Eq.trans (q_getf (pc := 27) dX12_become_27 zF_12_94 (z_rfr zl_66 zh_66 (by decide) rfl)) (Eq.trans (q_iconst (v := 4) (pc := 30) dX12_become_30 rfl) (Eq.trans (q_dup2_int_ref (pc := 31) dX12_become_31) (Eq.trans (Eq.trans (qe_iaload (x := (gi σ 90 (ix 4))) (pc := 32) dX12_become_32 (z_ia zl_90 zh_90 (by decide)) rfl) (ztrue_and (by decide))) (Eq.trans (q_aload_n (pc := 33) dX12_become_33 rfl rfl) (Eq.trans (q_getf (pc := 34) dX12_become_34 zF_12_263 (z_rfiE (x := (gi σ 66 37)) zl_66 zh_66 (by decide) rfl rfl)) (Eq.trans (q_iadd (pc := 37) dX12_become_37) (Eq.trans (Eq.trans (q_iastore (pc := 38) dX12_become_38 (zN_lt zl_90) (z_ia zl_90 zh_90 (by decide)) (z_pi zl_90 zh_90 (by decide))) (ztrue_and (by decide))) (Eq.trans (q_aload_n (pc := 39) dX12_become_39 rfl rfl) (Eq.trans (q_getf (pc := 40) dX12_become_40 zF_12_79 (z_rfr zl_66 zh_66 (by decide) rfl)) (Eq.trans (q_aload_n (pc := 43) dX12_become_43 rfl rfl) (zdpos (q_callV (as := []) (rest := [.ref 86]) (l0 := [.ref 66, .null, .null]) (pc := 44) dX12_become_44 zC_12_306 rfl (z_recv zl_66 zh_66) rfl rfl) (by omega)))))))))))))) (fun hz1 => Eq.trans (q_aload_n (pc := 8) dX12_become_8 rfl rfl) (Eq.trans (q_getf (pc := 9) dX12_become_9 zF_12_76 (z_rfr zl_66 zh_66 (by decide) rfl)) (Eq.trans (q_iload_n (pc := 12) dX12_become_12 rfl rfl) (Eq.trans (q_aload_n (pc := 13) dX12_become_13 rfl rfl) (Eq.trans (q_getf (pc := 14) dX12_become_14 zF_12_79 (z_rfr zl_66 zh_66 (by decide) rfl)) (Eq.trans (q_iload_n (pc := 17) dX12_become_17 rfl rfl) (Eq.trans (qe_iaload (x := (gi σ 86 (ix l1))) (pc := 18) dX12_become_18 (z_ia zl_86 zh_86 (by decide)) rfl) (zand fun hz2 => Eq.trans (q_iastore (pc := 19) dX12_become_19 (zN_lt zl_85) (z_ia zl_85 zh_85 (by decide)) (z_pi zl_85 zh_85 (by decide))) (zand fun hz3 => Eq.trans (q_iinc (c := 1) (ls' := [.ref 66, .int (l1 + 1)]) (pc := 20) dX12_become_20 rfl rfl rfl) (Eq.trans (q_goto (tgt := 2) (pc := 23) dX12_become_23 rfl) (rfl))))))))))))))
theorem b_X12_become_47 {X : zX} {d : Nat} {Q : Option Value → zH → Prop} (σ : zS) (l1 : Int32) (t0 : Int32)  : zwp X d MX12_become 47 [.ref 66, .int l1] [.int t0, .ref 86] (zen σ) Q = (zin t0 16 = true ∧ Q (some (.int (gi σ 86 (ix t0)))) (zen σ)) :=
  Eq.trans (qe_iaload (x := (gi σ 86 (ix t0))) (pc := 47) dX12_become_47 (z_ia zl_86 zh_86 (by decide)) rfl) (zand fun hz1 => q_iret (pc := 48) dX12_become_48 rfl rfl)
theorem b_X12_play_0 {X : zX} {d : Nat} {Q : Option Value → zH → Prop} (hd : 2 ≤ d) (σ : zS) (a2 : Int32)  : zwp X d MX12_play 0 [.ref 66, .int a2] [] (zen σ) Q = (if ¬ (f_X12_isTurn σ a2) = 0 then zwp X (d - 1) MX12_beginIce 0 [.ref 66, .null] [] (zen σ) (fun v h' => zwp X d MX12_play 14 [.ref 66, .int a2] (zpsh v []) h' Q) else Q (some (.int (-1))) (zen σ)) :=
  Eq.trans (q_aload_n (pc := 0) dX12_play_0 rfl rfl) (Eq.trans (q_iload_n (pc := 1) dX12_play_1 rfl rfl) (Eq.trans (q_sumI (q_callV (as := [.int a2]) (rest := []) (l0 := [.ref 66, .int a2]) (pc := 2) dX12_play_2 zC_12_165 rfl (z_recv zl_66 zh_66) rfl rfl) (by omega) (s_X12_isTurn (hd := by omega) σ a2)) (Eq.trans (q_if_ne (tgt := 10) (pc := 5) dX12_play_5 rfl) (zite (fun hz1 => Eq.trans (q_aload_n (pc := 10) dX12_play_10 rfl rfl) (zdpos (q_callV (as := []) (rest := []) (l0 := [.ref 66, .null]) (pc := 11) dX12_play_11 zC_12_285 rfl (z_recv zl_66 zh_66) rfl rfl) (by omega))) (fun hz1 => Eq.trans (q_iconst (v := (-1)) (pc := 8) dX12_play_8 rfl) (q_iret (pc := 9) dX12_play_9 rfl rfl))))))
theorem b_X12_play_14 {X : zX} {d : Nat} {Q : Option Value → zH → Prop} (hd : 1 ≤ d) (σ : zS) (l1 : Int32)  : zwp X d MX12_play 14 [.ref 66, .int l1] [] (zen σ) Q = zwp X (d - 1) MX12_goTurn 0 [.ref 66, .int l1] [] (zen σ) (fun v h' => zwp X d MX12_play 19 [.ref 66, .int l1] (zpsh v []) h' Q) :=
  Eq.trans (q_aload_n (pc := 14) dX12_play_14 rfl rfl) (Eq.trans (q_iload_n (pc := 15) dX12_play_15 rfl rfl) (zdpos (q_callV (as := [.int l1]) (rest := []) (l0 := [.ref 66, .int l1]) (pc := 16) dX12_play_16 zC_12_276 rfl (z_recv zl_66 zh_66) rfl rfl) (by omega)))
theorem b_X12_play_19 {X : zX} {d : Nat} {Q : Option Value → zH → Prop} (hd : 1 ≤ d) (σ : zS) (l1 : Int32)  : zwp X d MX12_play 19 [.ref 66, .int l1] [] (zen σ) Q = zwp X (d - 1) MX12_become 0 [.ref 66, .null] [] (zen (si σ 90 (ix 0) ((gi σ 90 (ix 0)) + 1))) (fun v h' => zwp X d MX12_play 33 [.ref 66, .int l1] (zpsh v []) h' Q) :=
  Eq.trans (q_aload_n (pc := 19) dX12_play_19 rfl rfl) (Eq.trans (q_getf (pc := 20) dX12_play_20 zF_12_94 (z_rfr zl_66 zh_66 (by decide) rfl)) (Eq.trans (q_iconst (v := 0) (pc := 23) dX12_play_23 rfl) (Eq.trans (q_dup2_int_ref (pc := 24) dX12_play_24) (Eq.trans (Eq.trans (qe_iaload (x := (gi σ 90 (ix 0))) (pc := 25) dX12_play_25 (z_ia zl_90 zh_90 (by decide)) rfl) (ztrue_and (by decide))) (Eq.trans (q_iconst (v := 1) (pc := 26) dX12_play_26 rfl) (Eq.trans (q_iadd (pc := 27) dX12_play_27) (Eq.trans (Eq.trans (q_iastore (pc := 28) dX12_play_28 (zN_lt zl_90) (z_ia zl_90 zh_90 (by decide)) (z_pi zl_90 zh_90 (by decide))) (ztrue_and (by decide))) (Eq.trans (q_aload_n (pc := 29) dX12_play_29 rfl rfl) (zdpos (q_callV (as := []) (rest := []) (l0 := [.ref 66, .null]) (pc := 30) dX12_play_30 zC_12_358 rfl (z_recv zl_66 zh_66) rfl rfl) (by omega))))))))))
theorem b_X12_play_33 {X : zX} {d : Nat} {Q : Option Value → zH → Prop} (σ : zS) (l1 : Int32) (t0 : Int32)  : zwp X d MX12_play 33 [.ref 66, .int l1] [.int t0] (zen σ) Q = Q (some (.int t0)) (zen σ) :=
  q_iret (pc := 33) dX12_play_33 rfl rfl
theorem b_X12_interval_0 {X : zX} {d : Nat} {Q : Option Value → zH → Prop} (hd : 1 ≤ d) (σ : zS)  : zwp X d MX12_interval 0 [.ref 66] [] (zen σ) Q = zwp X (d - 1) MX12_beginIce 0 [.ref 66, .null] [] (zen σ) (fun v h' => zwp X d MX12_interval 4 [.ref 66] (zpsh v []) h' Q) :=
  Eq.trans (q_aload_n (pc := 0) dX12_interval_0 rfl rfl) (zdpos (q_callV (as := []) (rest := []) (l0 := [.ref 66, .null]) (pc := 1) dX12_interval_1 zC_12_285 rfl (z_recv zl_66 zh_66) rfl rfl) (by omega))
theorem b_X12_interval_4 {X : zX} {d : Nat} {Q : Option Value → zH → Prop} (hd : 1 ≤ d) (σ : zS)  : zwp X d MX12_interval 4 [.ref 66] [] (zen σ) Q = zwp X (d - 1) MX12_thaw 0 [.ref 66, .int (gi σ 66 11), .null] [] (zen σ) (fun v h' => zwp X d MX12_interval 12 [.ref 66] (zpsh v []) h' Q) :=
  Eq.trans (q_aload_n (pc := 4) dX12_interval_4 rfl rfl) (Eq.trans (q_aload_n (pc := 5) dX12_interval_5 rfl rfl) (Eq.trans (q_getf (pc := 6) dX12_interval_6 zF_12_35 (z_rfiE (x := (gi σ 66 11)) zl_66 zh_66 (by decide) rfl rfl)) (zdpos (q_callV (as := [.int (gi σ 66 11)]) (rest := []) (l0 := [.ref 66, .int (gi σ 66 11), .null]) (pc := 9) dX12_interval_9 zC_12_269 rfl (z_recv zl_66 zh_66) rfl rfl) (by omega))))
theorem b_X12_interval_12 {X : zX} {d : Nat} {Q : Option Value → zH → Prop} (hd : 1 ≤ d) (σ : zS)  : zwp X d MX12_interval 12 [.ref 66] [] (zen σ) Q = zwp X (d - 1) MX12_become 0 [.ref 66, .null] [] (zen (si σ 90 (ix 1) ((gi σ 90 (ix 1)) + 1))) (fun v h' => zwp X d MX12_interval 26 [.ref 66] (zpsh v []) h' Q) :=
  Eq.trans (q_aload_n (pc := 12) dX12_interval_12 rfl rfl) (Eq.trans (q_getf (pc := 13) dX12_interval_13 zF_12_94 (z_rfr zl_66 zh_66 (by decide) rfl)) (Eq.trans (q_iconst (v := 1) (pc := 16) dX12_interval_16 rfl) (Eq.trans (q_dup2_int_ref (pc := 17) dX12_interval_17) (Eq.trans (Eq.trans (qe_iaload (x := (gi σ 90 (ix 1))) (pc := 18) dX12_interval_18 (z_ia zl_90 zh_90 (by decide)) rfl) (ztrue_and (by decide))) (Eq.trans (q_iconst (v := 1) (pc := 19) dX12_interval_19 rfl) (Eq.trans (q_iadd (pc := 20) dX12_interval_20) (Eq.trans (Eq.trans (q_iastore (pc := 21) dX12_interval_21 (zN_lt zl_90) (z_ia zl_90 zh_90 (by decide)) (z_pi zl_90 zh_90 (by decide))) (ztrue_and (by decide))) (Eq.trans (q_aload_n (pc := 22) dX12_interval_22 rfl rfl) (zdpos (q_callV (as := []) (rest := []) (l0 := [.ref 66, .null]) (pc := 23) dX12_interval_23 zC_12_358 rfl (z_recv zl_66 zh_66) rfl rfl) (by omega))))))))))
theorem b_X12_interval_26 {X : zX} {d : Nat} {Q : Option Value → zH → Prop} (σ : zS) (t0 : Int32)  : zwp X d MX12_interval 26 [.ref 66] [.int t0] (zen σ) Q = Q (some (.int t0)) (zen σ) :=
  q_iret (pc := 26) dX12_interval_26 rfl rfl
theorem b_X12_goes_0 {X : zX} {d : Nat} {Q : Option Value → zH → Prop} (hd : 1 ≤ d) (σ : zS) (a2 : Int32)  : zwp X d MX12_goes 0 [.ref 66, .int a2, .null] [] (zen σ) Q = (if ¬ (f_X12_areWeight σ a2) = 0 then zwp X (d - 1) MX12_beginIce 0 [.ref 66, .null] [] (zen σ) (fun v h' => zwp X d MX12_goes 13 [.ref 66, .int a2, .null] (zpsh v []) h' Q) else Q (some (.int (-1))) (zen σ)) :=
  Eq.trans (q_iload_n (pc := 0) dX12_goes_0 rfl rfl) (Eq.trans (q_sumI (q_callS (as := [.int a2]) (rest := []) (l0 := [.int a2]) (pc := 1) dX12_goes_1 zSN_12_309 zC_12_309 rfl rfl rfl) (by omega) (s_X12_areWeight σ a2)) (Eq.trans (q_if_ne (tgt := 9) (pc := 4) dX12_goes_4 rfl) (zite (fun hz1 => Eq.trans (q_aload_n (pc := 9) dX12_goes_9 rfl rfl) (zdpos (q_callV (as := []) (rest := []) (l0 := [.ref 66, .null]) (pc := 10) dX12_goes_10 zC_12_285 rfl (z_recv zl_66 zh_66) rfl rfl) (by omega))) (fun hz1 => Eq.trans (q_iconst (v := (-1)) (pc := 7) dX12_goes_7 rfl) (q_iret (pc := 8) dX12_goes_8 rfl rfl)))))
theorem b_X12_goes_13 {X : zX} {d : Nat} {Q : Option Value → zH → Prop} (hd : 1 ≤ d) (σ : zS) (l1 : Int32)  : zwp X d MX12_goes 13 [.ref 66, .int l1, .null] [] (zen σ) Q = zwp X (d - 1) MX12_fallsOn 0 [.ref 66, .int (l1 / 10), .int (l1 - l1 / 10 * 10), .null] [] (zen σ) (fun v h' => zwp X d MX12_goes 25 [.ref 66, .int l1, .null] (zpsh v []) h' Q) :=
  Eq.trans (q_aload_n (pc := 13) dX12_goes_13 rfl rfl) (Eq.trans (q_iload_n (pc := 14) dX12_goes_14 rfl rfl) (Eq.trans (q_bipush (v := 10) (pc := 15) dX12_goes_15 rfl) (Eq.trans (q_idivK (pc := 17) dX12_goes_17 (by decide)) (Eq.trans (q_iload_n (pc := 18) dX12_goes_18 rfl rfl) (Eq.trans (q_bipush (v := 10) (pc := 19) dX12_goes_19 rfl) (Eq.trans (q_iremK (pc := 21) dX12_goes_21 (by decide)) (zdpos (q_callV (as := [.int (l1 / 10), .int (l1 - l1 / 10 * 10)]) (rest := []) (l0 := [.ref 66, .int (l1 / 10), .int (l1 - l1 / 10 * 10), .null]) (pc := 22) dX12_goes_22 zC_12_312 rfl (z_recv zl_66 zh_66) rfl rfl) (by omega))))))))
theorem b_X12_goes_25 {X : zX} {d : Nat} {Q : Option Value → zH → Prop} (hd : 1 ≤ d) (σ : zS) (l1 : Int32) (t0 : Int32)  : zwp X d MX12_goes 25 [.ref 66, .int l1, .null] [.int t0] (zen σ) Q = (if 0 ≤ t0 then zwp X (d - 1) MX12_thaw 0 [.ref 66, .int ((l1 - l1 / 10 * 10) * (t0 + 1)), .null] [] (zen σ) (fun v h' => zwp X d MX12_goes 49 [.ref 66, .int l1, .int t0] (zpsh v []) h' Q) else zwp X (d - 1) MX12_thaw 0 [.ref 66, .int ((l1 - l1 / 10 * 10) * (gi σ 66 9)), .null] [] (zen σ) (fun v h' => zwp X d MX12_goes 49 [.ref 66, .int l1, .int t0] (zpsh v []) h' Q)) :=
  Eq.trans (q_istore_n (ls' := [.ref 66, .int l1, .int t0]) (pc := 25) dX12_goes_25 rfl (Nat.le_of_ble_eq_true rfl) rfl) (Eq.trans (q_aload_n (pc := 26) dX12_goes_26 rfl rfl) (Eq.trans (q_iload_n (pc := 27) dX12_goes_27 rfl rfl) (Eq.trans (q_bipush (v := 10) (pc := 28) dX12_goes_28 rfl) (Eq.trans (q_iremK (pc := 30) dX12_goes_30 (by decide)) (Eq.trans (q_iload_n (pc := 31) dX12_goes_31 rfl rfl) (Eq.trans (q_if_ge (tgt := 42) (pc := 32) dX12_goes_32 rfl) (zite (fun hz1 => Eq.trans (q_iload_n (pc := 42) dX12_goes_42 rfl rfl) (Eq.trans (q_iconst (v := 1) (pc := 43) dX12_goes_43 rfl) (Eq.trans (q_iadd (pc := 44) dX12_goes_44) (Eq.trans (q_imul (pc := 45) dX12_goes_45) (zdpos (q_callV (as := [.int ((l1 - l1 / 10 * 10) * (t0 + 1))]) (rest := []) (l0 := [.ref 66, .int ((l1 - l1 / 10 * 10) * (t0 + 1)), .null]) (pc := 46) dX12_goes_46 zC_12_269 rfl (z_recv zl_66 zh_66) rfl rfl) (by omega)))))) (fun hz1 => Eq.trans (q_aload_n (pc := 35) dX12_goes_35 rfl rfl) (Eq.trans (q_getf (pc := 36) dX12_goes_36 zF_12_28 (z_rfiE (x := (gi σ 66 9)) zl_66 zh_66 (by decide) rfl rfl)) (Eq.trans (q_goto (tgt := 45) (pc := 39) dX12_goes_39 rfl) (Eq.trans (q_imul (pc := 45) dX12_goes_45) (zdpos (q_callV (as := [.int ((l1 - l1 / 10 * 10) * (gi σ 66 9))]) (rest := []) (l0 := [.ref 66, .int ((l1 - l1 / 10 * 10) * (gi σ 66 9)), .null]) (pc := 46) dX12_goes_46 zC_12_269 rfl (z_recv zl_66 zh_66) rfl rfl) (by omega)))))))))))))
theorem b_X12_goes_49 {X : zX} {d : Nat} {Q : Option Value → zH → Prop} (hd : 1 ≤ d) (σ : zS) (l1 : Int32) (l2 : Int32)  : zwp X d MX12_goes 49 [.ref 66, .int l1, .int l2] [] (zen σ) Q = (if l2 < 0 then zwp X (d - 1) MX12_become 0 [.ref 66, .null] [] (zen (si σ 90 (ix 2) ((gi σ 90 (ix 2)) + 1))) (fun v h' => zwp X d MX12_goes 84 [.ref 66, .int l1, .int l2] (zpsh v []) h' Q) else (zin l2 16 = true ∧ zwp X (d - 1) MX12_become 0 [.ref 66, .null] [] (zen (si (si (si σ 86 (ix l2) 0) 90 (ix 3) ((gi σ 90 (ix 3)) + 1)) 90 (ix 2) ((gi σ 90 (ix 2)) + 1))) (fun v h' => zwp X d MX12_goes 84 [.ref 66, .int l1, .int l2] (zpsh v []) h' Q))) :=
  Eq.trans (q_iload_n (pc := 49) dX12_goes_49 rfl rfl) (Eq.trans (q_if_lt (tgt := 70) (pc := 50) dX12_goes_50 rfl) (zite (fun hz1 => Eq.trans (q_aload_n (pc := 70) dX12_goes_70 rfl rfl) (Eq.trans (q_getf (pc := 71) dX12_goes_71 zF_12_94 (z_rfr zl_66 zh_66 (by decide) rfl)) (Eq.trans (q_iconst (v := 2) (pc := 74) dX12_goes_74 rfl) (Eq.trans (q_dup2_int_ref (pc := 75) dX12_goes_75) (Eq.trans (Eq.trans (qe_iaload (x := (gi σ 90 (ix 2))) (pc := 76) dX12_goes_76 (z_ia zl_90 zh_90 (by decide)) rfl) (ztrue_and (by decide))) (Eq.trans (q_iconst (v := 1) (pc := 77) dX12_goes_77 rfl) (Eq.trans (q_iadd (pc := 78) dX12_goes_78) (Eq.trans (Eq.trans (q_iastore (pc := 79) dX12_goes_79 (zN_lt zl_90) (z_ia zl_90 zh_90 (by decide)) (z_pi zl_90 zh_90 (by decide))) (ztrue_and (by decide))) (Eq.trans (q_aload_n (pc := 80) dX12_goes_80 rfl rfl) (zdpos (q_callV (as := []) (rest := []) (l0 := [.ref 66, .null]) (pc := 81) dX12_goes_81 zC_12_358 rfl (z_recv zl_66 zh_66) rfl rfl) (by omega))))))))))) (fun hz1 => Eq.trans (q_aload_n (pc := 53) dX12_goes_53 rfl rfl) (Eq.trans (q_getf (pc := 54) dX12_goes_54 zF_12_79 (z_rfr zl_66 zh_66 (by decide) rfl)) (Eq.trans (q_iload_n (pc := 57) dX12_goes_57 rfl rfl) (Eq.trans (q_iconst (v := 0) (pc := 58) dX12_goes_58 rfl) (Eq.trans (q_iastore (pc := 59) dX12_goes_59 (zN_lt zl_86) (z_ia zl_86 zh_86 (by decide)) (z_pi zl_86 zh_86 (by decide))) (zand fun hz2 => Eq.trans (q_aload_n (pc := 60) dX12_goes_60 rfl rfl) (Eq.trans (q_getf (pc := 61) dX12_goes_61 zF_12_94 (z_rfr zl_66 zh_66 (by decide) rfl)) (Eq.trans (q_iconst (v := 3) (pc := 64) dX12_goes_64 rfl) (Eq.trans (q_dup2_int_ref (pc := 65) dX12_goes_65) (Eq.trans (Eq.trans (qe_iaload (x := (gi σ 90 (ix 3))) (pc := 66) dX12_goes_66 (z_ia zl_90 zh_90 (by decide)) rfl) (ztrue_and (by decide))) (Eq.trans (q_iconst (v := 1) (pc := 67) dX12_goes_67 rfl) (Eq.trans (q_iadd (pc := 68) dX12_goes_68) (Eq.trans (Eq.trans (q_iastore (pc := 69) dX12_goes_69 (zN_lt zl_90) (z_ia zl_90 zh_90 (by decide)) (z_pi zl_90 zh_90 (by decide))) (ztrue_and (by decide))) (Eq.trans (q_aload_n (pc := 70) dX12_goes_70 rfl rfl) (Eq.trans (q_getf (pc := 71) dX12_goes_71 zF_12_94 (z_rfr zl_66 zh_66 (by decide) rfl)) (Eq.trans (q_iconst (v := 2) (pc := 74) dX12_goes_74 rfl) (Eq.trans (q_dup2_int_ref (pc := 75) dX12_goes_75) (Eq.trans (Eq.trans (qe_iaload (x := (gi σ 90 (ix 2))) (pc := 76) dX12_goes_76 (z_ia zl_90 zh_90 (by decide)) rfl) (ztrue_and (by decide))) (Eq.trans (q_iconst (v := 1) (pc := 77) dX12_goes_77 rfl) (Eq.trans (q_iadd (pc := 78) dX12_goes_78) (Eq.trans (Eq.trans (q_iastore (pc := 79) dX12_goes_79 (zN_lt zl_90) (z_ia zl_90 zh_90 (by decide)) (z_pi zl_90 zh_90 (by decide))) (ztrue_and (by decide))) (Eq.trans (q_aload_n (pc := 80) dX12_goes_80 rfl rfl) (zdpos (q_callV (as := []) (rest := []) (l0 := [.ref 66, .null]) (pc := 81) dX12_goes_81 zC_12_358 rfl (z_recv zl_66 zh_66) rfl rfl) (by omega))))))))))))))))))))))))))
theorem b_X12_goes_84 {X : zX} {d : Nat} {Q : Option Value → zH → Prop} (σ : zS) (l1 : Int32) (l2 : Int32) (t0 : Int32)  : zwp X d MX12_goes 84 [.ref 66, .int l1, .int l2] [.int t0] (zen σ) Q = Q (some (.int l2)) (zen σ) :=
  Eq.trans (q_pop_int (pc := 84) dX12_goes_84) (Eq.trans (q_iload_n (pc := 85) dX12_goes_85 rfl rfl) (q_iret (pc := 86) dX12_goes_86 rfl rfl))
theorem b_X12_image_0 {X : zX} {d : Nat} {Q : Option Value → zH → Prop} (σ : zS)  : zwp X d MX12_image 0 [.ref 66, .null] [] (zen σ) Q = zwp X d MX12_image 7 [.ref 66, .int 0] [] (zen (si σ 66 46 1)) Q :=
  Eq.trans (q_aload_n (pc := 0) dX12_image_0 rfl rfl) (Eq.trans (q_iconst (v := 1) (pc := 1) dX12_image_1 rfl) (Eq.trans (Eq.trans (q_pz (pc := 2) dX12_image_2 zF_12_361 zPZ_12_46 rfl (z_pf zl_66 zh_66 rfl)) (ztrue_and (by decide))) (Eq.trans (q_iconst (v := 0) (pc := 5) dX12_image_5 rfl) (Eq.trans (q_istore_n (ls' := [.ref 66, .int 0]) (pc := 6) dX12_image_6 rfl (Nat.le_of_ble_eq_true rfl) rfl) (rfl)))))
theorem b_X12_image_7 {X : zX} {d : Nat} {Q : Option Value → zH → Prop} (σ : zS) (l1 : Int32)  : zwp X d MX12_image 7 [.ref 66, .int l1] [] (zen σ) Q = (if 16 ≤ l1 then zwp X d MX12_image 33 [.ref 66, .int 0] [] (zen σ) Q else (zin l1 16 = true ∧ (zin l1 16 = true ∧ zwp X d MX12_image 7 [.ref 66, .int (l1 + 1)] [] (zen (si σ 91 (ix l1) (gi σ 85 (ix l1)))) Q))) :=
  Eq.trans (q_iload_n (pc := 7) dX12_image_7 rfl rfl) (Eq.trans (q_bipush (v := 16) (pc := 8) dX12_image_8 rfl) (Eq.trans (q_icmp_ge (tgt := 31) (pc := 10) dX12_image_10 rfl) (zite (fun hz1 => Eq.trans (q_iconst (v := 0) (pc := 31) dX12_image_31 rfl) (Eq.trans (q_istore_n (ls' := [.ref 66, .int 0]) (pc := 32) dX12_image_32 rfl (Nat.le_of_ble_eq_true rfl) rfl) (rfl))) (fun hz1 => Eq.trans (q_aload_n (pc := 13) dX12_image_13 rfl rfl) (Eq.trans (q_getf (pc := 14) dX12_image_14 zF_12_97 (z_rfr zl_66 zh_66 (by decide) rfl)) (Eq.trans (q_iload_n (pc := 17) dX12_image_17 rfl rfl) (Eq.trans (q_aload_n (pc := 18) dX12_image_18 rfl rfl) (Eq.trans (q_getf (pc := 19) dX12_image_19 zF_12_76 (z_rfr zl_66 zh_66 (by decide) rfl)) (Eq.trans (q_iload_n (pc := 22) dX12_image_22 rfl rfl) (Eq.trans (qe_iaload (x := (gi σ 85 (ix l1))) (pc := 23) dX12_image_23 (z_ia zl_85 zh_85 (by decide)) rfl) (zand fun hz2 => Eq.trans (q_iastore (pc := 24) dX12_image_24 (zN_lt zl_91) (z_ia zl_91 zh_91 (by decide)) (z_pi zl_91 zh_91 (by decide))) (zand fun hz3 => Eq.trans (q_iinc (c := 1) (ls' := [.ref 66, .int (l1 + 1)]) (pc := 25) dX12_image_25 rfl rfl rfl) (Eq.trans (q_goto (tgt := 7) (pc := 28) dX12_image_28 rfl) (rfl))))))))))))))
theorem b_X12_image_33 {X : zX} {d : Nat} {Q : Option Value → zH → Prop} (σ : zS) (l1 : Int32)  : zwp X d MX12_image 33 [.ref 66, .int l1] [] (zen σ) Q = (if 5 ≤ l1 then Q (some (.int (gi σ 90 (ix 0)))) (zen σ) else (zin l1 5 = true ∧ (zin l1 5 = true ∧ zwp X d MX12_image 33 [.ref 66, .int (l1 + 1)] [] (zen (si σ 92 (ix l1) (gi σ 90 (ix l1)))) Q))) :=
  Eq.trans (q_iload_n (pc := 33) dX12_image_33 rfl rfl) (Eq.trans (q_iconst (v := 5) (pc := 34) dX12_image_34 rfl) (Eq.trans (q_icmp_ge (tgt := 56) (pc := 35) dX12_image_35 rfl) (zite (fun hz1 => Eq.trans (q_aload_n (pc := 56) dX12_image_56 rfl rfl) (Eq.trans (q_getf (pc := 57) dX12_image_57 zF_12_94 (z_rfr zl_66 zh_66 (by decide) rfl)) (Eq.trans (q_iconst (v := 0) (pc := 60) dX12_image_60 rfl) (Eq.trans (Eq.trans (qe_iaload (x := (gi σ 90 (ix 0))) (pc := 61) dX12_image_61 (z_ia zl_90 zh_90 (by decide)) rfl) (ztrue_and (by decide))) (q_iret (pc := 62) dX12_image_62 rfl rfl))))) (fun hz1 => Eq.trans (q_aload_n (pc := 38) dX12_image_38 rfl rfl) (Eq.trans (q_getf (pc := 39) dX12_image_39 zF_12_100 (z_rfr zl_66 zh_66 (by decide) rfl)) (Eq.trans (q_iload_n (pc := 42) dX12_image_42 rfl rfl) (Eq.trans (q_aload_n (pc := 43) dX12_image_43 rfl rfl) (Eq.trans (q_getf (pc := 44) dX12_image_44 zF_12_94 (z_rfr zl_66 zh_66 (by decide) rfl)) (Eq.trans (q_iload_n (pc := 47) dX12_image_47 rfl rfl) (Eq.trans (qe_iaload (x := (gi σ 90 (ix l1))) (pc := 48) dX12_image_48 (z_ia zl_90 zh_90 (by decide)) rfl) (zand fun hz2 => Eq.trans (q_iastore (pc := 49) dX12_image_49 (zN_lt zl_92) (z_ia zl_92 zh_92 (by decide)) (z_pi zl_92 zh_92 (by decide))) (zand fun hz3 => Eq.trans (q_iinc (c := 1) (ls' := [.ref 66, .int (l1 + 1)]) (pc := 50) dX12_image_50 rfl rfl rfl) (Eq.trans (q_goto (tgt := 33) (pc := 53) dX12_image_53 rfl) (rfl))))))))))))))
theorem b_X12_back_0 {X : zX} {d : Nat} {Q : Option Value → zH → Prop} (σ : zS)  : zwp X d MX12_back 0 [.ref 66, .null] [] (zen σ) Q = (if ¬ (gi σ 66 46) = 0 then zwp X d MX12_back 12 [.ref 66, .int 0] [] (zen σ) Q else Q (some (.int (-5))) (zen σ)) :=
  Eq.trans (q_aload_n (pc := 0) dX12_back_0 rfl rfl) (Eq.trans (q_getf (pc := 1) dX12_back_1 zF_12_361 (z_rfiE (x := (gi σ 66 46)) zl_66 zh_66 (by decide) rfl rfl)) (Eq.trans (q_if_ne (tgt := 10) (pc := 4) dX12_back_4 rfl) (zite (fun hz1 => Eq.trans (q_iconst (v := 0) (pc := 10) dX12_back_10 rfl) (Eq.trans (q_istore_n (ls' := [.ref 66, .int 0]) (pc := 11) dX12_back_11 rfl (Nat.le_of_ble_eq_true rfl) rfl) (rfl))) (fun hz1 => Eq.trans (q_bipush (v := (-5)) (pc := 7) dX12_back_7 rfl) (q_iret (pc := 9) dX12_back_9 rfl rfl)))))
theorem b_X12_back_12 {X : zX} {d : Nat} {Q : Option Value → zH → Prop} (σ : zS) (l1 : Int32)  : zwp X d MX12_back 12 [.ref 66, .int l1] [] (zen σ) Q = (if 16 ≤ l1 then zwp X d MX12_back 38 [.ref 66, .int 0] [] (zen σ) Q else (zin l1 16 = true ∧ (zin l1 16 = true ∧ zwp X d MX12_back 12 [.ref 66, .int (l1 + 1)] [] (zen (si σ 85 (ix l1) (gi σ 91 (ix l1)))) Q))) :=
  Eq.trans (q_iload_n (pc := 12) dX12_back_12 rfl rfl) (Eq.trans (q_bipush (v := 16) (pc := 13) dX12_back_13 rfl) (Eq.trans (q_icmp_ge (tgt := 36) (pc := 15) dX12_back_15 rfl) (zite (fun hz1 => Eq.trans (q_iconst (v := 0) (pc := 36) dX12_back_36 rfl) (Eq.trans (q_istore_n (ls' := [.ref 66, .int 0]) (pc := 37) dX12_back_37 rfl (Nat.le_of_ble_eq_true rfl) rfl) (rfl))) (fun hz1 => Eq.trans (q_aload_n (pc := 18) dX12_back_18 rfl rfl) (Eq.trans (q_getf (pc := 19) dX12_back_19 zF_12_76 (z_rfr zl_66 zh_66 (by decide) rfl)) (Eq.trans (q_iload_n (pc := 22) dX12_back_22 rfl rfl) (Eq.trans (q_aload_n (pc := 23) dX12_back_23 rfl rfl) (Eq.trans (q_getf (pc := 24) dX12_back_24 zF_12_97 (z_rfr zl_66 zh_66 (by decide) rfl)) (Eq.trans (q_iload_n (pc := 27) dX12_back_27 rfl rfl) (Eq.trans (qe_iaload (x := (gi σ 91 (ix l1))) (pc := 28) dX12_back_28 (z_ia zl_91 zh_91 (by decide)) rfl) (zand fun hz2 => Eq.trans (q_iastore (pc := 29) dX12_back_29 (zN_lt zl_85) (z_ia zl_85 zh_85 (by decide)) (z_pi zl_85 zh_85 (by decide))) (zand fun hz3 => Eq.trans (q_iinc (c := 1) (ls' := [.ref 66, .int (l1 + 1)]) (pc := 30) dX12_back_30 rfl rfl rfl) (Eq.trans (q_goto (tgt := 12) (pc := 33) dX12_back_33 rfl) (rfl))))))))))))))
theorem b_X12_back_38 {X : zX} {d : Nat} {Q : Option Value → zH → Prop} (σ : zS) (l1 : Int32)  : zwp X d MX12_back 38 [.ref 66, .int l1] [] (zen σ) Q = (if 5 ≤ l1 then Q (some (.int (gi σ 90 (ix 0)))) (zen σ) else (zin l1 5 = true ∧ (zin l1 5 = true ∧ zwp X d MX12_back 38 [.ref 66, .int (l1 + 1)] [] (zen (si σ 90 (ix l1) (gi σ 92 (ix l1)))) Q))) :=
  Eq.trans (q_iload_n (pc := 38) dX12_back_38 rfl rfl) (Eq.trans (q_iconst (v := 5) (pc := 39) dX12_back_39 rfl) (Eq.trans (q_icmp_ge (tgt := 61) (pc := 40) dX12_back_40 rfl) (zite (fun hz1 => Eq.trans (q_aload_n (pc := 61) dX12_back_61 rfl rfl) (Eq.trans (q_getf (pc := 62) dX12_back_62 zF_12_94 (z_rfr zl_66 zh_66 (by decide) rfl)) (Eq.trans (q_iconst (v := 0) (pc := 65) dX12_back_65 rfl) (Eq.trans (Eq.trans (qe_iaload (x := (gi σ 90 (ix 0))) (pc := 66) dX12_back_66 (z_ia zl_90 zh_90 (by decide)) rfl) (ztrue_and (by decide))) (q_iret (pc := 67) dX12_back_67 rfl rfl))))) (fun hz1 => Eq.trans (q_aload_n (pc := 43) dX12_back_43 rfl rfl) (Eq.trans (q_getf (pc := 44) dX12_back_44 zF_12_94 (z_rfr zl_66 zh_66 (by decide) rfl)) (Eq.trans (q_iload_n (pc := 47) dX12_back_47 rfl rfl) (Eq.trans (q_aload_n (pc := 48) dX12_back_48 rfl rfl) (Eq.trans (q_getf (pc := 49) dX12_back_49 zF_12_100 (z_rfr zl_66 zh_66 (by decide) rfl)) (Eq.trans (q_iload_n (pc := 52) dX12_back_52 rfl rfl) (Eq.trans (qe_iaload (x := (gi σ 92 (ix l1))) (pc := 53) dX12_back_53 (z_ia zl_92 zh_92 (by decide)) rfl) (zand fun hz2 => Eq.trans (q_iastore (pc := 54) dX12_back_54 (zN_lt zl_90) (z_ia zl_90 zh_90 (by decide)) (z_pi zl_90 zh_90 (by decide))) (zand fun hz3 => Eq.trans (q_iinc (c := 1) (ls' := [.ref 66, .int (l1 + 1)]) (pc := 55) dX12_back_55 rfl rfl rfl) (Eq.trans (q_goto (tgt := 38) (pc := 58) dX12_back_58 rfl) (rfl))))))))))))))
theorem b_X12_row_0 {X : zX} {d : Nat} {Q : Option Value → zH → Prop} (hd : 2 ≤ d) (σ : zS) (a2 : Int32) (a3 : Int32) (a4 : Int32)  : zwp X d MX12_row 0 [.ref 66, .int a2, .int a3, .int a4, .null] [] (zen σ) Q = (if (f_X12_isShelf σ a2) = 0 then Q (some (.int (-1))) (zen σ) else (if (f_X12_in σ a3 0 4) = 0 then Q (some (.int (-1))) (zen σ) else (if a4 ≤ 60 then (if 0 ≤ a4 then (zin a2 6 = true ∧ (zin a2 6 = true ∧ zwp X d MX12_row 54 [.ref 66, .int a2, .int a3, .int a4, .int (60 * a2)] [] (zen (si (si σ 95 (ix a2) ((-2) - a3)) 96 (ix a2) a4)) Q)) else Q (some (.int (-14))) (zen σ)) else Q (some (.int (-1))) (zen σ)))) :=
  Eq.trans (q_iload_n (pc := 0) dX12_row_0 rfl rfl) (Eq.trans (q_sumI (q_callS (as := [.int a2]) (rest := []) (l0 := [.int a2]) (pc := 1) dX12_row_1 zSN_12_139 zC_12_139 rfl rfl rfl) (by omega) (s_X12_isShelf (hd := by omega) σ a2)) (Eq.trans (q_if_eq (tgt := 22) (pc := 4) dX12_row_4 rfl) (zite (fun hz1 => Eq.trans (q_iconst (v := (-1)) (pc := 22) dX12_row_22 rfl) (q_iret (pc := 23) dX12_row_23 rfl rfl)) (fun hz1 => Eq.trans (q_iload_n (pc := 7) dX12_row_7 rfl rfl) (Eq.trans (q_iconst (v := 0) (pc := 8) dX12_row_8 rfl) (Eq.trans (q_iconst (v := 4) (pc := 9) dX12_row_9 rfl) (Eq.trans (q_sumI (q_callS (as := [.int a3, .int 0, .int 4]) (rest := []) (l0 := [.int a3, .int 0, .int 4]) (pc := 10) dX12_row_10 zSN_12_128 zC_12_128 rfl rfl rfl) (by omega) (s_X12_in σ a3 0 4)) (Eq.trans (q_if_eq (tgt := 22) (pc := 13) dX12_row_13 rfl) (zite (fun hz2 => Eq.trans (q_iconst (v := (-1)) (pc := 22) dX12_row_22 rfl) (q_iret (pc := 23) dX12_row_23 rfl rfl)) (fun hz2 => Eq.trans (q_iload_n (pc := 16) dX12_row_16 rfl rfl) (Eq.trans (q_bipush (v := 60) (pc := 17) dX12_row_17 rfl) (Eq.trans (q_icmp_le (tgt := 24) (pc := 19) dX12_row_19 rfl) (zite (fun hz3 => Eq.trans (q_iload_n (pc := 24) dX12_row_24 rfl rfl) (Eq.trans (q_if_ge (tgt := 31) (pc := 25) dX12_row_25 rfl) (zite (fun hz4 => Eq.trans (q_aload_n (pc := 31) dX12_row_31 rfl rfl) (Eq.trans (q_getf (pc := 32) dX12_row_32 zF_12_109 (z_rfr zl_66 zh_66 (by decide) rfl)) (Eq.trans (q_iload_n (pc := 35) dX12_row_35 rfl rfl) (Eq.trans (q_bipush (v := (-2)) (pc := 36) dX12_row_36 rfl) (Eq.trans (q_iload_n (pc := 38) dX12_row_38 rfl rfl) (Eq.trans (q_isub (pc := 39) dX12_row_39) (Eq.trans (q_iastore (pc := 40) dX12_row_40 (zN_lt zl_95) (z_ia zl_95 zh_95 (by decide)) (z_pi zl_95 zh_95 (by decide))) (zand fun hz5 => Eq.trans (q_aload_n (pc := 41) dX12_row_41 rfl rfl) (Eq.trans (q_getf (pc := 42) dX12_row_42 zF_12_112 (z_rfr zl_66 zh_66 (by decide) rfl)) (Eq.trans (q_iload_n (pc := 45) dX12_row_45 rfl rfl) (Eq.trans (q_iload_n (pc := 46) dX12_row_46 rfl rfl) (Eq.trans (q_iastore (pc := 47) dX12_row_47 (zN_lt zl_96) (z_ia zl_96 zh_96 (by decide)) (z_pi zl_96 zh_96 (by decide))) (zand fun hz6 => Eq.trans (q_bipush (v := 60) (pc := 48) dX12_row_48 rfl) (Eq.trans (q_iload_n (pc := 50) dX12_row_50 rfl rfl) (Eq.trans (q_imul (pc := 51) dX12_row_51) (Eq.trans (q_istore (ls' := [.ref 66, .int a2, .int a3, .int a4, .int (60 * a2)]) (pc := 52) dX12_row_52 (Nat.le_of_ble_eq_true rfl) rfl) (rfl))))))))))))))))) (fun hz4 => Eq.trans (q_bipush (v := (-14)) (pc := 28) dX12_row_28 rfl) (q_iret (pc := 30) dX12_row_30 rfl rfl))))) (fun hz3 => Eq.trans (q_iconst (v := (-1)) (pc := 22) dX12_row_22 rfl) (q_iret (pc := 23) dX12_row_23 rfl rfl)))))))))))))))
theorem b_X12_row_54 {X : zX} {d : Nat} {Q : Option Value → zH → Prop} (σ : zS) (l1 : Int32) (l2 : Int32) (l3 : Int32) (l4 : Int32)  : zwp X d MX12_row 54 [.ref 66, .int l1, .int l2, .int l3, .int l4] [] (zen σ) Q = (if ((60 * l1) + 60) ≤ l4 then Q (some (.int 1)) (zen σ) else (zin l4 360 = true ∧ zwp X d MX12_row 54 [.ref 66, .int l1, .int l2, .int l3, .int (l4 + 1)] [] (zen (sl σ 97 (ix l4) 0)) Q)) :=
  Eq.trans (q_iload (pc := 54) dX12_row_54 rfl) (Eq.trans (q_bipush (v := 60) (pc := 56) dX12_row_56 rfl) (Eq.trans (q_iload_n (pc := 58) dX12_row_58 rfl rfl) (Eq.trans (q_imul (pc := 59) dX12_row_59) (Eq.trans (q_bipush (v := 60) (pc := 60) dX12_row_60 rfl) (Eq.trans (q_iadd (pc := 62) dX12_row_62) (Eq.trans (q_icmp_ge (tgt := 80) (pc := 63) dX12_row_63 rfl) (zite (fun hz1 => Eq.trans (q_iconst (v := 1) (pc := 80) dX12_row_80 rfl) (q_iret (pc := 81) dX12_row_81 rfl rfl)) (fun hz1 => Eq.trans (q_aload_n (pc := 66) dX12_row_66 rfl rfl) (Eq.trans (q_getf (pc := 67) dX12_row_67 zF_12_115 (z_rfr zl_66 zh_66 (by decide) rfl)) (Eq.trans (q_iload (pc := 70) dX12_row_70 rfl) (Eq.trans (q_lconst (v := 0) (pc := 72) dX12_row_72 rfl) (Eq.trans (q_lastore (pc := 73) dX12_row_73 (z_la zl_97 zh_97) (z_pl zl_97 zh_97)) (zand fun hz2 => Eq.trans (q_iinc (c := 1) (ls' := [.ref 66, .int l1, .int l2, .int l3, .int (l4 + 1)]) (pc := 74) dX12_row_74 rfl rfl rfl) (Eq.trans (q_goto (tgt := 54) (pc := 77) dX12_row_77 rfl) (rfl)))))))))))))))
theorem b_X12_shift_0 {X : zX} {d : Nat} {Q : Option Value → zH → Prop} (hd : 2 ≤ d) (σ : zS) (a2 : Int32) (a3 : Int32) (a4 : Int32) (a5 : Int32) (a6 : Int32)  : zwp X d MX12_shift 0 [.ref 66, .int a2, .int a3, .int a4, .int a5, .int a6, .null] [] (zen σ) Q = (if (f_X12_isShelf σ a2) = 0 then Q (some (.int (-1))) (zen σ) else (if ¬ (f_X12_isShelf σ a4) = 0 then (zin a2 6 = true ∧ (if (gi σ 95 (ix a2)) = (-1) then Q (some (.int (-11))) (zen σ) else (zin a4 6 = true ∧ (if ¬ (gi σ 95 (ix a4)) = (-1) then (zin a2 6 = true ∧ (if 0 ≤ (gi σ 95 (ix a2)) then Q (some (.int (-12))) (zen σ) else (zin a2 6 = true ∧ (zin a4 6 = true ∧ (if (gi σ 95 (ix a2)) = (gi σ 95 (ix a4)) then (if a6 < 0 then Q (some (.int (-13))) (zen σ) else (if a3 < 0 then Q (some (.int (-13))) (zen σ) else (if a5 < 0 then Q (some (.int (-13))) (zen σ) else (zin a2 6 = true ∧ (if ((gi σ 96 (ix a2)) - a6) < a3 then Q (some (.int (-13))) (zen σ) else (zin a4 6 = true ∧ (if a5 ≤ ((gi σ 96 (ix a4)) - a6) then zwp X d MX12_shift 113 [.ref 66, .int a2, .int a3, .int a4, .int a5, .int a6, .int 0] [] (zen σ) Q else Q (some (.int (-13))) (zen σ)))))))) else Q (some (.int (-12))) (zen σ)))))) else Q (some (.int (-11))) (zen σ))))) else Q (some (.int (-1))) (zen σ))) :=
  Eq.trans (q_iload_n (pc := 0) dX12_shift_0 rfl rfl) (Eq.trans (q_sumI (q_callS (as := [.int a2]) (rest := []) (l0 := [.int a2]) (pc := 1) dX12_shift_1 zSN_12_139 zC_12_139 rfl rfl rfl) (by omega) (s_X12_isShelf (hd := by omega) σ a2)) (Eq.trans (q_if_eq (tgt := 14) (pc := 4) dX12_shift_4 rfl) (zite (fun hz1 => Eq.trans (q_iconst (v := (-1)) (pc := 14) dX12_shift_14 rfl) (q_iret (pc := 15) dX12_shift_15 rfl rfl)) (fun hz1 => Eq.trans (q_iload_n (pc := 7) dX12_shift_7 rfl rfl) (Eq.trans (q_sumI (q_callS (as := [.int a4]) (rest := []) (l0 := [.int a4]) (pc := 8) dX12_shift_8 zSN_12_139 zC_12_139 rfl rfl rfl) (by omega) (s_X12_isShelf (hd := by omega) σ a4)) (Eq.trans (q_if_ne (tgt := 16) (pc := 11) dX12_shift_11 rfl) (zite (fun hz2 => Eq.trans (q_aload_n (pc := 16) dX12_shift_16 rfl rfl) (Eq.trans (q_getf (pc := 17) dX12_shift_17 zF_12_109 (z_rfr zl_66 zh_66 (by decide) rfl)) (Eq.trans (q_iload_n (pc := 20) dX12_shift_20 rfl rfl) (Eq.trans (qe_iaload (x := (gi σ 95 (ix a2))) (pc := 21) dX12_shift_21 (z_ia zl_95 zh_95 (by decide)) rfl) (zand fun hz3 => Eq.trans (q_iconst (v := (-1)) (pc := 22) dX12_shift_22 rfl) (Eq.trans (q_icmp_eq (tgt := 36) (pc := 23) dX12_shift_23 rfl) (zite (fun hz4 => Eq.trans (q_bipush (v := (-11)) (pc := 36) dX12_shift_36 rfl) (q_iret (pc := 38) dX12_shift_38 rfl rfl)) (fun hz4 => Eq.trans (q_aload_n (pc := 26) dX12_shift_26 rfl rfl) (Eq.trans (q_getf (pc := 27) dX12_shift_27 zF_12_109 (z_rfr zl_66 zh_66 (by decide) rfl)) (Eq.trans (q_iload_n (pc := 30) dX12_shift_30 rfl rfl) (Eq.trans (qe_iaload (x := (gi σ 95 (ix a4))) (pc := 31) dX12_shift_31 (z_ia zl_95 zh_95 (by decide)) rfl) (zand fun hz5 => Eq.trans (q_iconst (v := (-1)) (pc := 32) dX12_shift_32 rfl) (Eq.trans (q_icmp_ne (tgt := 39) (pc := 33) dX12_shift_33 rfl) (zite (fun hz6 => Eq.trans (q_aload_n (pc := 39) dX12_shift_39 rfl rfl) (Eq.trans (q_getf (pc := 40) dX12_shift_40 zF_12_109 (z_rfr zl_66 zh_66 (by decide) rfl)) (Eq.trans (q_iload_n (pc := 43) dX12_shift_43 rfl rfl) (Eq.trans (qe_iaload (x := (gi σ 95 (ix a2))) (pc := 44) dX12_shift_44 (z_ia zl_95 zh_95 (by decide)) rfl) (zand fun hz7 => Eq.trans (q_if_ge (tgt := 63) (pc := 45) dX12_shift_45 rfl) (zite (fun hz8 => Eq.trans (q_bipush (v := (-12)) (pc := 63) dX12_shift_63 rfl) (q_iret (pc := 65) dX12_shift_65 rfl rfl)) (fun hz8 => Eq.trans (q_aload_n (pc := 48) dX12_shift_48 rfl rfl) (Eq.trans (q_getf (pc := 49) dX12_shift_49 zF_12_109 (z_rfr zl_66 zh_66 (by decide) rfl)) (Eq.trans (q_iload_n (pc := 52) dX12_shift_52 rfl rfl) (Eq.trans (qe_iaload (x := (gi σ 95 (ix a2))) (pc := 53) dX12_shift_53 (z_ia zl_95 zh_95 (by decide)) rfl) (zand fun hz9 => Eq.trans (q_aload_n (pc := 54) dX12_shift_54 rfl rfl) (Eq.trans (q_getf (pc := 55) dX12_shift_55 zF_12_109 (z_rfr zl_66 zh_66 (by decide) rfl)) (Eq.trans (q_iload_n (pc := 58) dX12_shift_58 rfl rfl) (Eq.trans (qe_iaload (x := (gi σ 95 (ix a4))) (pc := 59) dX12_shift_59 (z_ia zl_95 zh_95 (by decide)) rfl) (zand fun hz10 => Eq.trans (q_icmp_eq (tgt := 66) (pc := 60) dX12_shift_60 rfl) (zite (fun hz11 => Eq.trans (q_iload (pc := 66) dX12_shift_66 rfl) (Eq.trans (q_if_lt (tgt := 107) (pc := 68) dX12_shift_68 rfl) (zite (fun hz12 => Eq.trans (q_bipush (v := (-13)) (pc := 107) dX12_shift_107 rfl) (q_iret (pc := 109) dX12_shift_109 rfl rfl)) (fun hz12 => Eq.trans (q_iload_n (pc := 71) dX12_shift_71 rfl rfl) (Eq.trans (q_if_lt (tgt := 107) (pc := 72) dX12_shift_72 rfl) (zite (fun hz13 => Eq.trans (q_bipush (v := (-13)) (pc := 107) dX12_shift_107 rfl) (q_iret (pc := 109) dX12_shift_109 rfl rfl)) (fun hz13 => Eq.trans (q_iload (pc := 75) dX12_shift_75 rfl) (Eq.trans (q_if_lt (tgt := 107) (pc := 77) dX12_shift_77 rfl) (zite (fun hz14 => Eq.trans (q_bipush (v := (-13)) (pc := 107) dX12_shift_107 rfl) (q_iret (pc := 109) dX12_shift_109 rfl rfl)) (fun hz14 => Eq.trans (q_iload_n (pc := 80) dX12_shift_80 rfl rfl) (Eq.trans (q_aload_n (pc := 81) dX12_shift_81 rfl rfl) (Eq.trans (q_getf (pc := 82) dX12_shift_82 zF_12_112 (z_rfr zl_66 zh_66 (by decide) rfl)) (Eq.trans (q_iload_n (pc := 85) dX12_shift_85 rfl rfl) (Eq.trans (qe_iaload (x := (gi σ 96 (ix a2))) (pc := 86) dX12_shift_86 (z_ia zl_96 zh_96 (by decide)) rfl) (zand fun hz15 => Eq.trans (q_iload (pc := 87) dX12_shift_87 rfl) (Eq.trans (q_isub (pc := 89) dX12_shift_89) (Eq.trans (q_icmp_gt (tgt := 107) (pc := 90) dX12_shift_90 rfl) (zite (fun hz16 => Eq.trans (q_bipush (v := (-13)) (pc := 107) dX12_shift_107 rfl) (q_iret (pc := 109) dX12_shift_109 rfl rfl)) (fun hz16 => Eq.trans (q_iload (pc := 93) dX12_shift_93 rfl) (Eq.trans (q_aload_n (pc := 95) dX12_shift_95 rfl rfl) (Eq.trans (q_getf (pc := 96) dX12_shift_96 zF_12_112 (z_rfr zl_66 zh_66 (by decide) rfl)) (Eq.trans (q_iload_n (pc := 99) dX12_shift_99 rfl rfl) (Eq.trans (qe_iaload (x := (gi σ 96 (ix a4))) (pc := 100) dX12_shift_100 (z_ia zl_96 zh_96 (by decide)) rfl) (zand fun hz17 => Eq.trans (q_iload (pc := 101) dX12_shift_101 rfl) (Eq.trans (q_isub (pc := 103) dX12_shift_103) (Eq.trans (q_icmp_le (tgt := 110) (pc := 104) dX12_shift_104 rfl) (zite (fun hz18 => Eq.trans (q_iconst (v := 0) (pc := 110) dX12_shift_110 rfl) (Eq.trans (q_istore (ls' := [.ref 66, .int a2, .int a3, .int a4, .int a5, .int a6, .int 0]) (pc := 111) dX12_shift_111 (Nat.le_of_ble_eq_true rfl) rfl) (rfl))) (fun hz18 => Eq.trans (q_bipush (v := (-13)) (pc := 107) dX12_shift_107 rfl) (q_iret (pc := 109) dX12_shift_109 rfl rfl))))))))))))))))))))))))))))) (fun hz11 => Eq.trans (q_bipush (v := (-12)) (pc := 63) dX12_shift_63 rfl) (q_iret (pc := 65) dX12_shift_65 rfl rfl)))))))))))))))))) (fun hz6 => Eq.trans (q_bipush (v := (-11)) (pc := 36) dX12_shift_36 rfl) (q_iret (pc := 38) dX12_shift_38 rfl rfl)))))))))))))))) (fun hz2 => Eq.trans (q_iconst (v := (-1)) (pc := 14) dX12_shift_14 rfl) (q_iret (pc := 15) dX12_shift_15 rfl rfl)))))))))
theorem b_X12_shift_113 {X : zX} {d : Nat} {Q : Option Value → zH → Prop} (σ : zS) (l1 : Int32) (l2 : Int32) (l3 : Int32) (l4 : Int32) (l5 : Int32) (l6 : Int32)  : zwp X d MX12_shift 113 [.ref 66, .int l1, .int l2, .int l3, .int l4, .int l5, .int l6] [] (zen σ) Q = (if l5 ≤ l6 then zwp X d MX12_shift 150 [.ref 66, .int l1, .int l2, .int l3, .int l4, .int l5, .int 0] [] (zen σ) Q else (zin (((60 * l1) + l2) + l6) 360 = true ∧ (zin l6 60 = true ∧ zwp X d MX12_shift 113 [.ref 66, .int l1, .int l2, .int l3, .int l4, .int l5, .int (l6 + 1)] [] (zen (sl σ 98 (ix l6) (gl σ 97 (ix (((60 * l1) + l2) + l6))))) Q))) :=
  Eq.trans (q_iload (pc := 113) dX12_shift_113 rfl) (Eq.trans (q_iload (pc := 115) dX12_shift_115 rfl) (Eq.trans (q_icmp_ge (tgt := 147) (pc := 117) dX12_shift_117 rfl) (zite (fun hz1 => Eq.trans (q_iconst (v := 0) (pc := 147) dX12_shift_147 rfl) (Eq.trans (q_istore (ls' := [.ref 66, .int l1, .int l2, .int l3, .int l4, .int l5, .int 0]) (pc := 148) dX12_shift_148 (Nat.le_of_ble_eq_true rfl) rfl) (rfl))) (fun hz1 => Eq.trans (q_aload_n (pc := 120) dX12_shift_120 rfl rfl) (Eq.trans (q_getf (pc := 121) dX12_shift_121 zF_12_119 (z_rfr zl_66 zh_66 (by decide) rfl)) (Eq.trans (q_iload (pc := 124) dX12_shift_124 rfl) (Eq.trans (q_aload_n (pc := 126) dX12_shift_126 rfl rfl) (Eq.trans (q_getf (pc := 127) dX12_shift_127 zF_12_115 (z_rfr zl_66 zh_66 (by decide) rfl)) (Eq.trans (q_bipush (v := 60) (pc := 130) dX12_shift_130 rfl) (Eq.trans (q_iload_n (pc := 132) dX12_shift_132 rfl rfl) (Eq.trans (q_imul (pc := 133) dX12_shift_133) (Eq.trans (q_iload_n (pc := 134) dX12_shift_134 rfl rfl) (Eq.trans (q_iadd (pc := 135) dX12_shift_135) (Eq.trans (q_iload (pc := 136) dX12_shift_136 rfl) (Eq.trans (q_iadd (pc := 138) dX12_shift_138) (Eq.trans (qe_laload (x := (gl σ 97 (ix (((60 * l1) + l2) + l6)))) (pc := 139) dX12_shift_139 (z_la zl_97 zh_97) rfl) (zand fun hz2 => Eq.trans (q_lastore (pc := 140) dX12_shift_140 (z_la zl_98 zh_98) (z_pl zl_98 zh_98)) (zand fun hz3 => Eq.trans (q_iinc (c := 1) (ls' := [.ref 66, .int l1, .int l2, .int l3, .int l4, .int l5, .int (l6 + 1)]) (pc := 141) dX12_shift_141 rfl rfl rfl) (Eq.trans (q_goto (tgt := 113) (pc := 144) dX12_shift_144 rfl) (rfl))))))))))))))))))))
theorem b_X12_shift_150 {X : zX} {d : Nat} {Q : Option Value → zH → Prop} (σ : zS) (l1 : Int32) (l2 : Int32) (l3 : Int32) (l4 : Int32) (l5 : Int32) (l6 : Int32)  : zwp X d MX12_shift 150 [.ref 66, .int l1, .int l2, .int l3, .int l4, .int l5, .int l6] [] (zen σ) Q = (if l5 ≤ l6 then Q (some (.int l5)) (zen σ) else (zin l6 60 = true ∧ (zin (((60 * l3) + l4) + l6) 360 = true ∧ zwp X d MX12_shift 150 [.ref 66, .int l1, .int l2, .int l3, .int l4, .int l5, .int (l6 + 1)] [] (zen (sl σ 97 (ix (((60 * l3) + l4) + l6)) (gl σ 98 (ix l6)))) Q))) :=
  Eq.trans (q_iload (pc := 150) dX12_shift_150 rfl) (Eq.trans (q_iload (pc := 152) dX12_shift_152 rfl) (Eq.trans (q_icmp_ge (tgt := 185) (pc := 154) dX12_shift_154 rfl) (zite (fun hz1 => Eq.trans (q_iload (pc := 185) dX12_shift_185 rfl) (q_iret (pc := 187) dX12_shift_187 rfl rfl)) (fun hz1 => Eq.trans (q_aload_n (pc := 157) dX12_shift_157 rfl rfl) (Eq.trans (q_getf (pc := 158) dX12_shift_158 zF_12_115 (z_rfr zl_66 zh_66 (by decide) rfl)) (Eq.trans (q_bipush (v := 60) (pc := 161) dX12_shift_161 rfl) (Eq.trans (q_iload_n (pc := 163) dX12_shift_163 rfl rfl) (Eq.trans (q_imul (pc := 164) dX12_shift_164) (Eq.trans (q_iload (pc := 165) dX12_shift_165 rfl) (Eq.trans (q_iadd (pc := 167) dX12_shift_167) (Eq.trans (q_iload (pc := 168) dX12_shift_168 rfl) (Eq.trans (q_iadd (pc := 170) dX12_shift_170) (Eq.trans (q_aload_n (pc := 171) dX12_shift_171 rfl rfl) (Eq.trans (q_getf (pc := 172) dX12_shift_172 zF_12_119 (z_rfr zl_66 zh_66 (by decide) rfl)) (Eq.trans (q_iload (pc := 175) dX12_shift_175 rfl) (Eq.trans (qe_laload (x := (gl σ 98 (ix l6))) (pc := 177) dX12_shift_177 (z_la zl_98 zh_98) rfl) (zand fun hz2 => Eq.trans (q_lastore (pc := 178) dX12_shift_178 (z_la zl_97 zh_97) (z_pl zl_97 zh_97)) (zand fun hz3 => Eq.trans (q_iinc (c := 1) (ls' := [.ref 66, .int l1, .int l2, .int l3, .int l4, .int l5, .int (l6 + 1)]) (pc := 179) dX12_shift_179 rfl rfl rfl) (Eq.trans (q_goto (tgt := 150) (pc := 182) dX12_shift_182 rfl) (rfl))))))))))))))))))))
theorem b_J0_indexOf_0f7a4_1006_0 {X : zX} {d : Nat} {Q : Option Value → zH → Prop} (hd : 1 ≤ d) (σ : zS) (a2 : Int32)  : zwp X d MJ0_indexOf_0f7a4 0 [.ref 1006, .int a2] [] (zen σ) Q = zwp X (d - 1) MJ0_indexOf_7cf53 0 [.ref 1006, .int a2, .int 0] [] (zen σ) (fun v h' => zwp X d MJ0_indexOf_0f7a4 6 [.ref 1006, .int a2] (zpsh v []) h' Q) :=
  Eq.trans (q_aload_n (pc := 0) dJ0_indexOf_0f7a4_0 rfl rfl) (Eq.trans (q_iload_n (pc := 1) dJ0_indexOf_0f7a4_1 rfl rfl) (Eq.trans (q_iconst (v := 0) (pc := 2) dJ0_indexOf_0f7a4_2 rfl) (zdpos (q_callV (as := [.int a2, .int 0]) (rest := []) (l0 := [.ref 1006, .int a2, .int 0]) (pc := 3) dJ0_indexOf_0f7a4_3 zC_21_633 rfl rfl rfl rfl) (by omega))))
theorem b_J0_indexOf_0f7a4_1006_6 {X : zX} {d : Nat} {Q : Option Value → zH → Prop} (σ : zS) (l1 : Int32) (t0 : Int32)  : zwp X d MJ0_indexOf_0f7a4 6 [.ref 1006, .int l1] [.int t0] (zen σ) Q = Q (some (.int t0)) (zen σ) :=
  q_iret (pc := 6) dJ0_indexOf_0f7a4_6 rfl rfl
theorem b_J0_indexOf_0f7a4_1007_0 {X : zX} {d : Nat} {Q : Option Value → zH → Prop} (hd : 1 ≤ d) (σ : zS) (a2 : Int32)  : zwp X d MJ0_indexOf_0f7a4 0 [.ref 1007, .int a2] [] (zen σ) Q = zwp X (d - 1) MJ0_indexOf_7cf53 0 [.ref 1007, .int a2, .int 0] [] (zen σ) (fun v h' => zwp X d MJ0_indexOf_0f7a4 6 [.ref 1007, .int a2] (zpsh v []) h' Q) :=
  Eq.trans (q_aload_n (pc := 0) dJ0_indexOf_0f7a4_0 rfl rfl) (Eq.trans (q_iload_n (pc := 1) dJ0_indexOf_0f7a4_1 rfl rfl) (Eq.trans (q_iconst (v := 0) (pc := 2) dJ0_indexOf_0f7a4_2 rfl) (zdpos (q_callV (as := [.int a2, .int 0]) (rest := []) (l0 := [.ref 1007, .int a2, .int 0]) (pc := 3) dJ0_indexOf_0f7a4_3 zC_21_633 rfl rfl rfl rfl) (by omega))))
theorem b_J0_indexOf_0f7a4_1007_6 {X : zX} {d : Nat} {Q : Option Value → zH → Prop} (σ : zS) (l1 : Int32) (t0 : Int32)  : zwp X d MJ0_indexOf_0f7a4 6 [.ref 1007, .int l1] [.int t0] (zen σ) Q = Q (some (.int t0)) (zen σ) :=
  q_iret (pc := 6) dJ0_indexOf_0f7a4_6 rfl rfl
theorem b_J0_indexOf_7cf53_1006_0 {X : zX} {d : Nat} {Q : Option Value → zH → Prop} (hd : 1 ≤ d) (σ : zS) (a2 : Int32) (a3 : Int32)  : zwp X d MJ0_indexOf_7cf53 0 [.ref 1006, .int a2, .int a3] [] (zen σ) Q = zwp X (d - 1) MJ0_length_8abf5 0 [.ref 1006] [] (zen σ) (fun v h' => zwp X d MJ0_indexOf_7cf53 17 [.ref 1006, .int a2, .int a3] (zpsh v [.int a3, .int a2, .ref 1008]) h' Q) :=
  Eq.trans (q_aload_n (pc := 0) dJ0_indexOf_7cf53_0 rfl rfl) (Eq.trans (q_sumI (q_callV (as := []) (rest := []) (l0 := [.ref 1006]) (pc := 1) dJ0_indexOf_7cf53_1 zC_21_492 rfl rfl rfl rfl) (by omega) (s_J0_isLatin1_aae02_1006 σ)) (Eq.trans (Eq.trans (q_if_eq (tgt := 23) (pc := 4) dJ0_indexOf_7cf53_4 rfl) (if_neg (by decide))) (Eq.trans (q_aload_n (pc := 7) dJ0_indexOf_7cf53_7 rfl rfl) (Eq.trans (q_getf (pc := 8) dJ0_indexOf_7cf53_8 zF_21_9 rfl) (Eq.trans (q_iload_n (pc := 11) dJ0_indexOf_7cf53_11 rfl rfl) (Eq.trans (q_iload_n (pc := 12) dJ0_indexOf_7cf53_12 rfl rfl) (Eq.trans (q_aload_n (pc := 13) dJ0_indexOf_7cf53_13 rfl rfl) (zdpos (q_callV (as := []) (rest := [.int a3, .int a2, .ref 1008]) (l0 := [.ref 1006]) (pc := 14) dJ0_indexOf_7cf53_14 zC_21_505 rfl rfl rfl rfl) (by omega)))))))))
theorem b_J0_indexOf_7cf53_1006_17 {X : zX} {d : Nat} {Q : Option Value → zH → Prop} (hd : 1 ≤ d) (σ : zS) (l1 : Int32) (l2 : Int32) (t0 : Int32) (t1 : Int32) (t2 : Int32)  : zwp X d MJ0_indexOf_7cf53 17 [.ref 1006, .int l1, .int l2] [.int t0, .int t1, .int t2, .ref 1008] (zen σ) Q = zwp X (d - 1) MJ1_indexOf_4cfef 0 [.ref 1008, .int t2, .int t1, .int t0] [] (zen σ) (fun v h' => zwp X d MJ0_indexOf_7cf53 20 [.ref 1006, .int l1, .int l2] (zpsh v []) h' Q) :=
  zdpos (q_callS (as := [.ref 1008, .int t2, .int t1, .int t0]) (rest := []) (l0 := [.ref 1008, .int t2, .int t1, .int t0]) (pc := 17) dJ0_indexOf_7cf53_17 zSN_21_637 zC_21_637 rfl rfl rfl) (by omega)
theorem b_J0_indexOf_7cf53_1006_20 {X : zX} {d : Nat} {Q : Option Value → zH → Prop} (σ : zS) (l1 : Int32) (l2 : Int32) (t0 : Int32)  : zwp X d MJ0_indexOf_7cf53 20 [.ref 1006, .int l1, .int l2] [.int t0] (zen σ) Q = Q (some (.int t0)) (zen σ) :=
  Eq.trans (q_goto (tgt := 36) (pc := 20) dJ0_indexOf_7cf53_20 rfl) (q_iret (pc := 36) dJ0_indexOf_7cf53_36 rfl rfl)
theorem b_J0_indexOf_7cf53_1007_0 {X : zX} {d : Nat} {Q : Option Value → zH → Prop} (hd : 1 ≤ d) (σ : zS) (a2 : Int32) (a3 : Int32)  : zwp X d MJ0_indexOf_7cf53 0 [.ref 1007, .int a2, .int a3] [] (zen σ) Q = zwp X (d - 1) MJ0_length_8abf5 0 [.ref 1007] [] (zen σ) (fun v h' => zwp X d MJ0_indexOf_7cf53 17 [.ref 1007, .int a2, .int a3] (zpsh v [.int a3, .int a2, .ref 1009]) h' Q) :=
  Eq.trans (q_aload_n (pc := 0) dJ0_indexOf_7cf53_0 rfl rfl) (Eq.trans (q_sumI (q_callV (as := []) (rest := []) (l0 := [.ref 1007]) (pc := 1) dJ0_indexOf_7cf53_1 zC_21_492 rfl rfl rfl rfl) (by omega) (s_J0_isLatin1_aae02_1007 σ)) (Eq.trans (Eq.trans (q_if_eq (tgt := 23) (pc := 4) dJ0_indexOf_7cf53_4 rfl) (if_neg (by decide))) (Eq.trans (q_aload_n (pc := 7) dJ0_indexOf_7cf53_7 rfl rfl) (Eq.trans (q_getf (pc := 8) dJ0_indexOf_7cf53_8 zF_21_9 rfl) (Eq.trans (q_iload_n (pc := 11) dJ0_indexOf_7cf53_11 rfl rfl) (Eq.trans (q_iload_n (pc := 12) dJ0_indexOf_7cf53_12 rfl rfl) (Eq.trans (q_aload_n (pc := 13) dJ0_indexOf_7cf53_13 rfl rfl) (zdpos (q_callV (as := []) (rest := [.int a3, .int a2, .ref 1009]) (l0 := [.ref 1007]) (pc := 14) dJ0_indexOf_7cf53_14 zC_21_505 rfl rfl rfl rfl) (by omega)))))))))
theorem b_J0_indexOf_7cf53_1007_17 {X : zX} {d : Nat} {Q : Option Value → zH → Prop} (hd : 1 ≤ d) (σ : zS) (l1 : Int32) (l2 : Int32) (t0 : Int32) (t1 : Int32) (t2 : Int32)  : zwp X d MJ0_indexOf_7cf53 17 [.ref 1007, .int l1, .int l2] [.int t0, .int t1, .int t2, .ref 1009] (zen σ) Q = zwp X (d - 1) MJ1_indexOf_4cfef 0 [.ref 1009, .int t2, .int t1, .int t0] [] (zen σ) (fun v h' => zwp X d MJ0_indexOf_7cf53 20 [.ref 1007, .int l1, .int l2] (zpsh v []) h' Q) :=
  zdpos (q_callS (as := [.ref 1009, .int t2, .int t1, .int t0]) (rest := []) (l0 := [.ref 1009, .int t2, .int t1, .int t0]) (pc := 17) dJ0_indexOf_7cf53_17 zSN_21_637 zC_21_637 rfl rfl rfl) (by omega)
theorem b_J0_indexOf_7cf53_1007_20 {X : zX} {d : Nat} {Q : Option Value → zH → Prop} (σ : zS) (l1 : Int32) (l2 : Int32) (t0 : Int32)  : zwp X d MJ0_indexOf_7cf53 20 [.ref 1007, .int l1, .int l2] [.int t0] (zen σ) Q = Q (some (.int t0)) (zen σ) :=
  Eq.trans (q_goto (tgt := 36) (pc := 20) dJ0_indexOf_7cf53_20 rfl) (q_iret (pc := 36) dJ0_indexOf_7cf53_36 rfl rfl)
theorem b_J1_indexOf_4cfef_1006_0 {X : zX} {d : Nat} {Q : Option Value → zH → Prop} (hd : 1 ≤ d) (σ : zS) (a2 : Int32) (a3 : Int32) (a4 : Int32)  : zwp X d MJ1_indexOf_4cfef 0 [.ref 1008, .int a2, .int a3, .int a4] [] (zen σ) Q = (if ¬ (f_J1_canEncode_9a6ad σ a2) = 0 then (if (zmx a3 0) < (zmn a4 6) then zwp X (d - 1) MJ1_indexOfChar_4cfef 0 [.ref 1008, .int a2, .int (zmx a3 0), .int (zmn a4 6), .null, .null] [] (zen σ) (fun v h' => zwp X d MJ1_indexOf_4cfef 36 [.ref 1008, .int a2, .int (zmx a3 0), .int (zmn a4 6)] (zpsh v []) h' Q) else Q (some (.int (-1))) (zen σ)) else Q (some (.int (-1))) (zen σ)) :=
  Eq.trans (q_iload_n (pc := 0) dJ1_indexOf_4cfef_0 rfl rfl) (Eq.trans (q_sumI (q_callS (as := [.int a2]) (rest := []) (l0 := [.int a2]) (pc := 1) dJ1_indexOf_4cfef_1 zSN_22_88 zC_22_88 rfl rfl rfl) (by omega) (s_J1_canEncode_9a6ad σ a2)) (Eq.trans (q_if_ne (tgt := 9) (pc := 4) dJ1_indexOf_4cfef_4 rfl) (zite (fun hz1 => Eq.trans (q_iload_n (pc := 9) dJ1_indexOf_4cfef_9 rfl rfl) (Eq.trans (q_iconst (v := 0) (pc := 10) dJ1_indexOf_4cfef_10 rfl) (Eq.trans (q_zmx (pc := 11) dJ1_indexOf_4cfef_11 zSP_22_92 (Nat.le_of_ble_eq_true rfl)) (Eq.trans (q_istore_n (ls' := [.ref 1008, .int a2, .int (zmx a3 0), .int a4]) (pc := 14) dJ1_indexOf_4cfef_14 rfl (Nat.le_of_ble_eq_true rfl) rfl) (Eq.trans (q_iload_n (pc := 15) dJ1_indexOf_4cfef_15 rfl rfl) (Eq.trans (q_aload_n (pc := 16) dJ1_indexOf_4cfef_16 rfl rfl) (Eq.trans (q_alen (v := 6) (pc := 17) dJ1_indexOf_4cfef_17 (rfl : zlen X (zen σ) 1008 = some 6) rfl) (Eq.trans (q_zmn (pc := 18) dJ1_indexOf_4cfef_18 zSP_22_38 (Nat.le_of_ble_eq_true rfl)) (Eq.trans (q_istore_n (ls' := [.ref 1008, .int a2, .int (zmx a3 0), .int (zmn a4 6)]) (pc := 21) dJ1_indexOf_4cfef_21 rfl (Nat.le_of_ble_eq_true rfl) rfl) (Eq.trans (q_iload_n (pc := 22) dJ1_indexOf_4cfef_22 rfl rfl) (Eq.trans (q_iload_n (pc := 23) dJ1_indexOf_4cfef_23 rfl rfl) (Eq.trans (q_icmp_lt (tgt := 29) (pc := 24) dJ1_indexOf_4cfef_24 rfl) (zite (fun hz2 => Eq.trans (q_aload_n (pc := 29) dJ1_indexOf_4cfef_29 rfl rfl) (Eq.trans (q_iload_n (pc := 30) dJ1_indexOf_4cfef_30 rfl rfl) (Eq.trans (q_iload_n (pc := 31) dJ1_indexOf_4cfef_31 rfl rfl) (Eq.trans (q_iload_n (pc := 32) dJ1_indexOf_4cfef_32 rfl rfl) (zdpos (q_callS (as := [.ref 1008, .int a2, .int (zmx a3 0), .int (zmn a4 6)]) (rest := []) (l0 := [.ref 1008, .int a2, .int (zmx a3 0), .int (zmn a4 6), .null, .null]) (pc := 33) dJ1_indexOf_4cfef_33 zSN_22_95 zC_22_95 rfl rfl rfl) (by omega)))))) (fun hz2 => Eq.trans (q_iconst (v := (-1)) (pc := 27) dJ1_indexOf_4cfef_27 rfl) (q_iret (pc := 28) dJ1_indexOf_4cfef_28 rfl rfl))))))))))))))) (fun hz1 => Eq.trans (q_iconst (v := (-1)) (pc := 7) dJ1_indexOf_4cfef_7 rfl) (q_iret (pc := 8) dJ1_indexOf_4cfef_8 rfl rfl)))))
theorem b_J1_indexOf_4cfef_1006_36 {X : zX} {d : Nat} {Q : Option Value → zH → Prop} (σ : zS) (l1 : Int32) (l2 : Int32) (l3 : Int32) (t0 : Int32)  : zwp X d MJ1_indexOf_4cfef 36 [.ref 1008, .int l1, .int l2, .int l3] [.int t0] (zen σ) Q = Q (some (.int t0)) (zen σ) :=
  q_iret (pc := 36) dJ1_indexOf_4cfef_36 rfl rfl
theorem b_J1_indexOf_4cfef_1007_0 {X : zX} {d : Nat} {Q : Option Value → zH → Prop} (hd : 1 ≤ d) (σ : zS) (a2 : Int32) (a3 : Int32) (a4 : Int32)  : zwp X d MJ1_indexOf_4cfef 0 [.ref 1009, .int a2, .int a3, .int a4] [] (zen σ) Q = (if ¬ (f_J1_canEncode_9a6ad σ a2) = 0 then (if (zmx a3 0) < (zmn a4 10) then zwp X (d - 1) MJ1_indexOfChar_4cfef 0 [.ref 1009, .int a2, .int (zmx a3 0), .int (zmn a4 10), .null, .null] [] (zen σ) (fun v h' => zwp X d MJ1_indexOf_4cfef 36 [.ref 1009, .int a2, .int (zmx a3 0), .int (zmn a4 10)] (zpsh v []) h' Q) else Q (some (.int (-1))) (zen σ)) else Q (some (.int (-1))) (zen σ)) :=
  Eq.trans (q_iload_n (pc := 0) dJ1_indexOf_4cfef_0 rfl rfl) (Eq.trans (q_sumI (q_callS (as := [.int a2]) (rest := []) (l0 := [.int a2]) (pc := 1) dJ1_indexOf_4cfef_1 zSN_22_88 zC_22_88 rfl rfl rfl) (by omega) (s_J1_canEncode_9a6ad σ a2)) (Eq.trans (q_if_ne (tgt := 9) (pc := 4) dJ1_indexOf_4cfef_4 rfl) (zite (fun hz1 => Eq.trans (q_iload_n (pc := 9) dJ1_indexOf_4cfef_9 rfl rfl) (Eq.trans (q_iconst (v := 0) (pc := 10) dJ1_indexOf_4cfef_10 rfl) (Eq.trans (q_zmx (pc := 11) dJ1_indexOf_4cfef_11 zSP_22_92 (Nat.le_of_ble_eq_true rfl)) (Eq.trans (q_istore_n (ls' := [.ref 1009, .int a2, .int (zmx a3 0), .int a4]) (pc := 14) dJ1_indexOf_4cfef_14 rfl (Nat.le_of_ble_eq_true rfl) rfl) (Eq.trans (q_iload_n (pc := 15) dJ1_indexOf_4cfef_15 rfl rfl) (Eq.trans (q_aload_n (pc := 16) dJ1_indexOf_4cfef_16 rfl rfl) (Eq.trans (q_alen (v := 10) (pc := 17) dJ1_indexOf_4cfef_17 (rfl : zlen X (zen σ) 1009 = some 10) rfl) (Eq.trans (q_zmn (pc := 18) dJ1_indexOf_4cfef_18 zSP_22_38 (Nat.le_of_ble_eq_true rfl)) (Eq.trans (q_istore_n (ls' := [.ref 1009, .int a2, .int (zmx a3 0), .int (zmn a4 10)]) (pc := 21) dJ1_indexOf_4cfef_21 rfl (Nat.le_of_ble_eq_true rfl) rfl) (Eq.trans (q_iload_n (pc := 22) dJ1_indexOf_4cfef_22 rfl rfl) (Eq.trans (q_iload_n (pc := 23) dJ1_indexOf_4cfef_23 rfl rfl) (Eq.trans (q_icmp_lt (tgt := 29) (pc := 24) dJ1_indexOf_4cfef_24 rfl) (zite (fun hz2 => Eq.trans (q_aload_n (pc := 29) dJ1_indexOf_4cfef_29 rfl rfl) (Eq.trans (q_iload_n (pc := 30) dJ1_indexOf_4cfef_30 rfl rfl) (Eq.trans (q_iload_n (pc := 31) dJ1_indexOf_4cfef_31 rfl rfl) (Eq.trans (q_iload_n (pc := 32) dJ1_indexOf_4cfef_32 rfl rfl) (zdpos (q_callS (as := [.ref 1009, .int a2, .int (zmx a3 0), .int (zmn a4 10)]) (rest := []) (l0 := [.ref 1009, .int a2, .int (zmx a3 0), .int (zmn a4 10), .null, .null]) (pc := 33) dJ1_indexOf_4cfef_33 zSN_22_95 zC_22_95 rfl rfl rfl) (by omega)))))) (fun hz2 => Eq.trans (q_iconst (v := (-1)) (pc := 27) dJ1_indexOf_4cfef_27 rfl) (q_iret (pc := 28) dJ1_indexOf_4cfef_28 rfl rfl))))))))))))))) (fun hz1 => Eq.trans (q_iconst (v := (-1)) (pc := 7) dJ1_indexOf_4cfef_7 rfl) (q_iret (pc := 8) dJ1_indexOf_4cfef_8 rfl rfl)))))
theorem b_J1_indexOf_4cfef_1007_36 {X : zX} {d : Nat} {Q : Option Value → zH → Prop} (σ : zS) (l1 : Int32) (l2 : Int32) (l3 : Int32) (t0 : Int32)  : zwp X d MJ1_indexOf_4cfef 36 [.ref 1009, .int l1, .int l2, .int l3] [.int t0] (zen σ) Q = Q (some (.int t0)) (zen σ) :=
  q_iret (pc := 36) dJ1_indexOf_4cfef_36 rfl rfl
theorem b_J1_indexOfChar_4cfef_1006_0 {X : zX} {d : Nat} {Q : Option Value → zH → Prop} (σ : zS) (a2 : Int32) (a3 : Int32) (a4 : Int32)  : zwp X d MJ1_indexOfChar_4cfef 0 [.ref 1008, .int a2, .int a3, .int a4, .null, .null] [] (zen σ) Q = zwp X d MJ1_indexOfChar_4cfef 7 [.ref 1008, .int a2, .int a3, .int a4, .int ((Int32.toInt8 a2).toInt32), .int a3] [] (zen σ) Q :=
  Eq.trans (q_iload_n (pc := 0) dJ1_indexOfChar_4cfef_0 rfl rfl) (Eq.trans (q_i2b (pc := 1) dJ1_indexOfChar_4cfef_1) (Eq.trans (q_istore (ls' := [.ref 1008, .int a2, .int a3, .int a4, .int ((Int32.toInt8 a2).toInt32), .null]) (pc := 2) dJ1_indexOfChar_4cfef_2 (Nat.le_of_ble_eq_true rfl) rfl) (Eq.trans (q_iload_n (pc := 4) dJ1_indexOfChar_4cfef_4 rfl rfl) (Eq.trans (q_istore (ls' := [.ref 1008, .int a2, .int a3, .int a4, .int ((Int32.toInt8 a2).toInt32), .int a3]) (pc := 5) dJ1_indexOfChar_4cfef_5 (Nat.le_of_ble_eq_true rfl) rfl) (rfl)))))
theorem b_J1_indexOfChar_4cfef_1006_7 {X : zX} {d : Nat} {Q : Option Value → zH → Prop} (σ : zS) (l1 : Int32) (l2 : Int32) (l3 : Int32) (l4 : Int32) (l5 : Int32)  : zwp X d MJ1_indexOfChar_4cfef 7 [.ref 1008, .int l1, .int l2, .int l3, .int l4, .int l5] [] (zen σ) Q = (if l3 ≤ l5 then Q (some (.int (-1))) (zen σ) else (zin l5 6 = true ∧ (if ¬ (zK8 (ix l5)) = l4 then zwp X d MJ1_indexOfChar_4cfef 7 [.ref 1008, .int l1, .int l2, .int l3, .int l4, .int (l5 + 1)] [] (zen σ) Q else Q (some (.int l5)) (zen σ)))) :=
  Eq.trans (q_iload (pc := 7) dJ1_indexOfChar_4cfef_7 rfl) (Eq.trans (q_iload_n (pc := 9) dJ1_indexOfChar_4cfef_9 rfl rfl) (Eq.trans (q_icmp_ge (tgt := 31) (pc := 10) dJ1_indexOfChar_4cfef_10 rfl) (zite (fun hz1 => Eq.trans (q_iconst (v := (-1)) (pc := 31) dJ1_indexOfChar_4cfef_31 rfl) (q_iret (pc := 32) dJ1_indexOfChar_4cfef_32 rfl rfl)) (fun hz1 => Eq.trans (q_aload_n (pc := 13) dJ1_indexOfChar_4cfef_13 rfl rfl) (Eq.trans (q_iload (pc := 14) dJ1_indexOfChar_4cfef_14 rfl) (Eq.trans (qe_baload (x := (zK8 (ix l5))) (pc := 16) dJ1_indexOfChar_4cfef_16 (rfl : zia X (zen σ) 2 1008 = some (6, zK8)) rfl) (zand fun hz2 => Eq.trans (q_iload (pc := 17) dJ1_indexOfChar_4cfef_17 rfl) (Eq.trans (q_icmp_ne (tgt := 25) (pc := 19) dJ1_indexOfChar_4cfef_19 rfl) (zite (fun hz3 => Eq.trans (q_iinc (c := 1) (ls' := [.ref 1008, .int l1, .int l2, .int l3, .int l4, .int (l5 + 1)]) (pc := 25) dJ1_indexOfChar_4cfef_25 rfl rfl rfl) (Eq.trans (q_goto (tgt := 7) (pc := 28) dJ1_indexOfChar_4cfef_28 rfl) (rfl))) (fun hz3 => Eq.trans (q_iload (pc := 22) dJ1_indexOfChar_4cfef_22 rfl) (q_iret (pc := 24) dJ1_indexOfChar_4cfef_24 rfl rfl)))))))))))
theorem b_J1_indexOfChar_4cfef_1007_0 {X : zX} {d : Nat} {Q : Option Value → zH → Prop} (σ : zS) (a2 : Int32) (a3 : Int32) (a4 : Int32)  : zwp X d MJ1_indexOfChar_4cfef 0 [.ref 1009, .int a2, .int a3, .int a4, .null, .null] [] (zen σ) Q = zwp X d MJ1_indexOfChar_4cfef 7 [.ref 1009, .int a2, .int a3, .int a4, .int ((Int32.toInt8 a2).toInt32), .int a3] [] (zen σ) Q :=
  Eq.trans (q_iload_n (pc := 0) dJ1_indexOfChar_4cfef_0 rfl rfl) (Eq.trans (q_i2b (pc := 1) dJ1_indexOfChar_4cfef_1) (Eq.trans (q_istore (ls' := [.ref 1009, .int a2, .int a3, .int a4, .int ((Int32.toInt8 a2).toInt32), .null]) (pc := 2) dJ1_indexOfChar_4cfef_2 (Nat.le_of_ble_eq_true rfl) rfl) (Eq.trans (q_iload_n (pc := 4) dJ1_indexOfChar_4cfef_4 rfl rfl) (Eq.trans (q_istore (ls' := [.ref 1009, .int a2, .int a3, .int a4, .int ((Int32.toInt8 a2).toInt32), .int a3]) (pc := 5) dJ1_indexOfChar_4cfef_5 (Nat.le_of_ble_eq_true rfl) rfl) (rfl)))))
theorem b_J1_indexOfChar_4cfef_1007_7 {X : zX} {d : Nat} {Q : Option Value → zH → Prop} (σ : zS) (l1 : Int32) (l2 : Int32) (l3 : Int32) (l4 : Int32) (l5 : Int32)  : zwp X d MJ1_indexOfChar_4cfef 7 [.ref 1009, .int l1, .int l2, .int l3, .int l4, .int l5] [] (zen σ) Q = (if l3 ≤ l5 then Q (some (.int (-1))) (zen σ) else (zin l5 10 = true ∧ (if ¬ (zK9 (ix l5)) = l4 then zwp X d MJ1_indexOfChar_4cfef 7 [.ref 1009, .int l1, .int l2, .int l3, .int l4, .int (l5 + 1)] [] (zen σ) Q else Q (some (.int l5)) (zen σ)))) :=
  Eq.trans (q_iload (pc := 7) dJ1_indexOfChar_4cfef_7 rfl) (Eq.trans (q_iload_n (pc := 9) dJ1_indexOfChar_4cfef_9 rfl rfl) (Eq.trans (q_icmp_ge (tgt := 31) (pc := 10) dJ1_indexOfChar_4cfef_10 rfl) (zite (fun hz1 => Eq.trans (q_iconst (v := (-1)) (pc := 31) dJ1_indexOfChar_4cfef_31 rfl) (q_iret (pc := 32) dJ1_indexOfChar_4cfef_32 rfl rfl)) (fun hz1 => Eq.trans (q_aload_n (pc := 13) dJ1_indexOfChar_4cfef_13 rfl rfl) (Eq.trans (q_iload (pc := 14) dJ1_indexOfChar_4cfef_14 rfl) (Eq.trans (qe_baload (x := (zK9 (ix l5))) (pc := 16) dJ1_indexOfChar_4cfef_16 (rfl : zia X (zen σ) 2 1009 = some (10, zK9)) rfl) (zand fun hz2 => Eq.trans (q_iload (pc := 17) dJ1_indexOfChar_4cfef_17 rfl) (Eq.trans (q_icmp_ne (tgt := 25) (pc := 19) dJ1_indexOfChar_4cfef_19 rfl) (zite (fun hz3 => Eq.trans (q_iinc (c := 1) (ls' := [.ref 1009, .int l1, .int l2, .int l3, .int l4, .int (l5 + 1)]) (pc := 25) dJ1_indexOfChar_4cfef_25 rfl rfl rfl) (Eq.trans (q_goto (tgt := 7) (pc := 28) dJ1_indexOfChar_4cfef_28 rfl) (rfl))) (fun hz3 => Eq.trans (q_iload (pc := 22) dJ1_indexOfChar_4cfef_22 rfl) (q_iret (pc := 24) dJ1_indexOfChar_4cfef_24 rfl rfl)))))))))))
