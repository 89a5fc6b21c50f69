set_option maxRecDepth 100000
theorem dX11_redo_0 : decode cX11_redo 0 = .ok (.aload_n 0, 1) := by decide +kernel
theorem dX11_redo_1 : decode cX11_redo 1 = .ok (.getfield 49, 3) := by decide +kernel
theorem dX11_redo_4 : decode cX11_redo 4 = .ok (.getfield 266, 3) := by decide +kernel
theorem dX11_redo_7 : decode cX11_redo 7 = .ok (.aload_n 0, 1) := by decide +kernel
theorem dX11_redo_8 : decode cX11_redo 8 = .ok (.getfield 49, 3) := by decide +kernel
theorem dX11_redo_11 : decode cX11_redo 11 = .ok (.getfield 273, 3) := by decide +kernel
theorem dX11_redo_14 : decode cX11_redo 14 = .ok (.if_icmp .ne 8, 3) := by decide +kernel
theorem dX11_redo_17 : decode cX11_redo 17 = .ok (.bipush (-5), 2) := by decide +kernel
theorem dX11_redo_19 : decode cX11_redo 19 = .ok (.goto 14, 3) := by decide +kernel
theorem dX11_redo_22 : decode cX11_redo 22 = .ok (.aload_n 0, 1) := by decide +kernel
theorem dX11_redo_23 : decode cX11_redo 23 = .ok (.getfield 49, 3) := by decide +kernel
theorem dX11_redo_26 : decode cX11_redo 26 = .ok (.aload_n 0, 1) := by decide +kernel
theorem dX11_redo_27 : decode cX11_redo 27 = .ok (.getfield 10, 3) := by decide +kernel
theorem dX11_redo_30 : decode cX11_redo 30 = .ok (.invokevirtual 276, 3) := by decide +kernel
theorem dX11_redo_33 : decode cX11_redo 33 = .ok (.ireturn, 1) := by decide +kernel
theorem dX11_refusalOfTwo_0 : decode cX11_refusalOfTwo 0 = .ok (.iload_n 1, 1) := by decide +kernel
theorem dX11_refusalOfTwo_1 : decode cX11_refusalOfTwo 1 = .ok (.invokestatic 300, 3) := by decide +kernel
theorem dX11_refusalOfTwo_4 : decode cX11_refusalOfTwo 4 = .ok (.ifCond .eq 10, 3) := by decide +kernel
theorem dX11_refusalOfTwo_7 : decode cX11_refusalOfTwo 7 = .ok (.iload_n 2, 1) := by decide +kernel
theorem dX11_refusalOfTwo_8 : decode cX11_refusalOfTwo 8 = .ok (.invokestatic 300, 3) := by decide +kernel
theorem dX11_refusalOfTwo_11 : decode cX11_refusalOfTwo 11 = .ok (.ifCond .ne 5, 3) := by decide +kernel
theorem dX11_refusalOfTwo_14 : decode cX11_refusalOfTwo 14 = .ok (.iconst (-1), 1) := by decide +kernel
theorem dX11_refusalOfTwo_15 : decode cX11_refusalOfTwo 15 = .ok (.ireturn, 1) := by decide +kernel
theorem dX11_refusalOfTwo_16 : decode cX11_refusalOfTwo 16 = .ok (.aload_n 0, 1) := by decide +kernel
theorem dX11_refusalOfTwo_17 : decode cX11_refusalOfTwo 17 = .ok (.getfield 55, 3) := by decide +kernel
theorem dX11_refusalOfTwo_20 : decode cX11_refusalOfTwo 20 = .ok (.iload_n 1, 1) := by decide +kernel
theorem dX11_refusalOfTwo_21 : decode cX11_refusalOfTwo 21 = .ok (.aaload, 1) := by decide +kernel
theorem dX11_refusalOfTwo_22 : decode cX11_refusalOfTwo 22 = .ok (.getfield 347, 3) := by decide +kernel
theorem dX11_refusalOfTwo_25 : decode cX11_refusalOfTwo 25 = .ok (.istore_n 3, 1) := by decide +kernel
theorem dX11_refusalOfTwo_26 : decode cX11_refusalOfTwo 26 = .ok (.aload_n 0, 1) := by decide +kernel
theorem dX11_refusalOfTwo_27 : decode cX11_refusalOfTwo 27 = .ok (.iload_n 1, 1) := by decide +kernel
theorem dX11_refusalOfTwo_28 : decode cX11_refusalOfTwo 28 = .ok (.iload_n 3, 1) := by decide +kernel
theorem dX11_refusalOfTwo_29 : decode cX11_refusalOfTwo 29 = .ok (.invokevirtual 99, 3) := by decide +kernel
theorem dX11_refusalOfTwo_32 : decode cX11_refusalOfTwo 32 = .ok (.aload_n 0, 1) := by decide +kernel
theorem dX11_refusalOfTwo_33 : decode cX11_refusalOfTwo 33 = .ok (.iload_n 2, 1) := by decide +kernel
theorem dX11_refusalOfTwo_34 : decode cX11_refusalOfTwo 34 = .ok (.iload_n 3, 1) := by decide +kernel
theorem dX11_refusalOfTwo_35 : decode cX11_refusalOfTwo 35 = .ok (.invokevirtual 99, 3) := by decide +kernel
theorem dX11_refusalOfTwo_38 : decode cX11_refusalOfTwo 38 = .ok (.invokestatic 350, 3) := by decide +kernel
theorem dX11_refusalOfTwo_41 : decode cX11_refusalOfTwo 41 = .ok (.ireturn, 1) := by decide +kernel
theorem dX11_salt_0 : decode cX11_salt 0 = .ok (.iload_n 1, 1) := by decide +kernel
theorem dX11_salt_1 : decode cX11_salt 1 = .ok (.ifCond .lt 9, 3) := by decide +kernel
theorem dX11_salt_4 : decode cX11_salt 4 = .ok (.iload_n 1, 1) := by decide +kernel
theorem dX11_salt_5 : decode cX11_salt 5 = .ok (.bipush 16, 2) := by decide +kernel
theorem dX11_salt_7 : decode cX11_salt 7 = .ok (.if_icmp .lt 5, 3) := by decide +kernel
theorem dX11_salt_10 : decode cX11_salt 10 = .ok (.iconst (-1), 1) := by decide +kernel
theorem dX11_salt_11 : decode cX11_salt 11 = .ok (.ireturn, 1) := by decide +kernel
theorem dX11_salt_12 : decode cX11_salt 12 = .ok (.aload_n 0, 1) := by decide +kernel
theorem dX11_salt_13 : decode cX11_salt 13 = .ok (.getfield 42, 3) := by decide +kernel
theorem dX11_salt_16 : decode cX11_salt 16 = .ok (.getfield 62, 3) := by decide +kernel
theorem dX11_salt_19 : decode cX11_salt 19 = .ok (.getfield 128, 3) := by decide +kernel
theorem dX11_salt_22 : decode cX11_salt 22 = .ok (.iload_n 1, 1) := by decide +kernel
theorem dX11_salt_23 : decode cX11_salt 23 = .ok (.iaload, 1) := by decide +kernel
theorem dX11_salt_24 : decode cX11_salt 24 = .ok (.istore_n 2, 1) := by decide +kernel
theorem dX11_salt_25 : decode cX11_salt 25 = .ok (.aload_n 0, 1) := by decide +kernel
theorem dX11_salt_26 : decode cX11_salt 26 = .ok (.getfield 42, 3) := by decide +kernel
theorem dX11_salt_29 : decode cX11_salt 29 = .ok (.getfield 62, 3) := by decide +kernel
theorem dX11_salt_32 : decode cX11_salt 32 = .ok (.getfield 128, 3) := by decide +kernel
theorem dX11_salt_35 : decode cX11_salt 35 = .ok (.iload_n 1, 1) := by decide +kernel
theorem dX11_salt_36 : decode cX11_salt 36 = .ok (.iconst 0, 1) := by decide +kernel
theorem dX11_salt_37 : decode cX11_salt 37 = .ok (.iastore, 1) := by decide +kernel
theorem dX11_salt_38 : decode cX11_salt 38 = .ok (.iload_n 2, 1) := by decide +kernel
theorem dX11_salt_39 : decode cX11_salt 39 = .ok (.ireturn, 1) := by decide +kernel
theorem dX11_shift_0 : decode cX11_shift 0 = .ok (.aload_n 0, 1) := by decide +kernel
theorem dX11_shift_1 : decode cX11_shift 1 = .ok (.iload_n 1, 1) := by decide +kernel
theorem dX11_shift_2 : decode cX11_shift 2 = .ok (.iload_n 3, 1) := by decide +kernel
theorem dX11_shift_3 : decode cX11_shift 3 = .ok (.invokevirtual 323, 3) := by decide +kernel
theorem dX11_shift_6 : decode cX11_shift 6 = .ok (.istore 6, 2) := by decide +kernel
theorem dX11_shift_8 : decode cX11_shift 8 = .ok (.iload 6, 2) := by decide +kernel
theorem dX11_shift_10 : decode cX11_shift 10 = .ok (.ifCond .eq 6, 3) := by decide +kernel
theorem dX11_shift_13 : decode cX11_shift 13 = .ok (.iload 6, 2) := by decide +kernel
theorem dX11_shift_15 : decode cX11_shift 15 = .ok (.ireturn, 1) := by decide +kernel
theorem dX11_shift_16 : decode cX11_shift 16 = .ok (.aload_n 0, 1) := by decide +kernel
theorem dX11_shift_17 : decode cX11_shift 17 = .ok (.getfield 55, 3) := by decide +kernel
theorem dX11_shift_20 : decode cX11_shift 20 = .ok (.iload_n 1, 1) := by decide +kernel
theorem dX11_shift_21 : decode cX11_shift 21 = .ok (.aaload, 1) := by decide +kernel
theorem dX11_shift_22 : decode cX11_shift 22 = .ok (.astore 7, 2) := by decide +kernel
theorem dX11_shift_24 : decode cX11_shift 24 = .ok (.aload_n 0, 1) := by decide +kernel
theorem dX11_shift_25 : decode cX11_shift 25 = .ok (.getfield 55, 3) := by decide +kernel
theorem dX11_shift_28 : decode cX11_shift 28 = .ok (.iload_n 3, 1) := by decide +kernel
theorem dX11_shift_29 : decode cX11_shift 29 = .ok (.aaload, 1) := by decide +kernel
theorem dX11_shift_30 : decode cX11_shift 30 = .ok (.astore 8, 2) := by decide +kernel
theorem dX11_shift_32 : decode cX11_shift 32 = .ok (.aload 7, 2) := by decide +kernel
theorem dX11_shift_34 : decode cX11_shift 34 = .ok (.iload_n 2, 1) := by decide +kernel
theorem dX11_shift_35 : decode cX11_shift 35 = .ok (.iload 5, 2) := by decide +kernel
theorem dX11_shift_37 : decode cX11_shift 37 = .ok (.invokevirtual 326, 3) := by decide +kernel
theorem dX11_shift_40 : decode cX11_shift 40 = .ok (.ifCond .eq 15, 3) := by decide +kernel
theorem dX11_shift_43 : decode cX11_shift 43 = .ok (.aload 8, 2) := by decide +kernel
theorem dX11_shift_45 : decode cX11_shift 45 = .ok (.iload 4, 2) := by decide +kernel
theorem dX11_shift_47 : decode cX11_shift 47 = .ok (.iload 5, 2) := by decide +kernel
theorem dX11_shift_49 : decode cX11_shift 49 = .ok (.invokevirtual 326, 3) := by decide +kernel
theorem dX11_shift_52 : decode cX11_shift 52 = .ok (.ifCond .ne 6, 3) := by decide +kernel
theorem dX11_shift_55 : decode cX11_shift 55 = .ok (.bipush (-13), 2) := by decide +kernel
theorem dX11_shift_57 : decode cX11_shift 57 = .ok (.ireturn, 1) := by decide +kernel
theorem dX11_shift_58 : decode cX11_shift 58 = .ok (.aload 7, 2) := by decide +kernel
theorem dX11_shift_60 : decode cX11_shift 60 = .ok (.getfield 319, 3) := by decide +kernel
theorem dX11_shift_63 : decode cX11_shift 63 = .ok (.iload_n 2, 1) := by decide +kernel
theorem dX11_shift_64 : decode cX11_shift 64 = .ok (.aload 8, 2) := by decide +kernel
theorem dX11_shift_66 : decode cX11_shift 66 = .ok (.getfield 319, 3) := by decide +kernel
theorem dX11_shift_69 : decode cX11_shift 69 = .ok (.iload 4, 2) := by decide +kernel
theorem dX11_shift_71 : decode cX11_shift 71 = .ok (.iload 5, 2) := by decide +kernel
theorem dX11_shift_73 : decode cX11_shift 73 = .ok (.invokestatic 329, 3) := by decide +kernel
theorem dX11_shift_76 : decode cX11_shift 76 = .ok (.iload 5, 2) := by decide +kernel
theorem dX11_shift_78 : decode cX11_shift 78 = .ok (.ireturn, 1) := by decide +kernel
theorem dX11_trace_0 : decode cX11_trace 0 = .ok (.iload_n 1, 1) := by decide +kernel
theorem dX11_trace_1 : decode cX11_trace 1 = .ok (.ifCond .lt 19, 3) := by decide +kernel
theorem dX11_trace_4 : decode cX11_trace 4 = .ok (.iload_n 1, 1) := by decide +kernel
theorem dX11_trace_5 : decode cX11_trace 5 = .ok (.aload_n 0, 1) := by decide +kernel
theorem dX11_trace_6 : decode cX11_trace 6 = .ok (.getfield 83, 3) := by decide +kernel
theorem dX11_trace_9 : decode cX11_trace 9 = .ok (.getfield 283, 3) := by decide +kernel
theorem dX11_trace_12 : decode cX11_trace 12 = .ok (.bipush 24, 2) := by decide +kernel
theorem dX11_trace_14 : decode cX11_trace 14 = .ok (.invokestatic 292, 3) := by decide +kernel
theorem dX11_trace_17 : decode cX11_trace 17 = .ok (.if_icmp .lt 7, 3) := by decide +kernel
theorem dX11_trace_20 : decode cX11_trace 20 = .ok (.iconst (-1), 1) := by decide +kernel
theorem dX11_trace_21 : decode cX11_trace 21 = .ok (.goto 12, 3) := by decide +kernel
theorem dX11_trace_24 : decode cX11_trace 24 = .ok (.aload_n 0, 1) := by decide +kernel
theorem dX11_trace_25 : decode cX11_trace 25 = .ok (.getfield 83, 3) := by decide +kernel
theorem dX11_trace_28 : decode cX11_trace 28 = .ok (.getfield 297, 3) := by decide +kernel
theorem dX11_trace_31 : decode cX11_trace 31 = .ok (.iload_n 1, 1) := by decide +kernel
theorem dX11_trace_32 : decode cX11_trace 32 = .ok (.iaload, 1) := by decide +kernel
theorem dX11_trace_33 : decode cX11_trace 33 = .ok (.ireturn, 1) := by decide +kernel
theorem dX5_addTurn_0 : decode cX5_addTurn 0 = .ok (.aload_n 0, 1) := by decide +kernel
theorem dX5_addTurn_1 : decode cX5_addTurn 1 = .ok (.getfield 11, 3) := by decide +kernel
theorem dX5_addTurn_4 : decode cX5_addTurn 4 = .ok (.bipush 32, 2) := by decide +kernel
theorem dX5_addTurn_6 : decode cX5_addTurn 6 = .ok (.aload_n 0, 1) := by decide +kernel
theorem dX5_addTurn_7 : decode cX5_addTurn 7 = .ok (.getfield 25, 3) := by decide +kernel
theorem dX5_addTurn_10 : decode cX5_addTurn 10 = .ok (.iadd, 1) := by decide +kernel
theorem dX5_addTurn_11 : decode cX5_addTurn 11 = .ok (.iload_n 1, 1) := by decide +kernel
theorem dX5_addTurn_12 : decode cX5_addTurn 12 = .ok (.iastore, 1) := by decide +kernel
theorem dX5_addTurn_13 : decode cX5_addTurn 13 = .ok (.aload_n 0, 1) := by decide +kernel
theorem dX5_addTurn_14 : decode cX5_addTurn 14 = .ok (.getfield 11, 3) := by decide +kernel
theorem dX5_addTurn_17 : decode cX5_addTurn 17 = .ok (.bipush 40, 2) := by decide +kernel
theorem dX5_addTurn_19 : decode cX5_addTurn 19 = .ok (.aload_n 0, 1) := by decide +kernel
theorem dX5_addTurn_20 : decode cX5_addTurn 20 = .ok (.getfield 25, 3) := by decide +kernel
theorem dX5_addTurn_23 : decode cX5_addTurn 23 = .ok (.iadd, 1) := by decide +kernel
theorem dX5_addTurn_24 : decode cX5_addTurn 24 = .ok (.iload_n 2, 1) := by decide +kernel
theorem dX5_addTurn_25 : decode cX5_addTurn 25 = .ok (.iastore, 1) := by decide +kernel
theorem dX5_addTurn_26 : decode cX5_addTurn 26 = .ok (.aload_n 0, 1) := by decide +kernel
theorem dX5_addTurn_27 : decode cX5_addTurn 27 = .ok (.dup, 1) := by decide +kernel
theorem dX5_addTurn_28 : decode cX5_addTurn 28 = .ok (.getfield 28, 3) := by decide +kernel
theorem dX5_addTurn_31 : decode cX5_addTurn 31 = .ok (.iconst 1, 1) := by decide +kernel
theorem dX5_addTurn_32 : decode cX5_addTurn 32 = .ok (.iadd, 1) := by decide +kernel
theorem dX5_addTurn_33 : decode cX5_addTurn 33 = .ok (.putfield 28, 3) := by decide +kernel
theorem dX5_addTurn_36 : decode cX5_addTurn 36 = .ok (.aload_n 0, 1) := by decide +kernel
theorem dX5_addTurn_37 : decode cX5_addTurn 37 = .ok (.dup, 1) := by decide +kernel
theorem dX5_addTurn_38 : decode cX5_addTurn 38 = .ok (.getfield 25, 3) := by decide +kernel
theorem dX5_addTurn_41 : decode cX5_addTurn 41 = .ok (.dup_x1, 1) := by decide +kernel
theorem dX5_addTurn_42 : decode cX5_addTurn 42 = .ok (.iconst 1, 1) := by decide +kernel
theorem dX5_addTurn_43 : decode cX5_addTurn 43 = .ok (.iadd, 1) := by decide +kernel
theorem dX5_addTurn_44 : decode cX5_addTurn 44 = .ok (.putfield 25, 3) := by decide +kernel
theorem dX5_addTurn_47 : decode cX5_addTurn 47 = .ok (.ireturn, 1) := by decide +kernel
theorem dX11_turn_0 : decode cX11_turn 0 = .ok (.iconst 4, 1) := by decide +kernel
theorem dX11_turn_1 : decode cX11_turn 1 = .ok (.iload_n 1, 1) := by decide +kernel
theorem dX11_turn_2 : decode cX11_turn 2 = .ok (.invokestatic 87, 3) := by decide +kernel
theorem dX11_turn_5 : decode cX11_turn 5 = .ok (.ifCond .eq 11, 3) := by decide +kernel
theorem dX11_turn_8 : decode cX11_turn 8 = .ok (.iconst 5, 1) := by decide +kernel
theorem dX11_turn_9 : decode cX11_turn 9 = .ok (.iload_n 2, 1) := by decide +kernel
theorem dX11_turn_10 : decode cX11_turn 10 = .ok (.invokestatic 87, 3) := by decide +kernel
theorem dX11_turn_13 : decode cX11_turn 13 = .ok (.ifCond .ne 5, 3) := by decide +kernel
theorem dX11_turn_16 : decode cX11_turn 16 = .ok (.iconst (-1), 1) := by decide +kernel
theorem dX11_turn_17 : decode cX11_turn 17 = .ok (.ireturn, 1) := by decide +kernel
theorem dX11_turn_18 : decode cX11_turn 18 = .ok (.aload_n 0, 1) := by decide +kernel
theorem dX11_turn_19 : decode cX11_turn 19 = .ok (.getfield 10, 3) := by decide +kernel
theorem dX11_turn_22 : decode cX11_turn 22 = .ok (.getfield 107, 3) := by decide +kernel
theorem dX11_turn_25 : decode cX11_turn 25 = .ok (.bipush 8, 2) := by decide +kernel
theorem dX11_turn_27 : decode cX11_turn 27 = .ok (.if_icmp .ne 8, 3) := by decide +kernel
theorem dX11_turn_30 : decode cX11_turn 30 = .ok (.bipush (-3), 2) := by decide +kernel
theorem dX11_turn_32 : decode cX11_turn 32 = .ok (.goto 12, 3) := by decide +kernel
theorem dX11_turn_35 : decode cX11_turn 35 = .ok (.aload_n 0, 1) := by decide +kernel
theorem dX11_turn_36 : decode cX11_turn 36 = .ok (.getfield 10, 3) := by decide +kernel
theorem dX11_turn_39 : decode cX11_turn 39 = .ok (.iload_n 1, 1) := by decide +kernel
theorem dX11_turn_40 : decode cX11_turn 40 = .ok (.iload_n 2, 1) := by decide +kernel
theorem dX11_turn_41 : decode cX11_turn 41 = .ok (.invokevirtual 110, 3) := by decide +kernel
theorem dX11_turn_44 : decode cX11_turn 44 = .ok (.ireturn, 1) := by decide +kernel
theorem dX3_takeBack_0 : decode cX3_takeBack 0 = .ok (.aload_n 0, 1) := by decide +kernel
theorem dX3_takeBack_1 : decode cX3_takeBack 1 = .ok (.dup, 1) := by decide +kernel
theorem dX3_takeBack_2 : decode cX3_takeBack 2 = .ok (.getfield 19, 3) := by decide +kernel
theorem dX3_takeBack_5 : decode cX3_takeBack 5 = .ok (.iconst 1, 1) := by decide +kernel
theorem dX3_takeBack_6 : decode cX3_takeBack 6 = .ok (.isub, 1) := by decide +kernel
theorem dX3_takeBack_7 : decode cX3_takeBack 7 = .ok (.putfield 19, 3) := by decide +kernel
theorem dX3_takeBack_10 : decode cX3_takeBack 10 = .ok (.aload_n 1, 1) := by decide +kernel
theorem dX3_takeBack_11 : decode cX3_takeBack 11 = .ok (.aload_n 0, 1) := by decide +kernel
theorem dX3_takeBack_12 : decode cX3_takeBack 12 = .ok (.getfield 9, 3) := by decide +kernel
theorem dX3_takeBack_15 : decode cX3_takeBack 15 = .ok (.aload_n 0, 1) := by decide +kernel
theorem dX3_takeBack_16 : decode cX3_takeBack 16 = .ok (.getfield 19, 3) := by decide +kernel
theorem dX3_takeBack_19 : decode cX3_takeBack 19 = .ok (.iaload, 1) := by decide +kernel
theorem dX3_takeBack_20 : decode cX3_takeBack 20 = .ok (.aload_n 0, 1) := by decide +kernel
theorem dX3_takeBack_21 : decode cX3_takeBack 21 = .ok (.getfield 13, 3) := by decide +kernel
theorem dX3_takeBack_24 : decode cX3_takeBack 24 = .ok (.aload_n 0, 1) := by decide +kernel
theorem dX3_takeBack_25 : decode cX3_takeBack 25 = .ok (.getfield 19, 3) := by decide +kernel
theorem dX3_takeBack_28 : decode cX3_takeBack 28 = .ok (.iaload, 1) := by decide +kernel
theorem dX3_takeBack_29 : decode cX3_takeBack 29 = .ok (.invokevirtual 35, 3) := by decide +kernel
theorem dX3_takeBack_32 : decode cX3_takeBack 32 = .ok (.aload_n 0, 1) := by decide +kernel
theorem dX3_takeBack_33 : decode cX3_takeBack 33 = .ok (.getfield 19, 3) := by decide +kernel
theorem dX3_takeBack_36 : decode cX3_takeBack 36 = .ok (.ireturn, 1) := by decide +kernel
theorem dX11_undo_0 : decode cX11_undo 0 = .ok (.aload_n 0, 1) := by decide +kernel
theorem dX11_undo_1 : decode cX11_undo 1 = .ok (.getfield 49, 3) := by decide +kernel
theorem dX11_undo_4 : decode cX11_undo 4 = .ok (.getfield 266, 3) := by decide +kernel
theorem dX11_undo_7 : decode cX11_undo 7 = .ok (.ifCond .ne 8, 3) := by decide +kernel
theorem dX11_undo_10 : decode cX11_undo 10 = .ok (.bipush (-5), 2) := by decide +kernel
theorem dX11_undo_12 : decode cX11_undo 12 = .ok (.goto 14, 3) := by decide +kernel
theorem dX11_undo_15 : decode cX11_undo 15 = .ok (.aload_n 0, 1) := by decide +kernel
theorem dX11_undo_16 : decode cX11_undo 16 = .ok (.getfield 49, 3) := by decide +kernel
theorem dX11_undo_19 : decode cX11_undo 19 = .ok (.aload_n 0, 1) := by decide +kernel
theorem dX11_undo_20 : decode cX11_undo 20 = .ok (.getfield 10, 3) := by decide +kernel
theorem dX11_undo_23 : decode cX11_undo 23 = .ok (.invokevirtual 269, 3) := by decide +kernel
theorem dX11_undo_26 : decode cX11_undo 26 = .ok (.ireturn, 1) := by decide +kernel
theorem dX12_in_0 : decode cX12_in 0 = .ok (.iload_n 0, 1) := by decide +kernel
theorem dX12_in_1 : decode cX12_in 1 = .ok (.iload_n 1, 1) := by decide +kernel
theorem dX12_in_2 : decode cX12_in 2 = .ok (.if_icmp .lt 12, 3) := by decide +kernel
theorem dX12_in_5 : decode cX12_in 5 = .ok (.iload_n 0, 1) := by decide +kernel
theorem dX12_in_6 : decode cX12_in 6 = .ok (.iload_n 2, 1) := by decide +kernel
theorem dX12_in_7 : decode cX12_in 7 = .ok (.if_icmp .gt 7, 3) := by decide +kernel
theorem dX12_in_10 : decode cX12_in 10 = .ok (.iconst 1, 1) := by decide +kernel
theorem dX12_in_11 : decode cX12_in 11 = .ok (.goto 4, 3) := by decide +kernel
theorem dX12_in_14 : decode cX12_in 14 = .ok (.iconst 0, 1) := by decide +kernel
theorem dX12_in_15 : decode cX12_in 15 = .ok (.ireturn, 1) := by decide +kernel
theorem dX12_isBody_0 : decode cX12_isBody 0 = .ok (.iload_n 1, 1) := by decide +kernel
theorem dX12_isBody_1 : decode cX12_isBody 1 = .ok (.iconst 0, 1) := by decide +kernel
theorem dX12_isBody_2 : decode cX12_isBody 2 = .ok (.aload_n 0, 1) := by decide +kernel
theorem dX12_isBody_3 : decode cX12_isBody 3 = .ok (.getfield 364, 3) := by decide +kernel
theorem dX12_isBody_6 : decode cX12_isBody 6 = .ok (.iconst 1, 1) := by decide +kernel
theorem dX12_isBody_7 : decode cX12_isBody 7 = .ok (.isub, 1) := by decide +kernel
theorem dX12_isBody_8 : decode cX12_isBody 8 = .ok (.invokestatic 128, 3) := by decide +kernel
theorem dX12_isBody_11 : decode cX12_isBody 11 = .ok (.ireturn, 1) := by decide +kernel
theorem dX12_isUnder_0 : decode cX12_isUnder 0 = .ok (.iload_n 1, 1) := by decide +kernel
theorem dX12_isUnder_1 : decode cX12_isUnder 1 = .ok (.ifCond .eq 55, 3) := by decide +kernel
theorem dX12_isUnder_4 : decode cX12_isUnder 4 = .ok (.iload_n 0, 1) := by decide +kernel
theorem dX12_isUnder_5 : decode cX12_isUnder 5 = .ok (.iload_n 1, 1) := by decide +kernel
theorem dX12_isUnder_6 : decode cX12_isUnder 6 = .ok (.if_icmp .eq 50, 3) := by decide +kernel
theorem dX12_isUnder_9 : decode cX12_isUnder 9 = .ok (.iload_n 1, 1) := by decide +kernel
theorem dX12_isUnder_10 : decode cX12_isUnder 10 = .ok (.iconst 1, 1) := by decide +kernel
theorem dX12_isUnder_11 : decode cX12_isUnder 11 = .ok (.if_icmp .ne 8, 3) := by decide +kernel
theorem dX12_isUnder_14 : decode cX12_isUnder 14 = .ok (.iload_n 0, 1) := by decide +kernel
theorem dX12_isUnder_15 : decode cX12_isUnder 15 = .ok (.iconst 4, 1) := by decide +kernel
theorem dX12_isUnder_16 : decode cX12_isUnder 16 = .ok (.if_icmp .eq 40, 3) := by decide +kernel
theorem dX12_isUnder_19 : decode cX12_isUnder 19 = .ok (.iload_n 1, 1) := by decide +kernel
theorem dX12_isUnder_20 : decode cX12_isUnder 20 = .ok (.iconst 2, 1) := by decide +kernel
theorem dX12_isUnder_21 : decode cX12_isUnder 21 = .ok (.if_icmp .ne 13, 3) := by decide +kernel
theorem dX12_isUnder_24 : decode cX12_isUnder 24 = .ok (.iload_n 0, 1) := by decide +kernel
theorem dX12_isUnder_25 : decode cX12_isUnder 25 = .ok (.iconst 3, 1) := by decide +kernel
theorem dX12_isUnder_26 : decode cX12_isUnder 26 = .ok (.if_icmp .eq 30, 3) := by decide +kernel
theorem dX12_isUnder_29 : decode cX12_isUnder 29 = .ok (.iload_n 0, 1) := by decide +kernel
theorem dX12_isUnder_30 : decode cX12_isUnder 30 = .ok (.iconst 5, 1) := by decide +kernel
theorem dX12_isUnder_31 : decode cX12_isUnder 31 = .ok (.if_icmp .eq 25, 3) := by decide +kernel
theorem dX12_isUnder_34 : decode cX12_isUnder 34 = .ok (.iload_n 1, 1) := by decide +kernel
theorem dX12_isUnder_35 : decode cX12_isUnder 35 = .ok (.iconst 3, 1) := by decide +kernel
theorem dX12_isUnder_36 : decode cX12_isUnder 36 = .ok (.if_icmp .ne 8, 3) := by decide +kernel
theorem dX12_isUnder_39 : decode cX12_isUnder 39 = .ok (.iload_n 0, 1) := by decide +kernel
theorem dX12_isUnder_40 : decode cX12_isUnder 40 = .ok (.iconst 5, 1) := by decide +kernel
theorem dX12_isUnder_41 : decode cX12_isUnder 41 = .ok (.if_icmp .eq 15, 3) := by decide +kernel
theorem dX12_isUnder_44 : decode cX12_isUnder 44 = .ok (.iload_n 1, 1) := by decide +kernel
theorem dX12_isUnder_45 : decode cX12_isUnder 45 = .ok (.bipush 6, 2) := by decide +kernel
theorem dX12_isUnder_47 : decode cX12_isUnder 47 = .ok (.if_icmp .ne 13, 3) := by decide +kernel
theorem dX12_isUnder_50 : decode cX12_isUnder 50 = .ok (.iload_n 0, 1) := by decide +kernel
theorem dX12_isUnder_51 : decode cX12_isUnder 51 = .ok (.bipush 7, 2) := by decide +kernel
theorem dX12_isUnder_53 : decode cX12_isUnder 53 = .ok (.if_icmp .ne 7, 3) := by decide +kernel
theorem dX12_isUnder_56 : decode cX12_isUnder 56 = .ok (.iconst 1, 1) := by decide +kernel
theorem dX12_isUnder_57 : decode cX12_isUnder 57 = .ok (.goto 4, 3) := by decide +kernel
theorem dX12_isUnder_60 : decode cX12_isUnder 60 = .ok (.iconst 0, 1) := by decide +kernel
theorem dX12_isUnder_61 : decode cX12_isUnder 61 = .ok (.ireturn, 1) := by decide +kernel
theorem dX12_ran_0 : decode cX12_ran 0 = .ok (.aload_n 0, 1) := by decide +kernel
theorem dX12_ran_1 : decode cX12_ran 1 = .ok (.getfield 367, 3) := by decide +kernel
theorem dX12_ran_4 : decode cX12_ran 4 = .ok (.bipush 24, 2) := by decide +kernel
theorem dX12_ran_6 : decode cX12_ran 6 = .ok (.if_icmp .ge 13, 3) := by decide +kernel
theorem dX12_ran_9 : decode cX12_ran 9 = .ok (.aload_n 0, 1) := by decide +kernel
theorem dX12_ran_10 : decode cX12_ran 10 = .ok (.getfield 106, 3) := by decide +kernel
theorem dX12_ran_13 : decode cX12_ran 13 = .ok (.aload_n 0, 1) := by decide +kernel
theorem dX12_ran_14 : decode cX12_ran 14 = .ok (.getfield 367, 3) := by decide +kernel
theorem dX12_ran_17 : decode cX12_ran 17 = .ok (.iload_n 1, 1) := by decide +kernel
theorem dX12_ran_18 : decode cX12_ran 18 = .ok (.iastore, 1) := by decide +kernel
theorem dX12_ran_19 : decode cX12_ran 19 = .ok (.aload_n 0, 1) := by decide +kernel
theorem dX12_ran_20 : decode cX12_ran 20 = .ok (.dup, 1) := by decide +kernel
theorem dX12_ran_21 : decode cX12_ran 21 = .ok (.getfield 367, 3) := by decide +kernel
theorem dX12_ran_24 : decode cX12_ran 24 = .ok (.iconst 1, 1) := by decide +kernel
theorem dX12_ran_25 : decode cX12_ran 25 = .ok (.iadd, 1) := by decide +kernel
theorem dX12_ran_26 : decode cX12_ran 26 = .ok (.putfield 367, 3) := by decide +kernel
theorem dX12_ran_29 : decode cX12_ran 29 = .ok (.return_, 1) := by decide +kernel
theorem dX12_plainBears_0 : decode cX12_plainBears 0 = .ok (.aload_n 0, 1) := by decide +kernel
theorem dX12_plainBears_1 : decode cX12_plainBears 1 = .ok (.iconst 1, 1) := by decide +kernel
theorem dX12_plainBears_2 : decode cX12_plainBears 2 = .ok (.invokevirtual 370, 3) := by decide +kernel
theorem dX12_plainBears_5 : decode cX12_plainBears 5 = .ok (.iload_n 2, 1) := by decide +kernel
theorem dX12_plainBears_6 : decode cX12_plainBears 6 = .ok (.iload_n 1, 1) := by decide +kernel
theorem dX12_plainBears_7 : decode cX12_plainBears 7 = .ok (.iadd, 1) := by decide +kernel
theorem dX12_plainBears_8 : decode cX12_plainBears 8 = .ok (.ireturn, 1) := by decide +kernel
theorem dX12_hissBears_0 : decode cX12_hissBears 0 = .ok (.aload_n 0, 1) := by decide +kernel
theorem dX12_hissBears_1 : decode cX12_hissBears 1 = .ok (.bipush 70, 2) := by decide +kernel
theorem dX12_hissBears_3 : decode cX12_hissBears 3 = .ok (.invokevirtual 370, 3) := by decide +kernel
theorem dX12_hissBears_6 : decode cX12_hissBears 6 = .ok (.aload_n 0, 1) := by decide +kernel
theorem dX12_hissBears_7 : decode cX12_hissBears 7 = .ok (.iload_n 1, 1) := by decide +kernel
theorem dX12_hissBears_8 : decode cX12_hissBears 8 = .ok (.iload_n 2, 1) := by decide +kernel
theorem dX12_hissBears_9 : decode cX12_hissBears 9 = .ok (.invokevirtual 373, 3) := by decide +kernel
theorem dX12_hissBears_12 : decode cX12_hissBears 12 = .ok (.iconst 2, 1) := by decide +kernel
theorem dX12_hissBears_13 : decode cX12_hissBears 13 = .ok (.imul, 1) := by decide +kernel
theorem dX12_hissBears_14 : decode cX12_hissBears 14 = .ok (.ireturn, 1) := by decide +kernel
theorem dX12_bearing_0 : decode cX12_bearing 0 = .ok (.aload_n 0, 1) := by decide +kernel
theorem dX12_bearing_1 : decode cX12_bearing 1 = .ok (.getfield 103, 3) := by decide +kernel
theorem dX12_bearing_4 : decode cX12_bearing 4 = .ok (.iload_n 1, 1) := by decide +kernel
theorem dX12_bearing_5 : decode cX12_bearing 5 = .ok (.iaload, 1) := by decide +kernel
theorem dX12_bearing_6 : decode cX12_bearing 6 = .ok (.iconst 1, 1) := by decide +kernel
theorem dX12_bearing_7 : decode cX12_bearing 7 = .ok (.invokestatic 376, 3) := by decide +kernel
theorem dX12_bearing_10 : decode cX12_bearing 10 = .ok (.ifCond .eq 18, 3) := by decide +kernel
theorem dX12_bearing_13 : decode cX12_bearing 13 = .ok (.aload_n 0, 1) := by decide +kernel
theorem dX12_bearing_14 : decode cX12_bearing 14 = .ok (.bipush 20, 2) := by decide +kernel
theorem dX12_bearing_16 : decode cX12_bearing 16 = .ok (.invokevirtual 370, 3) := by decide +kernel
theorem dX12_bearing_19 : decode cX12_bearing 19 = .ok (.aload_n 0, 1) := by decide +kernel
theorem dX12_bearing_20 : decode cX12_bearing 20 = .ok (.iload_n 1, 1) := by decide +kernel
theorem dX12_bearing_21 : decode cX12_bearing 21 = .ok (.iload_n 2, 1) := by decide +kernel
theorem dX12_bearing_22 : decode cX12_bearing 22 = .ok (.invokevirtual 373, 3) := by decide +kernel
theorem dX12_bearing_25 : decode cX12_bearing 25 = .ok (.iconst 3, 1) := by decide +kernel
theorem dX12_bearing_26 : decode cX12_bearing 26 = .ok (.iadd, 1) := by decide +kernel
theorem dX12_bearing_27 : decode cX12_bearing 27 = .ok (.ireturn, 1) := by decide +kernel
theorem dX12_bearing_28 : decode cX12_bearing 28 = .ok (.aload_n 0, 1) := by decide +kernel
theorem dX12_bearing_29 : decode cX12_bearing 29 = .ok (.getfield 103, 3) := by decide +kernel
theorem dX12_bearing_32 : decode cX12_bearing 32 = .ok (.iload_n 1, 1) := by decide +kernel
theorem dX12_bearing_33 : decode cX12_bearing 33 = .ok (.iaload, 1) := by decide +kernel
theorem dX12_bearing_34 : decode cX12_bearing 34 = .ok (.bipush 7, 2) := by decide +kernel
theorem dX12_bearing_36 : decode cX12_bearing 36 = .ok (.if_icmp .ne 18, 3) := by decide +kernel
theorem dX12_bearing_39 : decode cX12_bearing 39 = .ok (.aload_n 0, 1) := by decide +kernel
theorem dX12_bearing_40 : decode cX12_bearing 40 = .ok (.bipush 81, 2) := by decide +kernel
theorem dX12_bearing_42 : decode cX12_bearing 42 = .ok (.invokevirtual 370, 3) := by decide +kernel
theorem dX12_bearing_45 : decode cX12_bearing 45 = .ok (.aload_n 0, 1) := by decide +kernel
theorem dX12_bearing_46 : decode cX12_bearing 46 = .ok (.iload_n 1, 1) := by decide +kernel
theorem dX12_bearing_47 : decode cX12_bearing 47 = .ok (.iload_n 2, 1) := by decide +kernel
theorem dX12_bearing_48 : decode cX12_bearing 48 = .ok (.invokevirtual 379, 3) := by decide +kernel
theorem dX12_bearing_51 : decode cX12_bearing 51 = .ok (.iconst 1, 1) := by decide +kernel
theorem dX12_bearing_52 : decode cX12_bearing 52 = .ok (.isub, 1) := by decide +kernel
theorem dX12_bearing_53 : decode cX12_bearing 53 = .ok (.ireturn, 1) := by decide +kernel
theorem dX12_bearing_54 : decode cX12_bearing 54 = .ok (.aload_n 0, 1) := by decide +kernel
theorem dX12_bearing_55 : decode cX12_bearing 55 = .ok (.getfield 103, 3) := by decide +kernel
theorem dX12_bearing_58 : decode cX12_bearing 58 = .ok (.iload_n 1, 1) := by decide +kernel
theorem dX12_bearing_59 : decode cX12_bearing 59 = .ok (.iaload, 1) := by decide +kernel
theorem dX12_bearing_60 : decode cX12_bearing 60 = .ok (.bipush 6, 2) := by decide +kernel
theorem dX12_bearing_62 : decode cX12_bearing 62 = .ok (.if_icmp .ne 12, 3) := by decide +kernel
theorem dX12_bearing_65 : decode cX12_bearing 65 = .ok (.aload_n 0, 1) := by decide +kernel
theorem dX12_bearing_66 : decode cX12_bearing 66 = .ok (.iload_n 1, 1) := by decide +kernel
theorem dX12_bearing_67 : decode cX12_bearing 67 = .ok (.iload_n 2, 1) := by decide +kernel
theorem dX12_bearing_68 : decode cX12_bearing 68 = .ok (.invokevirtual 379, 3) := by decide +kernel
theorem dX12_bearing_71 : decode cX12_bearing 71 = .ok (.goto 9, 3) := by decide +kernel
theorem dX12_bearing_74 : decode cX12_bearing 74 = .ok (.aload_n 0, 1) := by decide +kernel
theorem dX12_bearing_75 : decode cX12_bearing 75 = .ok (.iload_n 1, 1) := by decide +kernel
theorem dX12_bearing_76 : decode cX12_bearing 76 = .ok (.iload_n 2, 1) := by decide +kernel
theorem dX12_bearing_77 : decode cX12_bearing 77 = .ok (.invokevirtual 373, 3) := by decide +kernel
theorem dX12_bearing_80 : decode cX12_bearing 80 = .ok (.ireturn, 1) := by decide +kernel
theorem dX12_plainClaps_0 : decode cX12_plainClaps 0 = .ok (.aload_n 0, 1) := by decide +kernel
theorem dX12_plainClaps_1 : decode cX12_plainClaps 1 = .ok (.bipush 10, 2) := by decide +kernel
theorem dX12_plainClaps_3 : decode cX12_plainClaps 3 = .ok (.invokevirtual 370, 3) := by decide +kernel
theorem dX12_plainClaps_6 : decode cX12_plainClaps 6 = .ok (.aload_n 0, 1) := by decide +kernel
theorem dX12_plainClaps_7 : decode cX12_plainClaps 7 = .ok (.iload_n 1, 1) := by decide +kernel
theorem dX12_plainClaps_8 : decode cX12_plainClaps 8 = .ok (.iload_n 2, 1) := by decide +kernel
theorem dX12_plainClaps_9 : decode cX12_plainClaps 9 = .ok (.invokevirtual 382, 3) := by decide +kernel
theorem dX12_plainClaps_12 : decode cX12_plainClaps 12 = .ok (.iconst 2, 1) := by decide +kernel
theorem dX12_plainClaps_13 : decode cX12_plainClaps 13 = .ok (.imul, 1) := by decide +kernel
theorem dX12_plainClaps_14 : decode cX12_plainClaps 14 = .ok (.ireturn, 1) := by decide +kernel
theorem dX12_ovationClaps_0 : decode cX12_ovationClaps 0 = .ok (.aload_n 0, 1) := by decide +kernel
theorem dX12_ovationClaps_1 : decode cX12_ovationClaps 1 = .ok (.bipush 30, 2) := by decide +kernel
theorem dX12_ovationClaps_3 : decode cX12_ovationClaps 3 = .ok (.invokevirtual 370, 3) := by decide +kernel
theorem dX12_ovationClaps_6 : decode cX12_ovationClaps 6 = .ok (.aload_n 0, 1) := by decide +kernel
theorem dX12_ovationClaps_7 : decode cX12_ovationClaps 7 = .ok (.iload_n 1, 1) := by decide +kernel
theorem dX12_ovationClaps_8 : decode cX12_ovationClaps 8 = .ok (.iload_n 2, 1) := by decide +kernel
theorem dX12_ovationClaps_9 : decode cX12_ovationClaps 9 = .ok (.invokevirtual 385, 3) := by decide +kernel
theorem dX12_ovationClaps_12 : decode cX12_ovationClaps 12 = .ok (.ineg, 1) := by decide +kernel
theorem dX12_ovationClaps_13 : decode cX12_ovationClaps 13 = .ok (.ireturn, 1) := by decide +kernel
theorem dX12_plainThaws_0 : decode cX12_plainThaws 0 = .ok (.aload_n 0, 1) := by decide +kernel
theorem dX12_plainThaws_1 : decode cX12_plainThaws 1 = .ok (.bipush 11, 2) := by decide +kernel
theorem dX12_plainThaws_3 : decode cX12_plainThaws 3 = .ok (.invokevirtual 370, 3) := by decide +kernel
theorem dX12_plainThaws_6 : decode cX12_plainThaws 6 = .ok (.iload_n 2, 1) := by decide +kernel
theorem dX12_plainThaws_7 : decode cX12_plainThaws 7 = .ok (.iload_n 1, 1) := by decide +kernel
theorem dX12_plainThaws_8 : decode cX12_plainThaws 8 = .ok (.ixor, 1) := by decide +kernel
theorem dX12_plainThaws_9 : decode cX12_plainThaws 9 = .ok (.ireturn, 1) := by decide +kernel
theorem dX12_encoreThaws_0 : decode cX12_encoreThaws 0 = .ok (.aload_n 0, 1) := by decide +kernel
theorem dX12_encoreThaws_1 : decode cX12_encoreThaws 1 = .ok (.bipush 40, 2) := by decide +kernel
theorem dX12_encoreThaws_3 : decode cX12_encoreThaws 3 = .ok (.invokevirtual 370, 3) := by decide +kernel
theorem dX12_encoreThaws_6 : decode cX12_encoreThaws 6 = .ok (.aload_n 0, 1) := by decide +kernel
theorem dX12_encoreThaws_7 : decode cX12_encoreThaws 7 = .ok (.iload_n 1, 1) := by decide +kernel
theorem dX12_encoreThaws_8 : decode cX12_encoreThaws 8 = .ok (.iload_n 2, 1) := by decide +kernel
theorem dX12_encoreThaws_9 : decode cX12_encoreThaws 9 = .ok (.invokevirtual 394, 3) := by decide +kernel
theorem dX12_encoreThaws_12 : decode cX12_encoreThaws 12 = .ok (.iconst 3, 1) := by decide +kernel
theorem dX12_encoreThaws_13 : decode cX12_encoreThaws 13 = .ok (.imul, 1) := by decide +kernel
theorem dX12_encoreThaws_14 : decode cX12_encoreThaws 14 = .ok (.ireturn, 1) := by decide +kernel
theorem dX12_thawing_0 : decode cX12_thawing 0 = .ok (.aload_n 0, 1) := by decide +kernel
theorem dX12_thawing_1 : decode cX12_thawing 1 = .ok (.getfield 103, 3) := by decide +kernel
theorem dX12_thawing_4 : decode cX12_thawing 4 = .ok (.iload_n 1, 1) := by decide +kernel
theorem dX12_thawing_5 : decode cX12_thawing 5 = .ok (.iaload, 1) := by decide +kernel
theorem dX12_thawing_6 : decode cX12_thawing 6 = .ok (.iconst 5, 1) := by decide +kernel
theorem dX12_thawing_7 : decode cX12_thawing 7 = .ok (.if_icmp .ne 25, 3) := by decide +kernel
theorem dX12_thawing_10 : decode cX12_thawing 10 = .ok (.aload_n 0, 1) := by decide +kernel
theorem dX12_thawing_11 : decode cX12_thawing 11 = .ok (.bipush 60, 2) := by decide +kernel
theorem dX12_thawing_13 : decode cX12_thawing 13 = .ok (.invokevirtual 370, 3) := by decide +kernel
theorem dX12_thawing_16 : decode cX12_thawing 16 = .ok (.aload_n 0, 1) := by decide +kernel
theorem dX12_thawing_17 : decode cX12_thawing 17 = .ok (.iload_n 1, 1) := by decide +kernel
theorem dX12_thawing_18 : decode cX12_thawing 18 = .ok (.iload_n 2, 1) := by decide +kernel
theorem dX12_thawing_19 : decode cX12_thawing 19 = .ok (.invokevirtual 397, 3) := by decide +kernel
theorem dX12_thawing_22 : decode cX12_thawing 22 = .ok (.istore_n 3, 1) := by decide +kernel
theorem dX12_thawing_23 : decode cX12_thawing 23 = .ok (.iload_n 3, 1) := by decide +kernel
theorem dX12_thawing_24 : decode cX12_thawing 24 = .ok (.aload_n 0, 1) := by decide +kernel
theorem dX12_thawing_25 : decode cX12_thawing 25 = .ok (.iload_n 1, 1) := by decide +kernel
theorem dX12_thawing_26 : decode cX12_thawing 26 = .ok (.iconst 2, 1) := by decide +kernel
theorem dX12_thawing_27 : decode cX12_thawing 27 = .ok (.invokevirtual 382, 3) := by decide +kernel
theorem dX12_thawing_30 : decode cX12_thawing 30 = .ok (.isub, 1) := by decide +kernel
theorem dX12_thawing_31 : decode cX12_thawing 31 = .ok (.ireturn, 1) := by decide +kernel
theorem dX12_thawing_32 : decode cX12_thawing 32 = .ok (.aload_n 0, 1) := by decide +kernel
theorem dX12_thawing_33 : decode cX12_thawing 33 = .ok (.getfield 103, 3) := by decide +kernel
theorem dX12_thawing_36 : decode cX12_thawing 36 = .ok (.iload_n 1, 1) := by decide +kernel
theorem dX12_thawing_37 : decode cX12_thawing 37 = .ok (.iaload, 1) := by decide +kernel
theorem dX12_thawing_38 : decode cX12_thawing 38 = .ok (.iconst 3, 1) := by decide +kernel
theorem dX12_thawing_39 : decode cX12_thawing 39 = .ok (.if_icmp .ne 12, 3) := by decide +kernel
theorem dX12_thawing_42 : decode cX12_thawing 42 = .ok (.aload_n 0, 1) := by decide +kernel
theorem dX12_thawing_43 : decode cX12_thawing 43 = .ok (.iload_n 1, 1) := by decide +kernel
theorem dX12_thawing_44 : decode cX12_thawing 44 = .ok (.iload_n 2, 1) := by decide +kernel
theorem dX12_thawing_45 : decode cX12_thawing 45 = .ok (.invokevirtual 397, 3) := by decide +kernel
theorem dX12_thawing_48 : decode cX12_thawing 48 = .ok (.goto 9, 3) := by decide +kernel
theorem dX12_thawing_51 : decode cX12_thawing 51 = .ok (.aload_n 0, 1) := by decide +kernel
theorem dX12_thawing_52 : decode cX12_thawing 52 = .ok (.iload_n 1, 1) := by decide +kernel
theorem dX12_thawing_53 : decode cX12_thawing 53 = .ok (.iload_n 2, 1) := by decide +kernel
theorem dX12_thawing_54 : decode cX12_thawing 54 = .ok (.invokevirtual 394, 3) := by decide +kernel
theorem dX12_thawing_57 : decode cX12_thawing 57 = .ok (.ireturn, 1) := by decide +kernel
theorem dX12_clapping_0 : decode cX12_clapping 0 = .ok (.aload_n 0, 1) := by decide +kernel
theorem dX12_clapping_1 : decode cX12_clapping 1 = .ok (.getfield 103, 3) := by decide +kernel
theorem dX12_clapping_4 : decode cX12_clapping 4 = .ok (.iload_n 1, 1) := by decide +kernel
theorem dX12_clapping_5 : decode cX12_clapping 5 = .ok (.iaload, 1) := by decide +kernel
theorem dX12_clapping_6 : decode cX12_clapping 6 = .ok (.iconst 3, 1) := by decide +kernel
theorem dX12_clapping_7 : decode cX12_clapping 7 = .ok (.invokestatic 376, 3) := by decide +kernel
theorem dX12_clapping_10 : decode cX12_clapping 10 = .ok (.ifCond .eq 18, 3) := by decide +kernel
theorem dX12_clapping_13 : decode cX12_clapping 13 = .ok (.aload_n 0, 1) := by decide +kernel
theorem dX12_clapping_14 : decode cX12_clapping 14 = .ok (.bipush 41, 2) := by decide +kernel
theorem dX12_clapping_16 : decode cX12_clapping 16 = .ok (.invokevirtual 370, 3) := by decide +kernel
theorem dX12_clapping_19 : decode cX12_clapping 19 = .ok (.aload_n 0, 1) := by decide +kernel
theorem dX12_clapping_20 : decode cX12_clapping 20 = .ok (.iload_n 1, 1) := by decide +kernel
theorem dX12_clapping_21 : decode cX12_clapping 21 = .ok (.iload_n 2, 1) := by decide +kernel
theorem dX12_clapping_22 : decode cX12_clapping 22 = .ok (.iconst 1, 1) := by decide +kernel
theorem dX12_clapping_23 : decode cX12_clapping 23 = .ok (.iadd, 1) := by decide +kernel
theorem dX12_clapping_24 : decode cX12_clapping 24 = .ok (.invokevirtual 388, 3) := by decide +kernel
theorem dX12_clapping_27 : decode cX12_clapping 27 = .ok (.ireturn, 1) := by decide +kernel
theorem dX12_clapping_28 : decode cX12_clapping 28 = .ok (.aload_n 0, 1) := by decide +kernel
theorem dX12_clapping_29 : decode cX12_clapping 29 = .ok (.getfield 103, 3) := by decide +kernel
theorem dX12_clapping_32 : decode cX12_clapping 32 = .ok (.iload_n 1, 1) := by decide +kernel
theorem dX12_clapping_33 : decode cX12_clapping 33 = .ok (.iaload, 1) := by decide +kernel
theorem dX12_clapping_34 : decode cX12_clapping 34 = .ok (.bipush 7, 2) := by decide +kernel
theorem dX12_clapping_36 : decode cX12_clapping 36 = .ok (.if_icmp .ne 25, 3) := by decide +kernel
theorem dX12_clapping_39 : decode cX12_clapping 39 = .ok (.aload_n 0, 1) := by decide +kernel
theorem dX12_clapping_40 : decode cX12_clapping 40 = .ok (.bipush 80, 2) := by decide +kernel
theorem dX12_clapping_42 : decode cX12_clapping 42 = .ok (.invokevirtual 370, 3) := by decide +kernel
theorem dX12_clapping_45 : decode cX12_clapping 45 = .ok (.aload_n 0, 1) := by decide +kernel
theorem dX12_clapping_46 : decode cX12_clapping 46 = .ok (.iload_n 1, 1) := by decide +kernel
theorem dX12_clapping_47 : decode cX12_clapping 47 = .ok (.iload_n 2, 1) := by decide +kernel
theorem dX12_clapping_48 : decode cX12_clapping 48 = .ok (.invokevirtual 385, 3) := by decide +kernel
theorem dX12_clapping_51 : decode cX12_clapping 51 = .ok (.istore_n 3, 1) := by decide +kernel
theorem dX12_clapping_52 : decode cX12_clapping 52 = .ok (.iload_n 3, 1) := by decide +kernel
theorem dX12_clapping_53 : decode cX12_clapping 53 = .ok (.aload_n 0, 1) := by decide +kernel
theorem dX12_clapping_54 : decode cX12_clapping 54 = .ok (.iload_n 1, 1) := by decide +kernel
theorem dX12_clapping_55 : decode cX12_clapping 55 = .ok (.iconst 2, 1) := by decide +kernel
theorem dX12_clapping_56 : decode cX12_clapping 56 = .ok (.invokevirtual 391, 3) := by decide +kernel
theorem dX12_clapping_59 : decode cX12_clapping 59 = .ok (.iadd, 1) := by decide +kernel
theorem dX12_clapping_60 : decode cX12_clapping 60 = .ok (.ireturn, 1) := by decide +kernel
theorem dX12_clapping_61 : decode cX12_clapping 61 = .ok (.aload_n 0, 1) := by decide +kernel
theorem dX12_clapping_62 : decode cX12_clapping 62 = .ok (.getfield 103, 3) := by decide +kernel
theorem dX12_clapping_65 : decode cX12_clapping 65 = .ok (.iload_n 1, 1) := by decide +kernel
theorem dX12_clapping_66 : decode cX12_clapping 66 = .ok (.iaload, 1) := by decide +kernel
theorem dX12_clapping_67 : decode cX12_clapping 67 = .ok (.iconst 2, 1) := by decide +kernel
theorem dX12_clapping_68 : decode cX12_clapping 68 = .ok (.if_icmp .ne 12, 3) := by decide +kernel
theorem dX12_clapping_71 : decode cX12_clapping 71 = .ok (.aload_n 0, 1) := by decide +kernel
theorem dX12_clapping_72 : decode cX12_clapping 72 = .ok (.iload_n 1, 1) := by decide +kernel
theorem dX12_clapping_73 : decode cX12_clapping 73 = .ok (.iload_n 2, 1) := by decide +kernel
theorem dX12_clapping_74 : decode cX12_clapping 74 = .ok (.invokevirtual 388, 3) := by decide +kernel
theorem dX12_clapping_77 : decode cX12_clapping 77 = .ok (.goto 9, 3) := by decide +kernel
theorem dX12_clapping_80 : decode cX12_clapping 80 = .ok (.aload_n 0, 1) := by decide +kernel
theorem dX12_clapping_81 : decode cX12_clapping 81 = .ok (.iload_n 1, 1) := by decide +kernel
theorem dX12_clapping_82 : decode cX12_clapping 82 = .ok (.iload_n 2, 1) := by decide +kernel
theorem dX12_clapping_83 : decode cX12_clapping 83 = .ok (.invokevirtual 385, 3) := by decide +kernel
theorem dX12_clapping_86 : decode cX12_clapping 86 = .ok (.ireturn, 1) := by decide +kernel
theorem dX12_plainTells_0 : decode cX12_plainTells 0 = .ok (.aload_n 0, 1) := by decide +kernel
theorem dX12_plainTells_1 : decode cX12_plainTells 1 = .ok (.iconst 2, 1) := by decide +kernel
theorem dX12_plainTells_2 : decode cX12_plainTells 2 = .ok (.invokevirtual 370, 3) := by decide +kernel
theorem dX12_plainTells_5 : decode cX12_plainTells 5 = .ok (.aload_n 0, 1) := by decide +kernel
theorem dX12_plainTells_6 : decode cX12_plainTells 6 = .ok (.iload_n 1, 1) := by decide +kernel
theorem dX12_plainTells_7 : decode cX12_plainTells 7 = .ok (.iload_n 2, 1) := by decide +kernel
theorem dX12_plainTells_8 : decode cX12_plainTells 8 = .ok (.invokevirtual 400, 3) := by decide +kernel
theorem dX12_plainTells_11 : decode cX12_plainTells 11 = .ok (.istore_n 3, 1) := by decide +kernel
theorem dX12_plainTells_12 : decode cX12_plainTells 12 = .ok (.iload_n 3, 1) := by decide +kernel
theorem dX12_plainTells_13 : decode cX12_plainTells 13 = .ok (.aload_n 0, 1) := by decide +kernel
theorem dX12_plainTells_14 : decode cX12_plainTells 14 = .ok (.iload_n 1, 1) := by decide +kernel
theorem dX12_plainTells_15 : decode cX12_plainTells 15 = .ok (.iconst 1, 1) := by decide +kernel
theorem dX12_plainTells_16 : decode cX12_plainTells 16 = .ok (.invokevirtual 391, 3) := by decide +kernel
theorem dX12_plainTells_19 : decode cX12_plainTells 19 = .ok (.isub, 1) := by decide +kernel
theorem dX12_plainTells_20 : decode cX12_plainTells 20 = .ok (.ireturn, 1) := by decide +kernel
theorem dX12_telling_0 : decode cX12_telling 0 = .ok (.aload_n 0, 1) := by decide +kernel
theorem dX12_telling_1 : decode cX12_telling 1 = .ok (.getfield 103, 3) := by decide +kernel
theorem dX12_telling_4 : decode cX12_telling 4 = .ok (.iload_n 1, 1) := by decide +kernel
theorem dX12_telling_5 : decode cX12_telling 5 = .ok (.iaload, 1) := by decide +kernel
theorem dX12_telling_6 : decode cX12_telling 6 = .ok (.iconst 4, 1) := by decide +kernel
theorem dX12_telling_7 : decode cX12_telling 7 = .ok (.if_icmp .ne 18, 3) := by decide +kernel
theorem dX12_telling_10 : decode cX12_telling 10 = .ok (.aload_n 0, 1) := by decide +kernel
theorem dX12_telling_11 : decode cX12_telling 11 = .ok (.bipush 50, 2) := by decide +kernel
theorem dX12_telling_13 : decode cX12_telling 13 = .ok (.invokevirtual 370, 3) := by decide +kernel
theorem dX12_telling_16 : decode cX12_telling 16 = .ok (.aload_n 0, 1) := by decide +kernel
theorem dX12_telling_17 : decode cX12_telling 17 = .ok (.iload_n 1, 1) := by decide +kernel
theorem dX12_telling_18 : decode cX12_telling 18 = .ok (.iload_n 2, 1) := by decide +kernel
theorem dX12_telling_19 : decode cX12_telling 19 = .ok (.invokevirtual 403, 3) := by decide +kernel
theorem dX12_telling_22 : decode cX12_telling 22 = .ok (.iconst 5, 1) := by decide +kernel
theorem dX12_telling_23 : decode cX12_telling 23 = .ok (.ixor, 1) := by decide +kernel
theorem dX12_telling_24 : decode cX12_telling 24 = .ok (.ireturn, 1) := by decide +kernel
theorem dX12_telling_25 : decode cX12_telling 25 = .ok (.aload_n 0, 1) := by decide +kernel
theorem dX12_telling_26 : decode cX12_telling 26 = .ok (.getfield 103, 3) := by decide +kernel
theorem dX12_telling_29 : decode cX12_telling 29 = .ok (.iload_n 1, 1) := by decide +kernel
theorem dX12_telling_30 : decode cX12_telling 30 = .ok (.iaload, 1) := by decide +kernel
theorem dX12_telling_31 : decode cX12_telling 31 = .ok (.iconst 5, 1) := by decide +kernel
theorem dX12_telling_32 : decode cX12_telling 32 = .ok (.if_icmp .ne 18, 3) := by decide +kernel
theorem dX12_telling_35 : decode cX12_telling 35 = .ok (.aload_n 0, 1) := by decide +kernel
theorem dX12_telling_36 : decode cX12_telling 36 = .ok (.bipush 61, 2) := by decide +kernel
theorem dX12_telling_38 : decode cX12_telling 38 = .ok (.invokevirtual 370, 3) := by decide +kernel
theorem dX12_telling_41 : decode cX12_telling 41 = .ok (.aload_n 0, 1) := by decide +kernel
theorem dX12_telling_42 : decode cX12_telling 42 = .ok (.iload_n 1, 1) := by decide +kernel
theorem dX12_telling_43 : decode cX12_telling 43 = .ok (.iload_n 2, 1) := by decide +kernel
theorem dX12_telling_44 : decode cX12_telling 44 = .ok (.invokevirtual 403, 3) := by decide +kernel
theorem dX12_telling_47 : decode cX12_telling 47 = .ok (.iconst 1, 1) := by decide +kernel
theorem dX12_telling_48 : decode cX12_telling 48 = .ok (.iadd, 1) := by decide +kernel
theorem dX12_telling_49 : decode cX12_telling 49 = .ok (.ireturn, 1) := by decide +kernel
theorem dX12_telling_50 : decode cX12_telling 50 = .ok (.aload_n 0, 1) := by decide +kernel
theorem dX12_telling_51 : decode cX12_telling 51 = .ok (.iload_n 1, 1) := by decide +kernel
theorem dX12_telling_52 : decode cX12_telling 52 = .ok (.iload_n 2, 1) := by decide +kernel
theorem dX12_telling_53 : decode cX12_telling 53 = .ok (.invokevirtual 403, 3) := by decide +kernel
theorem dX12_telling_56 : decode cX12_telling 56 = .ok (.ireturn, 1) := by decide +kernel
theorem dX12_act_0 : decode cX12_act 0 = .ok (.aload_n 0, 1) := by decide +kernel
theorem dX12_act_1 : decode cX12_act 1 = .ok (.iconst 0, 1) := by decide +kernel
theorem dX12_act_2 : decode cX12_act 2 = .ok (.putfield 367, 3) := by decide +kernel
theorem dX12_act_5 : decode cX12_act 5 = .ok (.aload_n 0, 1) := by decide +kernel
theorem dX12_act_6 : decode cX12_act 6 = .ok (.iload_n 1, 1) := by decide +kernel
theorem dX12_act_7 : decode cX12_act 7 = .ok (.invokevirtual 406, 3) := by decide +kernel
theorem dX12_act_10 : decode cX12_act 10 = .ok (.ifCond .eq 12, 3) := by decide +kernel
theorem dX12_act_13 : decode cX12_act 13 = .ok (.iload_n 2, 1) := by decide +kernel
theorem dX12_act_14 : decode cX12_act 14 = .ok (.iconst 0, 1) := by decide +kernel
theorem dX12_act_15 : decode cX12_act 15 = .ok (.iconst 3, 1) := by decide +kernel
theorem dX12_act_16 : decode cX12_act 16 = .ok (.invokestatic 128, 3) := by decide +kernel
theorem dX12_act_19 : decode cX12_act 19 = .ok (.ifCond .ne 5, 3) := by decide +kernel
theorem dX12_act_22 : decode cX12_act 22 = .ok (.iconst 0, 1) := by decide +kernel
theorem dX12_act_23 : decode cX12_act 23 = .ok (.ireturn, 1) := by decide +kernel
theorem dX12_act_24 : decode cX12_act 24 = .ok (.iload_n 2, 1) := by decide +kernel
theorem dX12_act_25 : decode cX12_act 25 = .ok (.ifCond .ne 12, 3) := by decide +kernel
theorem dX12_act_28 : decode cX12_act 28 = .ok (.aload_n 0, 1) := by decide +kernel
theorem dX12_act_29 : decode cX12_act 29 = .ok (.iload_n 1, 1) := by decide +kernel
theorem dX12_act_30 : decode cX12_act 30 = .ok (.iload_n 3, 1) := by decide +kernel
theorem dX12_act_31 : decode cX12_act 31 = .ok (.invokevirtual 382, 3) := by decide +kernel
theorem dX12_act_34 : decode cX12_act 34 = .ok (.goto 37, 3) := by decide +kernel
theorem dX12_act_37 : decode cX12_act 37 = .ok (.iload_n 2, 1) := by decide +kernel
theorem dX12_act_38 : decode cX12_act 38 = .ok (.iconst 1, 1) := by decide +kernel
theorem dX12_act_39 : decode cX12_act 39 = .ok (.if_icmp .ne 12, 3) := by decide +kernel
theorem dX12_act_42 : decode cX12_act 42 = .ok (.aload_n 0, 1) := by decide +kernel
theorem dX12_act_43 : decode cX12_act 43 = .ok (.iload_n 1, 1) := by decide +kernel
theorem dX12_act_44 : decode cX12_act 44 = .ok (.iload_n 3, 1) := by decide +kernel
theorem dX12_act_45 : decode cX12_act 45 = .ok (.invokevirtual 400, 3) := by decide +kernel
theorem dX12_act_48 : decode cX12_act 48 = .ok (.goto 23, 3) := by decide +kernel
theorem dX12_act_51 : decode cX12_act 51 = .ok (.iload_n 2, 1) := by decide +kernel
theorem dX12_act_52 : decode cX12_act 52 = .ok (.iconst 2, 1) := by decide +kernel
theorem dX12_act_53 : decode cX12_act 53 = .ok (.if_icmp .ne 12, 3) := by decide +kernel
theorem dX12_act_56 : decode cX12_act 56 = .ok (.aload_n 0, 1) := by decide +kernel
theorem dX12_act_57 : decode cX12_act 57 = .ok (.iload_n 1, 1) := by decide +kernel
theorem dX12_act_58 : decode cX12_act 58 = .ok (.iload_n 3, 1) := by decide +kernel
theorem dX12_act_59 : decode cX12_act 59 = .ok (.invokevirtual 391, 3) := by decide +kernel
theorem dX12_act_62 : decode cX12_act 62 = .ok (.goto 9, 3) := by decide +kernel
theorem dX12_act_65 : decode cX12_act 65 = .ok (.aload_n 0, 1) := by decide +kernel
theorem dX12_act_66 : decode cX12_act 66 = .ok (.iload_n 1, 1) := by decide +kernel
theorem dX12_act_67 : decode cX12_act 67 = .ok (.iload_n 3, 1) := by decide +kernel
theorem dX12_act_68 : decode cX12_act 68 = .ok (.invokevirtual 409, 3) := by decide +kernel
theorem dX12_act_71 : decode cX12_act 71 = .ok (.ireturn, 1) := by decide +kernel
theorem dX12_addRow_0 : decode cX12_addRow 0 = .ok (.aload_n 0, 1) := by decide +kernel
theorem dX12_addRow_1 : decode cX12_addRow 1 = .ok (.getfield 7, 3) := by decide +kernel
theorem dX12_addRow_4 : decode cX12_addRow 4 = .ok (.aload_n 0, 1) := by decide +kernel
theorem dX12_addRow_5 : decode cX12_addRow 5 = .ok (.getfield 125, 3) := by decide +kernel
theorem dX12_addRow_8 : decode cX12_addRow 8 = .ok (.iload_n 1, 1) := by decide +kernel
theorem dX12_addRow_9 : decode cX12_addRow 9 = .ok (.iastore, 1) := by decide +kernel
theorem dX12_addRow_10 : decode cX12_addRow 10 = .ok (.aload_n 0, 1) := by decide +kernel
theorem dX12_addRow_11 : decode cX12_addRow 11 = .ok (.getfield 13, 3) := by decide +kernel
theorem dX12_addRow_14 : decode cX12_addRow 14 = .ok (.aload_n 0, 1) := by decide +kernel
theorem dX12_addRow_15 : decode cX12_addRow 15 = .ok (.getfield 125, 3) := by decide +kernel
theorem dX12_addRow_18 : decode cX12_addRow 18 = .ok (.iload_n 2, 1) := by decide +kernel
theorem dX12_addRow_19 : decode cX12_addRow 19 = .ok (.iastore, 1) := by decide +kernel
theorem dX12_addRow_20 : decode cX12_addRow 20 = .ok (.aload_n 0, 1) := by decide +kernel
theorem dX12_addRow_21 : decode cX12_addRow 21 = .ok (.getfield 16, 3) := by decide +kernel
theorem dX12_addRow_24 : decode cX12_addRow 24 = .ok (.aload_n 0, 1) := by decide +kernel
theorem dX12_addRow_25 : decode cX12_addRow 25 = .ok (.getfield 125, 3) := by decide +kernel
theorem dX12_addRow_28 : decode cX12_addRow 28 = .ok (.iconst 5, 1) := by decide +kernel
theorem dX12_addRow_29 : decode cX12_addRow 29 = .ok (.iastore, 1) := by decide +kernel
theorem dX12_addRow_30 : decode cX12_addRow 30 = .ok (.aload_n 0, 1) := by decide +kernel
theorem dX12_addRow_31 : decode cX12_addRow 31 = .ok (.getfield 19, 3) := by decide +kernel
theorem dX12_addRow_34 : decode cX12_addRow 34 = .ok (.aload_n 0, 1) := by decide +kernel
theorem dX12_addRow_35 : decode cX12_addRow 35 = .ok (.getfield 125, 3) := by decide +kernel
theorem dX12_addRow_38 : decode cX12_addRow 38 = .ok (.iload_n 3, 1) := by decide +kernel
theorem dX12_addRow_39 : decode cX12_addRow 39 = .ok (.iastore, 1) := by decide +kernel
theorem dX12_addRow_40 : decode cX12_addRow 40 = .ok (.aload_n 0, 1) := by decide +kernel
theorem dX12_addRow_41 : decode cX12_addRow 41 = .ok (.dup, 1) := by decide +kernel
theorem dX12_addRow_42 : decode cX12_addRow 42 = .ok (.getfield 125, 3) := by decide +kernel
theorem dX12_addRow_45 : decode cX12_addRow 45 = .ok (.iconst 1, 1) := by decide +kernel
theorem dX12_addRow_46 : decode cX12_addRow 46 = .ok (.iadd, 1) := by decide +kernel
theorem dX12_addRow_47 : decode cX12_addRow 47 = .ok (.putfield 125, 3) := by decide +kernel
theorem dX12_addRow_50 : decode cX12_addRow 50 = .ok (.aload_n 0, 1) := by decide +kernel
theorem dX12_addRow_51 : decode cX12_addRow 51 = .ok (.getfield 125, 3) := by decide +kernel
theorem dX12_addRow_54 : decode cX12_addRow 54 = .ok (.iconst 1, 1) := by decide +kernel
theorem dX12_addRow_55 : decode cX12_addRow 55 = .ok (.isub, 1) := by decide +kernel
theorem dX12_addRow_56 : decode cX12_addRow 56 = .ok (.ireturn, 1) := by decide +kernel
theorem dX12_addStep_0 : decode cX12_addStep 0 = .ok (.aload_n 0, 1) := by decide +kernel
theorem dX12_addStep_1 : decode cX12_addStep 1 = .ok (.getfield 54, 3) := by decide +kernel
theorem dX12_addStep_4 : decode cX12_addStep 4 = .ok (.sipush 130, 3) := by decide +kernel
theorem dX12_addStep_7 : decode cX12_addStep 7 = .ok (.aload_n 0, 1) := by decide +kernel
theorem dX12_addStep_8 : decode cX12_addStep 8 = .ok (.getfield 187, 3) := by decide +kernel
theorem dX12_addStep_11 : decode cX12_addStep 11 = .ok (.iadd, 1) := by decide +kernel
theorem dX12_addStep_12 : decode cX12_addStep 12 = .ok (.iload_n 1, 1) := by decide +kernel
theorem dX12_addStep_13 : decode cX12_addStep 13 = .ok (.i2b, 1) := by decide +kernel
theorem dX12_addStep_14 : decode cX12_addStep 14 = .ok (.bastore, 1) := by decide +kernel
theorem dX12_addStep_15 : decode cX12_addStep 15 = .ok (.aload_n 0, 1) := by decide +kernel
theorem dX12_addStep_16 : decode cX12_addStep 16 = .ok (.getfield 57, 3) := by decide +kernel
theorem dX12_addStep_19 : decode cX12_addStep 19 = .ok (.sipush 130, 3) := by decide +kernel
theorem dX12_addStep_22 : decode cX12_addStep 22 = .ok (.aload_n 0, 1) := by decide +kernel
theorem dX12_addStep_23 : decode cX12_addStep 23 = .ok (.getfield 187, 3) := by decide +kernel
theorem dX12_addStep_26 : decode cX12_addStep 26 = .ok (.iadd, 1) := by decide +kernel
theorem dX12_addStep_27 : decode cX12_addStep 27 = .ok (.iload_n 2, 1) := by decide +kernel
theorem dX12_addStep_28 : decode cX12_addStep 28 = .ok (.iastore, 1) := by decide +kernel
theorem dX12_addStep_29 : decode cX12_addStep 29 = .ok (.aload_n 0, 1) := by decide +kernel
theorem dX12_addStep_30 : decode cX12_addStep 30 = .ok (.dup, 1) := by decide +kernel
theorem dX12_addStep_31 : decode cX12_addStep 31 = .ok (.getfield 187, 3) := by decide +kernel
theorem dX12_addStep_34 : decode cX12_addStep 34 = .ok (.iconst 1, 1) := by decide +kernel
theorem dX12_addStep_35 : decode cX12_addStep 35 = .ok (.iadd, 1) := by decide +kernel
theorem dX12_addStep_36 : decode cX12_addStep 36 = .ok (.putfield 187, 3) := by decide +kernel
theorem dX12_addStep_39 : decode cX12_addStep 39 = .ok (.return_, 1) := by decide +kernel
theorem dX12_apart_0 : decode cX12_apart 0 = .ok (.iload_n 0, 1) := by decide +kernel
theorem dX12_apart_1 : decode cX12_apart 1 = .ok (.iload_n 1, 1) := by decide +kernel
theorem dX12_apart_2 : decode cX12_apart 2 = .ok (.if_icmp .ge 9, 3) := by decide +kernel
theorem dX12_apart_5 : decode cX12_apart 5 = .ok (.iload_n 1, 1) := by decide +kernel
theorem dX12_apart_6 : decode cX12_apart 6 = .ok (.iload_n 0, 1) := by decide +kernel
theorem dX12_apart_7 : decode cX12_apart 7 = .ok (.isub, 1) := by decide +kernel
theorem dX12_apart_8 : decode cX12_apart 8 = .ok (.goto 6, 3) := by decide +kernel
theorem dX12_apart_11 : decode cX12_apart 11 = .ok (.iload_n 0, 1) := by decide +kernel
theorem dX12_apart_12 : decode cX12_apart 12 = .ok (.iload_n 1, 1) := by decide +kernel
theorem dX12_apart_13 : decode cX12_apart 13 = .ok (.isub, 1) := by decide +kernel
theorem dX12_apart_14 : decode cX12_apart 14 = .ok (.ireturn, 1) := by decide +kernel
theorem dX12_isShelf_0 : decode cX12_isShelf 0 = .ok (.iload_n 0, 1) := by decide +kernel
theorem dX12_isShelf_1 : decode cX12_isShelf 1 = .ok (.iconst 0, 1) := by decide +kernel
theorem dX12_isShelf_2 : decode cX12_isShelf 2 = .ok (.iconst 5, 1) := by decide +kernel
theorem dX12_isShelf_3 : decode cX12_isShelf 3 = .ok (.invokestatic 128, 3) := by decide +kernel
theorem dX12_isShelf_6 : decode cX12_isShelf 6 = .ok (.ireturn, 1) := by decide +kernel
theorem dX12_areShelves_0 : decode cX12_areShelves 0 = .ok (.iload_n 0, 1) := by decide +kernel
theorem dX12_areShelves_1 : decode cX12_areShelves 1 = .ok (.ifCond .lt 27, 3) := by decide +kernel
theorem dX12_areShelves_4 : decode cX12_areShelves 4 = .ok (.iload_n 0, 1) := by decide +kernel
theorem dX12_areShelves_5 : decode cX12_areShelves 5 = .ok (.bipush 10, 2) := by decide +kernel
theorem dX12_areShelves_7 : decode cX12_areShelves 7 = .ok (.idiv, 1) := by decide +kernel
theorem dX12_areShelves_8 : decode cX12_areShelves 8 = .ok (.invokestatic 139, 3) := by decide +kernel
theorem dX12_areShelves_11 : decode cX12_areShelves 11 = .ok (.ifCond .eq 17, 3) := by decide +kernel
theorem dX12_areShelves_14 : decode cX12_areShelves 14 = .ok (.iload_n 0, 1) := by decide +kernel
theorem dX12_areShelves_15 : decode cX12_areShelves 15 = .ok (.bipush 10, 2) := by decide +kernel
theorem dX12_areShelves_17 : decode cX12_areShelves 17 = .ok (.irem, 1) := by decide +kernel
theorem dX12_areShelves_18 : decode cX12_areShelves 18 = .ok (.invokestatic 139, 3) := by decide +kernel
theorem dX12_areShelves_21 : decode cX12_areShelves 21 = .ok (.ifCond .eq 7, 3) := by decide +kernel
theorem dX12_areShelves_24 : decode cX12_areShelves 24 = .ok (.iconst 1, 1) := by decide +kernel
theorem dX12_areShelves_25 : decode cX12_areShelves 25 = .ok (.goto 4, 3) := by decide +kernel
theorem dX12_areShelves_28 : decode cX12_areShelves 28 = .ok (.iconst 0, 1) := by decide +kernel
theorem dX12_areShelves_29 : decode cX12_areShelves 29 = .ok (.ireturn, 1) := by decide +kernel
theorem dX12_areWeight_0 : decode cX12_areWeight 0 = .ok (.iload_n 0, 1) := by decide +kernel
theorem dX12_areWeight_1 : decode cX12_areWeight 1 = .ok (.ifCond .lt 17, 3) := by decide +kernel
theorem dX12_areWeight_4 : decode cX12_areWeight 4 = .ok (.iload_n 0, 1) := by decide +kernel
theorem dX12_areWeight_5 : decode cX12_areWeight 5 = .ok (.bipush 10, 2) := by decide +kernel
theorem dX12_areWeight_7 : decode cX12_areWeight 7 = .ok (.idiv, 1) := by decide +kernel
theorem dX12_areWeight_8 : decode cX12_areWeight 8 = .ok (.sipush 999, 3) := by decide +kernel
theorem dX12_areWeight_11 : decode cX12_areWeight 11 = .ok (.if_icmp .gt 7, 3) := by decide +kernel
theorem dX12_areWeight_14 : decode cX12_areWeight 14 = .ok (.iconst 1, 1) := by decide +kernel
theorem dX12_areWeight_15 : decode cX12_areWeight 15 = .ok (.goto 4, 3) := by decide +kernel
theorem dX12_areWeight_18 : decode cX12_areWeight 18 = .ok (.iconst 0, 1) := by decide +kernel
theorem dX12_areWeight_19 : decode cX12_areWeight 19 = .ok (.ireturn, 1) := by decide +kernel
theorem dX12_at_0 : decode cX12_at 0 = .ok (.aload_n 0, 1) := by decide +kernel
theorem dX12_at_1 : decode cX12_at 1 = .ok (.getfield 115, 3) := by decide +kernel
theorem dX12_at_4 : decode cX12_at 4 = .ok (.bipush 60, 2) := by decide +kernel
theorem dX12_at_6 : decode cX12_at 6 = .ok (.iload_n 1, 1) := by decide +kernel
theorem dX12_at_7 : decode cX12_at 7 = .ok (.imul, 1) := by decide +kernel
theorem dX12_at_8 : decode cX12_at 8 = .ok (.iload_n 2, 1) := by decide +kernel
theorem dX12_at_9 : decode cX12_at 9 = .ok (.iadd, 1) := by decide +kernel
theorem dX12_at_10 : decode cX12_at 10 = .ok (.laload, 1) := by decide +kernel
theorem dX12_at_11 : decode cX12_at 11 = .ok (.l2i, 1) := by decide +kernel
theorem dX12_at_12 : decode cX12_at 12 = .ok (.ireturn, 1) := by decide +kernel
theorem dX12_body_0 : decode cX12_body 0 = .ok (.iload_n 1, 1) := by decide +kernel
theorem dX12_body_1 : decode cX12_body 1 = .ok (.iconst 0, 1) := by decide +kernel
theorem dX12_body_2 : decode cX12_body 2 = .ok (.bipush 7, 2) := by decide +kernel
theorem dX12_body_4 : decode cX12_body 4 = .ok (.invokestatic 128, 3) := by decide +kernel
theorem dX12_body_7 : decode cX12_body 7 = .ok (.ifCond .ne 5, 3) := by decide +kernel
theorem dX12_body_10 : decode cX12_body 10 = .ok (.iconst (-1), 1) := by decide +kernel
theorem dX12_body_11 : decode cX12_body 11 = .ok (.ireturn, 1) := by decide +kernel
theorem dX12_body_12 : decode cX12_body 12 = .ok (.aload_n 0, 1) := by decide +kernel
theorem dX12_body_13 : decode cX12_body 13 = .ok (.getfield 364, 3) := by decide +kernel
theorem dX12_body_16 : decode cX12_body 16 = .ok (.bipush 50, 2) := by decide +kernel
theorem dX12_body_18 : decode cX12_body 18 = .ok (.if_icmp .ne 6, 3) := by decide +kernel
theorem dX12_body_21 : decode cX12_body 21 = .ok (.bipush (-3), 2) := by decide +kernel
theorem dX12_body_23 : decode cX12_body 23 = .ok (.ireturn, 1) := by decide +kernel
theorem dX12_body_24 : decode cX12_body 24 = .ok (.aload_n 0, 1) := by decide +kernel
theorem dX12_body_25 : decode cX12_body 25 = .ok (.getfield 103, 3) := by decide +kernel
theorem dX12_body_28 : decode cX12_body 28 = .ok (.aload_n 0, 1) := by decide +kernel
theorem dX12_body_29 : decode cX12_body 29 = .ok (.getfield 364, 3) := by decide +kernel
theorem dX12_body_32 : decode cX12_body 32 = .ok (.iload_n 1, 1) := by decide +kernel
theorem dX12_body_33 : decode cX12_body 33 = .ok (.iastore, 1) := by decide +kernel
theorem dX12_body_34 : decode cX12_body 34 = .ok (.aload_n 0, 1) := by decide +kernel
theorem dX12_body_35 : decode cX12_body 35 = .ok (.dup, 1) := by decide +kernel
theorem dX12_body_36 : decode cX12_body 36 = .ok (.getfield 364, 3) := by decide +kernel
theorem dX12_body_39 : decode cX12_body 39 = .ok (.iconst 1, 1) := by decide +kernel
theorem dX12_body_40 : decode cX12_body 40 = .ok (.iadd, 1) := by decide +kernel
theorem dX12_body_41 : decode cX12_body 41 = .ok (.putfield 364, 3) := by decide +kernel
theorem dX12_body_44 : decode cX12_body 44 = .ok (.aload_n 0, 1) := by decide +kernel
theorem dX12_body_45 : decode cX12_body 45 = .ok (.getfield 364, 3) := by decide +kernel
theorem dX12_body_48 : decode cX12_body 48 = .ok (.iconst 1, 1) := by decide +kernel
theorem dX12_body_49 : decode cX12_body 49 = .ok (.isub, 1) := by decide +kernel
theorem dX12_body_50 : decode cX12_body 50 = .ok (.ireturn, 1) := by decide +kernel
def f_X11_redo (σ : zS) : Int32 := (if ¬ (gi σ 24 3) = (gi σ 24 4) then (f_X3_doAgain σ) else (-5))
def p_X11_redo (σ : zS) : Prop := (if ¬ (gi σ 24 3) = (gi σ 24 4) then p_X3_doAgain σ else True)
def g_X11_redo (σ : zS) : zS := (if ¬ (gi σ 24 3) = (gi σ 24 4) then (g_X3_doAgain σ) else σ)
theorem s_X11_redo {X : zX} {d : Nat} {Q : Option Value → zH → Prop} (hd : 2 ≤ d) (σ : zS)  : zwp X d MX11_redo 0 [.ref 0] [] (zen σ) Q = (p_X11_redo σ ∧ Q (some (.int (f_X11_redo σ))) (zen (g_X11_redo σ))) :=
  Eq.trans (q_aload_n (pc := 0) dX11_redo_0 rfl rfl) (Eq.trans (q_getf (pc := 1) dX11_redo_1 zF_11_49 (z_rfr zl_0 zh_0 (by decide) rfl)) (Eq.trans (q_getf (pc := 4) dX11_redo_4 zF_11_266 (z_rfiE (x := (gi σ 24 3)) zl_24 zh_24 (by decide) rfl rfl)) (Eq.trans (q_aload_n (pc := 7) dX11_redo_7 rfl rfl) (Eq.trans (q_getf (pc := 8) dX11_redo_8 zF_11_49 (z_rfr zl_0 zh_0 (by decide) rfl)) (Eq.trans (q_getf (pc := 11) dX11_redo_11 zF_11_273 (z_rfiE (x := (gi σ 24 4)) zl_24 zh_24 (by decide) rfl rfl)) (Eq.trans (q_icmp_ne (tgt := 22) (pc := 14) dX11_redo_14 rfl) (zitpis (fun hz1 => Eq.trans (q_aload_n (pc := 22) dX11_redo_22 rfl rfl) (Eq.trans (q_getf (pc := 23) dX11_redo_23 zF_11_49 (z_rfr zl_0 zh_0 (by decide) rfl)) (Eq.trans (q_aload_n (pc := 26) dX11_redo_26 rfl rfl) (Eq.trans (q_getf (pc := 27) dX11_redo_27 zF_11_10 (z_rfr zl_0 zh_0 (by decide) rfl)) (Eq.trans (q_sumIP (q_callV (as := [.ref 1]) (rest := []) (l0 := [.ref 24, .ref 1]) (pc := 30) dX11_redo_30 zC_11_276 rfl (z_recv zl_24 zh_24) rfl rfl) (by omega) (s_X3_doAgain (hd := by omega) σ)) (zand fun hz2 => q_iret (pc := 33) dX11_redo_33 rfl rfl)))))) (fun hz1 => Eq.trans (Eq.trans (q_bipush (v := (-5)) (pc := 17) dX11_redo_17 rfl) (Eq.trans (q_goto (tgt := 33) (pc := 19) dX11_redo_19 rfl) (q_iret (pc := 33) dX11_redo_33 rfl rfl))) (true_and _).symm))))))))
def f_X11_refusalOfTwo (σ : zS) (a2 : Int32) (a3 : Int32) : Int32 := (if (f_X11_isShelf σ a2) = 0 then (-1) else (if ¬ (f_X11_isShelf σ a3) = 0 then (f_X11_firstNamed σ (f_X11_refusal σ a2 (gi σ (29 + 2 * ix a2) 3)) (f_X11_refusal σ a3 (gi σ (29 + 2 * ix a2) 3))) else (-1)))
def p_X11_refusalOfTwo (σ : zS) (a2 : Int32) (a3 : Int32) : Prop := (if (f_X11_isShelf σ a2) = 0 then True else (if ¬ (f_X11_isShelf σ a3) = 0 then (zin a2 6 = true ∧ (p_X11_refusal σ a2 (gi σ (29 + 2 * ix a2) 3) ∧ p_X11_refusal σ a3 (gi σ (29 + 2 * ix a2) 3))) else True))
theorem s_X11_refusalOfTwo {X : zX} {d : Nat} {Q : Option Value → zH → Prop} (hd : 2 ≤ d) (σ : zS) (a2 : Int32) (a3 : Int32)  : zwp X d MX11_refusalOfTwo 0 [.ref 0, .int a2, .int a3, .null] [] (zen σ) Q = (p_X11_refusalOfTwo σ a2 a3 ∧ Q (some (.int (f_X11_refusalOfTwo σ a2 a3))) (zen σ)) :=
  Eq.trans (q_iload_n (pc := 0) dX11_refusalOfTwo_0 rfl rfl) (Eq.trans (q_sumI (q_callS (as := [.int a2]) (rest := []) (l0 := [.int a2]) (pc := 1) dX11_refusalOfTwo_1 zSN_11_300 zC_11_300 rfl rfl rfl) (by omega) (s_X11_isShelf σ a2)) (Eq.trans (q_if_eq (tgt := 14) (pc := 4) dX11_refusalOfTwo_4 rfl) (zitpi (fun hz1 => Eq.trans (Eq.trans (q_iconst (v := (-1)) (pc := 14) dX11_refusalOfTwo_14 rfl) (q_iret (pc := 15) dX11_refusalOfTwo_15 rfl rfl)) (true_and _).symm) (fun hz1 => Eq.trans (q_iload_n (pc := 7) dX11_refusalOfTwo_7 rfl rfl) (Eq.trans (q_sumI (q_callS (as := [.int a3]) (rest := []) (l0 := [.int a3]) (pc := 8) dX11_refusalOfTwo_8 zSN_11_300 zC_11_300 rfl rfl rfl) (by omega) (s_X11_isShelf σ a3)) (Eq.trans (q_if_ne (tgt := 16) (pc := 11) dX11_refusalOfTwo_11 rfl) (zitpi (fun hz2 => Eq.trans (q_aload_n (pc := 16) dX11_refusalOfTwo_16 rfl rfl) (Eq.trans (q_getf (pc := 17) dX11_refusalOfTwo_17 zF_11_55 (z_rfr zl_0 zh_0 (by decide) rfl)) (Eq.trans (q_iload_n (pc := 20) dX11_refusalOfTwo_20 rfl rfl) (Eq.trans (Eq.trans (q_aaload (pc := 21) dX11_refusalOfTwo_21 (z_ra zl_28 zh_28 (by decide)) zra28) (zand fun hz3 => Eq.trans (q_getf (pc := 22) dX11_refusalOfTwo_22 zF_11_347 (z_rfiE (x := (gi σ (29 + 2 * ix a2) 3)) (zS_1 (zS_at hz3)).2.2.1 (zS_1 (zS_at hz3)).1 (by decide) rfl rfl)) (Eq.trans (q_istore_n (ls' := [.ref 0, .int a2, .int a3, .int (gi σ (29 + 2 * ix a2) 3)]) (pc := 25) dX11_refusalOfTwo_25 rfl (Nat.le_of_ble_eq_true rfl) rfl) (Eq.trans (q_aload_n (pc := 26) dX11_refusalOfTwo_26 rfl rfl) (Eq.trans (q_iload_n (pc := 27) dX11_refusalOfTwo_27 rfl rfl) (Eq.trans (q_iload_n (pc := 28) dX11_refusalOfTwo_28 rfl rfl) (Eq.trans (Eq.trans (q_sumIP (q_callV (as := [.int a2, .int (gi σ (29 + 2 * ix a2) 3)]) (rest := []) (l0 := [.ref 0, .int a2, .int (gi σ (29 + 2 * ix a2) 3), .null]) (pc := 29) dX11_refusalOfTwo_29 zC_11_99 rfl (z_recv zl_0 zh_0) rfl rfl) (by omega) (s_X11_refusal (hd := by omega) σ a2 (gi σ (29 + 2 * ix a2) 3))) (zand fun hz4 => Eq.trans (q_aload_n (pc := 32) dX11_refusalOfTwo_32 rfl rfl) (Eq.trans (q_iload_n (pc := 33) dX11_refusalOfTwo_33 rfl rfl) (Eq.trans (q_iload_n (pc := 34) dX11_refusalOfTwo_34 rfl rfl) (Eq.trans (q_sumIP (q_callV (as := [.int a3, .int (gi σ (29 + 2 * ix a2) 3)]) (rest := [.int (f_X11_refusal σ a2 (gi σ (29 + 2 * ix a2) 3))]) (l0 := [.ref 0, .int a3, .int (gi σ (29 + 2 * ix a2) 3), .null]) (pc := 35) dX11_refusalOfTwo_35 zC_11_99 rfl (z_recv zl_0 zh_0) rfl rfl) (by omega) (s_X11_refusal (hd := by omega) σ a3 (gi σ (29 + 2 * ix a2) 3))) (zand fun hz5 => Eq.trans (q_sumI (q_callS (as := [.int (f_X11_refusal σ a2 (gi σ (29 + 2 * ix a2) 3)), .int (f_X11_refusal σ a3 (gi σ (29 + 2 * ix a2) 3))]) (rest := []) (l0 := [.int (f_X11_refusal σ a2 (gi σ (29 + 2 * ix a2) 3)), .int (f_X11_refusal σ a3 (gi σ (29 + 2 * ix a2) 3))]) (pc := 38) dX11_refusalOfTwo_38 zSN_11_350 zC_11_350 rfl rfl rfl) (by omega) (s_X11_firstNamed σ (f_X11_refusal σ a2 (gi σ (29 + 2 * ix a2) 3)) (f_X11_refusal σ a3 (gi σ (29 + 2 * ix a2) 3)))) (q_iret (pc := 41) dX11_refusalOfTwo_41 rfl rfl))))))) zassoc))))))) zassoc)))) (fun hz2 => Eq.trans (Eq.trans (q_iconst (v := (-1)) (pc := 14) dX11_refusalOfTwo_14 rfl) (q_iret (pc := 15) dX11_refusalOfTwo_15 rfl rfl)) (true_and _).symm))))))))
def f_X11_salt (σ : zS) (a2 : Int32) : Int32 := (if a2 < 0 then (-1) else (if a2 < 16 then (gi σ 19 (ix a2)) else (-1)))
def p_X11_salt (σ : zS) (a2 : Int32) : Prop := (if a2 < 0 then True else (if a2 < 16 then (zin a2 16 = true ∧ zin a2 16 = true) else True))
def g_X11_salt (σ : zS) (a2 : Int32) : zS := (if a2 < 0 then σ else (if a2 < 16 then (si σ 19 (ix a2) 0) else σ))
theorem s_X11_salt {X : zX} {d : Nat} {Q : Option Value → zH → Prop} (σ : zS) (a2 : Int32)  : zwp X d MX11_salt 0 [.ref 0, .int a2, .null] [] (zen σ) Q = (p_X11_salt σ a2 ∧ Q (some (.int (f_X11_salt σ a2))) (zen (g_X11_salt σ a2))) :=
  Eq.trans (q_iload_n (pc := 0) dX11_salt_0 rfl rfl) (Eq.trans (q_if_lt (tgt := 10) (pc := 1) dX11_salt_1 rfl) (zitpis (fun hz1 => Eq.trans (Eq.trans (q_iconst (v := (-1)) (pc := 10) dX11_salt_10 rfl) (q_iret (pc := 11) dX11_salt_11 rfl rfl)) (true_and _).symm) (fun hz1 => Eq.trans (q_iload_n (pc := 4) dX11_salt_4 rfl rfl) (Eq.trans (q_bipush (v := 16) (pc := 5) dX11_salt_5 rfl) (Eq.trans (q_icmp_lt (tgt := 12) (pc := 7) dX11_salt_7 rfl) (zitpis (fun hz2 => Eq.trans (q_aload_n (pc := 12) dX11_salt_12 rfl rfl) (Eq.trans (q_getf (pc := 13) dX11_salt_13 zF_11_42 (z_rfr zl_0 zh_0 (by decide) rfl)) (Eq.trans (q_getf (pc := 16) dX11_salt_16 zF_11_62 (z_rfr zl_17 zh_17 (by decide) rfl)) (Eq.trans (q_getf (pc := 19) dX11_salt_19 zF_11_128 (z_rfr zl_18 zh_18 (by decide) rfl)) (Eq.trans (q_iload_n (pc := 22) dX11_salt_22 rfl rfl) (Eq.trans (Eq.trans (qe_iaload (x := (gi σ 19 (ix a2))) (pc := 23) dX11_salt_23 (z_ia zl_19 zh_19 (by decide)) rfl) (zand fun hz3 => Eq.trans (q_istore_n (ls' := [.ref 0, .int a2, .int (gi σ 19 (ix a2))]) (pc := 24) dX11_salt_24 rfl (Nat.le_of_ble_eq_true rfl) rfl) (Eq.trans (q_aload_n (pc := 25) dX11_salt_25 rfl rfl) (Eq.trans (q_getf (pc := 26) dX11_salt_26 zF_11_42 (z_rfr zl_0 zh_0 (by decide) rfl)) (Eq.trans (q_getf (pc := 29) dX11_salt_29 zF_11_62 (z_rfr zl_17 zh_17 (by decide) rfl)) (Eq.trans (q_getf (pc := 32) dX11_salt_32 zF_11_128 (z_rfr zl_18 zh_18 (by decide) rfl)) (Eq.trans (q_iload_n (pc := 35) dX11_salt_35 rfl rfl) (Eq.trans (q_iconst (v := 0) (pc := 36) dX11_salt_36 rfl) (Eq.trans (q_iastore (pc := 37) dX11_salt_37 (zN_lt zl_19) (z_ia zl_19 zh_19 (by decide)) (z_pi zl_19 zh_19 (by decide))) (zand fun hz4 => Eq.trans (q_iload_n (pc := 38) dX11_salt_38 rfl rfl) (q_iret (pc := 39) dX11_salt_39 rfl rfl))))))))))) zassoc)))))) (fun hz2 => Eq.trans (Eq.trans (q_iconst (v := (-1)) (pc := 10) dX11_salt_10 rfl) (q_iret (pc := 11) dX11_salt_11 rfl rfl)) (true_and _).symm)))))))
def f_X11_shift (σ : zS) (a2 : Int32) (a3 : Int32) (a4 : Int32) (a5 : Int32) (a6 : Int32) : Int32 := (if (f_X11_refusalOfTwo σ a2 a4) = 0 then (if (f_X8_hasPlaces σ (29 + 2 * ix a2) a3 a6) = 0 then (-13) else (if ¬ (f_X8_hasPlaces σ (29 + 2 * ix a4) a5 a6) = 0 then a6 else (-13))) else (f_X11_refusalOfTwo σ a2 a4))
def p_X11_shift (σ : zS) (a2 : Int32) (a3 : Int32) (a4 : Int32) (a5 : Int32) (a6 : Int32) : Prop := (p_X11_refusalOfTwo σ a2 a4 ∧ (if (f_X11_refusalOfTwo σ a2 a4) = 0 then (zin a2 6 = true ∧ (zin a4 6 = true ∧ (if (f_X8_hasPlaces σ (29 + 2 * ix a2) a3 a6) = 0 then True else (if ¬ (f_X8_hasPlaces σ (29 + 2 * ix a4) a5 a6) = 0 then zcok a3 a5 a6 60 60 else True)))) else True))
def g_X11_shift (σ : zS) (a2 : Int32) (a3 : Int32) (a4 : Int32) (a5 : Int32) (a6 : Int32) : zS := (if (f_X11_refusalOfTwo σ a2 a4) = 0 then (if (f_X8_hasPlaces σ (29 + 2 * ix a2) a3 a6) = 0 then σ else (if ¬ (f_X8_hasPlaces σ (29 + 2 * ix a4) a5 a6) = 0 then (sL σ ((29 + 2 * ix a4) + 1) (va_cpy (σ.2 ((29 + 2 * ix a2) + 1)) (σ.2 ((29 + 2 * ix a4) + 1)) (ix a3) (ix a5) (ix a6))) else σ)) else σ)
theorem s_X11_shift {X : zX} {d : Nat} {Q : Option Value → zH → Prop} (hd : 3 ≤ d) (σ : zS) (a2 : Int32) (a3 : Int32) (a4 : Int32) (a5 : Int32) (a6 : Int32)  : zwp X d MX11_shift 0 [.ref 0, .int a2, .int a3, .int a4, .int a5, .int a6, .null, .null, .null] [] (zen σ) Q = (p_X11_shift σ a2 a3 a4 a5 a6 ∧ Q (some (.int (f_X11_shift σ a2 a3 a4 a5 a6))) (zen (g_X11_shift σ a2 a3 a4 a5 a6))) :=
  Eq.trans (q_aload_n (pc := 0) dX11_shift_0 rfl rfl) (Eq.trans (q_iload_n (pc := 1) dX11_shift_1 rfl rfl) (Eq.trans (q_iload_n (pc := 2) dX11_shift_2 rfl rfl) (Eq.trans (Eq.trans (q_sumIP (q_callV (as := [.int a2, .int a4]) (rest := []) (l0 := [.ref 0, .int a2, .int a4, .null]) (pc := 3) dX11_shift_3 zC_11_323 rfl (z_recv zl_0 zh_0) rfl rfl) (by omega) (s_X11_refusalOfTwo (hd := by omega) σ a2 a4)) (zand fun hz1 => Eq.trans (q_istore (ls' := [.ref 0, .int a2, .int a3, .int a4, .int a5, .int a6, .int (f_X11_refusalOfTwo σ a2 a4), .null, .null]) (pc := 6) dX11_shift_6 (Nat.le_of_ble_eq_true rfl) rfl) (Eq.trans (q_iload (pc := 8) dX11_shift_8 rfl) (Eq.trans (q_if_eq (tgt := 16) (pc := 10) dX11_shift_10 rfl) (zitpis (fun hz2 => Eq.trans (q_aload_n (pc := 16) dX11_shift_16 rfl rfl) (Eq.trans (q_getf (pc := 17) dX11_shift_17 zF_11_55 (z_rfr zl_0 zh_0 (by decide) rfl)) (Eq.trans (q_iload_n (pc := 20) dX11_shift_20 rfl rfl) (Eq.trans (Eq.trans (q_aaload (pc := 21) dX11_shift_21 (z_ra zl_28 zh_28 (by decide)) zra28) (zand fun hz3 => Eq.trans (q_astore (ls' := [.ref 0, .int a2, .int a3, .int a4, .int a5, .int a6, .int (f_X11_refusalOfTwo σ a2 a4), .ref (29 + 2 * ix a2), .null]) (pc := 22) dX11_shift_22 (Nat.le_of_ble_eq_true rfl) rfl) (Eq.trans (q_aload_n (pc := 24) dX11_shift_24 rfl rfl) (Eq.trans (q_getf (pc := 25) dX11_shift_25 zF_11_55 (z_rfr zl_0 zh_0 (by decide) rfl)) (Eq.trans (q_iload_n (pc := 28) dX11_shift_28 rfl rfl) (Eq.trans (Eq.trans (q_aaload (pc := 29) dX11_shift_29 (z_ra zl_28 zh_28 (by decide)) zra28) (zand fun hz4 => Eq.trans (q_astore (ls' := [.ref 0, .int a2, .int a3, .int a4, .int a5, .int a6, .int (f_X11_refusalOfTwo σ a2 a4), .ref (29 + 2 * ix a2), .ref (29 + 2 * ix a4)]) (pc := 30) dX11_shift_30 (Nat.le_of_ble_eq_true rfl) rfl) (Eq.trans (q_aload (pc := 32) dX11_shift_32 rfl) (Eq.trans (q_iload_n (pc := 34) dX11_shift_34 rfl rfl) (Eq.trans (q_iload (pc := 35) dX11_shift_35 rfl) (Eq.trans (q_sumI (q_callV (as := [.int a3, .int a6]) (rest := []) (l0 := [.ref (29 + 2 * ix a2), .int a3, .int a6]) (pc := 37) dX11_shift_37 zC_11_326 rfl (z_recv (zS_1 (zS_at hz3)).2.2.1 (zS_1 (zS_at hz3)).1) rfl rfl) (by omega) (s_X8_hasPlaces σ (29 + 2 * ix a2) a3 a6 (zS_at hz3))) (Eq.trans (q_if_eq (tgt := 55) (pc := 40) dX11_shift_40 rfl) (zitpis (fun hz5 => Eq.trans (Eq.trans (q_bipush (v := (-13)) (pc := 55) dX11_shift_55 rfl) (q_iret (pc := 57) dX11_shift_57 rfl rfl)) (true_and _).symm) (fun hz5 => Eq.trans (q_aload (pc := 43) dX11_shift_43 rfl) (Eq.trans (q_iload (pc := 45) dX11_shift_45 rfl) (Eq.trans (q_iload (pc := 47) dX11_shift_47 rfl) (Eq.trans (q_sumI (q_callV (as := [.int a5, .int a6]) (rest := []) (l0 := [.ref (29 + 2 * ix a4), .int a5, .int a6]) (pc := 49) dX11_shift_49 zC_11_326 rfl (z_recv (zS_1 (zS_at hz4)).2.2.1 (zS_1 (zS_at hz4)).1) rfl rfl) (by omega) (s_X8_hasPlaces σ (29 + 2 * ix a4) a5 a6 (zS_at hz4))) (Eq.trans (q_if_ne (tgt := 58) (pc := 52) dX11_shift_52 rfl) (zitpis (fun hz6 => Eq.trans (q_aload (pc := 58) dX11_shift_58 rfl) (Eq.trans (q_getf (pc := 60) dX11_shift_60 zF_11_319 (z_rfr (zS_1 (zS_at hz3)).2.2.1 (zS_1 (zS_at hz3)).1 (by decide) rfl)) (Eq.trans (q_iload_n (pc := 63) dX11_shift_63 rfl rfl) (Eq.trans (q_aload (pc := 64) dX11_shift_64 rfl) (Eq.trans (q_getf (pc := 66) dX11_shift_66 zF_11_319 (z_rfr (zS_1 (zS_at hz4)).2.2.1 (zS_1 (zS_at hz4)).1 (by decide) rfl)) (Eq.trans (q_iload (pc := 69) dX11_shift_69 rfl) (Eq.trans (q_iload (pc := 71) dX11_shift_71 rfl) (Eq.trans (q_cpyl (pc := 73) dX11_shift_73 zSP_11_329 (Nat.le_of_ble_eq_true rfl) (zN_lt (zS_1 (zS_at hz3)).2.2.2) (zN_lt (zS_1 (zS_at hz4)).2.2.2) (z_ia1 (zS_1 (zS_at hz3)).2.2.2 (zS_1 (zS_at hz3)).2.1) (z_la (zS_1 (zS_at hz3)).2.2.2 (zS_1 (zS_at hz3)).2.1) (z_la (zS_1 (zS_at hz4)).2.2.2 (zS_1 (zS_at hz4)).2.1) (z_cpyl (zS_1 (zS_at hz4)).2.2.2 (zS_1 (zS_at hz4)).2.1)) (zand fun hz7 => Eq.trans (q_iload (pc := 76) dX11_shift_76 rfl) (q_iret (pc := 78) dX11_shift_78 rfl rfl)))))))))) (fun hz6 => Eq.trans (Eq.trans (q_bipush (v := (-13)) (pc := 55) dX11_shift_55 rfl) (q_iret (pc := 57) dX11_shift_57 rfl rfl)) (true_and _).symm))))))))))))))) zassoc)))))) zassoc)))) (fun hz2 => Eq.trans (Eq.trans (q_iload (pc := 13) dX11_shift_13 rfl) (q_iret (pc := 15) dX11_shift_15 rfl rfl)) (true_and _).symm)))))) zassoc)))
def f_X11_trace (σ : zS) (a2 : Int32) : Int32 := (if a2 < 0 then (-1) else (if a2 < (zmn (gi σ 63 3) 24) then (gi σ 65 (ix a2)) else (-1)))
def p_X11_trace (σ : zS) (a2 : Int32) : Prop := (if a2 < 0 then True else (if a2 < (zmn (gi σ 63 3) 24) then zin a2 24 = true else True))
theorem s_X11_trace {X : zX} {d : Nat} {Q : Option Value → zH → Prop} (σ : zS) (a2 : Int32)  : zwp X d MX11_trace 0 [.ref 0, .int a2] [] (zen σ) Q = (p_X11_trace σ a2 ∧ Q (some (.int (f_X11_trace σ a2))) (zen σ)) :=
  Eq.trans (q_iload_n (pc := 0) dX11_trace_0 rfl rfl) (Eq.trans (q_if_lt (tgt := 20) (pc := 1) dX11_trace_1 rfl) (zitpi (fun hz1 => Eq.trans (Eq.trans (q_iconst (v := (-1)) (pc := 20) dX11_trace_20 rfl) (Eq.trans (q_goto (tgt := 33) (pc := 21) dX11_trace_21 rfl) (q_iret (pc := 33) dX11_trace_33 rfl rfl))) (true_and _).symm) (fun hz1 => Eq.trans (q_iload_n (pc := 4) dX11_trace_4 rfl rfl) (Eq.trans (q_aload_n (pc := 5) dX11_trace_5 rfl rfl) (Eq.trans (q_getf (pc := 6) dX11_trace_6 zF_11_83 (z_rfr zl_0 zh_0 (by decide) rfl)) (Eq.trans (q_getf (pc := 9) dX11_trace_9 zF_11_283 (z_rfiE (x := (gi σ 63 3)) zl_63 zh_63 (by decide) rfl rfl)) (Eq.trans (q_bipush (v := 24) (pc := 12) dX11_trace_12 rfl) (Eq.trans (q_zmn (pc := 14) dX11_trace_14 zSP_11_292 (Nat.le_of_ble_eq_true rfl)) (Eq.trans (q_icmp_lt (tgt := 24) (pc := 17) dX11_trace_17 rfl) (zitpi (fun hz2 => Eq.trans (q_aload_n (pc := 24) dX11_trace_24 rfl rfl) (Eq.trans (q_getf (pc := 25) dX11_trace_25 zF_11_83 (z_rfr zl_0 zh_0 (by decide) rfl)) (Eq.trans (q_getf (pc := 28) dX11_trace_28 zF_11_297 (z_rfr zl_63 zh_63 (by decide) rfl)) (Eq.trans (q_iload_n (pc := 31) dX11_trace_31 rfl rfl) (Eq.trans (qe_iaload (x := (gi σ 65 (ix a2))) (pc := 32) dX11_trace_32 (z_ia zl_65 zh_65 (by decide)) rfl) (zand fun hz3 => q_iret (pc := 33) dX11_trace_33 rfl rfl)))))) (fun hz2 => Eq.trans (Eq.trans (q_iconst (v := (-1)) (pc := 20) dX11_trace_20 rfl) (Eq.trans (q_goto (tgt := 33) (pc := 21) dX11_trace_21 rfl) (q_iret (pc := 33) dX11_trace_33 rfl rfl))) (true_and _).symm)))))))))))
def f_X5_addTurn (σ : zS) (a2 : Int32) (a3 : Int32) : Int32 := (gi σ 1 2)
def p_X5_addTurn (σ : zS) (a2 : Int32) (a3 : Int32) : Prop := (zin (32 + (gi σ 1 2)) 80 = true ∧ zin (40 + (gi σ 1 2)) 80 = true)
def g_X5_addTurn (σ : zS) (a2 : Int32) (a3 : Int32) : zS := (si (si (si (si σ 2 (ix (32 + (gi σ 1 2))) a2) 2 (ix (40 + (gi σ 1 2))) a3) 1 3 ((gi σ 1 3) + 1)) 1 2 ((gi σ 1 2) + 1))
theorem s_X5_addTurn {X : zX} {d : Nat} {Q : Option Value → zH → Prop} (σ : zS) (a2 : Int32) (a3 : Int32)  : zwp X d MX5_addTurn 0 [.ref 1, .int a2, .int a3] [] (zen σ) Q = (p_X5_addTurn σ a2 a3 ∧ Q (some (.int (f_X5_addTurn σ a2 a3))) (zen (g_X5_addTurn σ a2 a3))) :=
  Eq.trans (q_aload_n (pc := 0) dX5_addTurn_0 rfl rfl) (Eq.trans (q_getf (pc := 1) dX5_addTurn_1 zF_5_11 (z_rfr zl_1 zh_1 (by decide) rfl)) (Eq.trans (q_bipush (v := 32) (pc := 4) dX5_addTurn_4 rfl) (Eq.trans (q_aload_n (pc := 6) dX5_addTurn_6 rfl rfl) (Eq.trans (q_getf (pc := 7) dX5_addTurn_7 zF_5_25 (z_rfiE (x := (gi σ 1 2)) zl_1 zh_1 (by decide) rfl rfl)) (Eq.trans (q_iadd (pc := 10) dX5_addTurn_10) (Eq.trans (q_iload_n (pc := 11) dX5_addTurn_11 rfl rfl) (Eq.trans (Eq.trans (q_iastore (pc := 12) dX5_addTurn_12 (zN_lt zl_2) (z_ia zl_2 zh_2 (by decide)) (z_pi zl_2 zh_2 (by decide))) (zand fun hz1 => Eq.trans (q_aload_n (pc := 13) dX5_addTurn_13 rfl rfl) (Eq.trans (q_getf (pc := 14) dX5_addTurn_14 zF_5_11 (z_rfr zl_1 zh_1 (by decide) rfl)) (Eq.trans (q_bipush (v := 40) (pc := 17) dX5_addTurn_17 rfl) (Eq.trans (q_aload_n (pc := 19) dX5_addTurn_19 rfl rfl) (Eq.trans (q_getf (pc := 20) dX5_addTurn_20 zF_5_25 (z_rfiE (x := (gi σ 1 2)) zl_1 zh_1 (by decide) rfl rfl)) (Eq.trans (q_iadd (pc := 23) dX5_addTurn_23) (Eq.trans (q_iload_n (pc := 24) dX5_addTurn_24 rfl rfl) (Eq.trans (q_iastore (pc := 25) dX5_addTurn_25 (zN_lt zl_2) (z_ia zl_2 zh_2 (by decide)) (z_pi zl_2 zh_2 (by decide))) (zand fun hz2 => Eq.trans (q_aload_n (pc := 26) dX5_addTurn_26 rfl rfl) (Eq.trans (q_dup_ref (pc := 27) dX5_addTurn_27) (Eq.trans (q_getf (pc := 28) dX5_addTurn_28 zF_5_28 (z_rfiE (x := (gi σ 1 3)) zl_1 zh_1 (by decide) rfl rfl)) (Eq.trans (q_iconst (v := 1) (pc := 31) dX5_addTurn_31 rfl) (Eq.trans (q_iadd (pc := 32) dX5_addTurn_32) (Eq.trans (q_pf (pc := 33) dX5_addTurn_33 zF_5_28 zPF_5_3 (z_pf zl_1 zh_1 rfl)) (Eq.trans (q_aload_n (pc := 36) dX5_addTurn_36 rfl rfl) (Eq.trans (q_dup_ref (pc := 37) dX5_addTurn_37) (Eq.trans (q_getf (pc := 38) dX5_addTurn_38 zF_5_25 (z_rfiE (x := (gi σ 1 2)) zl_1 zh_1 (by decide) rfl rfl)) (Eq.trans (q_dup_x1_int_ref (pc := 41) dX5_addTurn_41) (Eq.trans (q_iconst (v := 1) (pc := 42) dX5_addTurn_42 rfl) (Eq.trans (q_iadd (pc := 43) dX5_addTurn_43) (Eq.trans (q_pf (pc := 44) dX5_addTurn_44 zF_5_25 zPF_5_2 (z_pf zl_1 zh_1 rfl)) (q_iret (pc := 47) dX5_addTurn_47 rfl rfl))))))))))))))))))))))) zassoc)))))))
def f_X11_turn (σ : zS) (a2 : Int32) (a3 : Int32) : Int32 := (if (f_X5_fits σ 4 a2) = 0 then (-1) else (if ¬ (f_X5_fits σ 5 a3) = 0 then (if ¬ (gi σ 1 2) = 8 then (f_X5_addTurn σ a2 a3) else (-3)) else (-1)))
def p_X11_turn (σ : zS) (a2 : Int32) (a3 : Int32) : Prop := (p_X5_fits σ 4 a2 ∧ (if (f_X5_fits σ 4 a2) = 0 then True else (p_X5_fits σ 5 a3 ∧ (if ¬ (f_X5_fits σ 5 a3) = 0 then (if ¬ (gi σ 1 2) = 8 then p_X5_addTurn σ a2 a3 else True) else True))))
def g_X11_turn (σ : zS) (a2 : Int32) (a3 : Int32) : zS := (if (f_X5_fits σ 4 a2) = 0 then σ else (if ¬ (f_X5_fits σ 5 a3) = 0 then (if ¬ (gi σ 1 2) = 8 then (g_X5_addTurn σ a2 a3) else σ) else σ))
theorem s_X11_turn {X : zX} {d : Nat} {Q : Option Value → zH → Prop} (hd : 1 ≤ d) (σ : zS) (a2 : Int32) (a3 : Int32)  : zwp X d MX11_turn 0 [.ref 0, .int a2, .int a3] [] (zen σ) Q = (p_X11_turn σ a2 a3 ∧ Q (some (.int (f_X11_turn σ a2 a3))) (zen (g_X11_turn σ a2 a3))) :=
  Eq.trans (q_iconst (v := 4) (pc := 0) dX11_turn_0 rfl) (Eq.trans (q_iload_n (pc := 1) dX11_turn_1 rfl rfl) (Eq.trans (Eq.trans (q_sumIP (q_callS (as := [.int 4, .int a2]) (rest := []) (l0 := [.int 4, .int a2]) (pc := 2) dX11_turn_2 zSN_11_87 zC_11_87 rfl rfl rfl) (by omega) (s_X5_fits σ 4 a2)) (zand fun hz1 => Eq.trans (q_if_eq (tgt := 16) (pc := 5) dX11_turn_5 rfl) (zitpis (fun hz2 => Eq.trans (Eq.trans (q_iconst (v := (-1)) (pc := 16) dX11_turn_16 rfl) (q_iret (pc := 17) dX11_turn_17 rfl rfl)) (true_and _).symm) (fun hz2 => Eq.trans (q_iconst (v := 5) (pc := 8) dX11_turn_8 rfl) (Eq.trans (q_iload_n (pc := 9) dX11_turn_9 rfl rfl) (Eq.trans (Eq.trans (q_sumIP (q_callS (as := [.int 5, .int a3]) (rest := []) (l0 := [.int 5, .int a3]) (pc := 10) dX11_turn_10 zSN_11_87 zC_11_87 rfl rfl rfl) (by omega) (s_X5_fits σ 5 a3)) (zand fun hz3 => Eq.trans (q_if_ne (tgt := 18) (pc := 13) dX11_turn_13 rfl) (zitpis (fun hz4 => Eq.trans (q_aload_n (pc := 18) dX11_turn_18 rfl rfl) (Eq.trans (q_getf (pc := 19) dX11_turn_19 zF_11_10 (z_rfr zl_0 zh_0 (by decide) rfl)) (Eq.trans (q_getf (pc := 22) dX11_turn_22 zF_11_107 (z_rfiE (x := (gi σ 1 2)) zl_1 zh_1 (by decide) rfl rfl)) (Eq.trans (q_bipush (v := 8) (pc := 25) dX11_turn_25 rfl) (Eq.trans (q_icmp_ne (tgt := 35) (pc := 27) dX11_turn_27 rfl) (zitpis (fun hz5 => Eq.trans (q_aload_n (pc := 35) dX11_turn_35 rfl rfl) (Eq.trans (q_getf (pc := 36) dX11_turn_36 zF_11_10 (z_rfr zl_0 zh_0 (by decide) rfl)) (Eq.trans (q_iload_n (pc := 39) dX11_turn_39 rfl rfl) (Eq.trans (q_iload_n (pc := 40) dX11_turn_40 rfl rfl) (Eq.trans (q_sumIP (q_callV (as := [.int a2, .int a3]) (rest := []) (l0 := [.ref 1, .int a2, .int a3]) (pc := 41) dX11_turn_41 zC_11_110 rfl (z_recv zl_1 zh_1) rfl rfl) (by omega) (s_X5_addTurn σ a2 a3)) (zand fun hz6 => q_iret (pc := 44) dX11_turn_44 rfl rfl)))))) (fun hz5 => Eq.trans (Eq.trans (q_bipush (v := (-3)) (pc := 30) dX11_turn_30 rfl) (Eq.trans (q_goto (tgt := 44) (pc := 32) dX11_turn_32 rfl) (q_iret (pc := 44) dX11_turn_44 rfl rfl))) (true_and _).symm))))))) (fun hz4 => Eq.trans (Eq.trans (q_iconst (v := (-1)) (pc := 16) dX11_turn_16 rfl) (q_iret (pc := 17) dX11_turn_17 rfl rfl)) (true_and _).symm)))) zassoc)))))) zassoc))
def f_X3_takeBack (σ : zS) : Int32 := (gi (g_X5_change (si σ 24 3 ((gi σ 24 3) - 1)) (gi σ 25 (ix ((gi σ 24 3) - 1))) (gi σ 26 (ix ((gi σ 24 3) - 1)))) 24 3)
def p_X3_takeBack (σ : zS) : Prop := (zin ((gi σ 24 3) - 1) 40 = true ∧ (zin ((gi σ 24 3) - 1) 40 = true ∧ p_X5_change (si σ 24 3 ((gi σ 24 3) - 1)) (gi σ 25 (ix ((gi σ 24 3) - 1))) (gi σ 26 (ix ((gi σ 24 3) - 1)))))
def g_X3_takeBack (σ : zS) : zS := (g_X5_change (si σ 24 3 ((gi σ 24 3) - 1)) (gi σ 25 (ix ((gi σ 24 3) - 1))) (gi σ 26 (ix ((gi σ 24 3) - 1))))
theorem s_X3_takeBack {X : zX} {d : Nat} {Q : Option Value → zH → Prop} (hd : 1 ≤ d) (σ : zS)  : zwp X d MX3_takeBack 0 [.ref 24, .ref 1] [] (zen σ) Q = (p_X3_takeBack σ ∧ Q (some (.int (f_X3_takeBack σ))) (zen (g_X3_takeBack σ))) :=
  Eq.trans (q_aload_n (pc := 0) dX3_takeBack_0 rfl rfl) (Eq.trans (q_dup_ref (pc := 1) dX3_takeBack_1) (Eq.trans (q_getf (pc := 2) dX3_takeBack_2 zF_3_19 (z_rfiE (x := (gi σ 24 3)) zl_24 zh_24 (by decide) rfl rfl)) (Eq.trans (q_iconst (v := 1) (pc := 5) dX3_takeBack_5 rfl) (Eq.trans (q_isub (pc := 6) dX3_takeBack_6) (Eq.trans (q_pf (pc := 7) dX3_takeBack_7 zF_3_19 zPF_3_3 (z_pf zl_24 zh_24 rfl)) (Eq.trans (q_aload_n (pc := 10) dX3_takeBack_10 rfl rfl) (Eq.trans (q_aload_n (pc := 11) dX3_takeBack_11 rfl rfl) (Eq.trans (q_getf (pc := 12) dX3_takeBack_12 zF_3_9 (z_rfr zl_24 zh_24 (by decide) rfl)) (Eq.trans (q_aload_n (pc := 15) dX3_takeBack_15 rfl rfl) (Eq.trans (q_getf (pc := 16) dX3_takeBack_16 zF_3_19 (z_rfiE (x := ((gi σ 24 3) - 1)) zl_24 zh_24 (by decide) rfl rfl)) (Eq.trans (Eq.trans (qe_iaload (x := (gi σ 25 (ix ((gi σ 24 3) - 1)))) (pc := 19) dX3_takeBack_19 (z_ia zl_25 zh_25 (by decide)) rfl) (zand fun hz1 => Eq.trans (q_aload_n (pc := 20) dX3_takeBack_20 rfl rfl) (Eq.trans (q_getf (pc := 21) dX3_takeBack_21 zF_3_13 (z_rfr zl_24 zh_24 (by decide) rfl)) (Eq.trans (q_aload_n (pc := 24) dX3_takeBack_24 rfl rfl) (Eq.trans (q_getf (pc := 25) dX3_takeBack_25 zF_3_19 (z_rfiE (x := ((gi σ 24 3) - 1)) zl_24 zh_24 (by decide) rfl rfl)) (Eq.trans (Eq.trans (qe_iaload (x := (gi σ 26 (ix ((gi σ 24 3) - 1)))) (pc := 28) dX3_takeBack_28 (z_ia zl_26 zh_26 (by decide)) rfl) (zand fun hz2 => Eq.trans (q_sumNP (q_callV (as := [.int (gi σ 25 (ix ((gi σ 24 3) - 1))), .int (gi σ 26 (ix ((gi σ 24 3) - 1)))]) (rest := []) (l0 := [.ref 1, .int (gi σ 25 (ix ((gi σ 24 3) - 1))), .int (gi σ 26 (ix ((gi σ 24 3) - 1)))]) (pc := 29) dX3_takeBack_29 zC_3_35 rfl (z_recv zl_1 zh_1) rfl rfl) (by omega) (s_X5_change (si σ 24 3 ((gi σ 24 3) - 1)) (gi σ 25 (ix ((gi σ 24 3) - 1))) (gi σ 26 (ix ((gi σ 24 3) - 1))))) (zand fun hz3 => Eq.trans (q_aload_n (pc := 32) dX3_takeBack_32 rfl rfl) (Eq.trans (q_getf (pc := 33) dX3_takeBack_33 zF_3_19 (z_rfiE (x := (gi (g_X5_change (si σ 24 3 ((gi σ 24 3) - 1)) (gi σ 25 (ix ((gi σ 24 3) - 1))) (gi σ 26 (ix ((gi σ 24 3) - 1)))) 24 3)) zl_24 zh_24 (by decide) rfl rfl)) (q_iret (pc := 36) dX3_takeBack_36 rfl rfl))))) zassoc)))))) zassoc)))))))))))
def f_X11_undo (σ : zS) : Int32 := (if ¬ (gi σ 24 3) = 0 then (f_X3_takeBack σ) else (-5))
def p_X11_undo (σ : zS) : Prop := (if ¬ (gi σ 24 3) = 0 then p_X3_takeBack σ else True)
def g_X11_undo (σ : zS) : zS := (if ¬ (gi σ 24 3) = 0 then (g_X3_takeBack σ) else σ)
theorem s_X11_undo {X : zX} {d : Nat} {Q : Option Value → zH → Prop} (hd : 2 ≤ d) (σ : zS)  : zwp X d MX11_undo 0 [.ref 0] [] (zen σ) Q = (p_X11_undo σ ∧ Q (some (.int (f_X11_undo σ))) (zen (g_X11_undo σ))) :=
  Eq.trans (q_aload_n (pc := 0) dX11_undo_0 rfl rfl) (Eq.trans (q_getf (pc := 1) dX11_undo_1 zF_11_49 (z_rfr zl_0 zh_0 (by decide) rfl)) (Eq.trans (q_getf (pc := 4) dX11_undo_4 zF_11_266 (z_rfiE (x := (gi σ 24 3)) zl_24 zh_24 (by decide) rfl rfl)) (Eq.trans (q_if_ne (tgt := 15) (pc := 7) dX11_undo_7 rfl) (zitpis (fun hz1 => Eq.trans (q_aload_n (pc := 15) dX11_undo_15 rfl rfl) (Eq.trans (q_getf (pc := 16) dX11_undo_16 zF_11_49 (z_rfr zl_0 zh_0 (by decide) rfl)) (Eq.trans (q_aload_n (pc := 19) dX11_undo_19 rfl rfl) (Eq.trans (q_getf (pc := 20) dX11_undo_20 zF_11_10 (z_rfr zl_0 zh_0 (by decide) rfl)) (Eq.trans (q_sumIP (q_callV (as := [.ref 1]) (rest := []) (l0 := [.ref 24, .ref 1]) (pc := 23) dX11_undo_23 zC_11_269 rfl (z_recv zl_24 zh_24) rfl rfl) (by omega) (s_X3_takeBack (hd := by omega) σ)) (zand fun hz2 => q_iret (pc := 26) dX11_undo_26 rfl rfl)))))) (fun hz1 => Eq.trans (Eq.trans (q_bipush (v := (-5)) (pc := 10) dX11_undo_10 rfl) (Eq.trans (q_goto (tgt := 26) (pc := 12) dX11_undo_12 rfl) (q_iret (pc := 26) dX11_undo_26 rfl rfl))) (true_and _).symm)))))
def f_X12_in (σ : zS) (a1 : Int32) (a2 : Int32) (a3 : Int32) : Int32 := (if a1 < a2 then 0 else (if a3 < a1 then 0 else 1))
theorem s_X12_in {X : zX} {d : Nat} {Q : Option Value → zH → Prop} (σ : zS) (a1 : Int32) (a2 : Int32) (a3 : Int32)  : zwp X d MX12_in 0 [.int a1, .int a2, .int a3] [] (zen σ) Q = Q (some (.int (f_X12_in σ a1 a2 a3))) (zen σ) :=
  Eq.trans (q_iload_n (pc := 0) dX12_in_0 rfl rfl) (Eq.trans (q_iload_n (pc := 1) dX12_in_1 rfl rfl) (Eq.trans (q_icmp_lt (tgt := 14) (pc := 2) dX12_in_2 rfl) (ziti (fun hz1 => Eq.trans (q_iconst (v := 0) (pc := 14) dX12_in_14 rfl) (q_zretK (pc := 15) dX12_in_15 rfl (by decide))) (fun hz1 => Eq.trans (q_iload_n (pc := 5) dX12_in_5 rfl rfl) (Eq.trans (q_iload_n (pc := 6) dX12_in_6 rfl rfl) (Eq.trans (q_icmp_gt (tgt := 14) (pc := 7) dX12_in_7 rfl) (ziti (fun hz2 => Eq.trans (q_iconst (v := 0) (pc := 14) dX12_in_14 rfl) (q_zretK (pc := 15) dX12_in_15 rfl (by decide))) (fun hz2 => Eq.trans (q_iconst (v := 1) (pc := 10) dX12_in_10 rfl) (Eq.trans (q_goto (tgt := 15) (pc := 11) dX12_in_11 rfl) (q_zretK (pc := 15) dX12_in_15 rfl (by decide)))))))))))
theorem zb_X12_in (σ : zS) (a1 : Int32) (a2 : Int32) (a3 : Int32) : f_X12_in σ a1 a2 a3 = 0 ∨ f_X12_in σ a1 a2 a3 = 1 := by
  unfold f_X12_in
  repeat' split
  all_goals first | exact Or.inl rfl | exact Or.inr rfl
def f_X12_isBody (σ : zS) (a2 : Int32) : Int32 := (f_X12_in σ a2 0 ((gi σ 66 49) - 1))
theorem s_X12_isBody {X : zX} {d : Nat} {Q : Option Value → zH → Prop} (hd : 1 ≤ d) (σ : zS) (a2 : Int32)  : zwp X d MX12_isBody 0 [.ref 66, .int a2] [] (zen σ) Q = Q (some (.int (f_X12_isBody σ a2))) (zen σ) :=
  Eq.trans (q_iload_n (pc := 0) dX12_isBody_0 rfl rfl) (Eq.trans (q_iconst (v := 0) (pc := 1) dX12_isBody_1 rfl) (Eq.trans (q_aload_n (pc := 2) dX12_isBody_2 rfl rfl) (Eq.trans (q_getf (pc := 3) dX12_isBody_3 zF_12_364 (z_rfiE (x := (gi σ 66 49)) zl_66 zh_66 (by decide) rfl rfl)) (Eq.trans (q_iconst (v := 1) (pc := 6) dX12_isBody_6 rfl) (Eq.trans (q_isub (pc := 7) dX12_isBody_7) (Eq.trans (q_sumI (q_callS (as := [.int a2, .int 0, .int ((gi σ 66 49) - 1)]) (rest := []) (l0 := [.int a2, .int 0, .int ((gi σ 66 49) - 1)]) (pc := 8) dX12_isBody_8 zSN_12_128 zC_12_128 rfl rfl rfl) (by omega) (s_X12_in σ a2 0 ((gi σ 66 49) - 1))) (q_zretK (pc := 11) dX12_isBody_11 rfl (zb_X12_in _ _ _ _))))))))
theorem zb_X12_isBody (σ : zS) (a2 : Int32) : f_X12_isBody σ a2 = 0 ∨ f_X12_isBody σ a2 = 1 := by
  unfold f_X12_isBody
  repeat' split
  all_goals first | exact Or.inl rfl | exact Or.inr rfl | exact zb_X12_in _ _ _ _
def f_X12_isUnder (σ : zS) (a1 : Int32) (a2 : Int32) : Int32 := (if a2 = 0 then 1 else (if a1 = a2 then 1 else (if ¬ a2 = 1 then (if ¬ a2 = 2 then (if ¬ a2 = 3 then (if ¬ a2 = 6 then 0 else (if ¬ a1 = 7 then 0 else 1)) else (if a1 = 5 then 1 else (if ¬ a2 = 6 then 0 else (if ¬ a1 = 7 then 0 else 1)))) else (if a1 = 3 then 1 else (if a1 = 5 then 1 else (if ¬ a2 = 3 then (if ¬ a2 = 6 then 0 else (if ¬ a1 = 7 then 0 else 1)) else (if a1 = 5 then 1 else (if ¬ a2 = 6 then 0 else (if ¬ a1 = 7 then 0 else 1))))))) else (if a1 = 4 then 1 else (if ¬ a2 = 2 then (if ¬ a2 = 3 then (if ¬ a2 = 6 then 0 else (if ¬ a1 = 7 then 0 else 1)) else (if a1 = 5 then 1 else (if ¬ a2 = 6 then 0 else (if ¬ a1 = 7 then 0 else 1)))) else (if a1 = 3 then 1 else (if a1 = 5 then 1 else (if ¬ a2 = 3 then (if ¬ a2 = 6 then 0 else (if ¬ a1 = 7 then 0 else 1)) else (if a1 = 5 then 1 else (if ¬ a2 = 6 then 0 else (if ¬ a1 = 7 then 0 else 1)))))))))))
theorem s_X12_isUnder {X : zX} {d : Nat} {Q : Option Value → zH → Prop} (σ : zS) (a1 : Int32) (a2 : Int32)  : zwp X d MX12_isUnder 0 [.int a1, .int a2] [] (zen σ) Q = Q (some (.int (f_X12_isUnder σ a1 a2))) (zen σ) :=
  Eq.trans (q_iload_n (pc := 0) dX12_isUnder_0 rfl rfl) (Eq.trans (q_if_eq (tgt := 56) (pc := 1) dX12_isUnder_1 rfl) (ziti (fun hz1 => Eq.trans (q_iconst (v := 1) (pc := 56) dX12_isUnder_56 rfl) (Eq.trans (q_goto (tgt := 61) (pc := 57) dX12_isUnder_57 rfl) (q_zretK (pc := 61) dX12_isUnder_61 rfl (by decide)))) (fun hz1 => Eq.trans (q_iload_n (pc := 4) dX12_isUnder_4 rfl rfl) (Eq.trans (q_iload_n (pc := 5) dX12_isUnder_5 rfl rfl) (Eq.trans (q_icmp_eq (tgt := 56) (pc := 6) dX12_isUnder_6 rfl) (ziti (fun hz2 => Eq.trans (q_iconst (v := 1) (pc := 56) dX12_isUnder_56 rfl) (Eq.trans (q_goto (tgt := 61) (pc := 57) dX12_isUnder_57 rfl) (q_zretK (pc := 61) dX12_isUnder_61 rfl (by decide)))) (fun hz2 => Eq.trans (q_iload_n (pc := 9) dX12_isUnder_9 rfl rfl) (Eq.trans (q_iconst (v := 1) (pc := 10) dX12_isUnder_10 rfl) (Eq.trans (q_icmp_ne (tgt := 19) (pc := 11) dX12_isUnder_11 rfl) (ziti (fun hz3 => Eq.trans (q_iload_n (pc := 19) dX12_isUnder_19 rfl rfl) (Eq.trans (q_iconst (v := 2) (pc := 20) dX12_isUnder_20 rfl) (Eq.trans (q_icmp_ne (tgt := 34) (pc := 21) dX12_isUnder_21 rfl) (ziti (fun hz4 => Eq.trans (q_iload_n (pc := 34) dX12_isUnder_34 rfl rfl) (Eq.trans (q_iconst (v := 3) (pc := 35) dX12_isUnder_35 rfl) (Eq.trans (q_icmp_ne (tgt := 44) (pc := 36) dX12_isUnder_36 rfl) (ziti (fun hz5 => Eq.trans (q_iload_n (pc := 44) dX12_isUnder_44 rfl rfl) (Eq.trans (q_bipush (v := 6) (pc := 45) dX12_isUnder_45 rfl) (Eq.trans (q_icmp_ne (tgt := 60) (pc := 47) dX12_isUnder_47 rfl) (ziti (fun hz6 => Eq.trans (q_iconst (v := 0) (pc := 60) dX12_isUnder_60 rfl) (q_zretK (pc := 61) dX12_isUnder_61 rfl (by decide))) (fun hz6 => Eq.trans (q_iload_n (pc := 50) dX12_isUnder_50 rfl rfl) (Eq.trans (q_bipush (v := 7) (pc := 51) dX12_isUnder_51 rfl) (Eq.trans (q_icmp_ne (tgt := 60) (pc := 53) dX12_isUnder_53 rfl) (ziti (fun hz7 => Eq.trans (q_iconst (v := 0) (pc := 60) dX12_isUnder_60 rfl) (q_zretK (pc := 61) dX12_isUnder_61 rfl (by decide))) (fun hz7 => Eq.trans (q_iconst (v := 1) (pc := 56) dX12_isUnder_56 rfl) (Eq.trans (q_goto (tgt := 61) (pc := 57) dX12_isUnder_57 rfl) (q_zretK (pc := 61) dX12_isUnder_61 rfl (by decide)))))))))))) (fun hz5 => Eq.trans (q_iload_n (pc := 39) dX12_isUnder_39 rfl rfl) (Eq.trans (q_iconst (v := 5) (pc := 40) dX12_isUnder_40 rfl) (Eq.trans (q_icmp_eq (tgt := 56) (pc := 41) dX12_isUnder_41 rfl) (ziti (fun hz8 => Eq.trans (q_iconst (v := 1) (pc := 56) dX12_isUnder_56 rfl) (Eq.trans (q_goto (tgt := 61) (pc := 57) dX12_isUnder_57 rfl) (q_zretK (pc := 61) dX12_isUnder_61 rfl (by decide)))) (fun hz8 => Eq.trans (q_iload_n (pc := 44) dX12_isUnder_44 rfl rfl) (Eq.trans (q_bipush (v := 6) (pc := 45) dX12_isUnder_45 rfl) (Eq.trans (q_icmp_ne (tgt := 60) (pc := 47) dX12_isUnder_47 rfl) (ziti (fun hz9 => Eq.trans (q_iconst (v := 0) (pc := 60) dX12_isUnder_60 rfl) (q_zretK (pc := 61) dX12_isUnder_61 rfl (by decide))) (fun hz9 => Eq.trans (q_iload_n (pc := 50) dX12_isUnder_50 rfl rfl) (Eq.trans (q_bipush (v := 7) (pc := 51) dX12_isUnder_51 rfl) (Eq.trans (q_icmp_ne (tgt := 60) (pc := 53) dX12_isUnder_53 rfl) (ziti (fun hz10 => Eq.trans (q_iconst (v := 0) (pc := 60) dX12_isUnder_60 rfl) (q_zretK (pc := 61) dX12_isUnder_61 rfl (by decide))) (fun hz10 => Eq.trans (q_iconst (v := 1) (pc := 56) dX12_isUnder_56 rfl) (Eq.trans (q_goto (tgt := 61) (pc := 57) dX12_isUnder_57 rfl) (q_zretK (pc := 61) dX12_isUnder_61 rfl (by decide)))))))))))))))))))) (fun hz4 => Eq.trans (q_iload_n (pc := 24) dX12_isUnder_24 rfl rfl) (Eq.trans (q_iconst (v := 3) (pc := 25) dX12_isUnder_25 rfl) (Eq.trans (q_icmp_eq (tgt := 56) (pc := 26) dX12_isUnder_26 rfl) (ziti (fun hz11 => Eq.trans (q_iconst (v := 1) (pc := 56) dX12_isUnder_56 rfl) (Eq.trans (q_goto (tgt := 61) (pc := 57) dX12_isUnder_57 rfl) (q_zretK (pc := 61) dX12_isUnder_61 rfl (by decide)))) (fun hz11 => Eq.trans (q_iload_n (pc := 29) dX12_isUnder_29 rfl rfl) (Eq.trans (q_iconst (v := 5) (pc := 30) dX12_isUnder_30 rfl) (Eq.trans (q_icmp_eq (tgt := 56) (pc := 31) dX12_isUnder_31 rfl) (ziti (fun hz12 => Eq.trans (q_iconst (v := 1) (pc := 56) dX12_isUnder_56 rfl) (Eq.trans (q_goto (tgt := 61) (pc := 57) dX12_isUnder_57 rfl) (q_zretK (pc := 61) dX12_isUnder_61 rfl (by decide)))) (fun hz12 => Eq.trans (q_iload_n (pc := 34) dX12_isUnder_34 rfl rfl) (Eq.trans (q_iconst (v := 3) (pc := 35) dX12_isUnder_35 rfl) (Eq.trans (q_icmp_ne (tgt := 44) (pc := 36) dX12_isUnder_36 rfl) (ziti (fun hz13 => Eq.trans (q_iload_n (pc := 44) dX12_isUnder_44 rfl rfl) (Eq.trans (q_bipush (v := 6) (pc := 45) dX12_isUnder_45 rfl) (Eq.trans (q_icmp_ne (tgt := 60) (pc := 47) dX12_isUnder_47 rfl) (ziti (fun hz14 => Eq.trans (q_iconst (v := 0) (pc := 60) dX12_isUnder_60 rfl) (q_zretK (pc := 61) dX12_isUnder_61 rfl (by decide))) (fun hz14 => Eq.trans (q_iload_n (pc := 50) dX12_isUnder_50 rfl rfl) (Eq.trans (q_bipush (v := 7) (pc := 51) dX12_isUnder_51 rfl) (Eq.trans (q_icmp_ne (tgt := 60) (pc := 53) dX12_isUnder_53 rfl) (ziti (fun hz15 => Eq.trans (q_iconst (v := 0) (pc := 60) dX12_isUnder_60 rfl) (q_zretK (pc := 61) dX12_isUnder_61 rfl (by decide))) (fun hz15 => Eq.trans (q_iconst (v := 1) (pc := 56) dX12_isUnder_56 rfl) (Eq.trans (q_goto (tgt := 61) (pc := 57) dX12_isUnder_57 rfl) (q_zretK (pc := 61) dX12_isUnder_61 rfl (by decide)))))))))))) (fun hz13 => Eq.trans (q_iload_n (pc := 39) dX12_isUnder_39 rfl rfl) (Eq.trans (q_iconst (v := 5) (pc := 40) dX12_isUnder_40 rfl) (Eq.trans (q_icmp_eq (tgt := 56) (pc := 41) dX12_isUnder_41 rfl) (ziti (fun hz16 => Eq.trans (q_iconst (v := 1) (pc := 56) dX12_isUnder_56 rfl) (Eq.trans (q_goto (tgt := 61) (pc := 57) dX12_isUnder_57 rfl) (q_zretK (pc := 61) dX12_isUnder_61 rfl (by decide)))) (fun hz16 => Eq.trans (q_iload_n (pc := 44) dX12_isUnder_44 rfl rfl) (Eq.trans (q_bipush (v := 6) (pc := 45) dX12_isUnder_45 rfl) (Eq.trans (q_icmp_ne (tgt := 60) (pc := 47) dX12_isUnder_47 rfl) (ziti (fun hz17 => Eq.trans (q_iconst (v := 0) (pc := 60) dX12_isUnder_60 rfl) (q_zretK (pc := 61) dX12_isUnder_61 rfl (by decide))) (fun hz17 => Eq.trans (q_iload_n (pc := 50) dX12_isUnder_50 rfl rfl) (Eq.trans (q_bipush (v := 7) (pc := 51) dX12_isUnder_51 rfl) (Eq.trans (q_icmp_ne (tgt := 60) (pc := 53) dX12_isUnder_53 rfl) (ziti (fun hz18 => Eq.trans (q_iconst (v := 0) (pc := 60) dX12_isUnder_60 rfl) (q_zretK (pc := 61) dX12_isUnder_61 rfl (by decide))) (fun hz18 => Eq.trans (q_iconst (v := 1) (pc := 56) dX12_isUnder_56 rfl) (Eq.trans (q_goto (tgt := 61) (pc := 57) dX12_isUnder_57 rfl) (q_zretK (pc := 61) dX12_isUnder_61 rfl (by decide)))))))))))))))))))))))))))))))) (fun hz3 => Eq.trans (q_iload_n (pc := 14) dX12_isUnder_14 rfl rfl) (Eq.trans (q_iconst (v := 4) (pc := 15) dX12_isUnder_15 rfl) (Eq.trans (q_icmp_eq (tgt := 56) (pc := 16) dX12_isUnder_16 rfl) (ziti (fun hz19 => Eq.trans (q_iconst (v := 1) (pc := 56) dX12_isUnder_56 rfl) (Eq.trans (q_goto (tgt := 61) (pc := 57) dX12_isUnder_57 rfl) (q_zretK (pc := 61) dX12_isUnder_61 rfl (by decide)))) (fun hz19 => Eq.trans (q_iload_n (pc := 19) dX12_isUnder_19 rfl rfl) (Eq.trans (q_iconst (v := 2) (pc := 20) dX12_isUnder_20 rfl) (Eq.trans (q_icmp_ne (tgt := 34) (pc := 21) dX12_isUnder_21 rfl) (ziti (fun hz20 => Eq.trans (q_iload_n (pc := 34) dX12_isUnder_34 rfl rfl) (Eq.trans (q_iconst (v := 3) (pc := 35) dX12_isUnder_35 rfl) (Eq.trans (q_icmp_ne (tgt := 44) (pc := 36) dX12_isUnder_36 rfl) (ziti (fun hz21 => Eq.trans (q_iload_n (pc := 44) dX12_isUnder_44 rfl rfl) (Eq.trans (q_bipush (v := 6) (pc := 45) dX12_isUnder_45 rfl) (Eq.trans (q_icmp_ne (tgt := 60) (pc := 47) dX12_isUnder_47 rfl) (ziti (fun hz22 => Eq.trans (q_iconst (v := 0) (pc := 60) dX12_isUnder_60 rfl) (q_zretK (pc := 61) dX12_isUnder_61 rfl (by decide))) (fun hz22 => Eq.trans (q_iload_n (pc := 50) dX12_isUnder_50 rfl rfl) (Eq.trans (q_bipush (v := 7) (pc := 51) dX12_isUnder_51 rfl) (Eq.trans (q_icmp_ne (tgt := 60) (pc := 53) dX12_isUnder_53 rfl) (ziti (fun hz23 => Eq.trans (q_iconst (v := 0) (pc := 60) dX12_isUnder_60 rfl) (q_zretK (pc := 61) dX12_isUnder_61 rfl (by decide))) (fun hz23 => Eq.trans (q_iconst (v := 1) (pc := 56) dX12_isUnder_56 rfl) (Eq.trans (q_goto (tgt := 61) (pc := 57) dX12_isUnder_57 rfl) (q_zretK (pc := 61) dX12_isUnder_61 rfl (by decide)))))))))))) (fun hz21 => Eq.trans (q_iload_n (pc := 39) dX12_isUnder_39 rfl rfl) (Eq.trans (q_iconst (v := 5) (pc := 40) dX12_isUnder_40 rfl) (Eq.trans (q_icmp_eq (tgt := 56) (pc := 41) dX12_isUnder_41 rfl) (ziti (fun hz24 => Eq.trans (q_iconst (v := 1) (pc := 56) dX12_isUnder_56 rfl) (Eq.trans (q_goto (tgt := 61) (pc := 57) dX12_isUnder_57 rfl) (q_zretK (pc := 61) dX12_isUnder_61 rfl (by decide)))) (fun hz24 => Eq.trans (q_iload_n (pc := 44) dX12_isUnder_44 rfl rfl) (Eq.trans (q_bipush (v := 6) (pc := 45) dX12_isUnder_45 rfl) (Eq.trans (q_icmp_ne (tgt := 60) (pc := 47) dX12_isUnder_47 rfl) (ziti (fun hz25 => Eq.trans (q_iconst (v := 0) (pc := 60) dX12_isUnder_60 rfl) (q_zretK (pc := 61) dX12_isUnder_61 rfl (by decide))) (fun hz25 => Eq.trans (q_iload_n (pc := 50) dX12_isUnder_50 rfl rfl) (Eq.trans (q_bipush (v := 7) (pc := 51) dX12_isUnder_51 rfl) (Eq.trans (q_icmp_ne (tgt := 60) (pc := 53) dX12_isUnder_53 rfl) (ziti (fun hz26 => Eq.trans (q_iconst (v := 0) (pc := 60) dX12_isUnder_60 rfl) (q_zretK (pc := 61) dX12_isUnder_61 rfl (by decide))) (fun hz26 => Eq.trans (q_iconst (v := 1) (pc := 56) dX12_isUnder_56 rfl) (Eq.trans (q_goto (tgt := 61) (pc := 57) dX12_isUnder_57 rfl) (q_zretK (pc := 61) dX12_isUnder_61 rfl (by decide)))))))))))))))))))) (fun hz20 => Eq.trans (q_iload_n (pc := 24) dX12_isUnder_24 rfl rfl) (Eq.trans (q_iconst (v := 3) (pc := 25) dX12_isUnder_25 rfl) (Eq.trans (q_icmp_eq (tgt := 56) (pc := 26) dX12_isUnder_26 rfl) (ziti (fun hz27 => Eq.trans (q_iconst (v := 1) (pc := 56) dX12_isUnder_56 rfl) (Eq.trans (q_goto (tgt := 61) (pc := 57) dX12_isUnder_57 rfl) (q_zretK (pc := 61) dX12_isUnder_61 rfl (by decide)))) (fun hz27 => Eq.trans (q_iload_n (pc := 29) dX12_isUnder_29 rfl rfl) (Eq.trans (q_iconst (v := 5) (pc := 30) dX12_isUnder_30 rfl) (Eq.trans (q_icmp_eq (tgt := 56) (pc := 31) dX12_isUnder_31 rfl) (ziti (fun hz28 => Eq.trans (q_iconst (v := 1) (pc := 56) dX12_isUnder_56 rfl) (Eq.trans (q_goto (tgt := 61) (pc := 57) dX12_isUnder_57 rfl) (q_zretK (pc := 61) dX12_isUnder_61 rfl (by decide)))) (fun hz28 => Eq.trans (q_iload_n (pc := 34) dX12_isUnder_34 rfl rfl) (Eq.trans (q_iconst (v := 3) (pc := 35) dX12_isUnder_35 rfl) (Eq.trans (q_icmp_ne (tgt := 44) (pc := 36) dX12_isUnder_36 rfl) (ziti (fun hz29 => Eq.trans (q_iload_n (pc := 44) dX12_isUnder_44 rfl rfl) (Eq.trans (q_bipush (v := 6) (pc := 45) dX12_isUnder_45 rfl) (Eq.trans (q_icmp_ne (tgt := 60) (pc := 47) dX12_isUnder_47 rfl) (ziti (fun hz30 => Eq.trans (q_iconst (v := 0) (pc := 60) dX12_isUnder_60 rfl) (q_zretK (pc := 61) dX12_isUnder_61 rfl (by decide))) (fun hz30 => Eq.trans (q_iload_n (pc := 50) dX12_isUnder_50 rfl rfl) (Eq.trans (q_bipush (v := 7) (pc := 51) dX12_isUnder_51 rfl) (Eq.trans (q_icmp_ne (tgt := 60) (pc := 53) dX12_isUnder_53 rfl) (ziti (fun hz31 => Eq.trans (q_iconst (v := 0) (pc := 60) dX12_isUnder_60 rfl) (q_zretK (pc := 61) dX12_isUnder_61 rfl (by decide))) (fun hz31 => Eq.trans (q_iconst (v := 1) (pc := 56) dX12_isUnder_56 rfl) (Eq.trans (q_goto (tgt := 61) (pc := 57) dX12_isUnder_57 rfl) (q_zretK (pc := 61) dX12_isUnder_61 rfl (by decide)))))))))))) (fun hz29 => Eq.trans (q_iload_n (pc := 39) dX12_isUnder_39 rfl rfl) (Eq.trans (q_iconst (v := 5) (pc := 40) dX12_isUnder_40 rfl) (Eq.trans (q_icmp_eq (tgt := 56) (pc := 41) dX12_isUnder_41 rfl) (ziti (fun hz32 => Eq.trans (q_iconst (v := 1) (pc := 56) dX12_isUnder_56 rfl) (Eq.trans (q_goto (tgt := 61) (pc := 57) dX12_isUnder_57 rfl) (q_zretK (pc := 61) dX12_isUnder_61 rfl (by decide)))) (fun hz32 => Eq.trans (q_iload_n (pc := 44) dX12_isUnder_44 rfl rfl) (Eq.trans (q_bipush (v := 6) (pc := 45) dX12_isUnder_45 rfl) (Eq.trans (q_icmp_ne (tgt := 60) (pc := 47) dX12_isUnder_47 rfl) (ziti (fun hz33 => Eq.trans (q_iconst (v := 0) (pc := 60) dX12_isUnder_60 rfl) (q_zretK (pc := 61) dX12_isUnder_61 rfl (by decide))) (fun hz33 => Eq.trans (q_iload_n (pc := 50) dX12_isUnder_50 rfl rfl) (Eq.trans (q_bipush (v := 7) (pc := 51) dX12_isUnder_51 rfl) (Eq.trans (q_icmp_ne (tgt := 60) (pc := 53) dX12_isUnder_53 rfl) (ziti (fun hz34 => Eq.trans (q_iconst (v := 0) (pc := 60) dX12_isUnder_60 rfl) (q_zretK (pc := 61) dX12_isUnder_61 rfl (by decide))) (fun hz34 => Eq.trans (q_iconst (v := 1) (pc := 56) dX12_isUnder_56 rfl) (Eq.trans (q_goto (tgt := 61) (pc := 57) dX12_isUnder_57 rfl) (q_zretK (pc := 61) dX12_isUnder_61 rfl (by decide))))))))))))))))))))))))))))))))))))))))))))))
theorem zb_X12_isUnder (σ : zS) (a1 : Int32) (a2 : Int32) : f_X12_isUnder σ a1 a2 = 0 ∨ f_X12_isUnder σ a1 a2 = 1 := by
  unfold f_X12_isUnder
  repeat' split
  all_goals first | exact Or.inl rfl | exact Or.inr rfl
def p_X12_ran (σ : zS) (a2 : Int32) : Prop := (if 24 ≤ (gi σ 66 51) then True else zin (gi σ 66 51) 24 = true)
def g_X12_ran (σ : zS) (a2 : Int32) : zS := (if 24 ≤ (gi σ 66 51) then (si σ 66 51 ((gi σ 66 51) + 1)) else (si (si σ 94 (ix (gi σ 66 51)) a2) 66 51 ((gi σ 66 51) + 1)))
theorem s_X12_ran {X : zX} {d : Nat} {Q : Option Value → zH → Prop} (σ : zS) (a2 : Int32)  : zwp X d MX12_ran 0 [.ref 66, .int a2] [] (zen σ) Q = (p_X12_ran σ a2 ∧ Q none (zen (g_X12_ran σ a2))) :=
  Eq.trans (q_aload_n (pc := 0) dX12_ran_0 rfl rfl) (Eq.trans (q_getf (pc := 1) dX12_ran_1 zF_12_367 (z_rfiE (x := (gi σ 66 51)) zl_66 zh_66 (by decide) rfl rfl)) (Eq.trans (q_bipush (v := 24) (pc := 4) dX12_ran_4 rfl) (Eq.trans (q_icmp_ge (tgt := 19) (pc := 6) dX12_ran_6 rfl) (zitpns (fun hz1 => Eq.trans (Eq.trans (q_aload_n (pc := 19) dX12_ran_19 rfl rfl) (Eq.trans (q_dup_ref (pc := 20) dX12_ran_20) (Eq.trans (q_getf (pc := 21) dX12_ran_21 zF_12_367 (z_rfiE (x := (gi σ 66 51)) zl_66 zh_66 (by decide) rfl rfl)) (Eq.trans (q_iconst (v := 1) (pc := 24) dX12_ran_24 rfl) (Eq.trans (q_iadd (pc := 25) dX12_ran_25) (Eq.trans (q_pf (pc := 26) dX12_ran_26 zF_12_367 zPF_12_51 (z_pf zl_66 zh_66 rfl)) (q_vret (pc := 29) dX12_ran_29 rfl))))))) (true_and _).symm) (fun hz1 => Eq.trans (q_aload_n (pc := 9) dX12_ran_9 rfl rfl) (Eq.trans (q_getf (pc := 10) dX12_ran_10 zF_12_106 (z_rfr zl_66 zh_66 (by decide) rfl)) (Eq.trans (q_aload_n (pc := 13) dX12_ran_13 rfl rfl) (Eq.trans (q_getf (pc := 14) dX12_ran_14 zF_12_367 (z_rfiE (x := (gi σ 66 51)) zl_66 zh_66 (by decide) rfl rfl)) (Eq.trans (q_iload_n (pc := 17) dX12_ran_17 rfl rfl) (Eq.trans (q_iastore (pc := 18) dX12_ran_18 (zN_lt zl_94) (z_ia zl_94 zh_94 (by decide)) (z_pi zl_94 zh_94 (by decide))) (zand fun hz2 => Eq.trans (q_aload_n (pc := 19) dX12_ran_19 rfl rfl) (Eq.trans (q_dup_ref (pc := 20) dX12_ran_20) (Eq.trans (q_getf (pc := 21) dX12_ran_21 zF_12_367 (z_rfiE (x := (gi σ 66 51)) zl_66 zh_66 (by decide) rfl rfl)) (Eq.trans (q_iconst (v := 1) (pc := 24) dX12_ran_24 rfl) (Eq.trans (q_iadd (pc := 25) dX12_ran_25) (Eq.trans (q_pf (pc := 26) dX12_ran_26 zF_12_367 zPF_12_51 (z_pf zl_66 zh_66 rfl)) (q_vret (pc := 29) dX12_ran_29 rfl)))))))))))))))))
def f_X12_plainBears (σ : zS) (a2 : Int32) (a3 : Int32) : Int32 := (a3 + a2)
def p_X12_plainBears (σ : zS) (a2 : Int32) (a3 : Int32) : Prop := p_X12_ran σ 1
def g_X12_plainBears (σ : zS) (a2 : Int32) (a3 : Int32) : zS := (g_X12_ran σ 1)
theorem s_X12_plainBears {X : zX} {d : Nat} {Q : Option Value → zH → Prop} (hd : 1 ≤ d) (σ : zS) (a2 : Int32) (a3 : Int32)  : zwp X d MX12_plainBears 0 [.ref 66, .int a2, .int a3] [] (zen σ) Q = (p_X12_plainBears σ a2 a3 ∧ Q (some (.int (f_X12_plainBears σ a2 a3))) (zen (g_X12_plainBears σ a2 a3))) :=
  Eq.trans (q_aload_n (pc := 0) dX12_plainBears_0 rfl rfl) (Eq.trans (q_iconst (v := 1) (pc := 1) dX12_plainBears_1 rfl) (Eq.trans (q_sumNP (q_callV (as := [.int 1]) (rest := []) (l0 := [.ref 66, .int 1]) (pc := 2) dX12_plainBears_2 zC_12_370 rfl (z_recv zl_66 zh_66) rfl rfl) (by omega) (s_X12_ran σ 1)) (zand fun hz1 => Eq.trans (q_iload_n (pc := 5) dX12_plainBears_5 rfl rfl) (Eq.trans (q_iload_n (pc := 6) dX12_plainBears_6 rfl rfl) (Eq.trans (q_iadd (pc := 7) dX12_plainBears_7) (q_iret (pc := 8) dX12_plainBears_8 rfl rfl))))))
def f_X12_hissBears (σ : zS) (a2 : Int32) (a3 : Int32) : Int32 := ((f_X12_plainBears (g_X12_ran σ 70) a2 a3) * 2)
def p_X12_hissBears (σ : zS) (a2 : Int32) (a3 : Int32) : Prop := (p_X12_ran σ 70 ∧ p_X12_plainBears (g_X12_ran σ 70) a2 a3)
def g_X12_hissBears (σ : zS) (a2 : Int32) (a3 : Int32) : zS := (g_X12_plainBears (g_X12_ran σ 70) a2 a3)
theorem s_X12_hissBears {X : zX} {d : Nat} {Q : Option Value → zH → Prop} (hd : 2 ≤ d) (σ : zS) (a2 : Int32) (a3 : Int32)  : zwp X d MX12_hissBears 0 [.ref 66, .int a2, .int a3] [] (zen σ) Q = (p_X12_hissBears σ a2 a3 ∧ Q (some (.int (f_X12_hissBears σ a2 a3))) (zen (g_X12_hissBears σ a2 a3))) :=
  Eq.trans (q_aload_n (pc := 0) dX12_hissBears_0 rfl rfl) (Eq.trans (q_bipush (v := 70) (pc := 1) dX12_hissBears_1 rfl) (Eq.trans (Eq.trans (q_sumNP (q_callV (as := [.int 70]) (rest := []) (l0 := [.ref 66, .int 70]) (pc := 3) dX12_hissBears_3 zC_12_370 rfl (z_recv zl_66 zh_66) rfl rfl) (by omega) (s_X12_ran σ 70)) (zand fun hz1 => Eq.trans (q_aload_n (pc := 6) dX12_hissBears_6 rfl rfl) (Eq.trans (q_iload_n (pc := 7) dX12_hissBears_7 rfl rfl) (Eq.trans (q_iload_n (pc := 8) dX12_hissBears_8 rfl rfl) (Eq.trans (q_sumIP (q_callV (as := [.int a2, .int a3]) (rest := []) (l0 := [.ref 66, .int a2, .int a3]) (pc := 9) dX12_hissBears_9 zC_12_373 rfl (z_recv zl_66 zh_66) rfl rfl) (by omega) (s_X12_plainBears (hd := by omega) (g_X12_ran σ 70) a2 a3)) (zand fun hz2 => Eq.trans (q_iconst (v := 2) (pc := 12) dX12_hissBears_12 rfl) (Eq.trans (q_imul (pc := 13) dX12_hissBears_13) (q_iret (pc := 14) dX12_hissBears_14 rfl rfl)))))))) zassoc))
def f_X12_bearing (σ : zS) (a2 : Int32) (a3 : Int32) : Int32 := (if (f_X12_isUnder σ (gi σ 93 (ix a2)) 1) = 0 then (if ¬ (gi σ 93 (ix a2)) = 7 then (if ¬ (gi σ 93 (ix a2)) = 6 then (f_X12_plainBears σ a2 a3) else (f_X12_hissBears σ a2 a3)) else ((f_X12_hissBears (g_X12_ran σ 81) a2 a3) - 1)) else ((f_X12_plainBears (g_X12_ran σ 20) a2 a3) + 3))
def p_X12_bearing (σ : zS) (a2 : Int32) (a3 : Int32) : Prop := (zin a2 50 = true ∧ (if (f_X12_isUnder σ (gi σ 93 (ix a2)) 1) = 0 then (zin a2 50 = true ∧ (if ¬ (gi σ 93 (ix a2)) = 7 then (zin a2 50 = true ∧ (if ¬ (gi σ 93 (ix a2)) = 6 then p_X12_plainBears σ a2 a3 else p_X12_hissBears σ a2 a3)) else (p_X12_ran σ 81 ∧ p_X12_hissBears (g_X12_ran σ 81) a2 a3))) else (p_X12_ran σ 20 ∧ p_X12_plainBears (g_X12_ran σ 20) a2 a3)))
def g_X12_bearing (σ : zS) (a2 : Int32) (a3 : Int32) : zS := (if (f_X12_isUnder σ (gi σ 93 (ix a2)) 1) = 0 then (if ¬ (gi σ 93 (ix a2)) = 7 then (if ¬ (gi σ 93 (ix a2)) = 6 then (g_X12_plainBears σ a2 a3) else (g_X12_hissBears σ a2 a3)) else (g_X12_hissBears (g_X12_ran σ 81) a2 a3)) else (g_X12_plainBears (g_X12_ran σ 20) a2 a3))
theorem s_X12_bearing {X : zX} {d : Nat} {Q : Option Value → zH → Prop} (hd : 3 ≤ d) (σ : zS) (a2 : Int32) (a3 : Int32)  : zwp X d MX12_bearing 0 [.ref 66, .int a2, .int a3] [] (zen σ) Q = (p_X12_bearing σ a2 a3 ∧ Q (some (.int (f_X12_bearing σ a2 a3))) (zen (g_X12_bearing σ a2 a3))) :=
  Eq.trans (q_aload_n (pc := 0) dX12_bearing_0 rfl rfl) (Eq.trans (q_getf (pc := 1) dX12_bearing_1 zF_12_103 (z_rfr zl_66 zh_66 (by decide) rfl)) (Eq.trans (q_iload_n (pc := 4) dX12_bearing_4 rfl rfl) (Eq.trans (Eq.trans (qe_iaload (x := (gi σ 93 (ix a2))) (pc := 5) dX12_bearing_5 (z_ia zl_93 zh_93 (by decide)) rfl) (zand fun hz1 => Eq.trans (q_iconst (v := 1) (pc := 6) dX12_bearing_6 rfl) (Eq.trans (q_sumI (q_callS (as := [.int (gi σ 93 (ix a2)), .int 1]) (rest := []) (l0 := [.int (gi σ 93 (ix a2)), .int 1]) (pc := 7) dX12_bearing_7 zSN_12_376 zC_12_376 rfl rfl rfl) (by omega) (s_X12_isUnder σ (gi σ 93 (ix a2)) 1)) (Eq.trans (q_if_eq (tgt := 28) (pc := 10) dX12_bearing_10 rfl) (zitpis (fun hz2 => Eq.trans (q_aload_n (pc := 28) dX12_bearing_28 rfl rfl) (Eq.trans (q_getf (pc := 29) dX12_bearing_29 zF_12_103 (z_rfr zl_66 zh_66 (by decide) rfl)) (Eq.trans (q_iload_n (pc := 32) dX12_bearing_32 rfl rfl) (Eq.trans (Eq.trans (qe_iaload (x := (gi σ 93 (ix a2))) (pc := 33) dX12_bearing_33 (z_ia zl_93 zh_93 (by decide)) rfl) (zand fun hz3 => Eq.trans (q_bipush (v := 7) (pc := 34) dX12_bearing_34 rfl) (Eq.trans (q_icmp_ne (tgt := 54) (pc := 36) dX12_bearing_36 rfl) (zitpis (fun hz4 => Eq.trans (q_aload_n (pc := 54) dX12_bearing_54 rfl rfl) (Eq.trans (q_getf (pc := 55) dX12_bearing_55 zF_12_103 (z_rfr zl_66 zh_66 (by decide) rfl)) (Eq.trans (q_iload_n (pc := 58) dX12_bearing_58 rfl rfl) (Eq.trans (Eq.trans (qe_iaload (x := (gi σ 93 (ix a2))) (pc := 59) dX12_bearing_59 (z_ia zl_93 zh_93 (by decide)) rfl) (zand fun hz5 => Eq.trans (q_bipush (v := 6) (pc := 60) dX12_bearing_60 rfl) (Eq.trans (q_icmp_ne (tgt := 74) (pc := 62) dX12_bearing_62 rfl) (zitpis (fun hz6 => Eq.trans (q_aload_n (pc := 74) dX12_bearing_74 rfl rfl) (Eq.trans (q_iload_n (pc := 75) dX12_bearing_75 rfl rfl) (Eq.trans (q_iload_n (pc := 76) dX12_bearing_76 rfl rfl) (Eq.trans (q_sumIP (q_callV (as := [.int a2, .int a3]) (rest := []) (l0 := [.ref 66, .int a2, .int a3]) (pc := 77) dX12_bearing_77 zC_12_373 rfl (z_recv zl_66 zh_66) rfl rfl) (by omega) (s_X12_plainBears (hd := by omega) σ a2 a3)) (zand fun hz7 => q_iret (pc := 80) dX12_bearing_80 rfl rfl))))) (fun hz6 => Eq.trans (q_aload_n (pc := 65) dX12_bearing_65 rfl rfl) (Eq.trans (q_iload_n (pc := 66) dX12_bearing_66 rfl rfl) (Eq.trans (q_iload_n (pc := 67) dX12_bearing_67 rfl rfl) (Eq.trans (q_sumIP (q_callV (as := [.int a2, .int a3]) (rest := []) (l0 := [.ref 66, .int a2, .int a3]) (pc := 68) dX12_bearing_68 zC_12_379 rfl (z_recv zl_66 zh_66) rfl rfl) (by omega) (s_X12_hissBears (hd := by omega) σ a2 a3)) (zand fun hz8 => Eq.trans (q_goto (tgt := 80) (pc := 71) dX12_bearing_71 rfl) (q_iret (pc := 80) dX12_bearing_80 rfl rfl)))))))))) zassoc)))) (fun hz4 => Eq.trans (q_aload_n (pc := 39) dX12_bearing_39 rfl rfl) (Eq.trans (q_bipush (v := 81) (pc := 40) dX12_bearing_40 rfl) (Eq.trans (Eq.trans (q_sumNP (q_callV (as := [.int 81]) (rest := []) (l0 := [.ref 66, .int 81]) (pc := 42) dX12_bearing_42 zC_12_370 rfl (z_recv zl_66 zh_66) rfl rfl) (by omega) (s_X12_ran σ 81)) (zand fun hz9 => Eq.trans (q_aload_n (pc := 45) dX12_bearing_45 rfl rfl) (Eq.trans (q_iload_n (pc := 46) dX12_bearing_46 rfl rfl) (Eq.trans (q_iload_n (pc := 47) dX12_bearing_47 rfl rfl) (Eq.trans (q_sumIP (q_callV (as := [.int a2, .int a3]) (rest := []) (l0 := [.ref 66, .int a2, .int a3]) (pc := 48) dX12_bearing_48 zC_12_379 rfl (z_recv zl_66 zh_66) rfl rfl) (by omega) (s_X12_hissBears (hd := by omega) (g_X12_ran σ 81) a2 a3)) (zand fun hz10 => Eq.trans (q_iconst (v := 1) (pc := 51) dX12_bearing_51 rfl) (Eq.trans (q_isub (pc := 52) dX12_bearing_52) (q_iret (pc := 53) dX12_bearing_53 rfl rfl)))))))) zassoc))))))) zassoc)))) (fun hz2 => Eq.trans (q_aload_n (pc := 13) dX12_bearing_13 rfl rfl) (Eq.trans (q_bipush (v := 20) (pc := 14) dX12_bearing_14 rfl) (Eq.trans (Eq.trans (q_sumNP (q_callV (as := [.int 20]) (rest := []) (l0 := [.ref 66, .int 20]) (pc := 16) dX12_bearing_16 zC_12_370 rfl (z_recv zl_66 zh_66) rfl rfl) (by omega) (s_X12_ran σ 20)) (zand fun hz11 => Eq.trans (q_aload_n (pc := 19) dX12_bearing_19 rfl rfl) (Eq.trans (q_iload_n (pc := 20) dX12_bearing_20 rfl rfl) (Eq.trans (q_iload_n (pc := 21) dX12_bearing_21 rfl rfl) (Eq.trans (q_sumIP (q_callV (as := [.int a2, .int a3]) (rest := []) (l0 := [.ref 66, .int a2, .int a3]) (pc := 22) dX12_bearing_22 zC_12_373 rfl (z_recv zl_66 zh_66) rfl rfl) (by omega) (s_X12_plainBears (hd := by omega) (g_X12_ran σ 20) a2 a3)) (zand fun hz12 => Eq.trans (q_iconst (v := 3) (pc := 25) dX12_bearing_25 rfl) (Eq.trans (q_iadd (pc := 26) dX12_bearing_26) (q_iret (pc := 27) dX12_bearing_27 rfl rfl)))))))) zassoc)))))))) zassoc)))
def f_X12_plainClaps (σ : zS) (a2 : Int32) (a3 : Int32) : Int32 := ((f_X12_bearing (g_X12_ran σ 10) a2 a3) * 2)
def p_X12_plainClaps (σ : zS) (a2 : Int32) (a3 : Int32) : Prop := (p_X12_ran σ 10 ∧ p_X12_bearing (g_X12_ran σ 10) a2 a3)
def g_X12_plainClaps (σ : zS) (a2 : Int32) (a3 : Int32) : zS := (g_X12_bearing (g_X12_ran σ 10) a2 a3)
theorem s_X12_plainClaps {X : zX} {d : Nat} {Q : Option Value → zH → Prop} (hd : 4 ≤ d) (σ : zS) (a2 : Int32) (a3 : Int32)  : zwp X d MX12_plainClaps 0 [.ref 66, .int a2, .int a3] [] (zen σ) Q = (p_X12_plainClaps σ a2 a3 ∧ Q (some (.int (f_X12_plainClaps σ a2 a3))) (zen (g_X12_plainClaps σ a2 a3))) :=
  Eq.trans (q_aload_n (pc := 0) dX12_plainClaps_0 rfl rfl) (Eq.trans (q_bipush (v := 10) (pc := 1) dX12_plainClaps_1 rfl) (Eq.trans (Eq.trans (q_sumNP (q_callV (as := [.int 10]) (rest := []) (l0 := [.ref 66, .int 10]) (pc := 3) dX12_plainClaps_3 zC_12_370 rfl (z_recv zl_66 zh_66) rfl rfl) (by omega) (s_X12_ran σ 10)) (zand fun hz1 => Eq.trans (q_aload_n (pc := 6) dX12_plainClaps_6 rfl rfl) (Eq.trans (q_iload_n (pc := 7) dX12_plainClaps_7 rfl rfl) (Eq.trans (q_iload_n (pc := 8) dX12_plainClaps_8 rfl rfl) (Eq.trans (q_sumIP (q_callV (as := [.int a2, .int a3]) (rest := []) (l0 := [.ref 66, .int a2, .int a3]) (pc := 9) dX12_plainClaps_9 zC_12_382 rfl (z_recv zl_66 zh_66) rfl rfl) (by omega) (s_X12_bearing (hd := by omega) (g_X12_ran σ 10) a2 a3)) (zand fun hz2 => Eq.trans (q_iconst (v := 2) (pc := 12) dX12_plainClaps_12 rfl) (Eq.trans (q_imul (pc := 13) dX12_plainClaps_13) (q_iret (pc := 14) dX12_plainClaps_14 rfl rfl)))))))) zassoc))
def f_X12_ovationClaps (σ : zS) (a2 : Int32) (a3 : Int32) : Int32 := (-(f_X12_plainClaps (g_X12_ran σ 30) a2 a3))
def p_X12_ovationClaps (σ : zS) (a2 : Int32) (a3 : Int32) : Prop := (p_X12_ran σ 30 ∧ p_X12_plainClaps (g_X12_ran σ 30) a2 a3)
def g_X12_ovationClaps (σ : zS) (a2 : Int32) (a3 : Int32) : zS := (g_X12_plainClaps (g_X12_ran σ 30) a2 a3)
theorem s_X12_ovationClaps {X : zX} {d : Nat} {Q : Option Value → zH → Prop} (hd : 5 ≤ d) (σ : zS) (a2 : Int32) (a3 : Int32)  : zwp X d MX12_ovationClaps 0 [.ref 66, .int a2, .int a3] [] (zen σ) Q = (p_X12_ovationClaps σ a2 a3 ∧ Q (some (.int (f_X12_ovationClaps σ a2 a3))) (zen (g_X12_ovationClaps σ a2 a3))) :=
  Eq.trans (q_aload_n (pc := 0) dX12_ovationClaps_0 rfl rfl) (Eq.trans (q_bipush (v := 30) (pc := 1) dX12_ovationClaps_1 rfl) (Eq.trans (Eq.trans (q_sumNP (q_callV (as := [.int 30]) (rest := []) (l0 := [.ref 66, .int 30]) (pc := 3) dX12_ovationClaps_3 zC_12_370 rfl (z_recv zl_66 zh_66) rfl rfl) (by omega) (s_X12_ran σ 30)) (zand fun hz1 => Eq.trans (q_aload_n (pc := 6) dX12_ovationClaps_6 rfl rfl) (Eq.trans (q_iload_n (pc := 7) dX12_ovationClaps_7 rfl rfl) (Eq.trans (q_iload_n (pc := 8) dX12_ovationClaps_8 rfl rfl) (Eq.trans (q_sumIP (q_callV (as := [.int a2, .int a3]) (rest := []) (l0 := [.ref 66, .int a2, .int a3]) (pc := 9) dX12_ovationClaps_9 zC_12_385 rfl (z_recv zl_66 zh_66) rfl rfl) (by omega) (s_X12_plainClaps (hd := by omega) (g_X12_ran σ 30) a2 a3)) (zand fun hz2 => Eq.trans (q_ineg (pc := 12) dX12_ovationClaps_12) (q_iret (pc := 13) dX12_ovationClaps_13 rfl rfl))))))) zassoc))
def f_X12_plainThaws (σ : zS) (a2 : Int32) (a3 : Int32) : Int32 := (a3 ^^^ a2)
def p_X12_plainThaws (σ : zS) (a2 : Int32) (a3 : Int32) : Prop := p_X12_ran σ 11
def g_X12_plainThaws (σ : zS) (a2 : Int32) (a3 : Int32) : zS := (g_X12_ran σ 11)
theorem s_X12_plainThaws {X : zX} {d : Nat} {Q : Option Value → zH → Prop} (hd : 1 ≤ d) (σ : zS) (a2 : Int32) (a3 : Int32)  : zwp X d MX12_plainThaws 0 [.ref 66, .int a2, .int a3] [] (zen σ) Q = (p_X12_plainThaws σ a2 a3 ∧ Q (some (.int (f_X12_plainThaws σ a2 a3))) (zen (g_X12_plainThaws σ a2 a3))) :=
  Eq.trans (q_aload_n (pc := 0) dX12_plainThaws_0 rfl rfl) (Eq.trans (q_bipush (v := 11) (pc := 1) dX12_plainThaws_1 rfl) (Eq.trans (q_sumNP (q_callV (as := [.int 11]) (rest := []) (l0 := [.ref 66, .int 11]) (pc := 3) dX12_plainThaws_3 zC_12_370 rfl (z_recv zl_66 zh_66) rfl rfl) (by omega) (s_X12_ran σ 11)) (zand fun hz1 => Eq.trans (q_iload_n (pc := 6) dX12_plainThaws_6 rfl rfl) (Eq.trans (q_iload_n (pc := 7) dX12_plainThaws_7 rfl rfl) (Eq.trans (q_ixor (pc := 8) dX12_plainThaws_8) (q_iret (pc := 9) dX12_plainThaws_9 rfl rfl))))))
def f_X12_encoreThaws (σ : zS) (a2 : Int32) (a3 : Int32) : Int32 := ((f_X12_plainThaws (g_X12_ran σ 40) a2 a3) * 3)
def p_X12_encoreThaws (σ : zS) (a2 : Int32) (a3 : Int32) : Prop := (p_X12_ran σ 40 ∧ p_X12_plainThaws (g_X12_ran σ 40) a2 a3)
def g_X12_encoreThaws (σ : zS) (a2 : Int32) (a3 : Int32) : zS := (g_X12_plainThaws (g_X12_ran σ 40) a2 a3)
theorem s_X12_encoreThaws {X : zX} {d : Nat} {Q : Option Value → zH → Prop} (hd : 2 ≤ d) (σ : zS) (a2 : Int32) (a3 : Int32)  : zwp X d MX12_encoreThaws 0 [.ref 66, .int a2, .int a3] [] (zen σ) Q = (p_X12_encoreThaws σ a2 a3 ∧ Q (some (.int (f_X12_encoreThaws σ a2 a3))) (zen (g_X12_encoreThaws σ a2 a3))) :=
  Eq.trans (q_aload_n (pc := 0) dX12_encoreThaws_0 rfl rfl) (Eq.trans (q_bipush (v := 40) (pc := 1) dX12_encoreThaws_1 rfl) (Eq.trans (Eq.trans (q_sumNP (q_callV (as := [.int 40]) (rest := []) (l0 := [.ref 66, .int 40]) (pc := 3) dX12_encoreThaws_3 zC_12_370 rfl (z_recv zl_66 zh_66) rfl rfl) (by omega) (s_X12_ran σ 40)) (zand fun hz1 => Eq.trans (q_aload_n (pc := 6) dX12_encoreThaws_6 rfl rfl) (Eq.trans (q_iload_n (pc := 7) dX12_encoreThaws_7 rfl rfl) (Eq.trans (q_iload_n (pc := 8) dX12_encoreThaws_8 rfl rfl) (Eq.trans (q_sumIP (q_callV (as := [.int a2, .int a3]) (rest := []) (l0 := [.ref 66, .int a2, .int a3]) (pc := 9) dX12_encoreThaws_9 zC_12_394 rfl (z_recv zl_66 zh_66) rfl rfl) (by omega) (s_X12_plainThaws (hd := by omega) (g_X12_ran σ 40) a2 a3)) (zand fun hz2 => Eq.trans (q_iconst (v := 3) (pc := 12) dX12_encoreThaws_12 rfl) (Eq.trans (q_imul (pc := 13) dX12_encoreThaws_13) (q_iret (pc := 14) dX12_encoreThaws_14 rfl rfl)))))))) zassoc))
def f_X12_thawing (σ : zS) (a2 : Int32) (a3 : Int32) : Int32 := (if ¬ (gi σ 93 (ix a2)) = 5 then (if ¬ (gi σ 93 (ix a2)) = 3 then (f_X12_plainThaws σ a2 a3) else (f_X12_encoreThaws σ a2 a3)) else ((f_X12_encoreThaws (g_X12_ran σ 60) a2 a3) - (f_X12_bearing (g_X12_encoreThaws (g_X12_ran σ 60) a2 a3) a2 2)))
def p_X12_thawing (σ : zS) (a2 : Int32) (a3 : Int32) : Prop := (zin a2 50 = true ∧ (if ¬ (gi σ 93 (ix a2)) = 5 then (zin a2 50 = true ∧ (if ¬ (gi σ 93 (ix a2)) = 3 then p_X12_plainThaws σ a2 a3 else p_X12_encoreThaws σ a2 a3)) else (p_X12_ran σ 60 ∧ (p_X12_encoreThaws (g_X12_ran σ 60) a2 a3 ∧ p_X12_bearing (g_X12_encoreThaws (g_X12_ran σ 60) a2 a3) a2 2))))
def g_X12_thawing (σ : zS) (a2 : Int32) (a3 : Int32) : zS := (if ¬ (gi σ 93 (ix a2)) = 5 then (if ¬ (gi σ 93 (ix a2)) = 3 then (g_X12_plainThaws σ a2 a3) else (g_X12_encoreThaws σ a2 a3)) else (g_X12_bearing (g_X12_encoreThaws (g_X12_ran σ 60) a2 a3) a2 2))
theorem s_X12_thawing {X : zX} {d : Nat} {Q : Option Value → zH → Prop} (hd : 4 ≤ d) (σ : zS) (a2 : Int32) (a3 : Int32)  : zwp X d MX12_thawing 0 [.ref 66, .int a2, .int a3, .null] [] (zen σ) Q = (p_X12_thawing σ a2 a3 ∧ Q (some (.int (f_X12_thawing σ a2 a3))) (zen (g_X12_thawing σ a2 a3))) :=
  Eq.trans (q_aload_n (pc := 0) dX12_thawing_0 rfl rfl) (Eq.trans (q_getf (pc := 1) dX12_thawing_1 zF_12_103 (z_rfr zl_66 zh_66 (by decide) rfl)) (Eq.trans (q_iload_n (pc := 4) dX12_thawing_4 rfl rfl) (Eq.trans (Eq.trans (qe_iaload (x := (gi σ 93 (ix a2))) (pc := 5) dX12_thawing_5 (z_ia zl_93 zh_93 (by decide)) rfl) (zand fun hz1 => Eq.trans (q_iconst (v := 5) (pc := 6) dX12_thawing_6 rfl) (Eq.trans (q_icmp_ne (tgt := 32) (pc := 7) dX12_thawing_7 rfl) (zitpis (fun hz2 => Eq.trans (q_aload_n (pc := 32) dX12_thawing_32 rfl rfl) (Eq.trans (q_getf (pc := 33) dX12_thawing_33 zF_12_103 (z_rfr zl_66 zh_66 (by decide) rfl)) (Eq.trans (q_iload_n (pc := 36) dX12_thawing_36 rfl rfl) (Eq.trans (Eq.trans (qe_iaload (x := (gi σ 93 (ix a2))) (pc := 37) dX12_thawing_37 (z_ia zl_93 zh_93 (by decide)) rfl) (zand fun hz3 => Eq.trans (q_iconst (v := 3) (pc := 38) dX12_thawing_38 rfl) (Eq.trans (q_icmp_ne (tgt := 51) (pc := 39) dX12_thawing_39 rfl) (zitpis (fun hz4 => Eq.trans (q_aload_n (pc := 51) dX12_thawing_51 rfl rfl) (Eq.trans (q_iload_n (pc := 52) dX12_thawing_52 rfl rfl) (Eq.trans (q_iload_n (pc := 53) dX12_thawing_53 rfl rfl) (Eq.trans (q_sumIP (q_callV (as := [.int a2, .int a3]) (rest := []) (l0 := [.ref 66, .int a2, .int a3]) (pc := 54) dX12_thawing_54 zC_12_394 rfl (z_recv zl_66 zh_66) rfl rfl) (by omega) (s_X12_plainThaws (hd := by omega) σ a2 a3)) (zand fun hz5 => q_iret (pc := 57) dX12_thawing_57 rfl rfl))))) (fun hz4 => Eq.trans (q_aload_n (pc := 42) dX12_thawing_42 rfl rfl) (Eq.trans (q_iload_n (pc := 43) dX12_thawing_43 rfl rfl) (Eq.trans (q_iload_n (pc := 44) dX12_thawing_44 rfl rfl) (Eq.trans (q_sumIP (q_callV (as := [.int a2, .int a3]) (rest := []) (l0 := [.ref 66, .int a2, .int a3]) (pc := 45) dX12_thawing_45 zC_12_397 rfl (z_recv zl_66 zh_66) rfl rfl) (by omega) (s_X12_encoreThaws (hd := by omega) σ a2 a3)) (zand fun hz6 => Eq.trans (q_goto (tgt := 57) (pc := 48) dX12_thawing_48 rfl) (q_iret (pc := 57) dX12_thawing_57 rfl rfl)))))))))) zassoc)))) (fun hz2 => Eq.trans (q_aload_n (pc := 10) dX12_thawing_10 rfl rfl) (Eq.trans (q_bipush (v := 60) (pc := 11) dX12_thawing_11 rfl) (Eq.trans (Eq.trans (q_sumNP (q_callV (as := [.int 60]) (rest := []) (l0 := [.ref 66, .int 60]) (pc := 13) dX12_thawing_13 zC_12_370 rfl (z_recv zl_66 zh_66) rfl rfl) (by omega) (s_X12_ran σ 60)) (zand fun hz7 => Eq.trans (q_aload_n (pc := 16) dX12_thawing_16 rfl rfl) (Eq.trans (q_iload_n (pc := 17) dX12_thawing_17 rfl rfl) (Eq.trans (q_iload_n (pc := 18) dX12_thawing_18 rfl rfl) (Eq.trans (Eq.trans (q_sumIP (q_callV (as := [.int a2, .int a3]) (rest := []) (l0 := [.ref 66, .int a2, .int a3]) (pc := 19) dX12_thawing_19 zC_12_397 rfl (z_recv zl_66 zh_66) rfl rfl) (by omega) (s_X12_encoreThaws (hd := by omega) (g_X12_ran σ 60) a2 a3)) (zand fun hz8 => Eq.trans (q_istore_n (ls' := [.ref 66, .int a2, .int a3, .int (f_X12_encoreThaws (g_X12_ran σ 60) a2 a3)]) (pc := 22) dX12_thawing_22 rfl (Nat.le_of_ble_eq_true rfl) rfl) (Eq.trans (q_iload_n (pc := 23) dX12_thawing_23 rfl rfl) (Eq.trans (q_aload_n (pc := 24) dX12_thawing_24 rfl rfl) (Eq.trans (q_iload_n (pc := 25) dX12_thawing_25 rfl rfl) (Eq.trans (q_iconst (v := 2) (pc := 26) dX12_thawing_26 rfl) (Eq.trans (q_sumIP (q_callV (as := [.int a2, .int 2]) (rest := [.int (f_X12_encoreThaws (g_X12_ran σ 60) a2 a3)]) (l0 := [.ref 66, .int a2, .int 2]) (pc := 27) dX12_thawing_27 zC_12_382 rfl (z_recv zl_66 zh_66) rfl rfl) (by omega) (s_X12_bearing (hd := by omega) (g_X12_encoreThaws (g_X12_ran σ 60) a2 a3) a2 2)) (zand fun hz9 => Eq.trans (q_isub (pc := 30) dX12_thawing_30) (q_iret (pc := 31) dX12_thawing_31 rfl rfl))))))))) zassoc))))) zassoc))))))) zassoc)))
def f_X12_clapping (σ : zS) (a2 : Int32) (a3 : Int32) : Int32 := (if (f_X12_isUnder σ (gi σ 93 (ix a2)) 3) = 0 then (if ¬ (gi σ 93 (ix a2)) = 7 then (if ¬ (gi σ 93 (ix a2)) = 2 then (f_X12_plainClaps σ a2 a3) else (f_X12_ovationClaps σ a2 a3)) else ((f_X12_plainClaps (g_X12_ran σ 80) a2 a3) + (f_X12_thawing (g_X12_plainClaps (g_X12_ran σ 80) a2 a3) a2 2))) else (f_X12_ovationClaps (g_X12_ran σ 41) a2 (a3 + 1)))
def p_X12_clapping (σ : zS) (a2 : Int32) (a3 : Int32) : Prop := (zin a2 50 = true ∧ (if (f_X12_isUnder σ (gi σ 93 (ix a2)) 3) = 0 then (zin a2 50 = true ∧ (if ¬ (gi σ 93 (ix a2)) = 7 then (zin a2 50 = true ∧ (if ¬ (gi σ 93 (ix a2)) = 2 then p_X12_plainClaps σ a2 a3 else p_X12_ovationClaps σ a2 a3)) else (p_X12_ran σ 80 ∧ (p_X12_plainClaps (g_X12_ran σ 80) a2 a3 ∧ p_X12_thawing (g_X12_plainClaps (g_X12_ran σ 80) a2 a3) a2 2)))) else (p_X12_ran σ 41 ∧ p_X12_ovationClaps (g_X12_ran σ 41) a2 (a3 + 1))))
def g_X12_clapping (σ : zS) (a2 : Int32) (a3 : Int32) : zS := (if (f_X12_isUnder σ (gi σ 93 (ix a2)) 3) = 0 then (if ¬ (gi σ 93 (ix a2)) = 7 then (if ¬ (gi σ 93 (ix a2)) = 2 then (g_X12_plainClaps σ a2 a3) else (g_X12_ovationClaps σ a2 a3)) else (g_X12_thawing (g_X12_plainClaps (g_X12_ran σ 80) a2 a3) a2 2)) else (g_X12_ovationClaps (g_X12_ran σ 41) a2 (a3 + 1)))
theorem s_X12_clapping {X : zX} {d : Nat} {Q : Option Value → zH → Prop} (hd : 6 ≤ d) (σ : zS) (a2 : Int32) (a3 : Int32)  : zwp X d MX12_clapping 0 [.ref 66, .int a2, .int a3, .null] [] (zen σ) Q = (p_X12_clapping σ a2 a3 ∧ Q (some (.int (f_X12_clapping σ a2 a3))) (zen (g_X12_clapping σ a2 a3))) :=
  Eq.trans (q_aload_n (pc := 0) dX12_clapping_0 rfl rfl) (Eq.trans (q_getf (pc := 1) dX12_clapping_1 zF_12_103 (z_rfr zl_66 zh_66 (by decide) rfl)) (Eq.trans (q_iload_n (pc := 4) dX12_clapping_4 rfl rfl) (Eq.trans (Eq.trans (qe_iaload (x := (gi σ 93 (ix a2))) (pc := 5) dX12_clapping_5 (z_ia zl_93 zh_93 (by decide)) rfl) (zand fun hz1 => Eq.trans (q_iconst (v := 3) (pc := 6) dX12_clapping_6 rfl) (Eq.trans (q_sumI (q_callS (as := [.int (gi σ 93 (ix a2)), .int 3]) (rest := []) (l0 := [.int (gi σ 93 (ix a2)), .int 3]) (pc := 7) dX12_clapping_7 zSN_12_376 zC_12_376 rfl rfl rfl) (by omega) (s_X12_isUnder σ (gi σ 93 (ix a2)) 3)) (Eq.trans (q_if_eq (tgt := 28) (pc := 10) dX12_clapping_10 rfl) (zitpis (fun hz2 => Eq.trans (q_aload_n (pc := 28) dX12_clapping_28 rfl rfl) (Eq.trans (q_getf (pc := 29) dX12_clapping_29 zF_12_103 (z_rfr zl_66 zh_66 (by decide) rfl)) (Eq.trans (q_iload_n (pc := 32) dX12_clapping_32 rfl rfl) (Eq.trans (Eq.trans (qe_iaload (x := (gi σ 93 (ix a2))) (pc := 33) dX12_clapping_33 (z_ia zl_93 zh_93 (by decide)) rfl) (zand fun hz3 => Eq.trans (q_bipush (v := 7) (pc := 34) dX12_clapping_34 rfl) (Eq.trans (q_icmp_ne (tgt := 61) (pc := 36) dX12_clapping_36 rfl) (zitpis (fun hz4 => Eq.trans (q_aload_n (pc := 61) dX12_clapping_61 rfl rfl) (Eq.trans (q_getf (pc := 62) dX12_clapping_62 zF_12_103 (z_rfr zl_66 zh_66 (by decide) rfl)) (Eq.trans (q_iload_n (pc := 65) dX12_clapping_65 rfl rfl) (Eq.trans (Eq.trans (qe_iaload (x := (gi σ 93 (ix a2))) (pc := 66) dX12_clapping_66 (z_ia zl_93 zh_93 (by decide)) rfl) (zand fun hz5 => Eq.trans (q_iconst (v := 2) (pc := 67) dX12_clapping_67 rfl) (Eq.trans (q_icmp_ne (tgt := 80) (pc := 68) dX12_clapping_68 rfl) (zitpis (fun hz6 => Eq.trans (q_aload_n (pc := 80) dX12_clapping_80 rfl rfl) (Eq.trans (q_iload_n (pc := 81) dX12_clapping_81 rfl rfl) (Eq.trans (q_iload_n (pc := 82) dX12_clapping_82 rfl rfl) (Eq.trans (q_sumIP (q_callV (as := [.int a2, .int a3]) (rest := []) (l0 := [.ref 66, .int a2, .int a3]) (pc := 83) dX12_clapping_83 zC_12_385 rfl (z_recv zl_66 zh_66) rfl rfl) (by omega) (s_X12_plainClaps (hd := by omega) σ a2 a3)) (zand fun hz7 => q_iret (pc := 86) dX12_clapping_86 rfl rfl))))) (fun hz6 => Eq.trans (q_aload_n (pc := 71) dX12_clapping_71 rfl rfl) (Eq.trans (q_iload_n (pc := 72) dX12_clapping_72 rfl rfl) (Eq.trans (q_iload_n (pc := 73) dX12_clapping_73 rfl rfl) (Eq.trans (q_sumIP (q_callV (as := [.int a2, .int a3]) (rest := []) (l0 := [.ref 66, .int a2, .int a3]) (pc := 74) dX12_clapping_74 zC_12_388 rfl (z_recv zl_66 zh_66) rfl rfl) (by omega) (s_X12_ovationClaps (hd := by omega) σ a2 a3)) (zand fun hz8 => Eq.trans (q_goto (tgt := 86) (pc := 77) dX12_clapping_77 rfl) (q_iret (pc := 86) dX12_clapping_86 rfl rfl)))))))))) zassoc)))) (fun hz4 => Eq.trans (q_aload_n (pc := 39) dX12_clapping_39 rfl rfl) (Eq.trans (q_bipush (v := 80) (pc := 40) dX12_clapping_40 rfl) (Eq.trans (Eq.trans (q_sumNP (q_callV (as := [.int 80]) (rest := []) (l0 := [.ref 66, .int 80]) (pc := 42) dX12_clapping_42 zC_12_370 rfl (z_recv zl_66 zh_66) rfl rfl) (by omega) (s_X12_ran σ 80)) (zand fun hz9 => Eq.trans (q_aload_n (pc := 45) dX12_clapping_45 rfl rfl) (Eq.trans (q_iload_n (pc := 46) dX12_clapping_46 rfl rfl) (Eq.trans (q_iload_n (pc := 47) dX12_clapping_47 rfl rfl) (Eq.trans (Eq.trans (q_sumIP (q_callV (as := [.int a2, .int a3]) (rest := []) (l0 := [.ref 66, .int a2, .int a3]) (pc := 48) dX12_clapping_48 zC_12_385 rfl (z_recv zl_66 zh_66) rfl rfl) (by omega) (s_X12_plainClaps (hd := by omega) (g_X12_ran σ 80) a2 a3)) (zand fun hz10 => Eq.trans (q_istore_n (ls' := [.ref 66, .int a2, .int a3, .int (f_X12_plainClaps (g_X12_ran σ 80) a2 a3)]) (pc := 51) dX12_clapping_51 rfl (Nat.le_of_ble_eq_true rfl) rfl) (Eq.trans (q_iload_n (pc := 52) dX12_clapping_52 rfl rfl) (Eq.trans (q_aload_n (pc := 53) dX12_clapping_53 rfl rfl) (Eq.trans (q_iload_n (pc := 54) dX12_clapping_54 rfl rfl) (Eq.trans (q_iconst (v := 2) (pc := 55) dX12_clapping_55 rfl) (Eq.trans (q_sumIP (q_callV (as := [.int a2, .int 2]) (rest := [.int (f_X12_plainClaps (g_X12_ran σ 80) a2 a3)]) (l0 := [.ref 66, .int a2, .int 2, .null]) (pc := 56) dX12_clapping_56 zC_12_391 rfl (z_recv zl_66 zh_66) rfl rfl) (by omega) (s_X12_thawing (hd := by omega) (g_X12_plainClaps (g_X12_ran σ 80) a2 a3) a2 2)) (zand fun hz11 => Eq.trans (q_iadd (pc := 59) dX12_clapping_59) (q_iret (pc := 60) dX12_clapping_60 rfl rfl))))))))) zassoc))))) zassoc))))))) zassoc)))) (fun hz2 => Eq.trans (q_aload_n (pc := 13) dX12_clapping_13 rfl rfl) (Eq.trans (q_bipush (v := 41) (pc := 14) dX12_clapping_14 rfl) (Eq.trans (Eq.trans (q_sumNP (q_callV (as := [.int 41]) (rest := []) (l0 := [.ref 66, .int 41]) (pc := 16) dX12_clapping_16 zC_12_370 rfl (z_recv zl_66 zh_66) rfl rfl) (by omega) (s_X12_ran σ 41)) (zand fun hz12 => Eq.trans (q_aload_n (pc := 19) dX12_clapping_19 rfl rfl) (Eq.trans (q_iload_n (pc := 20) dX12_clapping_20 rfl rfl) (Eq.trans (q_iload_n (pc := 21) dX12_clapping_21 rfl rfl) (Eq.trans (q_iconst (v := 1) (pc := 22) dX12_clapping_22 rfl) (Eq.trans (q_iadd (pc := 23) dX12_clapping_23) (Eq.trans (q_sumIP (q_callV (as := [.int a2, .int (a3 + 1)]) (rest := []) (l0 := [.ref 66, .int a2, .int (a3 + 1)]) (pc := 24) dX12_clapping_24 zC_12_388 rfl (z_recv zl_66 zh_66) rfl rfl) (by omega) (s_X12_ovationClaps (hd := by omega) (g_X12_ran σ 41) a2 (a3 + 1))) (zand fun hz13 => q_iret (pc := 27) dX12_clapping_27 rfl rfl)))))))) zassoc)))))))) zassoc)))
def f_X12_plainTells (σ : zS) (a2 : Int32) (a3 : Int32) : Int32 := ((f_X12_clapping (g_X12_ran σ 2) a2 a3) - (f_X12_thawing (g_X12_clapping (g_X12_ran σ 2) a2 a3) a2 1))
def p_X12_plainTells (σ : zS) (a2 : Int32) (a3 : Int32) : Prop := (p_X12_ran σ 2 ∧ (p_X12_clapping (g_X12_ran σ 2) a2 a3 ∧ p_X12_thawing (g_X12_clapping (g_X12_ran σ 2) a2 a3) a2 1))
def g_X12_plainTells (σ : zS) (a2 : Int32) (a3 : Int32) : zS := (g_X12_thawing (g_X12_clapping (g_X12_ran σ 2) a2 a3) a2 1)
theorem s_X12_plainTells {X : zX} {d : Nat} {Q : Option Value → zH → Prop} (hd : 7 ≤ d) (σ : zS) (a2 : Int32) (a3 : Int32)  : zwp X d MX12_plainTells 0 [.ref 66, .int a2, .int a3, .null] [] (zen σ) Q = (p_X12_plainTells σ a2 a3 ∧ Q (some (.int (f_X12_plainTells σ a2 a3))) (zen (g_X12_plainTells σ a2 a3))) :=
  Eq.trans (q_aload_n (pc := 0) dX12_plainTells_0 rfl rfl) (Eq.trans (q_iconst (v := 2) (pc := 1) dX12_plainTells_1 rfl) (Eq.trans (Eq.trans (q_sumNP (q_callV (as := [.int 2]) (rest := []) (l0 := [.ref 66, .int 2]) (pc := 2) dX12_plainTells_2 zC_12_370 rfl (z_recv zl_66 zh_66) rfl rfl) (by omega) (s_X12_ran σ 2)) (zand fun hz1 => Eq.trans (q_aload_n (pc := 5) dX12_plainTells_5 rfl rfl) (Eq.trans (q_iload_n (pc := 6) dX12_plainTells_6 rfl rfl) (Eq.trans (q_iload_n (pc := 7) dX12_plainTells_7 rfl rfl) (Eq.trans (Eq.trans (q_sumIP (q_callV (as := [.int a2, .int a3]) (rest := []) (l0 := [.ref 66, .int a2, .int a3, .null]) (pc := 8) dX12_plainTells_8 zC_12_400 rfl (z_recv zl_66 zh_66) rfl rfl) (by omega) (s_X12_clapping (hd := by omega) (g_X12_ran σ 2) a2 a3)) (zand fun hz2 => Eq.trans (q_istore_n (ls' := [.ref 66, .int a2, .int a3, .int (f_X12_clapping (g_X12_ran σ 2) a2 a3)]) (pc := 11) dX12_plainTells_11 rfl (Nat.le_of_ble_eq_true rfl) rfl) (Eq.trans (q_iload_n (pc := 12) dX12_plainTells_12 rfl rfl) (Eq.trans (q_aload_n (pc := 13) dX12_plainTells_13 rfl rfl) (Eq.trans (q_iload_n (pc := 14) dX12_plainTells_14 rfl rfl) (Eq.trans (q_iconst (v := 1) (pc := 15) dX12_plainTells_15 rfl) (Eq.trans (q_sumIP (q_callV (as := [.int a2, .int 1]) (rest := [.int (f_X12_clapping (g_X12_ran σ 2) a2 a3)]) (l0 := [.ref 66, .int a2, .int 1, .null]) (pc := 16) dX12_plainTells_16 zC_12_391 rfl (z_recv zl_66 zh_66) rfl rfl) (by omega) (s_X12_thawing (hd := by omega) (g_X12_clapping (g_X12_ran σ 2) a2 a3) a2 1)) (zand fun hz3 => Eq.trans (q_isub (pc := 19) dX12_plainTells_19) (q_iret (pc := 20) dX12_plainTells_20 rfl rfl))))))))) zassoc))))) zassoc))
def f_X12_telling (σ : zS) (a2 : Int32) (a3 : Int32) : Int32 := (if ¬ (gi σ 93 (ix a2)) = 4 then (if ¬ (gi σ 93 (ix a2)) = 5 then (f_X12_plainTells σ a2 a3) else ((f_X12_plainTells (g_X12_ran σ 61) a2 a3) + 1)) else ((f_X12_plainTells (g_X12_ran σ 50) a2 a3) ^^^ 5))
def p_X12_telling (σ : zS) (a2 : Int32) (a3 : Int32) : Prop := (zin a2 50 = true ∧ (if ¬ (gi σ 93 (ix a2)) = 4 then (zin a2 50 = true ∧ (if ¬ (gi σ 93 (ix a2)) = 5 then p_X12_plainTells σ a2 a3 else (p_X12_ran σ 61 ∧ p_X12_plainTells (g_X12_ran σ 61) a2 a3))) else (p_X12_ran σ 50 ∧ p_X12_plainTells (g_X12_ran σ 50) a2 a3)))
def g_X12_telling (σ : zS) (a2 : Int32) (a3 : Int32) : zS := (if ¬ (gi σ 93 (ix a2)) = 4 then (if ¬ (gi σ 93 (ix a2)) = 5 then (g_X12_plainTells σ a2 a3) else (g_X12_plainTells (g_X12_ran σ 61) a2 a3)) else (g_X12_plainTells (g_X12_ran σ 50) a2 a3))
theorem s_X12_telling {X : zX} {d : Nat} {Q : Option Value → zH → Prop} (hd : 8 ≤ d) (σ : zS) (a2 : Int32) (a3 : Int32)  : zwp X d MX12_telling 0 [.ref 66, .int a2, .int a3] [] (zen σ) Q = (p_X12_telling σ a2 a3 ∧ Q (some (.int (f_X12_telling σ a2 a3))) (zen (g_X12_telling σ a2 a3))) :=
  Eq.trans (q_aload_n (pc := 0) dX12_telling_0 rfl rfl) (Eq.trans (q_getf (pc := 1) dX12_telling_1 zF_12_103 (z_rfr zl_66 zh_66 (by decide) rfl)) (Eq.trans (q_iload_n (pc := 4) dX12_telling_4 rfl rfl) (Eq.trans (Eq.trans (qe_iaload (x := (gi σ 93 (ix a2))) (pc := 5) dX12_telling_5 (z_ia zl_93 zh_93 (by decide)) rfl) (zand fun hz1 => Eq.trans (q_iconst (v := 4) (pc := 6) dX12_telling_6 rfl) (Eq.trans (q_icmp_ne (tgt := 25) (pc := 7) dX12_telling_7 rfl) (zitpis (fun hz2 => Eq.trans (q_aload_n (pc := 25) dX12_telling_25 rfl rfl) (Eq.trans (q_getf (pc := 26) dX12_telling_26 zF_12_103 (z_rfr zl_66 zh_66 (by decide) rfl)) (Eq.trans (q_iload_n (pc := 29) dX12_telling_29 rfl rfl) (Eq.trans (Eq.trans (qe_iaload (x := (gi σ 93 (ix a2))) (pc := 30) dX12_telling_30 (z_ia zl_93 zh_93 (by decide)) rfl) (zand fun hz3 => Eq.trans (q_iconst (v := 5) (pc := 31) dX12_telling_31 rfl) (Eq.trans (q_icmp_ne (tgt := 50) (pc := 32) dX12_telling_32 rfl) (zitpis (fun hz4 => Eq.trans (q_aload_n (pc := 50) dX12_telling_50 rfl rfl) (Eq.trans (q_iload_n (pc := 51) dX12_telling_51 rfl rfl) (Eq.trans (q_iload_n (pc := 52) dX12_telling_52 rfl rfl) (Eq.trans (q_sumIP (q_callV (as := [.int a2, .int a3]) (rest := []) (l0 := [.ref 66, .int a2, .int a3, .null]) (pc := 53) dX12_telling_53 zC_12_403 rfl (z_recv zl_66 zh_66) rfl rfl) (by omega) (s_X12_plainTells (hd := by omega) σ a2 a3)) (zand fun hz5 => q_iret (pc := 56) dX12_telling_56 rfl rfl))))) (fun hz4 => Eq.trans (q_aload_n (pc := 35) dX12_telling_35 rfl rfl) (Eq.trans (q_bipush (v := 61) (pc := 36) dX12_telling_36 rfl) (Eq.trans (Eq.trans (q_sumNP (q_callV (as := [.int 61]) (rest := []) (l0 := [.ref 66, .int 61]) (pc := 38) dX12_telling_38 zC_12_370 rfl (z_recv zl_66 zh_66) rfl rfl) (by omega) (s_X12_ran σ 61)) (zand fun hz6 => Eq.trans (q_aload_n (pc := 41) dX12_telling_41 rfl rfl) (Eq.trans (q_iload_n (pc := 42) dX12_telling_42 rfl rfl) (Eq.trans (q_iload_n (pc := 43) dX12_telling_43 rfl rfl) (Eq.trans (q_sumIP (q_callV (as := [.int a2, .int a3]) (rest := []) (l0 := [.ref 66, .int a2, .int a3, .null]) (pc := 44) dX12_telling_44 zC_12_403 rfl (z_recv zl_66 zh_66) rfl rfl) (by omega) (s_X12_plainTells (hd := by omega) (g_X12_ran σ 61) a2 a3)) (zand fun hz7 => Eq.trans (q_iconst (v := 1) (pc := 47) dX12_telling_47 rfl) (Eq.trans (q_iadd (pc := 48) dX12_telling_48) (q_iret (pc := 49) dX12_telling_49 rfl rfl)))))))) zassoc))))))) zassoc)))) (fun hz2 => Eq.trans (q_aload_n (pc := 10) dX12_telling_10 rfl rfl) (Eq.trans (q_bipush (v := 50) (pc := 11) dX12_telling_11 rfl) (Eq.trans (Eq.trans (q_sumNP (q_callV (as := [.int 50]) (rest := []) (l0 := [.ref 66, .int 50]) (pc := 13) dX12_telling_13 zC_12_370 rfl (z_recv zl_66 zh_66) rfl rfl) (by omega) (s_X12_ran σ 50)) (zand fun hz8 => Eq.trans (q_aload_n (pc := 16) dX12_telling_16 rfl rfl) (Eq.trans (q_iload_n (pc := 17) dX12_telling_17 rfl rfl) (Eq.trans (q_iload_n (pc := 18) dX12_telling_18 rfl rfl) (Eq.trans (q_sumIP (q_callV (as := [.int a2, .int a3]) (rest := []) (l0 := [.ref 66, .int a2, .int a3, .null]) (pc := 19) dX12_telling_19 zC_12_403 rfl (z_recv zl_66 zh_66) rfl rfl) (by omega) (s_X12_plainTells (hd := by omega) (g_X12_ran σ 50) a2 a3)) (zand fun hz9 => Eq.trans (q_iconst (v := 5) (pc := 22) dX12_telling_22 rfl) (Eq.trans (q_ixor (pc := 23) dX12_telling_23) (q_iret (pc := 24) dX12_telling_24 rfl rfl)))))))) zassoc))))))) zassoc)))
def f_X12_act (σ : zS) (a2 : Int32) (a3 : Int32) (a4 : Int32) : Int32 := (if (f_X12_isBody (si σ 66 51 0) a2) = 0 then 0 else (if ¬ (f_X12_in σ a3 0 3) = 0 then (if ¬ a3 = 0 then (if ¬ a3 = 1 then (if ¬ a3 = 2 then (f_X12_telling (si σ 66 51 0) a2 a4) else (f_X12_thawing (si σ 66 51 0) a2 a4)) else (f_X12_clapping (si σ 66 51 0) a2 a4)) else (f_X12_bearing (si σ 66 51 0) a2 a4)) else 0))
def p_X12_act (σ : zS) (a2 : Int32) (a3 : Int32) (a4 : Int32) : Prop := (if (f_X12_isBody (si σ 66 51 0) a2) = 0 then True else (if ¬ (f_X12_in σ a3 0 3) = 0 then (if ¬ a3 = 0 then (if ¬ a3 = 1 then (if ¬ a3 = 2 then p_X12_telling (si σ 66 51 0) a2 a4 else p_X12_thawing (si σ 66 51 0) a2 a4) else p_X12_clapping (si σ 66 51 0) a2 a4) else p_X12_bearing (si σ 66 51 0) a2 a4) else True))
def g_X12_act (σ : zS) (a2 : Int32) (a3 : Int32) (a4 : Int32) : zS := (if (f_X12_isBody (si σ 66 51 0) a2) = 0 then (si σ 66 51 0) else (if ¬ (f_X12_in σ a3 0 3) = 0 then (if ¬ a3 = 0 then (if ¬ a3 = 1 then (if ¬ a3 = 2 then (g_X12_telling (si σ 66 51 0) a2 a4) else (g_X12_thawing (si σ 66 51 0) a2 a4)) else (g_X12_clapping (si σ 66 51 0) a2 a4)) else (g_X12_bearing (si σ 66 51 0) a2 a4)) else (si σ 66 51 0)))
theorem s_X12_act {X : zX} {d : Nat} {Q : Option Value → zH → Prop} (hd : 9 ≤ d) (σ : zS) (a2 : Int32) (a3 : Int32) (a4 : Int32)  : zwp X d MX12_act 0 [.ref 66, .int a2, .int a3, .int a4] [] (zen σ) Q = (p_X12_act σ a2 a3 a4 ∧ Q (some (.int (f_X12_act σ a2 a3 a4))) (zen (g_X12_act σ a2 a3 a4))) :=
  Eq.trans (q_aload_n (pc := 0) dX12_act_0 rfl rfl) (Eq.trans (q_iconst (v := 0) (pc := 1) dX12_act_1 rfl) (Eq.trans (q_pf (pc := 2) dX12_act_2 zF_12_367 zPF_12_51 (z_pf zl_66 zh_66 rfl)) (Eq.trans (q_aload_n (pc := 5) dX12_act_5 rfl rfl) (Eq.trans (q_iload_n (pc := 6) dX12_act_6 rfl rfl) (Eq.trans (q_sumI (q_callV (as := [.int a2]) (rest := []) (l0 := [.ref 66, .int a2]) (pc := 7) dX12_act_7 zC_12_406 rfl (z_recv zl_66 zh_66) rfl rfl) (by omega) (s_X12_isBody (hd := by omega) (si σ 66 51 0) a2)) (Eq.trans (q_if_eq (tgt := 22) (pc := 10) dX12_act_10 rfl) (zitpis (fun hz1 => Eq.trans (Eq.trans (q_iconst (v := 0) (pc := 22) dX12_act_22 rfl) (q_iret (pc := 23) dX12_act_23 rfl rfl)) (true_and _).symm) (fun hz1 => Eq.trans (q_iload_n (pc := 13) dX12_act_13 rfl rfl) (Eq.trans (q_iconst (v := 0) (pc := 14) dX12_act_14 rfl) (Eq.trans (q_iconst (v := 3) (pc := 15) dX12_act_15 rfl) (Eq.trans (q_sumI (x := (f_X12_in σ a3 0 3)) (q_callS (as := [.int a3, .int 0, .int 3]) (rest := []) (l0 := [.int a3, .int 0, .int 3]) (pc := 16) dX12_act_16 zSN_12_128 zC_12_128 rfl rfl rfl) (by omega) (s_X12_in (si σ 66 51 0) a3 0 3)) (Eq.trans (q_if_ne (tgt := 24) (pc := 19) dX12_act_19 rfl) (zitpis (fun hz2 => Eq.trans (q_iload_n (pc := 24) dX12_act_24 rfl rfl) (Eq.trans (q_if_ne (tgt := 37) (pc := 25) dX12_act_25 rfl) (zitpis (fun hz3 => Eq.trans (q_iload_n (pc := 37) dX12_act_37 rfl rfl) (Eq.trans (q_iconst (v := 1) (pc := 38) dX12_act_38 rfl) (Eq.trans (q_icmp_ne (tgt := 51) (pc := 39) dX12_act_39 rfl) (zitpis (fun hz4 => Eq.trans (q_iload_n (pc := 51) dX12_act_51 rfl rfl) (Eq.trans (q_iconst (v := 2) (pc := 52) dX12_act_52 rfl) (Eq.trans (q_icmp_ne (tgt := 65) (pc := 53) dX12_act_53 rfl) (zitpis (fun hz5 => Eq.trans (q_aload_n (pc := 65) dX12_act_65 rfl rfl) (Eq.trans (q_iload_n (pc := 66) dX12_act_66 rfl rfl) (Eq.trans (q_iload_n (pc := 67) dX12_act_67 rfl rfl) (Eq.trans (q_sumIP (q_callV (as := [.int a2, .int a4]) (rest := []) (l0 := [.ref 66, .int a2, .int a4]) (pc := 68) dX12_act_68 zC_12_409 rfl (z_recv zl_66 zh_66) rfl rfl) (by omega) (s_X12_telling (hd := by omega) (si σ 66 51 0) a2 a4)) (zand fun hz6 => q_iret (pc := 71) dX12_act_71 rfl rfl))))) (fun hz5 => Eq.trans (q_aload_n (pc := 56) dX12_act_56 rfl rfl) (Eq.trans (q_iload_n (pc := 57) dX12_act_57 rfl rfl) (Eq.trans (q_iload_n (pc := 58) dX12_act_58 rfl rfl) (Eq.trans (q_sumIP (q_callV (as := [.int a2, .int a4]) (rest := []) (l0 := [.ref 66, .int a2, .int a4, .null]) (pc := 59) dX12_act_59 zC_12_391 rfl (z_recv zl_66 zh_66) rfl rfl) (by omega) (s_X12_thawing (hd := by omega) (si σ 66 51 0) a2 a4)) (zand fun hz7 => Eq.trans (q_goto (tgt := 71) (pc := 62) dX12_act_62 rfl) (q_iret (pc := 71) dX12_act_71 rfl rfl)))))))))) (fun hz4 => Eq.trans (q_aload_n (pc := 42) dX12_act_42 rfl rfl) (Eq.trans (q_iload_n (pc := 43) dX12_act_43 rfl rfl) (Eq.trans (q_iload_n (pc := 44) dX12_act_44 rfl rfl) (Eq.trans (q_sumIP (q_callV (as := [.int a2, .int a4]) (rest := []) (l0 := [.ref 66, .int a2, .int a4, .null]) (pc := 45) dX12_act_45 zC_12_400 rfl (z_recv zl_66 zh_66) rfl rfl) (by omega) (s_X12_clapping (hd := by omega) (si σ 66 51 0) a2 a4)) (zand fun hz8 => Eq.trans (q_goto (tgt := 71) (pc := 48) dX12_act_48 rfl) (q_iret (pc := 71) dX12_act_71 rfl rfl)))))))))) (fun hz3 => Eq.trans (q_aload_n (pc := 28) dX12_act_28 rfl rfl) (Eq.trans (q_iload_n (pc := 29) dX12_act_29 rfl rfl) (Eq.trans (q_iload_n (pc := 30) dX12_act_30 rfl rfl) (Eq.trans (q_sumIP (q_callV (as := [.int a2, .int a4]) (rest := []) (l0 := [.ref 66, .int a2, .int a4]) (pc := 31) dX12_act_31 zC_12_382 rfl (z_recv zl_66 zh_66) rfl rfl) (by omega) (s_X12_bearing (hd := by omega) (si σ 66 51 0) a2 a4)) (zand fun hz9 => Eq.trans (q_goto (tgt := 71) (pc := 34) dX12_act_34 rfl) (q_iret (pc := 71) dX12_act_71 rfl rfl))))))))) (fun hz2 => Eq.trans (Eq.trans (q_iconst (v := 0) (pc := 22) dX12_act_22 rfl) (q_iret (pc := 23) dX12_act_23 rfl rfl)) (true_and _).symm))))))))))))))
def f_X12_addRow (σ : zS) (a2 : Int32) (a3 : Int32) (a4 : Int32) : Int32 := (((gi σ 66 1) + 1) - 1)
def p_X12_addRow (σ : zS) (a2 : Int32) (a3 : Int32) (a4 : Int32) : Prop := (zin (gi σ 66 1) 6 = true ∧ (zin (gi σ 66 1) 6 = true ∧ (zin (gi σ 66 1) 6 = true ∧ zin (gi σ 66 1) 6 = true)))
def g_X12_addRow (σ : zS) (a2 : Int32) (a3 : Int32) (a4 : Int32) : zS := (si (si (si (si (si σ 67 (ix (gi σ 66 1)) a2) 68 (ix (gi σ 66 1)) a3) 69 (ix (gi σ 66 1)) 5) 70 (ix (gi σ 66 1)) a4) 66 1 ((gi σ 66 1) + 1))
theorem s_X12_addRow {X : zX} {d : Nat} {Q : Option Value → zH → Prop} (σ : zS) (a2 : Int32) (a3 : Int32) (a4 : Int32)  : zwp X d MX12_addRow 0 [.ref 66, .int a2, .int a3, .int a4] [] (zen σ) Q = (p_X12_addRow σ a2 a3 a4 ∧ Q (some (.int (f_X12_addRow σ a2 a3 a4))) (zen (g_X12_addRow σ a2 a3 a4))) :=
  Eq.trans (q_aload_n (pc := 0) dX12_addRow_0 rfl rfl) (Eq.trans (q_getf (pc := 1) dX12_addRow_1 zF_12_7 (z_rfr zl_66 zh_66 (by decide) rfl)) (Eq.trans (q_aload_n (pc := 4) dX12_addRow_4 rfl rfl) (Eq.trans (q_getf (pc := 5) dX12_addRow_5 zF_12_125 (z_rfiE (x := (gi σ 66 1)) zl_66 zh_66 (by decide) rfl rfl)) (Eq.trans (q_iload_n (pc := 8) dX12_addRow_8 rfl rfl) (Eq.trans (Eq.trans (q_iastore (pc := 9) dX12_addRow_9 (zN_lt zl_67) (z_ia zl_67 zh_67 (by decide)) (z_pi zl_67 zh_67 (by decide))) (zand fun hz1 => Eq.trans (q_aload_n (pc := 10) dX12_addRow_10 rfl rfl) (Eq.trans (q_getf (pc := 11) dX12_addRow_11 zF_12_13 (z_rfr zl_66 zh_66 (by decide) rfl)) (Eq.trans (q_aload_n (pc := 14) dX12_addRow_14 rfl rfl) (Eq.trans (q_getf (pc := 15) dX12_addRow_15 zF_12_125 (z_rfiE (x := (gi σ 66 1)) zl_66 zh_66 (by decide) rfl rfl)) (Eq.trans (q_iload_n (pc := 18) dX12_addRow_18 rfl rfl) (Eq.trans (Eq.trans (q_iastore (pc := 19) dX12_addRow_19 (zN_lt zl_68) (z_ia zl_68 zh_68 (by decide)) (z_pi zl_68 zh_68 (by decide))) (zand fun hz2 => Eq.trans (q_aload_n (pc := 20) dX12_addRow_20 rfl rfl) (Eq.trans (q_getf (pc := 21) dX12_addRow_21 zF_12_16 (z_rfr zl_66 zh_66 (by decide) rfl)) (Eq.trans (q_aload_n (pc := 24) dX12_addRow_24 rfl rfl) (Eq.trans (q_getf (pc := 25) dX12_addRow_25 zF_12_125 (z_rfiE (x := (gi σ 66 1)) zl_66 zh_66 (by decide) rfl rfl)) (Eq.trans (q_iconst (v := 5) (pc := 28) dX12_addRow_28 rfl) (Eq.trans (Eq.trans (q_iastore (pc := 29) dX12_addRow_29 (zN_lt zl_69) (z_ia zl_69 zh_69 (by decide)) (z_pi zl_69 zh_69 (by decide))) (zand fun hz3 => Eq.trans (q_aload_n (pc := 30) dX12_addRow_30 rfl rfl) (Eq.trans (q_getf (pc := 31) dX12_addRow_31 zF_12_19 (z_rfr zl_66 zh_66 (by decide) rfl)) (Eq.trans (q_aload_n (pc := 34) dX12_addRow_34 rfl rfl) (Eq.trans (q_getf (pc := 35) dX12_addRow_35 zF_12_125 (z_rfiE (x := (gi σ 66 1)) zl_66 zh_66 (by decide) rfl rfl)) (Eq.trans (q_iload_n (pc := 38) dX12_addRow_38 rfl rfl) (Eq.trans (q_iastore (pc := 39) dX12_addRow_39 (zN_lt zl_70) (z_ia zl_70 zh_70 (by decide)) (z_pi zl_70 zh_70 (by decide))) (zand fun hz4 => Eq.trans (q_aload_n (pc := 40) dX12_addRow_40 rfl rfl) (Eq.trans (q_dup_ref (pc := 41) dX12_addRow_41) (Eq.trans (q_getf (pc := 42) dX12_addRow_42 zF_12_125 (z_rfiE (x := (gi σ 66 1)) zl_66 zh_66 (by decide) rfl rfl)) (Eq.trans (q_iconst (v := 1) (pc := 45) dX12_addRow_45 rfl) (Eq.trans (q_iadd (pc := 46) dX12_addRow_46) (Eq.trans (q_pf (pc := 47) dX12_addRow_47 zF_12_125 zPF_12_1 (z_pf zl_66 zh_66 rfl)) (Eq.trans (q_aload_n (pc := 50) dX12_addRow_50 rfl rfl) (Eq.trans (q_getf (pc := 51) dX12_addRow_51 zF_12_125 (z_rfiE (x := ((gi σ 66 1) + 1)) zl_66 zh_66 (by decide) rfl rfl)) (Eq.trans (q_iconst (v := 1) (pc := 54) dX12_addRow_54 rfl) (Eq.trans (q_isub (pc := 55) dX12_addRow_55) (q_iret (pc := 56) dX12_addRow_56 rfl rfl)))))))))))))))))) zassoc))))))) zassoc))))))) zassoc)))))
def p_X12_addStep (σ : zS) (a2 : Int32) (a3 : Int32) : Prop := (zin (130 + (gi σ 66 24)) 260 = true ∧ zin (130 + (gi σ 66 24)) 260 = true)
def g_X12_addStep (σ : zS) (a2 : Int32) (a3 : Int32) : zS := (si (si (si σ 78 (ix (130 + (gi σ 66 24))) ((Int32.toInt8 ((Int32.toInt8 a2).toInt32)).toInt32)) 79 (ix (130 + (gi σ 66 24))) a3) 66 24 ((gi σ 66 24) + 1))
theorem s_X12_addStep {X : zX} {d : Nat} {Q : Option Value → zH → Prop} (σ : zS) (a2 : Int32) (a3 : Int32)  : zwp X d MX12_addStep 0 [.ref 66, .int a2, .int a3] [] (zen σ) Q = (p_X12_addStep σ a2 a3 ∧ Q none (zen (g_X12_addStep σ a2 a3))) :=
  Eq.trans (q_aload_n (pc := 0) dX12_addStep_0 rfl rfl) (Eq.trans (q_getf (pc := 1) dX12_addStep_1 zF_12_54 (z_rfr zl_66 zh_66 (by decide) rfl)) (Eq.trans (q_sipush (v := 130) (pc := 4) dX12_addStep_4 rfl) (Eq.trans (q_aload_n (pc := 7) dX12_addStep_7 rfl rfl) (Eq.trans (q_getf (pc := 8) dX12_addStep_8 zF_12_187 (z_rfiE (x := (gi σ 66 24)) zl_66 zh_66 (by decide) rfl rfl)) (Eq.trans (q_iadd (pc := 11) dX12_addStep_11) (Eq.trans (q_iload_n (pc := 12) dX12_addStep_12 rfl rfl) (Eq.trans (q_i2b (pc := 13) dX12_addStep_13) (Eq.trans (Eq.trans (q_bastore (pc := 14) dX12_addStep_14 (zN_lt zl_78) (z_ia zl_78 zh_78 (by decide)) (z_pi zl_78 zh_78 (by decide))) (zand fun hz1 => Eq.trans (q_aload_n (pc := 15) dX12_addStep_15 rfl rfl) (Eq.trans (q_getf (pc := 16) dX12_addStep_16 zF_12_57 (z_rfr zl_66 zh_66 (by decide) rfl)) (Eq.trans (q_sipush (v := 130) (pc := 19) dX12_addStep_19 rfl) (Eq.trans (q_aload_n (pc := 22) dX12_addStep_22 rfl rfl) (Eq.trans (q_getf (pc := 23) dX12_addStep_23 zF_12_187 (z_rfiE (x := (gi σ 66 24)) zl_66 zh_66 (by decide) rfl rfl)) (Eq.trans (q_iadd (pc := 26) dX12_addStep_26) (Eq.trans (q_iload_n (pc := 27) dX12_addStep_27 rfl rfl) (Eq.trans (q_iastore (pc := 28) dX12_addStep_28 (zN_lt zl_79) (z_ia zl_79 zh_79 (by decide)) (z_pi zl_79 zh_79 (by decide))) (zand fun hz2 => Eq.trans (q_aload_n (pc := 29) dX12_addStep_29 rfl rfl) (Eq.trans (q_dup_ref (pc := 30) dX12_addStep_30) (Eq.trans (q_getf (pc := 31) dX12_addStep_31 zF_12_187 (z_rfiE (x := (gi σ 66 24)) zl_66 zh_66 (by decide) rfl rfl)) (Eq.trans (q_iconst (v := 1) (pc := 34) dX12_addStep_34 rfl) (Eq.trans (q_iadd (pc := 35) dX12_addStep_35) (Eq.trans (q_pf (pc := 36) dX12_addStep_36 zF_12_187 zPF_12_24 (z_pf zl_66 zh_66 rfl)) (q_vret (pc := 39) dX12_addStep_39 rfl)))))))))))))))) zassoc))))))))
def f_X12_apart (σ : zS) (a1 : Int32) (a2 : Int32) : Int32 := (if a2 ≤ a1 then (a1 - a2) else (a2 - a1))
theorem s_X12_apart {X : zX} {d : Nat} {Q : Option Value → zH → Prop} (σ : zS) (a1 : Int32) (a2 : Int32)  : zwp X d MX12_apart 0 [.int a1, .int a2] [] (zen σ) Q = Q (some (.int (f_X12_apart σ a1 a2))) (zen σ) :=
  Eq.trans (q_iload_n (pc := 0) dX12_apart_0 rfl rfl) (Eq.trans (q_iload_n (pc := 1) dX12_apart_1 rfl rfl) (Eq.trans (q_icmp_ge (tgt := 11) (pc := 2) dX12_apart_2 rfl) (ziti (fun hz1 => Eq.trans (q_iload_n (pc := 11) dX12_apart_11 rfl rfl) (Eq.trans (q_iload_n (pc := 12) dX12_apart_12 rfl rfl) (Eq.trans (q_isub (pc := 13) dX12_apart_13) (q_iret (pc := 14) dX12_apart_14 rfl rfl)))) (fun hz1 => Eq.trans (q_iload_n (pc := 5) dX12_apart_5 rfl rfl) (Eq.trans (q_iload_n (pc := 6) dX12_apart_6 rfl rfl) (Eq.trans (q_isub (pc := 7) dX12_apart_7) (Eq.trans (q_goto (tgt := 14) (pc := 8) dX12_apart_8 rfl) (q_iret (pc := 14) dX12_apart_14 rfl rfl))))))))
def f_X12_isShelf (σ : zS) (a1 : Int32) : Int32 := (f_X12_in σ a1 0 5)
theorem s_X12_isShelf {X : zX} {d : Nat} {Q : Option Value → zH → Prop} (hd : 1 ≤ d) (σ : zS) (a1 : Int32)  : zwp X d MX12_isShelf 0 [.int a1] [] (zen σ) Q = Q (some (.int (f_X12_isShelf σ a1))) (zen σ) :=
  Eq.trans (q_iload_n (pc := 0) dX12_isShelf_0 rfl rfl) (Eq.trans (q_iconst (v := 0) (pc := 1) dX12_isShelf_1 rfl) (Eq.trans (q_iconst (v := 5) (pc := 2) dX12_isShelf_2 rfl) (Eq.trans (q_sumI (q_callS (as := [.int a1, .int 0, .int 5]) (rest := []) (l0 := [.int a1, .int 0, .int 5]) (pc := 3) dX12_isShelf_3 zSN_12_128 zC_12_128 rfl rfl rfl) (by omega) (s_X12_in σ a1 0 5)) (q_zretK (pc := 6) dX12_isShelf_6 rfl (zb_X12_in _ _ _ _)))))
theorem zb_X12_isShelf (σ : zS) (a1 : Int32) : f_X12_isShelf σ a1 = 0 ∨ f_X12_isShelf σ a1 = 1 := by
  unfold f_X12_isShelf
  repeat' split
  all_goals first | exact Or.inl rfl | exact Or.inr rfl | exact zb_X12_in _ _ _ _
def f_X12_areShelves (σ : zS) (a1 : Int32) : Int32 := (if a1 < 0 then 0 else (if (f_X12_isShelf σ (a1 / 10)) = 0 then 0 else (if (f_X12_isShelf σ (a1 - a1 / 10 * 10)) = 0 then 0 else 1)))
theorem s_X12_areShelves {X : zX} {d : Nat} {Q : Option Value → zH → Prop} (hd : 2 ≤ d) (σ : zS) (a1 : Int32)  : zwp X d MX12_areShelves 0 [.int a1] [] (zen σ) Q = Q (some (.int (f_X12_areShelves σ a1))) (zen σ) :=
  Eq.trans (q_iload_n (pc := 0) dX12_areShelves_0 rfl rfl) (Eq.trans (q_if_lt (tgt := 28) (pc := 1) dX12_areShelves_1 rfl) (ziti (fun hz1 => Eq.trans (q_iconst (v := 0) (pc := 28) dX12_areShelves_28 rfl) (q_zretK (pc := 29) dX12_areShelves_29 rfl (by decide))) (fun hz1 => Eq.trans (q_iload_n (pc := 4) dX12_areShelves_4 rfl rfl) (Eq.trans (q_bipush (v := 10) (pc := 5) dX12_areShelves_5 rfl) (Eq.trans (q_idivK (pc := 7) dX12_areShelves_7 (by decide)) (Eq.trans (q_sumI (q_callS (as := [.int (a1 / 10)]) (rest := []) (l0 := [.int (a1 / 10)]) (pc := 8) dX12_areShelves_8 zSN_12_139 zC_12_139 rfl rfl rfl) (by omega) (s_X12_isShelf (hd := by omega) σ (a1 / 10))) (Eq.trans (q_if_eq (tgt := 28) (pc := 11) dX12_areShelves_11 rfl) (ziti (fun hz2 => Eq.trans (q_iconst (v := 0) (pc := 28) dX12_areShelves_28 rfl) (q_zretK (pc := 29) dX12_areShelves_29 rfl (by decide))) (fun hz2 => Eq.trans (q_iload_n (pc := 14) dX12_areShelves_14 rfl rfl) (Eq.trans (q_bipush (v := 10) (pc := 15) dX12_areShelves_15 rfl) (Eq.trans (q_iremK (pc := 17) dX12_areShelves_17 (by decide)) (Eq.trans (q_sumI (q_callS (as := [.int (a1 - a1 / 10 * 10)]) (rest := []) (l0 := [.int (a1 - a1 / 10 * 10)]) (pc := 18) dX12_areShelves_18 zSN_12_139 zC_12_139 rfl rfl rfl) (by omega) (s_X12_isShelf (hd := by omega) σ (a1 - a1 / 10 * 10))) (Eq.trans (q_if_eq (tgt := 28) (pc := 21) dX12_areShelves_21 rfl) (ziti (fun hz3 => Eq.trans (q_iconst (v := 0) (pc := 28) dX12_areShelves_28 rfl) (q_zretK (pc := 29) dX12_areShelves_29 rfl (by decide))) (fun hz3 => Eq.trans (q_iconst (v := 1) (pc := 24) dX12_areShelves_24 rfl) (Eq.trans (q_goto (tgt := 29) (pc := 25) dX12_areShelves_25 rfl) (q_zretK (pc := 29) dX12_areShelves_29 rfl (by decide))))))))))))))))))
theorem zb_X12_areShelves (σ : zS) (a1 : Int32) : f_X12_areShelves σ a1 = 0 ∨ f_X12_areShelves σ a1 = 1 := by
  unfold f_X12_areShelves
  repeat' split
  all_goals first | exact Or.inl rfl | exact Or.inr rfl | exact zb_X12_isShelf _ _
def f_X12_areWeight (σ : zS) (a1 : Int32) : Int32 := (if a1 < 0 then 0 else (if 999 < (a1 / 10) then 0 else 1))
theorem s_X12_areWeight {X : zX} {d : Nat} {Q : Option Value → zH → Prop} (σ : zS) (a1 : Int32)  : zwp X d MX12_areWeight 0 [.int a1] [] (zen σ) Q = Q (some (.int (f_X12_areWeight σ a1))) (zen σ) :=
  Eq.trans (q_iload_n (pc := 0) dX12_areWeight_0 rfl rfl) (Eq.trans (q_if_lt (tgt := 18) (pc := 1) dX12_areWeight_1 rfl) (ziti (fun hz1 => Eq.trans (q_iconst (v := 0) (pc := 18) dX12_areWeight_18 rfl) (q_zretK (pc := 19) dX12_areWeight_19 rfl (by decide))) (fun hz1 => Eq.trans (q_iload_n (pc := 4) dX12_areWeight_4 rfl rfl) (Eq.trans (q_bipush (v := 10) (pc := 5) dX12_areWeight_5 rfl) (Eq.trans (q_idivK (pc := 7) dX12_areWeight_7 (by decide)) (Eq.trans (q_sipush (v := 999) (pc := 8) dX12_areWeight_8 rfl) (Eq.trans (q_icmp_gt (tgt := 18) (pc := 11) dX12_areWeight_11 rfl) (ziti (fun hz2 => Eq.trans (q_iconst (v := 0) (pc := 18) dX12_areWeight_18 rfl) (q_zretK (pc := 19) dX12_areWeight_19 rfl (by decide))) (fun hz2 => Eq.trans (q_iconst (v := 1) (pc := 14) dX12_areWeight_14 rfl) (Eq.trans (q_goto (tgt := 19) (pc := 15) dX12_areWeight_15 rfl) (q_zretK (pc := 19) dX12_areWeight_19 rfl (by decide))))))))))))
theorem zb_X12_areWeight (σ : zS) (a1 : Int32) : f_X12_areWeight σ a1 = 0 ∨ f_X12_areWeight σ a1 = 1 := by
  unfold f_X12_areWeight
  repeat' split
  all_goals first | exact Or.inl rfl | exact Or.inr rfl
def f_X12_at (σ : zS) (a2 : Int32) (a3 : Int32) : Int32 := (Int64.toInt32 (gl σ 97 (ix ((60 * a2) + a3))))
def p_X12_at (σ : zS) (a2 : Int32) (a3 : Int32) : Prop := zin ((60 * a2) + a3) 360 = true
theorem s_X12_at {X : zX} {d : Nat} {Q : Option Value → zH → Prop} (σ : zS) (a2 : Int32) (a3 : Int32)  : zwp X d MX12_at 0 [.ref 66, .int a2, .int a3] [] (zen σ) Q = (p_X12_at σ a2 a3 ∧ Q (some (.int (f_X12_at σ a2 a3))) (zen σ)) :=
  Eq.trans (q_aload_n (pc := 0) dX12_at_0 rfl rfl) (Eq.trans (q_getf (pc := 1) dX12_at_1 zF_12_115 (z_rfr zl_66 zh_66 (by decide) rfl)) (Eq.trans (q_bipush (v := 60) (pc := 4) dX12_at_4 rfl) (Eq.trans (q_iload_n (pc := 6) dX12_at_6 rfl rfl) (Eq.trans (q_imul (pc := 7) dX12_at_7) (Eq.trans (q_iload_n (pc := 8) dX12_at_8 rfl rfl) (Eq.trans (q_iadd (pc := 9) dX12_at_9) (Eq.trans (qe_laload (x := (gl σ 97 (ix ((60 * a2) + a3)))) (pc := 10) dX12_at_10 (z_la zl_97 zh_97) rfl) (zand fun hz1 => Eq.trans (q_l2i (pc := 11) dX12_at_11) (q_iret (pc := 12) dX12_at_12 rfl rfl)))))))))
def f_X12_body (σ : zS) (a2 : Int32) : Int32 := (if ¬ (f_X12_in σ a2 0 7) = 0 then (if ¬ (gi σ 66 49) = 50 then (((gi σ 66 49) + 1) - 1) else (-3)) else (-1))
def p_X12_body (σ : zS) (a2 : Int32) : Prop := (if ¬ (f_X12_in σ a2 0 7) = 0 then (if ¬ (gi σ 66 49) = 50 then zin (gi σ 66 49) 50 = true else True) else True)
def g_X12_body (σ : zS) (a2 : Int32) : zS := (if ¬ (f_X12_in σ a2 0 7) = 0 then (if ¬ (gi σ 66 49) = 50 then (si (si σ 93 (ix (gi σ 66 49)) a2) 66 49 ((gi σ 66 49) + 1)) else σ) else σ)
theorem s_X12_body {X : zX} {d : Nat} {Q : Option Value → zH → Prop} (hd : 1 ≤ d) (σ : zS) (a2 : Int32)  : zwp X d MX12_body 0 [.ref 66, .int a2] [] (zen σ) Q = (p_X12_body σ a2 ∧ Q (some (.int (f_X12_body σ a2))) (zen (g_X12_body σ a2))) :=
  Eq.trans (q_iload_n (pc := 0) dX12_body_0 rfl rfl) (Eq.trans (q_iconst (v := 0) (pc := 1) dX12_body_1 rfl) (Eq.trans (q_bipush (v := 7) (pc := 2) dX12_body_2 rfl) (Eq.trans (q_sumI (q_callS (as := [.int a2, .int 0, .int 7]) (rest := []) (l0 := [.int a2, .int 0, .int 7]) (pc := 4) dX12_body_4 zSN_12_128 zC_12_128 rfl rfl rfl) (by omega) (s_X12_in σ a2 0 7)) (Eq.trans (q_if_ne (tgt := 12) (pc := 7) dX12_body_7 rfl) (zitpis (fun hz1 => Eq.trans (q_aload_n (pc := 12) dX12_body_12 rfl rfl) (Eq.trans (q_getf (pc := 13) dX12_body_13 zF_12_364 (z_rfiE (x := (gi σ 66 49)) zl_66 zh_66 (by decide) rfl rfl)) (Eq.trans (q_bipush (v := 50) (pc := 16) dX12_body_16 rfl) (Eq.trans (q_icmp_ne (tgt := 24) (pc := 18) dX12_body_18 rfl) (zitpis (fun hz2 => Eq.trans (q_aload_n (pc := 24) dX12_body_24 rfl rfl) (Eq.trans (q_getf (pc := 25) dX12_body_25 zF_12_103 (z_rfr zl_66 zh_66 (by decide) rfl)) (Eq.trans (q_aload_n (pc := 28) dX12_body_28 rfl rfl) (Eq.trans (q_getf (pc := 29) dX12_body_29 zF_12_364 (z_rfiE (x := (gi σ 66 49)) zl_66 zh_66 (by decide) rfl rfl)) (Eq.trans (q_iload_n (pc := 32) dX12_body_32 rfl rfl) (Eq.trans (q_iastore (pc := 33) dX12_body_33 (zN_lt zl_93) (z_ia zl_93 zh_93 (by decide)) (z_pi zl_93 zh_93 (by decide))) (zand fun hz3 => Eq.trans (q_aload_n (pc := 34) dX12_body_34 rfl rfl) (Eq.trans (q_dup_ref (pc := 35) dX12_body_35) (Eq.trans (q_getf (pc := 36) dX12_body_36 zF_12_364 (z_rfiE (x := (gi σ 66 49)) zl_66 zh_66 (by decide) rfl rfl)) (Eq.trans (q_iconst (v := 1) (pc := 39) dX12_body_39 rfl) (Eq.trans (q_iadd (pc := 40) dX12_body_40) (Eq.trans (q_pf (pc := 41) dX12_body_41 zF_12_364 zPF_12_49 (z_pf zl_66 zh_66 rfl)) (Eq.trans (q_aload_n (pc := 44) dX12_body_44 rfl rfl) (Eq.trans (q_getf (pc := 45) dX12_body_45 zF_12_364 (z_rfiE (x := ((gi σ 66 49) + 1)) zl_66 zh_66 (by decide) rfl rfl)) (Eq.trans (q_iconst (v := 1) (pc := 48) dX12_body_48 rfl) (Eq.trans (q_isub (pc := 49) dX12_body_49) (q_iret (pc := 50) dX12_body_50 rfl rfl))))))))))))))))) (fun hz2 => Eq.trans (Eq.trans (q_bipush (v := (-3)) (pc := 21) dX12_body_21 rfl) (q_iret (pc := 23) dX12_body_23 rfl rfl)) (true_and _).symm)))))) (fun hz1 => Eq.trans (Eq.trans (q_iconst (v := (-1)) (pc := 10) dX12_body_10 rfl) (q_iret (pc := 11) dX12_body_11 rfl rfl)) (true_and _).symm))))))
