set_option maxRecDepth 100000
theorem dX11_waits_0 : decode cX11_waits 0 = .ok (.aload_n 0, 1) := by decide +kernel
theorem dX11_waits_1 : decode cX11_waits 1 = .ok (.iload_n 1, 1) := by decide +kernel
theorem dX11_waits_2 : decode cX11_waits 2 = .ok (.iload_n 2, 1) := by decide +kernel
theorem dX11_waits_3 : decode cX11_waits 3 = .ok (.invokevirtual 168, 3) := by decide +kernel
theorem dX11_waits_6 : decode cX11_waits 6 = .ok (.istore_n 3, 1) := by decide +kernel
theorem dX11_waits_7 : decode cX11_waits 7 = .ok (.iload_n 3, 1) := by decide +kernel
theorem dX11_waits_8 : decode cX11_waits 8 = .ok (.ifCond .eq 5, 3) := by decide +kernel
theorem dX11_waits_11 : decode cX11_waits 11 = .ok (.iload_n 3, 1) := by decide +kernel
theorem dX11_waits_12 : decode cX11_waits 12 = .ok (.ireturn, 1) := by decide +kernel
theorem dX11_waits_13 : decode cX11_waits 13 = .ok (.aload_n 0, 1) := by decide +kernel
theorem dX11_waits_14 : decode cX11_waits 14 = .ok (.getfield 69, 3) := by decide +kernel
theorem dX11_waits_17 : decode cX11_waits 17 = .ok (.iconst (-1), 1) := by decide +kernel
theorem dX11_waits_18 : decode cX11_waits 18 = .ok (.invokevirtual 171, 3) := by decide +kernel
theorem dX11_waits_21 : decode cX11_waits 21 = .ok (.pop, 1) := by decide +kernel
theorem dX11_waits_22 : decode cX11_waits 22 = .ok (.aload_n 0, 1) := by decide +kernel
theorem dX11_waits_23 : decode cX11_waits 23 = .ok (.getfield 69, 3) := by decide +kernel
theorem dX11_waits_26 : decode cX11_waits 26 = .ok (.getfield 174, 3) := by decide +kernel
theorem dX11_waits_29 : decode cX11_waits 29 = .ok (.iload_n 2, 1) := by decide +kernel
theorem dX11_waits_30 : decode cX11_waits 30 = .ok (.bipush 10, 2) := by decide +kernel
theorem dX11_waits_32 : decode cX11_waits 32 = .ok (.idiv, 1) := by decide +kernel
theorem dX11_waits_33 : decode cX11_waits 33 = .ok (.iload_n 2, 1) := by decide +kernel
theorem dX11_waits_34 : decode cX11_waits 34 = .ok (.bipush 10, 2) := by decide +kernel
theorem dX11_waits_36 : decode cX11_waits 36 = .ok (.irem, 1) := by decide +kernel
theorem dX11_waits_37 : decode cX11_waits 37 = .ok (.aload_n 0, 1) := by decide +kernel
theorem dX11_waits_38 : decode cX11_waits 38 = .ok (.getfield 10, 3) := by decide +kernel
theorem dX11_waits_41 : decode cX11_waits 41 = .ok (.invokevirtual 185, 3) := by decide +kernel
theorem dX11_waits_44 : decode cX11_waits 44 = .ok (.ireturn, 1) := by decide +kernel
theorem dX11_first_0 : decode cX11_first 0 = .ok (.aload_n 0, 1) := by decide +kernel
theorem dX11_first_1 : decode cX11_first 1 = .ok (.iload_n 1, 1) := by decide +kernel
theorem dX11_first_2 : decode cX11_first 2 = .ok (.iload_n 2, 1) := by decide +kernel
theorem dX11_first_3 : decode cX11_first 3 = .ok (.invokevirtual 168, 3) := by decide +kernel
theorem dX11_first_6 : decode cX11_first 6 = .ok (.istore_n 3, 1) := by decide +kernel
theorem dX11_first_7 : decode cX11_first 7 = .ok (.iload_n 3, 1) := by decide +kernel
theorem dX11_first_8 : decode cX11_first 8 = .ok (.ifCond .eq 7, 3) := by decide +kernel
theorem dX11_first_11 : decode cX11_first 11 = .ok (.iload_n 3, 1) := by decide +kernel
theorem dX11_first_12 : decode cX11_first 12 = .ok (.goto 18, 3) := by decide +kernel
theorem dX11_first_15 : decode cX11_first 15 = .ok (.aload_n 0, 1) := by decide +kernel
theorem dX11_first_16 : decode cX11_first 16 = .ok (.getfield 69, 3) := by decide +kernel
theorem dX11_first_19 : decode cX11_first 19 = .ok (.iload_n 2, 1) := by decide +kernel
theorem dX11_first_20 : decode cX11_first 20 = .ok (.bipush 10, 2) := by decide +kernel
theorem dX11_first_22 : decode cX11_first 22 = .ok (.idiv, 1) := by decide +kernel
theorem dX11_first_23 : decode cX11_first 23 = .ok (.iload_n 2, 1) := by decide +kernel
theorem dX11_first_24 : decode cX11_first 24 = .ok (.bipush 10, 2) := by decide +kernel
theorem dX11_first_26 : decode cX11_first 26 = .ok (.irem, 1) := by decide +kernel
theorem dX11_first_27 : decode cX11_first 27 = .ok (.invokevirtual 188, 3) := by decide +kernel
theorem dX11_first_30 : decode cX11_first 30 = .ok (.ireturn, 1) := by decide +kernel
theorem dX11_order_0 : decode cX11_order 0 = .ok (.iload_n 1, 1) := by decide +kernel
theorem dX11_order_1 : decode cX11_order 1 = .ok (.iconst (-1), 1) := by decide +kernel
theorem dX11_order_2 : decode cX11_order 2 = .ok (.if_icmp .ge 5, 3) := by decide +kernel
theorem dX11_order_5 : decode cX11_order 5 = .ok (.iconst (-1), 1) := by decide +kernel
theorem dX11_order_6 : decode cX11_order 6 = .ok (.ireturn, 1) := by decide +kernel
theorem dX11_order_7 : decode cX11_order 7 = .ok (.aload_n 0, 1) := by decide +kernel
theorem dX11_order_8 : decode cX11_order 8 = .ok (.getfield 10, 3) := by decide +kernel
theorem dX11_order_11 : decode cX11_order 11 = .ok (.getfield 107, 3) := by decide +kernel
theorem dX11_order_14 : decode cX11_order 14 = .ok (.bipush 6, 2) := by decide +kernel
theorem dX11_order_16 : decode cX11_order 16 = .ok (.if_icmp .le 6, 3) := by decide +kernel
theorem dX11_order_19 : decode cX11_order 19 = .ok (.bipush (-5), 2) := by decide +kernel
theorem dX11_order_21 : decode cX11_order 21 = .ok (.ireturn, 1) := by decide +kernel
theorem dX11_order_22 : decode cX11_order 22 = .ok (.iload_n 1, 1) := by decide +kernel
theorem dX11_order_23 : decode cX11_order 23 = .ok (.aload_n 0, 1) := by decide +kernel
theorem dX11_order_24 : decode cX11_order 24 = .ok (.getfield 10, 3) := by decide +kernel
theorem dX11_order_27 : decode cX11_order 27 = .ok (.getfield 107, 3) := by decide +kernel
theorem dX11_order_30 : decode cX11_order 30 = .ok (.if_icmp .lt 6, 3) := by decide +kernel
theorem dX11_order_33 : decode cX11_order 33 = .ok (.bipush (-2), 2) := by decide +kernel
theorem dX11_order_35 : decode cX11_order 35 = .ok (.ireturn, 1) := by decide +kernel
theorem dX11_order_36 : decode cX11_order 36 = .ok (.aload_n 0, 1) := by decide +kernel
theorem dX11_order_37 : decode cX11_order 37 = .ok (.getfield 76, 3) := by decide +kernel
theorem dX11_order_40 : decode cX11_order 40 = .ok (.invokevirtual 191, 3) := by decide +kernel
theorem dX11_order_43 : decode cX11_order 43 = .ok (.istore_n 2, 1) := by decide +kernel
theorem dX11_order_44 : decode cX11_order 44 = .ok (.iload_n 1, 1) := by decide +kernel
theorem dX11_order_45 : decode cX11_order 45 = .ok (.ifCond .ge 7, 3) := by decide +kernel
theorem dX11_order_48 : decode cX11_order 48 = .ok (.iload_n 2, 1) := by decide +kernel
theorem dX11_order_49 : decode cX11_order 49 = .ok (.goto 12, 3) := by decide +kernel
theorem dX11_order_52 : decode cX11_order 52 = .ok (.aload_n 0, 1) := by decide +kernel
theorem dX11_order_53 : decode cX11_order 53 = .ok (.getfield 76, 3) := by decide +kernel
theorem dX11_order_56 : decode cX11_order 56 = .ok (.getfield 194, 3) := by decide +kernel
theorem dX11_order_59 : decode cX11_order 59 = .ok (.iload_n 1, 1) := by decide +kernel
theorem dX11_order_60 : decode cX11_order 60 = .ok (.iaload, 1) := by decide +kernel
theorem dX11_order_61 : decode cX11_order 61 = .ok (.ireturn, 1) := by decide +kernel
theorem dX11_fewest_0 : decode cX11_fewest 0 = .ok (.iload_n 1, 1) := by decide +kernel
theorem dX11_fewest_1 : decode cX11_fewest 1 = .ok (.ifCond .lt 15, 3) := by decide +kernel
theorem dX11_fewest_4 : decode cX11_fewest 4 = .ok (.iload_n 1, 1) := by decide +kernel
theorem dX11_fewest_5 : decode cX11_fewest 5 = .ok (.sipush 999, 3) := by decide +kernel
theorem dX11_fewest_8 : decode cX11_fewest 8 = .ok (.if_icmp .gt 8, 3) := by decide +kernel
theorem dX11_fewest_11 : decode cX11_fewest 11 = .ok (.iload_n 2, 1) := by decide +kernel
theorem dX11_fewest_12 : decode cX11_fewest 12 = .ok (.iconst (-1), 1) := by decide +kernel
theorem dX11_fewest_13 : decode cX11_fewest 13 = .ok (.if_icmp .ge 5, 3) := by decide +kernel
theorem dX11_fewest_16 : decode cX11_fewest 16 = .ok (.iconst (-1), 1) := by decide +kernel
theorem dX11_fewest_17 : decode cX11_fewest 17 = .ok (.ireturn, 1) := by decide +kernel
theorem dX11_fewest_18 : decode cX11_fewest 18 = .ok (.aload_n 0, 1) := by decide +kernel
theorem dX11_fewest_19 : decode cX11_fewest 19 = .ok (.getfield 10, 3) := by decide +kernel
theorem dX11_fewest_22 : decode cX11_fewest 22 = .ok (.getfield 107, 3) := by decide +kernel
theorem dX11_fewest_25 : decode cX11_fewest 25 = .ok (.iconst 5, 1) := by decide +kernel
theorem dX11_fewest_26 : decode cX11_fewest 26 = .ok (.if_icmp .le 6, 3) := by decide +kernel
theorem dX11_fewest_29 : decode cX11_fewest 29 = .ok (.bipush (-5), 2) := by decide +kernel
theorem dX11_fewest_31 : decode cX11_fewest 31 = .ok (.ireturn, 1) := by decide +kernel
theorem dX11_fewest_32 : decode cX11_fewest 32 = .ok (.aload_n 0, 1) := by decide +kernel
theorem dX11_fewest_33 : decode cX11_fewest 33 = .ok (.getfield 76, 3) := by decide +kernel
theorem dX11_fewest_36 : decode cX11_fewest 36 = .ok (.iload_n 1, 1) := by decide +kernel
theorem dX11_fewest_37 : decode cX11_fewest 37 = .ok (.invokevirtual 197, 3) := by decide +kernel
theorem dX11_fewest_40 : decode cX11_fewest 40 = .ok (.istore_n 3, 1) := by decide +kernel
theorem dX11_fewest_41 : decode cX11_fewest 41 = .ok (.iload_n 3, 1) := by decide +kernel
theorem dX11_fewest_42 : decode cX11_fewest 42 = .ok (.bipush (-2), 2) := by decide +kernel
theorem dX11_fewest_44 : decode cX11_fewest 44 = .ok (.if_icmp .eq 8, 3) := by decide +kernel
theorem dX11_fewest_47 : decode cX11_fewest 47 = .ok (.iload_n 2, 1) := by decide +kernel
theorem dX11_fewest_48 : decode cX11_fewest 48 = .ok (.iload_n 3, 1) := by decide +kernel
theorem dX11_fewest_49 : decode cX11_fewest 49 = .ok (.if_icmp .lt 6, 3) := by decide +kernel
theorem dX11_fewest_52 : decode cX11_fewest 52 = .ok (.bipush (-2), 2) := by decide +kernel
theorem dX11_fewest_54 : decode cX11_fewest 54 = .ok (.ireturn, 1) := by decide +kernel
theorem dX11_fewest_55 : decode cX11_fewest 55 = .ok (.iload_n 2, 1) := by decide +kernel
theorem dX11_fewest_56 : decode cX11_fewest 56 = .ok (.ifCond .ge 7, 3) := by decide +kernel
theorem dX11_fewest_59 : decode cX11_fewest 59 = .ok (.iload_n 3, 1) := by decide +kernel
theorem dX11_fewest_60 : decode cX11_fewest 60 = .ok (.goto 12, 3) := by decide +kernel
theorem dX11_fewest_63 : decode cX11_fewest 63 = .ok (.aload_n 0, 1) := by decide +kernel
theorem dX11_fewest_64 : decode cX11_fewest 64 = .ok (.getfield 76, 3) := by decide +kernel
theorem dX11_fewest_67 : decode cX11_fewest 67 = .ok (.getfield 194, 3) := by decide +kernel
theorem dX11_fewest_70 : decode cX11_fewest 70 = .ok (.iload_n 2, 1) := by decide +kernel
theorem dX11_fewest_71 : decode cX11_fewest 71 = .ok (.iaload, 1) := by decide +kernel
theorem dX11_fewest_72 : decode cX11_fewest 72 = .ok (.ireturn, 1) := by decide +kernel
theorem dX11_spare_0 : decode cX11_spare 0 = .ok (.iload_n 2, 1) := by decide +kernel
theorem dX11_spare_1 : decode cX11_spare 1 = .ok (.invokestatic 200, 3) := by decide +kernel
theorem dX11_spare_4 : decode cX11_spare 4 = .ok (.ifCond .ne 5, 3) := by decide +kernel
theorem dX11_spare_7 : decode cX11_spare 7 = .ok (.iconst (-1), 1) := by decide +kernel
theorem dX11_spare_8 : decode cX11_spare 8 = .ok (.ireturn, 1) := by decide +kernel
theorem dX11_spare_9 : decode cX11_spare 9 = .ok (.aload_n 0, 1) := by decide +kernel
theorem dX11_spare_10 : decode cX11_spare 10 = .ok (.iload_n 1, 1) := by decide +kernel
theorem dX11_spare_11 : decode cX11_spare 11 = .ok (.invokevirtual 162, 3) := by decide +kernel
theorem dX11_spare_14 : decode cX11_spare 14 = .ok (.istore_n 3, 1) := by decide +kernel
theorem dX11_spare_15 : decode cX11_spare 15 = .ok (.iload_n 3, 1) := by decide +kernel
theorem dX11_spare_16 : decode cX11_spare 16 = .ok (.ifCond .eq 7, 3) := by decide +kernel
theorem dX11_spare_19 : decode cX11_spare 19 = .ok (.iload_n 3, 1) := by decide +kernel
theorem dX11_spare_20 : decode cX11_spare 20 = .ok (.goto 11, 3) := by decide +kernel
theorem dX11_spare_23 : decode cX11_spare 23 = .ok (.aload_n 0, 1) := by decide +kernel
theorem dX11_spare_24 : decode cX11_spare 24 = .ok (.getfield 69, 3) := by decide +kernel
theorem dX11_spare_27 : decode cX11_spare 27 = .ok (.iload_n 2, 1) := by decide +kernel
theorem dX11_spare_28 : decode cX11_spare 28 = .ok (.invokevirtual 204, 3) := by decide +kernel
theorem dX11_spare_31 : decode cX11_spare 31 = .ok (.ireturn, 1) := by decide +kernel
theorem dX11_harm_0 : decode cX11_harm 0 = .ok (.aload_n 0, 1) := by decide +kernel
theorem dX11_harm_1 : decode cX11_harm 1 = .ok (.iload_n 1, 1) := by decide +kernel
theorem dX11_harm_2 : decode cX11_harm 2 = .ok (.invokevirtual 162, 3) := by decide +kernel
theorem dX11_harm_5 : decode cX11_harm 5 = .ok (.istore_n 2, 1) := by decide +kernel
theorem dX11_harm_6 : decode cX11_harm 6 = .ok (.iload_n 2, 1) := by decide +kernel
theorem dX11_harm_7 : decode cX11_harm 7 = .ok (.ifCond .eq 7, 3) := by decide +kernel
theorem dX11_harm_10 : decode cX11_harm 10 = .ok (.iload_n 2, 1) := by decide +kernel
theorem dX11_harm_11 : decode cX11_harm 11 = .ok (.goto 10, 3) := by decide +kernel
theorem dX11_harm_14 : decode cX11_harm 14 = .ok (.aload_n 0, 1) := by decide +kernel
theorem dX11_harm_15 : decode cX11_harm 15 = .ok (.getfield 69, 3) := by decide +kernel
theorem dX11_harm_18 : decode cX11_harm 18 = .ok (.invokevirtual 207, 3) := by decide +kernel
theorem dX11_harm_21 : decode cX11_harm 21 = .ok (.ireturn, 1) := by decide +kernel
theorem dX11_seat_0 : decode cX11_seat 0 = .ok (.iload_n 2, 1) := by decide +kernel
theorem dX11_seat_1 : decode cX11_seat 1 = .ok (.ifCond .lt 21, 3) := by decide +kernel
theorem dX11_seat_4 : decode cX11_seat 4 = .ok (.iload_n 2, 1) := by decide +kernel
theorem dX11_seat_5 : decode cX11_seat 5 = .ok (.aload_n 0, 1) := by decide +kernel
theorem dX11_seat_6 : decode cX11_seat 6 = .ok (.getfield 10, 3) := by decide +kernel
theorem dX11_seat_9 : decode cX11_seat 9 = .ok (.getfield 91, 3) := by decide +kernel
theorem dX11_seat_12 : decode cX11_seat 12 = .ok (.if_icmp .ge 10, 3) := by decide +kernel
theorem dX11_seat_15 : decode cX11_seat 15 = .ok (.iload_n 3, 1) := by decide +kernel
theorem dX11_seat_16 : decode cX11_seat 16 = .ok (.invokestatic 200, 3) := by decide +kernel
theorem dX11_seat_19 : decode cX11_seat 19 = .ok (.ifCond .ne 5, 3) := by decide +kernel
theorem dX11_seat_22 : decode cX11_seat 22 = .ok (.iconst (-1), 1) := by decide +kernel
theorem dX11_seat_23 : decode cX11_seat 23 = .ok (.ireturn, 1) := by decide +kernel
theorem dX11_seat_24 : decode cX11_seat 24 = .ok (.aload_n 0, 1) := by decide +kernel
theorem dX11_seat_25 : decode cX11_seat 25 = .ok (.iload_n 1, 1) := by decide +kernel
theorem dX11_seat_26 : decode cX11_seat 26 = .ok (.invokevirtual 162, 3) := by decide +kernel
theorem dX11_seat_29 : decode cX11_seat 29 = .ok (.istore 4, 2) := by decide +kernel
theorem dX11_seat_31 : decode cX11_seat 31 = .ok (.iload 4, 2) := by decide +kernel
theorem dX11_seat_33 : decode cX11_seat 33 = .ok (.ifCond .eq 8, 3) := by decide +kernel
theorem dX11_seat_36 : decode cX11_seat 36 = .ok (.iload 4, 2) := by decide +kernel
theorem dX11_seat_38 : decode cX11_seat 38 = .ok (.goto 12, 3) := by decide +kernel
theorem dX11_seat_41 : decode cX11_seat 41 = .ok (.aload_n 0, 1) := by decide +kernel
theorem dX11_seat_42 : decode cX11_seat 42 = .ok (.getfield 69, 3) := by decide +kernel
theorem dX11_seat_45 : decode cX11_seat 45 = .ok (.iload_n 2, 1) := by decide +kernel
theorem dX11_seat_46 : decode cX11_seat 46 = .ok (.iload_n 3, 1) := by decide +kernel
theorem dX11_seat_47 : decode cX11_seat 47 = .ok (.invokevirtual 210, 3) := by decide +kernel
theorem dX11_seat_50 : decode cX11_seat 50 = .ok (.ireturn, 1) := by decide +kernel
theorem dX11_encore_0 : decode cX11_encore 0 = .ok (.aload_n 0, 1) := by decide +kernel
theorem dX11_encore_1 : decode cX11_encore 1 = .ok (.iload_n 1, 1) := by decide +kernel
theorem dX11_encore_2 : decode cX11_encore 2 = .ok (.invokevirtual 162, 3) := by decide +kernel
theorem dX11_encore_5 : decode cX11_encore 5 = .ok (.ifCond .eq 8, 3) := by decide +kernel
theorem dX11_encore_8 : decode cX11_encore 8 = .ok (.ldc 157, 2) := by decide +kernel
theorem dX11_encore_10 : decode cX11_encore 10 = .ok (.goto 10, 3) := by decide +kernel
theorem dX11_encore_13 : decode cX11_encore 13 = .ok (.aload_n 0, 1) := by decide +kernel
theorem dX11_encore_14 : decode cX11_encore 14 = .ok (.getfield 69, 3) := by decide +kernel
theorem dX11_encore_17 : decode cX11_encore 17 = .ok (.invokevirtual 213, 3) := by decide +kernel
theorem dX11_encore_20 : decode cX11_encore 20 = .ok (.ireturn, 1) := by decide +kernel
theorem dX11_claque_0 : decode cX11_claque 0 = .ok (.iload_n 2, 1) := by decide +kernel
theorem dX11_claque_1 : decode cX11_claque 1 = .ok (.ifCond .lt 18, 3) := by decide +kernel
theorem dX11_claque_4 : decode cX11_claque 4 = .ok (.iload_n 2, 1) := by decide +kernel
theorem dX11_claque_5 : decode cX11_claque 5 = .ok (.sipush 1000, 3) := by decide +kernel
theorem dX11_claque_8 : decode cX11_claque 8 = .ok (.idiv, 1) := by decide +kernel
theorem dX11_claque_9 : decode cX11_claque 9 = .ok (.aload_n 0, 1) := by decide +kernel
theorem dX11_claque_10 : decode cX11_claque 10 = .ok (.getfield 10, 3) := by decide +kernel
theorem dX11_claque_13 : decode cX11_claque 13 = .ok (.getfield 91, 3) := by decide +kernel
theorem dX11_claque_16 : decode cX11_claque 16 = .ok (.if_icmp .lt 5, 3) := by decide +kernel
theorem dX11_claque_19 : decode cX11_claque 19 = .ok (.iconst (-1), 1) := by decide +kernel
theorem dX11_claque_20 : decode cX11_claque 20 = .ok (.ireturn, 1) := by decide +kernel
theorem dX11_claque_21 : decode cX11_claque 21 = .ok (.aload_n 0, 1) := by decide +kernel
theorem dX11_claque_22 : decode cX11_claque 22 = .ok (.iload_n 1, 1) := by decide +kernel
theorem dX11_claque_23 : decode cX11_claque 23 = .ok (.invokevirtual 162, 3) := by decide +kernel
theorem dX11_claque_26 : decode cX11_claque 26 = .ok (.istore_n 3, 1) := by decide +kernel
theorem dX11_claque_27 : decode cX11_claque 27 = .ok (.iload_n 3, 1) := by decide +kernel
theorem dX11_claque_28 : decode cX11_claque 28 = .ok (.ifCond .eq 7, 3) := by decide +kernel
theorem dX11_claque_31 : decode cX11_claque 31 = .ok (.iload_n 3, 1) := by decide +kernel
theorem dX11_claque_32 : decode cX11_claque 32 = .ok (.goto 20, 3) := by decide +kernel
theorem dX11_claque_35 : decode cX11_claque 35 = .ok (.aload_n 0, 1) := by decide +kernel
theorem dX11_claque_36 : decode cX11_claque 36 = .ok (.getfield 69, 3) := by decide +kernel
theorem dX11_claque_39 : decode cX11_claque 39 = .ok (.iload_n 2, 1) := by decide +kernel
theorem dX11_claque_40 : decode cX11_claque 40 = .ok (.sipush 1000, 3) := by decide +kernel
theorem dX11_claque_43 : decode cX11_claque 43 = .ok (.idiv, 1) := by decide +kernel
theorem dX11_claque_44 : decode cX11_claque 44 = .ok (.iload_n 2, 1) := by decide +kernel
theorem dX11_claque_45 : decode cX11_claque 45 = .ok (.sipush 1000, 3) := by decide +kernel
theorem dX11_claque_48 : decode cX11_claque 48 = .ok (.irem, 1) := by decide +kernel
theorem dX11_claque_49 : decode cX11_claque 49 = .ok (.invokevirtual 216, 3) := by decide +kernel
theorem dX11_claque_52 : decode cX11_claque 52 = .ok (.ireturn, 1) := by decide +kernel
theorem dX11_judge_0 : decode cX11_judge 0 = .ok (.aload_n 0, 1) := by decide +kernel
theorem dX11_judge_1 : decode cX11_judge 1 = .ok (.iload_n 1, 1) := by decide +kernel
theorem dX11_judge_2 : decode cX11_judge 2 = .ok (.invokevirtual 219, 3) := by decide +kernel
theorem dX11_judge_5 : decode cX11_judge 5 = .ok (.istore_n 2, 1) := by decide +kernel
theorem dX11_judge_6 : decode cX11_judge 6 = .ok (.iload_n 2, 1) := by decide +kernel
theorem dX11_judge_7 : decode cX11_judge 7 = .ok (.ifCond .eq 5, 3) := by decide +kernel
theorem dX11_judge_10 : decode cX11_judge 10 = .ok (.iload_n 2, 1) := by decide +kernel
theorem dX11_judge_11 : decode cX11_judge 11 = .ok (.ireturn, 1) := by decide +kernel
theorem dX11_judge_12 : decode cX11_judge 12 = .ok (.aload_n 0, 1) := by decide +kernel
theorem dX11_judge_13 : decode cX11_judge 13 = .ok (.getfield 69, 3) := by decide +kernel
theorem dX11_judge_16 : decode cX11_judge 16 = .ok (.iconst (-1), 1) := by decide +kernel
theorem dX11_judge_17 : decode cX11_judge 17 = .ok (.invokevirtual 171, 3) := by decide +kernel
theorem dX11_judge_20 : decode cX11_judge 20 = .ok (.pop, 1) := by decide +kernel
theorem dX11_judge_21 : decode cX11_judge 21 = .ok (.aload_n 0, 1) := by decide +kernel
theorem dX11_judge_22 : decode cX11_judge 22 = .ok (.getfield 69, 3) := by decide +kernel
theorem dX11_judge_25 : decode cX11_judge 25 = .ok (.aload_n 0, 1) := by decide +kernel
theorem dX11_judge_26 : decode cX11_judge 26 = .ok (.getfield 55, 3) := by decide +kernel
theorem dX11_judge_29 : decode cX11_judge 29 = .ok (.iload_n 1, 1) := by decide +kernel
theorem dX11_judge_30 : decode cX11_judge 30 = .ok (.bipush 10, 2) := by decide +kernel
theorem dX11_judge_32 : decode cX11_judge 32 = .ok (.irem, 1) := by decide +kernel
theorem dX11_judge_33 : decode cX11_judge 33 = .ok (.aaload, 1) := by decide +kernel
theorem dX11_judge_34 : decode cX11_judge 34 = .ok (.invokevirtual 222, 3) := by decide +kernel
theorem dX11_judge_37 : decode cX11_judge 37 = .ok (.ireturn, 1) := by decide +kernel
theorem dX11_which_0 : decode cX11_which 0 = .ok (.iload_n 2, 1) := by decide +kernel
theorem dX11_which_1 : decode cX11_which 1 = .ok (.invokestatic 200, 3) := by decide +kernel
theorem dX11_which_4 : decode cX11_which 4 = .ok (.ifCond .ne 5, 3) := by decide +kernel
theorem dX11_which_7 : decode cX11_which 7 = .ok (.iconst (-1), 1) := by decide +kernel
theorem dX11_which_8 : decode cX11_which 8 = .ok (.ireturn, 1) := by decide +kernel
theorem dX11_which_9 : decode cX11_which 9 = .ok (.aload_n 0, 1) := by decide +kernel
theorem dX11_which_10 : decode cX11_which 10 = .ok (.iload_n 1, 1) := by decide +kernel
theorem dX11_which_11 : decode cX11_which 11 = .ok (.iconst 1, 1) := by decide +kernel
theorem dX11_which_12 : decode cX11_which 12 = .ok (.invokevirtual 99, 3) := by decide +kernel
theorem dX11_which_15 : decode cX11_which 15 = .ok (.istore_n 3, 1) := by decide +kernel
theorem dX11_which_16 : decode cX11_which 16 = .ok (.iload_n 3, 1) := by decide +kernel
theorem dX11_which_17 : decode cX11_which 17 = .ok (.ifCond .eq 7, 3) := by decide +kernel
theorem dX11_which_20 : decode cX11_which 20 = .ok (.iload_n 3, 1) := by decide +kernel
theorem dX11_which_21 : decode cX11_which 21 = .ok (.goto 17, 3) := by decide +kernel
theorem dX11_which_24 : decode cX11_which 24 = .ok (.aload_n 0, 1) := by decide +kernel
theorem dX11_which_25 : decode cX11_which 25 = .ok (.getfield 69, 3) := by decide +kernel
theorem dX11_which_28 : decode cX11_which 28 = .ok (.aload_n 0, 1) := by decide +kernel
theorem dX11_which_29 : decode cX11_which 29 = .ok (.getfield 55, 3) := by decide +kernel
theorem dX11_which_32 : decode cX11_which 32 = .ok (.iload_n 1, 1) := by decide +kernel
theorem dX11_which_33 : decode cX11_which 33 = .ok (.aaload, 1) := by decide +kernel
theorem dX11_which_34 : decode cX11_which 34 = .ok (.iload_n 2, 1) := by decide +kernel
theorem dX11_which_35 : decode cX11_which 35 = .ok (.invokevirtual 226, 3) := by decide +kernel
theorem dX11_which_38 : decode cX11_which 38 = .ok (.ireturn, 1) := by decide +kernel
theorem dX11_good_0 : decode cX11_good 0 = .ok (.iload_n 2, 1) := by decide +kernel
theorem dX11_good_1 : decode cX11_good 1 = .ok (.ifCond .lt 21, 3) := by decide +kernel
theorem dX11_good_4 : decode cX11_good 4 = .ok (.iload_n 2, 1) := by decide +kernel
theorem dX11_good_5 : decode cX11_good 5 = .ok (.aload_n 0, 1) := by decide +kernel
theorem dX11_good_6 : decode cX11_good 6 = .ok (.getfield 10, 3) := by decide +kernel
theorem dX11_good_9 : decode cX11_good 9 = .ok (.getfield 107, 3) := by decide +kernel
theorem dX11_good_12 : decode cX11_good 12 = .ok (.if_icmp .ge 10, 3) := by decide +kernel
theorem dX11_good_15 : decode cX11_good 15 = .ok (.iload_n 3, 1) := by decide +kernel
theorem dX11_good_16 : decode cX11_good 16 = .ok (.invokestatic 200, 3) := by decide +kernel
theorem dX11_good_19 : decode cX11_good 19 = .ok (.ifCond .ne 5, 3) := by decide +kernel
theorem dX11_good_22 : decode cX11_good 22 = .ok (.iconst (-1), 1) := by decide +kernel
theorem dX11_good_23 : decode cX11_good 23 = .ok (.ireturn, 1) := by decide +kernel
theorem dX11_good_24 : decode cX11_good 24 = .ok (.aload_n 0, 1) := by decide +kernel
theorem dX11_good_25 : decode cX11_good 25 = .ok (.iload_n 1, 1) := by decide +kernel
theorem dX11_good_26 : decode cX11_good 26 = .ok (.iconst 1, 1) := by decide +kernel
theorem dX11_good_27 : decode cX11_good 27 = .ok (.invokevirtual 99, 3) := by decide +kernel
theorem dX11_good_30 : decode cX11_good 30 = .ok (.istore 4, 2) := by decide +kernel
theorem dX11_good_32 : decode cX11_good 32 = .ok (.iload 4, 2) := by decide +kernel
theorem dX11_good_34 : decode cX11_good 34 = .ok (.ifCond .eq 8, 3) := by decide +kernel
theorem dX11_good_37 : decode cX11_good 37 = .ok (.iload 4, 2) := by decide +kernel
theorem dX11_good_39 : decode cX11_good 39 = .ok (.goto 18, 3) := by decide +kernel
theorem dX11_good_42 : decode cX11_good 42 = .ok (.aload_n 0, 1) := by decide +kernel
theorem dX11_good_43 : decode cX11_good 43 = .ok (.getfield 69, 3) := by decide +kernel
theorem dX11_good_46 : decode cX11_good 46 = .ok (.aload_n 0, 1) := by decide +kernel
theorem dX11_good_47 : decode cX11_good 47 = .ok (.getfield 55, 3) := by decide +kernel
theorem dX11_good_50 : decode cX11_good 50 = .ok (.iload_n 1, 1) := by decide +kernel
theorem dX11_good_51 : decode cX11_good 51 = .ok (.aaload, 1) := by decide +kernel
theorem dX11_good_52 : decode cX11_good 52 = .ok (.iload_n 2, 1) := by decide +kernel
theorem dX11_good_53 : decode cX11_good 53 = .ok (.iload_n 3, 1) := by decide +kernel
theorem dX11_good_54 : decode cX11_good 54 = .ok (.invokevirtual 230, 3) := by decide +kernel
theorem dX11_good_57 : decode cX11_good 57 = .ok (.ireturn, 1) := by decide +kernel
theorem dX11_orders_0 : decode cX11_orders 0 = .ok (.iload_n 2, 1) := by decide +kernel
theorem dX11_orders_1 : decode cX11_orders 1 = .ok (.invokestatic 200, 3) := by decide +kernel
theorem dX11_orders_4 : decode cX11_orders 4 = .ok (.ifCond .ne 5, 3) := by decide +kernel
theorem dX11_orders_7 : decode cX11_orders 7 = .ok (.iconst (-1), 1) := by decide +kernel
theorem dX11_orders_8 : decode cX11_orders 8 = .ok (.ireturn, 1) := by decide +kernel
theorem dX11_orders_9 : decode cX11_orders 9 = .ok (.aload_n 0, 1) := by decide +kernel
theorem dX11_orders_10 : decode cX11_orders 10 = .ok (.iload_n 1, 1) := by decide +kernel
theorem dX11_orders_11 : decode cX11_orders 11 = .ok (.iconst 1, 1) := by decide +kernel
theorem dX11_orders_12 : decode cX11_orders 12 = .ok (.invokevirtual 99, 3) := by decide +kernel
theorem dX11_orders_15 : decode cX11_orders 15 = .ok (.istore_n 3, 1) := by decide +kernel
theorem dX11_orders_16 : decode cX11_orders 16 = .ok (.iload_n 3, 1) := by decide +kernel
theorem dX11_orders_17 : decode cX11_orders 17 = .ok (.ifCond .eq 5, 3) := by decide +kernel
theorem dX11_orders_20 : decode cX11_orders 20 = .ok (.iload_n 3, 1) := by decide +kernel
theorem dX11_orders_21 : decode cX11_orders 21 = .ok (.ireturn, 1) := by decide +kernel
theorem dX11_orders_22 : decode cX11_orders 22 = .ok (.aload_n 0, 1) := by decide +kernel
theorem dX11_orders_23 : decode cX11_orders 23 = .ok (.getfield 10, 3) := by decide +kernel
theorem dX11_orders_26 : decode cX11_orders 26 = .ok (.getfield 107, 3) := by decide +kernel
theorem dX11_orders_29 : decode cX11_orders 29 = .ok (.bipush 6, 2) := by decide +kernel
theorem dX11_orders_31 : decode cX11_orders 31 = .ok (.if_icmp .le 8, 3) := by decide +kernel
theorem dX11_orders_34 : decode cX11_orders 34 = .ok (.bipush (-5), 2) := by decide +kernel
theorem dX11_orders_36 : decode cX11_orders 36 = .ok (.goto 17, 3) := by decide +kernel
theorem dX11_orders_39 : decode cX11_orders 39 = .ok (.aload_n 0, 1) := by decide +kernel
theorem dX11_orders_40 : decode cX11_orders 40 = .ok (.getfield 76, 3) := by decide +kernel
theorem dX11_orders_43 : decode cX11_orders 43 = .ok (.aload_n 0, 1) := by decide +kernel
theorem dX11_orders_44 : decode cX11_orders 44 = .ok (.getfield 55, 3) := by decide +kernel
theorem dX11_orders_47 : decode cX11_orders 47 = .ok (.iload_n 1, 1) := by decide +kernel
theorem dX11_orders_48 : decode cX11_orders 48 = .ok (.aaload, 1) := by decide +kernel
theorem dX11_orders_49 : decode cX11_orders 49 = .ok (.iload_n 2, 1) := by decide +kernel
theorem dX11_orders_50 : decode cX11_orders 50 = .ok (.invokevirtual 233, 3) := by decide +kernel
theorem dX11_orders_53 : decode cX11_orders 53 = .ok (.ireturn, 1) := by decide +kernel
theorem dX11_warm_0 : decode cX11_warm 0 = .ok (.aload_n 0, 1) := by decide +kernel
theorem dX11_warm_1 : decode cX11_warm 1 = .ok (.iload_n 1, 1) := by decide +kernel
theorem dX11_warm_2 : decode cX11_warm 2 = .ok (.invokevirtual 219, 3) := by decide +kernel
theorem dX11_warm_5 : decode cX11_warm 5 = .ok (.istore_n 2, 1) := by decide +kernel
theorem dX11_warm_6 : decode cX11_warm 6 = .ok (.iload_n 2, 1) := by decide +kernel
theorem dX11_warm_7 : decode cX11_warm 7 = .ok (.ifCond .eq 7, 3) := by decide +kernel
theorem dX11_warm_10 : decode cX11_warm 10 = .ok (.iload_n 2, 1) := by decide +kernel
theorem dX11_warm_11 : decode cX11_warm 11 = .ok (.goto 19, 3) := by decide +kernel
theorem dX11_warm_14 : decode cX11_warm 14 = .ok (.aload_n 0, 1) := by decide +kernel
theorem dX11_warm_15 : decode cX11_warm 15 = .ok (.getfield 69, 3) := by decide +kernel
theorem dX11_warm_18 : decode cX11_warm 18 = .ok (.aload_n 0, 1) := by decide +kernel
theorem dX11_warm_19 : decode cX11_warm 19 = .ok (.getfield 55, 3) := by decide +kernel
theorem dX11_warm_22 : decode cX11_warm 22 = .ok (.iload_n 1, 1) := by decide +kernel
theorem dX11_warm_23 : decode cX11_warm 23 = .ok (.bipush 10, 2) := by decide +kernel
theorem dX11_warm_25 : decode cX11_warm 25 = .ok (.irem, 1) := by decide +kernel
theorem dX11_warm_26 : decode cX11_warm 26 = .ok (.aaload, 1) := by decide +kernel
theorem dX11_warm_27 : decode cX11_warm 27 = .ok (.invokevirtual 236, 3) := by decide +kernel
theorem dX11_warm_30 : decode cX11_warm 30 = .ok (.ireturn, 1) := by decide +kernel
theorem dX11_drawn_0 : decode cX11_drawn 0 = .ok (.iload_n 2, 1) := by decide +kernel
theorem dX11_drawn_1 : decode cX11_drawn 1 = .ok (.bipush 100, 2) := by decide +kernel
theorem dX11_drawn_3 : decode cX11_drawn 3 = .ok (.idiv, 1) := by decide +kernel
theorem dX11_drawn_4 : decode cX11_drawn 4 = .ok (.istore 4, 2) := by decide +kernel
theorem dX11_drawn_6 : decode cX11_drawn 6 = .ok (.iload_n 2, 1) := by decide +kernel
theorem dX11_drawn_7 : decode cX11_drawn 7 = .ok (.bipush 100, 2) := by decide +kernel
theorem dX11_drawn_9 : decode cX11_drawn 9 = .ok (.irem, 1) := by decide +kernel
theorem dX11_drawn_10 : decode cX11_drawn 10 = .ok (.istore 5, 2) := by decide +kernel
theorem dX11_drawn_12 : decode cX11_drawn 12 = .ok (.iload 4, 2) := by decide +kernel
theorem dX11_drawn_14 : decode cX11_drawn 14 = .ok (.iconst 1, 1) := by decide +kernel
theorem dX11_drawn_15 : decode cX11_drawn 15 = .ok (.if_icmp .lt 30, 3) := by decide +kernel
theorem dX11_drawn_18 : decode cX11_drawn 18 = .ok (.iload 4, 2) := by decide +kernel
theorem dX11_drawn_20 : decode cX11_drawn 20 = .ok (.bipush 30, 2) := by decide +kernel
theorem dX11_drawn_22 : decode cX11_drawn 22 = .ok (.if_icmp .gt 23, 3) := by decide +kernel
theorem dX11_drawn_25 : decode cX11_drawn 25 = .ok (.iload 5, 2) := by decide +kernel
theorem dX11_drawn_27 : decode cX11_drawn 27 = .ok (.iconst 1, 1) := by decide +kernel
theorem dX11_drawn_28 : decode cX11_drawn 28 = .ok (.if_icmp .lt 17, 3) := by decide +kernel
theorem dX11_drawn_31 : decode cX11_drawn 31 = .ok (.iload 5, 2) := by decide +kernel
theorem dX11_drawn_33 : decode cX11_drawn 33 = .ok (.bipush 20, 2) := by decide +kernel
theorem dX11_drawn_35 : decode cX11_drawn 35 = .ok (.if_icmp .gt 10, 3) := by decide +kernel
theorem dX11_drawn_38 : decode cX11_drawn 38 = .ok (.iload_n 3, 1) := by decide +kernel
theorem dX11_drawn_39 : decode cX11_drawn 39 = .ok (.invokestatic 200, 3) := by decide +kernel
theorem dX11_drawn_42 : decode cX11_drawn 42 = .ok (.ifCond .ne 5, 3) := by decide +kernel
theorem dX11_drawn_45 : decode cX11_drawn 45 = .ok (.iconst (-1), 1) := by decide +kernel
theorem dX11_drawn_46 : decode cX11_drawn 46 = .ok (.ireturn, 1) := by decide +kernel
theorem dX11_drawn_47 : decode cX11_drawn 47 = .ok (.aload_n 0, 1) := by decide +kernel
theorem dX11_drawn_48 : decode cX11_drawn 48 = .ok (.getfield 69, 3) := by decide +kernel
theorem dX11_drawn_51 : decode cX11_drawn 51 = .ok (.iload_n 1, 1) := by decide +kernel
theorem dX11_drawn_52 : decode cX11_drawn 52 = .ok (.iload 4, 2) := by decide +kernel
theorem dX11_drawn_54 : decode cX11_drawn 54 = .ok (.iload 5, 2) := by decide +kernel
theorem dX11_drawn_56 : decode cX11_drawn 56 = .ok (.iload_n 3, 1) := by decide +kernel
theorem dX11_drawn_57 : decode cX11_drawn 57 = .ok (.invokevirtual 239, 3) := by decide +kernel
theorem dX11_drawn_60 : decode cX11_drawn 60 = .ok (.ireturn, 1) := by decide +kernel
theorem dX11_play_0 : decode cX11_play 0 = .ok (.iload_n 1, 1) := by decide +kernel
theorem dX11_play_1 : decode cX11_play 1 = .ok (.ifCond .lt 14, 3) := by decide +kernel
theorem dX11_play_4 : decode cX11_play 4 = .ok (.iload_n 1, 1) := by decide +kernel
theorem dX11_play_5 : decode cX11_play 5 = .ok (.aload_n 0, 1) := by decide +kernel
theorem dX11_play_6 : decode cX11_play 6 = .ok (.getfield 10, 3) := by decide +kernel
theorem dX11_play_9 : decode cX11_play 9 = .ok (.getfield 107, 3) := by decide +kernel
theorem dX11_play_12 : decode cX11_play 12 = .ok (.if_icmp .lt 5, 3) := by decide +kernel
theorem dX11_play_15 : decode cX11_play 15 = .ok (.iconst (-1), 1) := by decide +kernel
theorem dX11_play_16 : decode cX11_play 16 = .ok (.ireturn, 1) := by decide +kernel
theorem dX11_play_17 : decode cX11_play 17 = .ok (.aload_n 0, 1) := by decide +kernel
theorem dX11_play_18 : decode cX11_play 18 = .ok (.getfield 42, 3) := by decide +kernel
theorem dX11_play_21 : decode cX11_play 21 = .ok (.getfield 243, 3) := by decide +kernel
theorem dX11_play_24 : decode cX11_play 24 = .ok (.iconst 4, 1) := by decide +kernel
theorem dX11_play_25 : decode cX11_play 25 = .ok (.dup2, 1) := by decide +kernel
theorem dX11_play_26 : decode cX11_play 26 = .ok (.iaload, 1) := by decide +kernel
theorem dX11_play_27 : decode cX11_play 27 = .ok (.aload_n 0, 1) := by decide +kernel
theorem dX11_play_28 : decode cX11_play 28 = .ok (.getfield 35, 3) := by decide +kernel
theorem dX11_play_31 : decode cX11_play 31 = .ok (.iload_n 1, 1) := by decide +kernel
theorem dX11_play_32 : decode cX11_play 32 = .ok (.aload_n 0, 1) := by decide +kernel
theorem dX11_play_33 : decode cX11_play 33 = .ok (.getfield 42, 3) := by decide +kernel
theorem dX11_play_36 : decode cX11_play 36 = .ok (.getfield 62, 3) := by decide +kernel
theorem dX11_play_39 : decode cX11_play 39 = .ok (.invokevirtual 246, 3) := by decide +kernel
theorem dX11_play_42 : decode cX11_play 42 = .ok (.iadd, 1) := by decide +kernel
theorem dX11_play_43 : decode cX11_play 43 = .ok (.iastore, 1) := by decide +kernel
theorem dX11_play_44 : decode cX11_play 44 = .ok (.aload_n 0, 1) := by decide +kernel
theorem dX11_play_45 : decode cX11_play 45 = .ok (.getfield 42, 3) := by decide +kernel
theorem dX11_play_48 : decode cX11_play 48 = .ok (.getfield 243, 3) := by decide +kernel
theorem dX11_play_51 : decode cX11_play 51 = .ok (.iconst 0, 1) := by decide +kernel
theorem dX11_play_52 : decode cX11_play 52 = .ok (.dup2, 1) := by decide +kernel
theorem dX11_play_53 : decode cX11_play 53 = .ok (.iaload, 1) := by decide +kernel
theorem dX11_play_54 : decode cX11_play 54 = .ok (.iconst 1, 1) := by decide +kernel
theorem dX11_play_55 : decode cX11_play 55 = .ok (.iadd, 1) := by decide +kernel
theorem dX11_play_56 : decode cX11_play 56 = .ok (.iastore, 1) := by decide +kernel
theorem dX11_play_57 : decode cX11_play 57 = .ok (.aload_n 0, 1) := by decide +kernel
theorem dX11_play_58 : decode cX11_play 58 = .ok (.getfield 42, 3) := by decide +kernel
theorem dX11_play_61 : decode cX11_play 61 = .ok (.getfield 62, 3) := by decide +kernel
theorem dX11_play_64 : decode cX11_play 64 = .ok (.iconst 0, 1) := by decide +kernel
theorem dX11_play_65 : decode cX11_play 65 = .ok (.aload_n 0, 1) := by decide +kernel
theorem dX11_play_66 : decode cX11_play 66 = .ok (.getfield 10, 3) := by decide +kernel
theorem dX11_play_69 : decode cX11_play 69 = .ok (.invokevirtual 181, 3) := by decide +kernel
theorem dX11_play_72 : decode cX11_play 72 = .ok (.ireturn, 1) := by decide +kernel
theorem dX11_interval_0 : decode cX11_interval 0 = .ok (.aload_n 0, 1) := by decide +kernel
theorem dX11_interval_1 : decode cX11_interval 1 = .ok (.getfield 42, 3) := by decide +kernel
theorem dX11_interval_4 : decode cX11_interval 4 = .ok (.getfield 243, 3) := by decide +kernel
theorem dX11_interval_7 : decode cX11_interval 7 = .ok (.iconst 4, 1) := by decide +kernel
theorem dX11_interval_8 : decode cX11_interval 8 = .ok (.dup2, 1) := by decide +kernel
theorem dX11_interval_9 : decode cX11_interval 9 = .ok (.iaload, 1) := by decide +kernel
theorem dX11_interval_10 : decode cX11_interval 10 = .ok (.aload_n 0, 1) := by decide +kernel
theorem dX11_interval_11 : decode cX11_interval 11 = .ok (.getfield 35, 3) := by decide +kernel
theorem dX11_interval_14 : decode cX11_interval 14 = .ok (.bipush 20, 2) := by decide +kernel
theorem dX11_interval_16 : decode cX11_interval 16 = .ok (.aload_n 0, 1) := by decide +kernel
theorem dX11_interval_17 : decode cX11_interval 17 = .ok (.getfield 42, 3) := by decide +kernel
theorem dX11_interval_20 : decode cX11_interval 20 = .ok (.getfield 62, 3) := by decide +kernel
theorem dX11_interval_23 : decode cX11_interval 23 = .ok (.invokevirtual 246, 3) := by decide +kernel
theorem dX11_interval_26 : decode cX11_interval 26 = .ok (.iadd, 1) := by decide +kernel
theorem dX11_interval_27 : decode cX11_interval 27 = .ok (.iastore, 1) := by decide +kernel
theorem dX11_interval_28 : decode cX11_interval 28 = .ok (.aload_n 0, 1) := by decide +kernel
theorem dX11_interval_29 : decode cX11_interval 29 = .ok (.getfield 42, 3) := by decide +kernel
theorem dX11_interval_32 : decode cX11_interval 32 = .ok (.getfield 243, 3) := by decide +kernel
theorem dX11_interval_35 : decode cX11_interval 35 = .ok (.iconst 1, 1) := by decide +kernel
theorem dX11_interval_36 : decode cX11_interval 36 = .ok (.dup2, 1) := by decide +kernel
theorem dX11_interval_37 : decode cX11_interval 37 = .ok (.iaload, 1) := by decide +kernel
theorem dX11_interval_38 : decode cX11_interval 38 = .ok (.iconst 1, 1) := by decide +kernel
theorem dX11_interval_39 : decode cX11_interval 39 = .ok (.iadd, 1) := by decide +kernel
theorem dX11_interval_40 : decode cX11_interval 40 = .ok (.iastore, 1) := by decide +kernel
theorem dX11_interval_41 : decode cX11_interval 41 = .ok (.aload_n 0, 1) := by decide +kernel
theorem dX11_interval_42 : decode cX11_interval 42 = .ok (.getfield 42, 3) := by decide +kernel
theorem dX11_interval_45 : decode cX11_interval 45 = .ok (.getfield 62, 3) := by decide +kernel
theorem dX11_interval_48 : decode cX11_interval 48 = .ok (.iconst 0, 1) := by decide +kernel
theorem dX11_interval_49 : decode cX11_interval 49 = .ok (.aload_n 0, 1) := by decide +kernel
theorem dX11_interval_50 : decode cX11_interval 50 = .ok (.getfield 10, 3) := by decide +kernel
theorem dX11_interval_53 : decode cX11_interval 53 = .ok (.invokevirtual 181, 3) := by decide +kernel
theorem dX11_interval_56 : decode cX11_interval 56 = .ok (.ireturn, 1) := by decide +kernel
theorem dX11_goes_0 : decode cX11_goes 0 = .ok (.iload_n 1, 1) := by decide +kernel
theorem dX11_goes_1 : decode cX11_goes 1 = .ok (.invokestatic 250, 3) := by decide +kernel
theorem dX11_goes_4 : decode cX11_goes 4 = .ok (.ifCond .eq 25, 3) := by decide +kernel
theorem dX11_goes_7 : decode cX11_goes 7 = .ok (.aload_n 0, 1) := by decide +kernel
theorem dX11_goes_8 : decode cX11_goes 8 = .ok (.getfield 42, 3) := by decide +kernel
theorem dX11_goes_11 : decode cX11_goes 11 = .ok (.iload_n 1, 1) := by decide +kernel
theorem dX11_goes_12 : decode cX11_goes 12 = .ok (.bipush 10, 2) := by decide +kernel
theorem dX11_goes_14 : decode cX11_goes 14 = .ok (.idiv, 1) := by decide +kernel
theorem dX11_goes_15 : decode cX11_goes 15 = .ok (.iload_n 1, 1) := by decide +kernel
theorem dX11_goes_16 : decode cX11_goes 16 = .ok (.bipush 10, 2) := by decide +kernel
theorem dX11_goes_18 : decode cX11_goes 18 = .ok (.irem, 1) := by decide +kernel
theorem dX11_goes_19 : decode cX11_goes 19 = .ok (.aload_n 0, 1) := by decide +kernel
theorem dX11_goes_20 : decode cX11_goes 20 = .ok (.getfield 10, 3) := by decide +kernel
theorem dX11_goes_23 : decode cX11_goes 23 = .ok (.invokevirtual 253, 3) := by decide +kernel
theorem dX11_goes_26 : decode cX11_goes 26 = .ok (.goto 4, 3) := by decide +kernel
theorem dX11_goes_29 : decode cX11_goes 29 = .ok (.iconst (-1), 1) := by decide +kernel
theorem dX11_goes_30 : decode cX11_goes 30 = .ok (.ireturn, 1) := by decide +kernel
theorem dX11_act_0 : decode cX11_act 0 = .ok (.aload_n 0, 1) := by decide +kernel
theorem dX11_act_1 : decode cX11_act 1 = .ok (.getfield 83, 3) := by decide +kernel
theorem dX11_act_4 : decode cX11_act 4 = .ok (.iconst 0, 1) := by decide +kernel
theorem dX11_act_5 : decode cX11_act 5 = .ok (.putfield 283, 3) := by decide +kernel
theorem dX11_act_8 : decode cX11_act 8 = .ok (.aload_n 0, 1) := by decide +kernel
theorem dX11_act_9 : decode cX11_act 9 = .ok (.getfield 83, 3) := by decide +kernel
theorem dX11_act_12 : decode cX11_act 12 = .ok (.iload_n 1, 1) := by decide +kernel
theorem dX11_act_13 : decode cX11_act 13 = .ok (.invokevirtual 286, 3) := by decide +kernel
theorem dX11_act_16 : decode cX11_act 16 = .ok (.ifCond .eq 12, 3) := by decide +kernel
theorem dX11_act_19 : decode cX11_act 19 = .ok (.iload_n 2, 1) := by decide +kernel
theorem dX11_act_20 : decode cX11_act 20 = .ok (.ifCond .lt 8, 3) := by decide +kernel
theorem dX11_act_23 : decode cX11_act 23 = .ok (.iload_n 2, 1) := by decide +kernel
theorem dX11_act_24 : decode cX11_act 24 = .ok (.iconst 4, 1) := by decide +kernel
theorem dX11_act_25 : decode cX11_act 25 = .ok (.if_icmp .lt 5, 3) := by decide +kernel
theorem dX11_act_28 : decode cX11_act 28 = .ok (.iconst 0, 1) := by decide +kernel
theorem dX11_act_29 : decode cX11_act 29 = .ok (.ireturn, 1) := by decide +kernel
theorem dX11_act_30 : decode cX11_act 30 = .ok (.aload_n 0, 1) := by decide +kernel
theorem dX11_act_31 : decode cX11_act 31 = .ok (.getfield 83, 3) := by decide +kernel
theorem dX11_act_34 : decode cX11_act 34 = .ok (.iload_n 1, 1) := by decide +kernel
theorem dX11_act_35 : decode cX11_act 35 = .ok (.iload_n 2, 1) := by decide +kernel
theorem dX11_act_36 : decode cX11_act 36 = .ok (.iload_n 3, 1) := by decide +kernel
theorem dX11_act_37 : decode cX11_act 37 = .ok (.invokevirtual 289, 3) := by decide +kernel
theorem dX11_act_40 : decode cX11_act 40 = .ok (.ireturn, 1) := by decide +kernel
theorem dX11_row_0 : decode cX11_row 0 = .ok (.iload_n 1, 1) := by decide +kernel
theorem dX11_row_1 : decode cX11_row 1 = .ok (.invokestatic 300, 3) := by decide +kernel
theorem dX11_row_4 : decode cX11_row 4 = .ok (.ifCond .eq 18, 3) := by decide +kernel
theorem dX11_row_7 : decode cX11_row 7 = .ok (.iload_n 2, 1) := by decide +kernel
theorem dX11_row_8 : decode cX11_row 8 = .ok (.ifCond .lt 14, 3) := by decide +kernel
theorem dX11_row_11 : decode cX11_row 11 = .ok (.iload_n 2, 1) := by decide +kernel
theorem dX11_row_12 : decode cX11_row 12 = .ok (.iconst 4, 1) := by decide +kernel
theorem dX11_row_13 : decode cX11_row 13 = .ok (.if_icmp .gt 9, 3) := by decide +kernel
theorem dX11_row_16 : decode cX11_row 16 = .ok (.iload_n 3, 1) := by decide +kernel
theorem dX11_row_17 : decode cX11_row 17 = .ok (.bipush 60, 2) := by decide +kernel
theorem dX11_row_19 : decode cX11_row 19 = .ok (.if_icmp .le 5, 3) := by decide +kernel
theorem dX11_row_22 : decode cX11_row 22 = .ok (.iconst (-1), 1) := by decide +kernel
theorem dX11_row_23 : decode cX11_row 23 = .ok (.ireturn, 1) := by decide +kernel
theorem dX11_row_24 : decode cX11_row 24 = .ok (.iload_n 3, 1) := by decide +kernel
theorem dX11_row_25 : decode cX11_row 25 = .ok (.ifCond .ge 6, 3) := by decide +kernel
theorem dX11_row_28 : decode cX11_row 28 = .ok (.bipush (-14), 2) := by decide +kernel
theorem dX11_row_30 : decode cX11_row 30 = .ok (.ireturn, 1) := by decide +kernel
theorem dX11_row_31 : decode cX11_row 31 = .ok (.aload_n 0, 1) := by decide +kernel
theorem dX11_row_32 : decode cX11_row 32 = .ok (.getfield 55, 3) := by decide +kernel
theorem dX11_row_35 : decode cX11_row 35 = .ok (.iload_n 1, 1) := by decide +kernel
theorem dX11_row_36 : decode cX11_row 36 = .ok (.aaload, 1) := by decide +kernel
theorem dX11_row_37 : decode cX11_row 37 = .ok (.iload_n 2, 1) := by decide +kernel
theorem dX11_row_38 : decode cX11_row 38 = .ok (.iload_n 3, 1) := by decide +kernel
theorem dX11_row_39 : decode cX11_row 39 = .ok (.invokevirtual 307, 3) := by decide +kernel
theorem dX11_row_42 : decode cX11_row 42 = .ok (.iconst 1, 1) := by decide +kernel
theorem dX11_row_43 : decode cX11_row 43 = .ok (.ireturn, 1) := by decide +kernel
theorem dX11_taken_0 : decode cX11_taken 0 = .ok (.iload_n 1, 1) := by decide +kernel
theorem dX11_taken_1 : decode cX11_taken 1 = .ok (.invokestatic 300, 3) := by decide +kernel
theorem dX11_taken_4 : decode cX11_taken 4 = .ok (.ifCond .eq 13, 3) := by decide +kernel
theorem dX11_taken_7 : decode cX11_taken 7 = .ok (.iload_n 2, 1) := by decide +kernel
theorem dX11_taken_8 : decode cX11_taken 8 = .ok (.ifCond .lt 9, 3) := by decide +kernel
theorem dX11_taken_11 : decode cX11_taken 11 = .ok (.iload_n 2, 1) := by decide +kernel
theorem dX11_taken_12 : decode cX11_taken 12 = .ok (.bipush 8, 2) := by decide +kernel
theorem dX11_taken_14 : decode cX11_taken 14 = .ok (.if_icmp .lt 5, 3) := by decide +kernel
theorem dX11_taken_17 : decode cX11_taken 17 = .ok (.iconst (-1), 1) := by decide +kernel
theorem dX11_taken_18 : decode cX11_taken 18 = .ok (.ireturn, 1) := by decide +kernel
theorem dX11_taken_19 : decode cX11_taken 19 = .ok (.aload_n 0, 1) := by decide +kernel
theorem dX11_taken_20 : decode cX11_taken 20 = .ok (.getfield 55, 3) := by decide +kernel
theorem dX11_taken_23 : decode cX11_taken 23 = .ok (.iload_n 1, 1) := by decide +kernel
theorem dX11_taken_24 : decode cX11_taken 24 = .ok (.aaload, 1) := by decide +kernel
theorem dX11_taken_25 : decode cX11_taken 25 = .ok (.astore_n 3, 1) := by decide +kernel
theorem dX11_taken_26 : decode cX11_taken 26 = .ok (.aload_n 3, 1) := by decide +kernel
theorem dX11_taken_27 : decode cX11_taken 27 = .ok (.getfield 335, 3) := by decide +kernel
theorem dX11_taken_30 : decode cX11_taken 30 = .ok (.ifCond .ne 6, 3) := by decide +kernel
theorem dX11_taken_33 : decode cX11_taken 33 = .ok (.bipush (-11), 2) := by decide +kernel
theorem dX11_taken_35 : decode cX11_taken 35 = .ok (.ireturn, 1) := by decide +kernel
theorem dX11_taken_36 : decode cX11_taken 36 = .ok (.aload_n 3, 1) := by decide +kernel
theorem dX11_taken_37 : decode cX11_taken 37 = .ok (.getfield 335, 3) := by decide +kernel
theorem dX11_taken_40 : decode cX11_taken 40 = .ok (.iconst 1, 1) := by decide +kernel
theorem dX11_taken_41 : decode cX11_taken 41 = .ok (.if_icmp .ne 22, 3) := by decide +kernel
theorem dX11_taken_44 : decode cX11_taken 44 = .ok (.aload_n 0, 1) := by decide +kernel
theorem dX11_taken_45 : decode cX11_taken 45 = .ok (.getfield 83, 3) := by decide +kernel
theorem dX11_taken_48 : decode cX11_taken 48 = .ok (.getfield 338, 3) := by decide +kernel
theorem dX11_taken_51 : decode cX11_taken 51 = .ok (.aload_n 3, 1) := by decide +kernel
theorem dX11_taken_52 : decode cX11_taken 52 = .ok (.getfield 341, 3) := by decide +kernel
theorem dX11_taken_55 : decode cX11_taken 55 = .ok (.iaload, 1) := by decide +kernel
theorem dX11_taken_56 : decode cX11_taken 56 = .ok (.iload_n 2, 1) := by decide +kernel
theorem dX11_taken_57 : decode cX11_taken 57 = .ok (.invokestatic 344, 3) := by decide +kernel
theorem dX11_taken_60 : decode cX11_taken 60 = .ok (.ifCond .ne 6, 3) := by decide +kernel
theorem dX11_taken_63 : decode cX11_taken 63 = .ok (.bipush (-12), 2) := by decide +kernel
theorem dX11_taken_65 : decode cX11_taken 65 = .ok (.ireturn, 1) := by decide +kernel
theorem dX11_taken_66 : decode cX11_taken 66 = .ok (.aload_n 0, 1) := by decide +kernel
theorem dX11_taken_67 : decode cX11_taken 67 = .ok (.getfield 83, 3) := by decide +kernel
theorem dX11_taken_70 : decode cX11_taken 70 = .ok (.getfield 338, 3) := by decide +kernel
theorem dX11_taken_73 : decode cX11_taken 73 = .ok (.aload_n 3, 1) := by decide +kernel
theorem dX11_taken_74 : decode cX11_taken 74 = .ok (.getfield 341, 3) := by decide +kernel
theorem dX11_taken_77 : decode cX11_taken 77 = .ok (.iaload, 1) := by decide +kernel
theorem dX11_taken_78 : decode cX11_taken 78 = .ok (.ireturn, 1) := by decide +kernel
theorem dX11_readProgramme_0 : decode cX11_readProgramme 0 = .ok (.aload_n 0, 1) := by decide +kernel
theorem dX11_readProgramme_1 : decode cX11_readProgramme 1 = .ok (.iload_n 1, 1) := by decide +kernel
theorem dX11_readProgramme_2 : decode cX11_readProgramme 2 = .ok (.iconst 0, 1) := by decide +kernel
theorem dX11_readProgramme_3 : decode cX11_readProgramme 3 = .ok (.invokevirtual 99, 3) := by decide +kernel
theorem dX11_readProgramme_6 : decode cX11_readProgramme 6 = .ok (.istore_n 2, 1) := by decide +kernel
theorem dX11_readProgramme_7 : decode cX11_readProgramme 7 = .ok (.iload_n 2, 1) := by decide +kernel
theorem dX11_readProgramme_8 : decode cX11_readProgramme 8 = .ok (.ifCond .ne 16, 3) := by decide +kernel
theorem dX11_readProgramme_11 : decode cX11_readProgramme 11 = .ok (.aload_n 0, 1) := by decide +kernel
theorem dX11_readProgramme_12 : decode cX11_readProgramme 12 = .ok (.getfield 69, 3) := by decide +kernel
theorem dX11_readProgramme_15 : decode cX11_readProgramme 15 = .ok (.aload_n 0, 1) := by decide +kernel
theorem dX11_readProgramme_16 : decode cX11_readProgramme 16 = .ok (.getfield 55, 3) := by decide +kernel
theorem dX11_readProgramme_19 : decode cX11_readProgramme 19 = .ok (.iload_n 1, 1) := by decide +kernel
theorem dX11_readProgramme_20 : decode cX11_readProgramme 20 = .ok (.aaload, 1) := by decide +kernel
theorem dX11_readProgramme_21 : decode cX11_readProgramme 21 = .ok (.invokevirtual 356, 3) := by decide +kernel
theorem dX11_readProgramme_24 : decode cX11_readProgramme 24 = .ok (.iload_n 2, 1) := by decide +kernel
theorem dX11_readProgramme_25 : decode cX11_readProgramme 25 = .ok (.ireturn, 1) := by decide +kernel
theorem dX11_readProgrammeFor_0 : decode cX11_readProgrammeFor 0 = .ok (.iload_n 2, 1) := by decide +kernel
theorem dX11_readProgrammeFor_1 : decode cX11_readProgrammeFor 1 = .ok (.invokestatic 250, 3) := by decide +kernel
theorem dX11_readProgrammeFor_4 : decode cX11_readProgrammeFor 4 = .ok (.ifCond .eq 11, 3) := by decide +kernel
theorem dX11_readProgrammeFor_7 : decode cX11_readProgrammeFor 7 = .ok (.aload_n 0, 1) := by decide +kernel
theorem dX11_readProgrammeFor_8 : decode cX11_readProgrammeFor 8 = .ok (.iload_n 1, 1) := by decide +kernel
theorem dX11_readProgrammeFor_9 : decode cX11_readProgrammeFor 9 = .ok (.invokevirtual 162, 3) := by decide +kernel
theorem dX11_readProgrammeFor_12 : decode cX11_readProgrammeFor 12 = .ok (.goto 4, 3) := by decide +kernel
theorem dX11_readProgrammeFor_15 : decode cX11_readProgrammeFor 15 = .ok (.iconst (-1), 1) := by decide +kernel
theorem dX11_readProgrammeFor_16 : decode cX11_readProgrammeFor 16 = .ok (.ireturn, 1) := by decide +kernel
theorem dX11_readProgrammeAndSeen_0 : decode cX11_readProgrammeAndSeen 0 = .ok (.iload_n 1, 1) := by decide +kernel
theorem dX11_readProgrammeAndSeen_1 : decode cX11_readProgrammeAndSeen 1 = .ok (.ifCond .ge 5, 3) := by decide +kernel
theorem dX11_readProgrammeAndSeen_4 : decode cX11_readProgrammeAndSeen 4 = .ok (.iconst (-1), 1) := by decide +kernel
theorem dX11_readProgrammeAndSeen_5 : decode cX11_readProgrammeAndSeen 5 = .ok (.ireturn, 1) := by decide +kernel
theorem dX11_readProgrammeAndSeen_6 : decode cX11_readProgrammeAndSeen 6 = .ok (.aload_n 0, 1) := by decide +kernel
theorem dX11_readProgrammeAndSeen_7 : decode cX11_readProgrammeAndSeen 7 = .ok (.iload_n 1, 1) := by decide +kernel
theorem dX11_readProgrammeAndSeen_8 : decode cX11_readProgrammeAndSeen 8 = .ok (.bipush 10, 2) := by decide +kernel
theorem dX11_readProgrammeAndSeen_10 : decode cX11_readProgrammeAndSeen 10 = .ok (.idiv, 1) := by decide +kernel
theorem dX11_readProgrammeAndSeen_11 : decode cX11_readProgrammeAndSeen 11 = .ok (.iconst 0, 1) := by decide +kernel
theorem dX11_readProgrammeAndSeen_12 : decode cX11_readProgrammeAndSeen 12 = .ok (.invokevirtual 99, 3) := by decide +kernel
theorem dX11_readProgrammeAndSeen_15 : decode cX11_readProgrammeAndSeen 15 = .ok (.aload_n 0, 1) := by decide +kernel
theorem dX11_readProgrammeAndSeen_16 : decode cX11_readProgrammeAndSeen 16 = .ok (.iload_n 1, 1) := by decide +kernel
theorem dX11_readProgrammeAndSeen_17 : decode cX11_readProgrammeAndSeen 17 = .ok (.bipush 10, 2) := by decide +kernel
theorem dX11_readProgrammeAndSeen_19 : decode cX11_readProgrammeAndSeen 19 = .ok (.irem, 1) := by decide +kernel
theorem dX11_readProgrammeAndSeen_20 : decode cX11_readProgrammeAndSeen 20 = .ok (.iconst 1, 1) := by decide +kernel
theorem dX11_readProgrammeAndSeen_21 : decode cX11_readProgrammeAndSeen 21 = .ok (.invokevirtual 99, 3) := by decide +kernel
theorem dX11_readProgrammeAndSeen_24 : decode cX11_readProgrammeAndSeen 24 = .ok (.invokestatic 350, 3) := by decide +kernel
theorem dX11_readProgrammeAndSeen_27 : decode cX11_readProgrammeAndSeen 27 = .ok (.istore_n 2, 1) := by decide +kernel
theorem dX11_readProgrammeAndSeen_28 : decode cX11_readProgrammeAndSeen 28 = .ok (.iload_n 2, 1) := by decide +kernel
theorem dX11_readProgrammeAndSeen_29 : decode cX11_readProgrammeAndSeen 29 = .ok (.ifCond .eq 7, 3) := by decide +kernel
theorem dX11_readProgrammeAndSeen_32 : decode cX11_readProgrammeAndSeen 32 = .ok (.iload_n 2, 1) := by decide +kernel
theorem dX11_readProgrammeAndSeen_33 : decode cX11_readProgrammeAndSeen 33 = .ok (.goto 11, 3) := by decide +kernel
theorem dX11_readProgrammeAndSeen_36 : decode cX11_readProgrammeAndSeen 36 = .ok (.aload_n 0, 1) := by decide +kernel
theorem dX11_readProgrammeAndSeen_37 : decode cX11_readProgrammeAndSeen 37 = .ok (.iload_n 1, 1) := by decide +kernel
theorem dX11_readProgrammeAndSeen_38 : decode cX11_readProgrammeAndSeen 38 = .ok (.bipush 10, 2) := by decide +kernel
theorem dX11_readProgrammeAndSeen_40 : decode cX11_readProgrammeAndSeen 40 = .ok (.idiv, 1) := by decide +kernel
theorem dX11_readProgrammeAndSeen_41 : decode cX11_readProgrammeAndSeen 41 = .ok (.invokevirtual 162, 3) := by decide +kernel
theorem dX11_readProgrammeAndSeen_44 : decode cX11_readProgrammeAndSeen 44 = .ok (.ireturn, 1) := by decide +kernel
theorem dX12_rows_0 : decode cX12_rows 0 = .ok (.iload_n 1, 1) := by decide +kernel
theorem dX12_rows_1 : decode cX12_rows 1 = .ok (.invokestatic 139, 3) := by decide +kernel
theorem dX12_rows_4 : decode cX12_rows 4 = .ok (.ifCond .eq 13, 3) := by decide +kernel
theorem dX12_rows_7 : decode cX12_rows 7 = .ok (.iload_n 3, 1) := by decide +kernel
theorem dX12_rows_8 : decode cX12_rows 8 = .ok (.iconst 1, 1) := by decide +kernel
theorem dX12_rows_9 : decode cX12_rows 9 = .ok (.bipush 6, 2) := by decide +kernel
theorem dX12_rows_11 : decode cX12_rows 11 = .ok (.invokestatic 128, 3) := by decide +kernel
theorem dX12_rows_14 : decode cX12_rows 14 = .ok (.ifCond .ne 5, 3) := by decide +kernel
theorem dX12_rows_17 : decode cX12_rows 17 = .ok (.iconst (-1), 1) := by decide +kernel
theorem dX12_rows_18 : decode cX12_rows 18 = .ok (.ireturn, 1) := by decide +kernel
theorem dX12_rows_19 : decode cX12_rows 19 = .ok (.aload_n 0, 1) := by decide +kernel
theorem dX12_rows_20 : decode cX12_rows 20 = .ok (.getfield 109, 3) := by decide +kernel
theorem dX12_rows_23 : decode cX12_rows 23 = .ok (.iload_n 1, 1) := by decide +kernel
theorem dX12_rows_24 : decode cX12_rows 24 = .ok (.iaload, 1) := by decide +kernel
theorem dX12_rows_25 : decode cX12_rows 25 = .ok (.iconst (-1), 1) := by decide +kernel
theorem dX12_rows_26 : decode cX12_rows 26 = .ok (.if_icmp .eq 17, 3) := by decide +kernel
theorem dX12_rows_29 : decode cX12_rows 29 = .ok (.aload_n 0, 1) := by decide +kernel
theorem dX12_rows_30 : decode cX12_rows 30 = .ok (.getfield 109, 3) := by decide +kernel
theorem dX12_rows_33 : decode cX12_rows 33 = .ok (.iload_n 1, 1) := by decide +kernel
theorem dX12_rows_34 : decode cX12_rows 34 = .ok (.iaload, 1) := by decide +kernel
theorem dX12_rows_35 : decode cX12_rows 35 = .ok (.bipush (-2), 2) := by decide +kernel
theorem dX12_rows_37 : decode cX12_rows 37 = .ok (.if_icmp .eq 6, 3) := by decide +kernel
theorem dX12_rows_40 : decode cX12_rows 40 = .ok (.bipush (-12), 2) := by decide +kernel
theorem dX12_rows_42 : decode cX12_rows 42 = .ok (.ireturn, 1) := by decide +kernel
theorem dX12_rows_43 : decode cX12_rows 43 = .ok (.aload_n 0, 1) := by decide +kernel
theorem dX12_rows_44 : decode cX12_rows 44 = .ok (.getfield 109, 3) := by decide +kernel
theorem dX12_rows_47 : decode cX12_rows 47 = .ok (.iload_n 1, 1) := by decide +kernel
theorem dX12_rows_48 : decode cX12_rows 48 = .ok (.iaload, 1) := by decide +kernel
theorem dX12_rows_49 : decode cX12_rows 49 = .ok (.iconst (-1), 1) := by decide +kernel
theorem dX12_rows_50 : decode cX12_rows 50 = .ok (.if_icmp .ne 5, 3) := by decide +kernel
theorem dX12_rows_53 : decode cX12_rows 53 = .ok (.iconst 0, 1) := by decide +kernel
theorem dX12_rows_54 : decode cX12_rows 54 = .ok (.ireturn, 1) := by decide +kernel
theorem dX12_rows_55 : decode cX12_rows 55 = .ok (.iconst 0, 1) := by decide +kernel
theorem dX12_rows_56 : decode cX12_rows 56 = .ok (.istore 4, 2) := by decide +kernel
theorem dX12_rows_58 : decode cX12_rows 58 = .ok (.iload 4, 2) := by decide +kernel
theorem dX12_rows_60 : decode cX12_rows 60 = .ok (.iload_n 3, 1) := by decide +kernel
theorem dX12_rows_61 : decode cX12_rows 61 = .ok (.if_icmp .ge 156, 3) := by decide +kernel
theorem dX12_rows_64 : decode cX12_rows 64 = .ok (.iload_n 2, 1) := by decide +kernel
theorem dX12_rows_65 : decode cX12_rows 65 = .ok (.i2l, 1) := by decide +kernel
theorem dX12_rows_66 : decode cX12_rows 66 = .ok (.iconst 3, 1) := by decide +kernel
theorem dX12_rows_67 : decode cX12_rows 67 = .ok (.iload 4, 2) := by decide +kernel
theorem dX12_rows_69 : decode cX12_rows 69 = .ok (.imul, 1) := by decide +kernel
theorem dX12_rows_70 : decode cX12_rows 70 = .ok (.i2l, 1) := by decide +kernel
theorem dX12_rows_71 : decode cX12_rows 71 = .ok (.ladd, 1) := by decide +kernel
theorem dX12_rows_72 : decode cX12_rows 72 = .ok (.lstore 5, 2) := by decide +kernel
theorem dX12_rows_74 : decode cX12_rows 74 = .ok (.lload 5, 2) := by decide +kernel
theorem dX12_rows_76 : decode cX12_rows 76 = .ok (.lconst 0, 1) := by decide +kernel
theorem dX12_rows_77 : decode cX12_rows 77 = .ok (.lcmp, 1) := by decide +kernel
theorem dX12_rows_78 : decode cX12_rows 78 = .ok (.ifCond .lt 29, 3) := by decide +kernel
theorem dX12_rows_81 : decode cX12_rows 81 = .ok (.lload 5, 2) := by decide +kernel
theorem dX12_rows_83 : decode cX12_rows 83 = .ok (.ldc2_w 143, 3) := by decide +kernel
theorem dX12_rows_86 : decode cX12_rows 86 = .ok (.ladd, 1) := by decide +kernel
theorem dX12_rows_87 : decode cX12_rows 87 = .ok (.aload_n 0, 1) := by decide +kernel
theorem dX12_rows_88 : decode cX12_rows 88 = .ok (.getfield 112, 3) := by decide +kernel
theorem dX12_rows_91 : decode cX12_rows 91 = .ok (.iload_n 1, 1) := by decide +kernel
theorem dX12_rows_92 : decode cX12_rows 92 = .ok (.iaload, 1) := by decide +kernel
theorem dX12_rows_93 : decode cX12_rows 93 = .ok (.i2l, 1) := by decide +kernel
theorem dX12_rows_94 : decode cX12_rows 94 = .ok (.lcmp, 1) := by decide +kernel
theorem dX12_rows_95 : decode cX12_rows 95 = .ok (.ifCond .ge 12, 3) := by decide +kernel
theorem dX12_rows_98 : decode cX12_rows 98 = .ok (.aload_n 0, 1) := by decide +kernel
theorem dX12_rows_99 : decode cX12_rows 99 = .ok (.getfield 125, 3) := by decide +kernel
theorem dX12_rows_102 : decode cX12_rows 102 = .ok (.bipush 6, 2) := by decide +kernel
theorem dX12_rows_104 : decode cX12_rows 104 = .ok (.if_icmp .ne 6, 3) := by decide +kernel
theorem dX12_rows_107 : decode cX12_rows 107 = .ok (.iload 4, 2) := by decide +kernel
theorem dX12_rows_109 : decode cX12_rows 109 = .ok (.ireturn, 1) := by decide +kernel
theorem dX12_rows_110 : decode cX12_rows 110 = .ok (.bipush 60, 2) := by decide +kernel
theorem dX12_rows_112 : decode cX12_rows 112 = .ok (.iload_n 1, 1) := by decide +kernel
theorem dX12_rows_113 : decode cX12_rows 113 = .ok (.imul, 1) := by decide +kernel
theorem dX12_rows_114 : decode cX12_rows 114 = .ok (.lload 5, 2) := by decide +kernel
theorem dX12_rows_116 : decode cX12_rows 116 = .ok (.l2i, 1) := by decide +kernel
theorem dX12_rows_117 : decode cX12_rows 117 = .ok (.iadd, 1) := by decide +kernel
theorem dX12_rows_118 : decode cX12_rows 118 = .ok (.istore 7, 2) := by decide +kernel
theorem dX12_rows_120 : decode cX12_rows 120 = .ok (.aload_n 0, 1) := by decide +kernel
theorem dX12_rows_121 : decode cX12_rows 121 = .ok (.getfield 115, 3) := by decide +kernel
theorem dX12_rows_124 : decode cX12_rows 124 = .ok (.iload 7, 2) := by decide +kernel
theorem dX12_rows_126 : decode cX12_rows 126 = .ok (.laload, 1) := by decide +kernel
theorem dX12_rows_127 : decode cX12_rows 127 = .ok (.l2i, 1) := by decide +kernel
theorem dX12_rows_128 : decode cX12_rows 128 = .ok (.iconst 0, 1) := by decide +kernel
theorem dX12_rows_129 : decode cX12_rows 129 = .ok (.bipush 99, 2) := by decide +kernel
theorem dX12_rows_131 : decode cX12_rows 131 = .ok (.invokestatic 128, 3) := by decide +kernel
theorem dX12_rows_134 : decode cX12_rows 134 = .ok (.ifCond .eq 41, 3) := by decide +kernel
theorem dX12_rows_137 : decode cX12_rows 137 = .ok (.aload_n 0, 1) := by decide +kernel
theorem dX12_rows_138 : decode cX12_rows 138 = .ok (.getfield 115, 3) := by decide +kernel
theorem dX12_rows_141 : decode cX12_rows 141 = .ok (.iload 7, 2) := by decide +kernel
theorem dX12_rows_143 : decode cX12_rows 143 = .ok (.iconst 1, 1) := by decide +kernel
theorem dX12_rows_144 : decode cX12_rows 144 = .ok (.iadd, 1) := by decide +kernel
theorem dX12_rows_145 : decode cX12_rows 145 = .ok (.laload, 1) := by decide +kernel
theorem dX12_rows_146 : decode cX12_rows 146 = .ok (.l2i, 1) := by decide +kernel
theorem dX12_rows_147 : decode cX12_rows 147 = .ok (.iconst 0, 1) := by decide +kernel
theorem dX12_rows_148 : decode cX12_rows 148 = .ok (.bipush 15, 2) := by decide +kernel
theorem dX12_rows_150 : decode cX12_rows 150 = .ok (.invokestatic 128, 3) := by decide +kernel
theorem dX12_rows_153 : decode cX12_rows 153 = .ok (.ifCond .eq 22, 3) := by decide +kernel
theorem dX12_rows_156 : decode cX12_rows 156 = .ok (.aload_n 0, 1) := by decide +kernel
theorem dX12_rows_157 : decode cX12_rows 157 = .ok (.getfield 115, 3) := by decide +kernel
theorem dX12_rows_160 : decode cX12_rows 160 = .ok (.iload 7, 2) := by decide +kernel
theorem dX12_rows_162 : decode cX12_rows 162 = .ok (.iconst 2, 1) := by decide +kernel
theorem dX12_rows_163 : decode cX12_rows 163 = .ok (.iadd, 1) := by decide +kernel
theorem dX12_rows_164 : decode cX12_rows 164 = .ok (.laload, 1) := by decide +kernel
theorem dX12_rows_165 : decode cX12_rows 165 = .ok (.l2i, 1) := by decide +kernel
theorem dX12_rows_166 : decode cX12_rows 166 = .ok (.iconst 0, 1) := by decide +kernel
theorem dX12_rows_167 : decode cX12_rows 167 = .ok (.bipush 9, 2) := by decide +kernel
theorem dX12_rows_169 : decode cX12_rows 169 = .ok (.invokestatic 128, 3) := by decide +kernel
theorem dX12_rows_172 : decode cX12_rows 172 = .ok (.ifCond .ne 6, 3) := by decide +kernel
theorem dX12_rows_175 : decode cX12_rows 175 = .ok (.iload 4, 2) := by decide +kernel
theorem dX12_rows_177 : decode cX12_rows 177 = .ok (.ireturn, 1) := by decide +kernel
theorem dX12_rows_178 : decode cX12_rows 178 = .ok (.aload_n 0, 1) := by decide +kernel
theorem dX12_rows_179 : decode cX12_rows 179 = .ok (.aload_n 0, 1) := by decide +kernel
theorem dX12_rows_180 : decode cX12_rows 180 = .ok (.getfield 115, 3) := by decide +kernel
theorem dX12_rows_183 : decode cX12_rows 183 = .ok (.iload 7, 2) := by decide +kernel
theorem dX12_rows_185 : decode cX12_rows 185 = .ok (.laload, 1) := by decide +kernel
theorem dX12_rows_186 : decode cX12_rows 186 = .ok (.l2i, 1) := by decide +kernel
theorem dX12_rows_187 : decode cX12_rows 187 = .ok (.aload_n 0, 1) := by decide +kernel
theorem dX12_rows_188 : decode cX12_rows 188 = .ok (.getfield 115, 3) := by decide +kernel
theorem dX12_rows_191 : decode cX12_rows 191 = .ok (.iload 7, 2) := by decide +kernel
theorem dX12_rows_193 : decode cX12_rows 193 = .ok (.iconst 1, 1) := by decide +kernel
theorem dX12_rows_194 : decode cX12_rows 194 = .ok (.iadd, 1) := by decide +kernel
theorem dX12_rows_195 : decode cX12_rows 195 = .ok (.laload, 1) := by decide +kernel
theorem dX12_rows_196 : decode cX12_rows 196 = .ok (.l2i, 1) := by decide +kernel
theorem dX12_rows_197 : decode cX12_rows 197 = .ok (.aload_n 0, 1) := by decide +kernel
theorem dX12_rows_198 : decode cX12_rows 198 = .ok (.getfield 115, 3) := by decide +kernel
theorem dX12_rows_201 : decode cX12_rows 201 = .ok (.iload 7, 2) := by decide +kernel
theorem dX12_rows_203 : decode cX12_rows 203 = .ok (.iconst 2, 1) := by decide +kernel
theorem dX12_rows_204 : decode cX12_rows 204 = .ok (.iadd, 1) := by decide +kernel
theorem dX12_rows_205 : decode cX12_rows 205 = .ok (.laload, 1) := by decide +kernel
theorem dX12_rows_206 : decode cX12_rows 206 = .ok (.l2i, 1) := by decide +kernel
theorem dX12_rows_207 : decode cX12_rows 207 = .ok (.invokevirtual 135, 3) := by decide +kernel
theorem dX12_rows_210 : decode cX12_rows 210 = .ok (.pop, 1) := by decide +kernel
theorem dX12_rows_211 : decode cX12_rows 211 = .ok (.iinc 4 1, 3) := by decide +kernel
theorem dX12_rows_214 : decode cX12_rows 214 = .ok (.goto (-156), 3) := by decide +kernel
theorem dX12_rows_217 : decode cX12_rows 217 = .ok (.iload_n 3, 1) := by decide +kernel
theorem dX12_rows_218 : decode cX12_rows 218 = .ok (.ireturn, 1) := by decide +kernel
theorem dX12_changes_0 : decode cX12_changes 0 = .ok (.aload_n 0, 1) := by decide +kernel
theorem dX12_changes_1 : decode cX12_changes 1 = .ok (.iload_n 1, 1) := by decide +kernel
theorem dX12_changes_2 : decode cX12_changes 2 = .ok (.iload_n 2, 1) := by decide +kernel
theorem dX12_changes_3 : decode cX12_changes 3 = .ok (.invokevirtual 148, 3) := by decide +kernel
theorem dX12_changes_6 : decode cX12_changes 6 = .ok (.istore 4, 2) := by decide +kernel
theorem dX12_changes_8 : decode cX12_changes 8 = .ok (.iload 4, 2) := by decide +kernel
theorem dX12_changes_10 : decode cX12_changes 10 = .ok (.iload_n 3, 1) := by decide +kernel
theorem dX12_changes_11 : decode cX12_changes 11 = .ok (.if_icmp .ne 6, 3) := by decide +kernel
theorem dX12_changes_14 : decode cX12_changes 14 = .ok (.iload 4, 2) := by decide +kernel
theorem dX12_changes_16 : decode cX12_changes 16 = .ok (.ireturn, 1) := by decide +kernel
theorem dX12_changes_17 : decode cX12_changes 17 = .ok (.aload_n 0, 1) := by decide +kernel
theorem dX12_changes_18 : decode cX12_changes 18 = .ok (.iconst 0, 1) := by decide +kernel
theorem dX12_changes_19 : decode cX12_changes 19 = .ok (.putfield 152, 3) := by decide +kernel
theorem dX12_changes_22 : decode cX12_changes 22 = .ok (.aload_n 0, 1) := by decide +kernel
theorem dX12_changes_23 : decode cX12_changes 23 = .ok (.getfield 155, 3) := by decide +kernel
theorem dX12_changes_26 : decode cX12_changes 26 = .ok (.bipush 40, 2) := by decide +kernel
theorem dX12_changes_28 : decode cX12_changes 28 = .ok (.if_icmp .ne 93, 3) := by decide +kernel
theorem dX12_changes_31 : decode cX12_changes 31 = .ok (.iconst 1, 1) := by decide +kernel
theorem dX12_changes_32 : decode cX12_changes 32 = .ok (.istore 5, 2) := by decide +kernel
theorem dX12_changes_34 : decode cX12_changes 34 = .ok (.iload 5, 2) := by decide +kernel
theorem dX12_changes_36 : decode cX12_changes 36 = .ok (.bipush 40, 2) := by decide +kernel
theorem dX12_changes_38 : decode cX12_changes 38 = .ok (.if_icmp .ge 73, 3) := by decide +kernel
theorem dX12_changes_41 : decode cX12_changes 41 = .ok (.aload_n 0, 1) := by decide +kernel
theorem dX12_changes_42 : decode cX12_changes 42 = .ok (.getfield 38, 3) := by decide +kernel
theorem dX12_changes_45 : decode cX12_changes 45 = .ok (.iload 5, 2) := by decide +kernel
theorem dX12_changes_47 : decode cX12_changes 47 = .ok (.iconst 1, 1) := by decide +kernel
theorem dX12_changes_48 : decode cX12_changes 48 = .ok (.isub, 1) := by decide +kernel
theorem dX12_changes_49 : decode cX12_changes 49 = .ok (.aload_n 0, 1) := by decide +kernel
theorem dX12_changes_50 : decode cX12_changes 50 = .ok (.getfield 38, 3) := by decide +kernel
theorem dX12_changes_53 : decode cX12_changes 53 = .ok (.iload 5, 2) := by decide +kernel
theorem dX12_changes_55 : decode cX12_changes 55 = .ok (.iaload, 1) := by decide +kernel
theorem dX12_changes_56 : decode cX12_changes 56 = .ok (.iastore, 1) := by decide +kernel
theorem dX12_changes_57 : decode cX12_changes 57 = .ok (.aload_n 0, 1) := by decide +kernel
theorem dX12_changes_58 : decode cX12_changes 58 = .ok (.getfield 41, 3) := by decide +kernel
theorem dX12_changes_61 : decode cX12_changes 61 = .ok (.iload 5, 2) := by decide +kernel
theorem dX12_changes_63 : decode cX12_changes 63 = .ok (.iconst 1, 1) := by decide +kernel
theorem dX12_changes_64 : decode cX12_changes 64 = .ok (.isub, 1) := by decide +kernel
theorem dX12_changes_65 : decode cX12_changes 65 = .ok (.aload_n 0, 1) := by decide +kernel
theorem dX12_changes_66 : decode cX12_changes 66 = .ok (.getfield 41, 3) := by decide +kernel
theorem dX12_changes_69 : decode cX12_changes 69 = .ok (.iload 5, 2) := by decide +kernel
theorem dX12_changes_71 : decode cX12_changes 71 = .ok (.iaload, 1) := by decide +kernel
theorem dX12_changes_72 : decode cX12_changes 72 = .ok (.iastore, 1) := by decide +kernel
theorem dX12_changes_73 : decode cX12_changes 73 = .ok (.aload_n 0, 1) := by decide +kernel
theorem dX12_changes_74 : decode cX12_changes 74 = .ok (.getfield 44, 3) := by decide +kernel
theorem dX12_changes_77 : decode cX12_changes 77 = .ok (.iload 5, 2) := by decide +kernel
theorem dX12_changes_79 : decode cX12_changes 79 = .ok (.iconst 1, 1) := by decide +kernel
theorem dX12_changes_80 : decode cX12_changes 80 = .ok (.isub, 1) := by decide +kernel
theorem dX12_changes_81 : decode cX12_changes 81 = .ok (.aload_n 0, 1) := by decide +kernel
theorem dX12_changes_82 : decode cX12_changes 82 = .ok (.getfield 44, 3) := by decide +kernel
theorem dX12_changes_85 : decode cX12_changes 85 = .ok (.iload 5, 2) := by decide +kernel
theorem dX12_changes_87 : decode cX12_changes 87 = .ok (.iaload, 1) := by decide +kernel
theorem dX12_changes_88 : decode cX12_changes 88 = .ok (.iastore, 1) := by decide +kernel
theorem dX12_changes_89 : decode cX12_changes 89 = .ok (.aload_n 0, 1) := by decide +kernel
theorem dX12_changes_90 : decode cX12_changes 90 = .ok (.getfield 47, 3) := by decide +kernel
theorem dX12_changes_93 : decode cX12_changes 93 = .ok (.iload 5, 2) := by decide +kernel
theorem dX12_changes_95 : decode cX12_changes 95 = .ok (.iconst 1, 1) := by decide +kernel
theorem dX12_changes_96 : decode cX12_changes 96 = .ok (.isub, 1) := by decide +kernel
theorem dX12_changes_97 : decode cX12_changes 97 = .ok (.aload_n 0, 1) := by decide +kernel
theorem dX12_changes_98 : decode cX12_changes 98 = .ok (.getfield 47, 3) := by decide +kernel
theorem dX12_changes_101 : decode cX12_changes 101 = .ok (.iload 5, 2) := by decide +kernel
theorem dX12_changes_103 : decode cX12_changes 103 = .ok (.iaload, 1) := by decide +kernel
theorem dX12_changes_104 : decode cX12_changes 104 = .ok (.iastore, 1) := by decide +kernel
theorem dX12_changes_105 : decode cX12_changes 105 = .ok (.iinc 5 1, 3) := by decide +kernel
theorem dX12_changes_108 : decode cX12_changes 108 = .ok (.goto (-74), 3) := by decide +kernel
theorem dX12_changes_111 : decode cX12_changes 111 = .ok (.aload_n 0, 1) := by decide +kernel
theorem dX12_changes_112 : decode cX12_changes 112 = .ok (.dup, 1) := by decide +kernel
theorem dX12_changes_113 : decode cX12_changes 113 = .ok (.getfield 155, 3) := by decide +kernel
theorem dX12_changes_116 : decode cX12_changes 116 = .ok (.iconst 1, 1) := by decide +kernel
theorem dX12_changes_117 : decode cX12_changes 117 = .ok (.isub, 1) := by decide +kernel
theorem dX12_changes_118 : decode cX12_changes 118 = .ok (.putfield 155, 3) := by decide +kernel
theorem dX12_changes_121 : decode cX12_changes 121 = .ok (.aload_n 0, 1) := by decide +kernel
theorem dX12_changes_122 : decode cX12_changes 122 = .ok (.getfield 38, 3) := by decide +kernel
theorem dX12_changes_125 : decode cX12_changes 125 = .ok (.aload_n 0, 1) := by decide +kernel
theorem dX12_changes_126 : decode cX12_changes 126 = .ok (.getfield 155, 3) := by decide +kernel
theorem dX12_changes_129 : decode cX12_changes 129 = .ok (.iload_n 1, 1) := by decide +kernel
theorem dX12_changes_130 : decode cX12_changes 130 = .ok (.iastore, 1) := by decide +kernel
theorem dX12_changes_131 : decode cX12_changes 131 = .ok (.aload_n 0, 1) := by decide +kernel
theorem dX12_changes_132 : decode cX12_changes 132 = .ok (.getfield 41, 3) := by decide +kernel
theorem dX12_changes_135 : decode cX12_changes 135 = .ok (.aload_n 0, 1) := by decide +kernel
theorem dX12_changes_136 : decode cX12_changes 136 = .ok (.getfield 155, 3) := by decide +kernel
theorem dX12_changes_139 : decode cX12_changes 139 = .ok (.iload_n 2, 1) := by decide +kernel
theorem dX12_changes_140 : decode cX12_changes 140 = .ok (.iastore, 1) := by decide +kernel
theorem dX12_changes_141 : decode cX12_changes 141 = .ok (.aload_n 0, 1) := by decide +kernel
theorem dX12_changes_142 : decode cX12_changes 142 = .ok (.getfield 44, 3) := by decide +kernel
theorem dX12_changes_145 : decode cX12_changes 145 = .ok (.aload_n 0, 1) := by decide +kernel
theorem dX12_changes_146 : decode cX12_changes 146 = .ok (.getfield 155, 3) := by decide +kernel
theorem dX12_changes_149 : decode cX12_changes 149 = .ok (.iload 4, 2) := by decide +kernel
theorem dX12_changes_151 : decode cX12_changes 151 = .ok (.iastore, 1) := by decide +kernel
theorem dX12_changes_152 : decode cX12_changes 152 = .ok (.aload_n 0, 1) := by decide +kernel
theorem dX12_changes_153 : decode cX12_changes 153 = .ok (.getfield 47, 3) := by decide +kernel
theorem dX12_changes_156 : decode cX12_changes 156 = .ok (.aload_n 0, 1) := by decide +kernel
theorem dX12_changes_157 : decode cX12_changes 157 = .ok (.getfield 155, 3) := by decide +kernel
theorem dX12_changes_160 : decode cX12_changes 160 = .ok (.iload_n 3, 1) := by decide +kernel
theorem dX12_changes_161 : decode cX12_changes 161 = .ok (.iastore, 1) := by decide +kernel
theorem dX12_changes_162 : decode cX12_changes 162 = .ok (.aload_n 0, 1) := by decide +kernel
theorem dX12_changes_163 : decode cX12_changes 163 = .ok (.dup, 1) := by decide +kernel
theorem dX12_changes_164 : decode cX12_changes 164 = .ok (.getfield 155, 3) := by decide +kernel
theorem dX12_changes_167 : decode cX12_changes 167 = .ok (.iconst 1, 1) := by decide +kernel
theorem dX12_changes_168 : decode cX12_changes 168 = .ok (.iadd, 1) := by decide +kernel
theorem dX12_changes_169 : decode cX12_changes 169 = .ok (.putfield 155, 3) := by decide +kernel
theorem dX12_changes_172 : decode cX12_changes 172 = .ok (.aload_n 0, 1) := by decide +kernel
theorem dX12_changes_173 : decode cX12_changes 173 = .ok (.iload_n 1, 1) := by decide +kernel
theorem dX12_changes_174 : decode cX12_changes 174 = .ok (.iload_n 2, 1) := by decide +kernel
theorem dX12_changes_175 : decode cX12_changes 175 = .ok (.iload_n 3, 1) := by decide +kernel
theorem dX12_changes_176 : decode cX12_changes 176 = .ok (.invokevirtual 158, 3) := by decide +kernel
theorem dX12_changes_179 : decode cX12_changes 179 = .ok (.iload 4, 2) := by decide +kernel
theorem dX12_changes_181 : decode cX12_changes 181 = .ok (.ireturn, 1) := by decide +kernel
theorem dX12_mend_0 : decode cX12_mend 0 = .ok (.aload_n 0, 1) := by decide +kernel
theorem dX12_mend_1 : decode cX12_mend 1 = .ok (.iload_n 1, 1) := by decide +kernel
theorem dX12_mend_2 : decode cX12_mend 2 = .ok (.iload_n 2, 1) := by decide +kernel
theorem dX12_mend_3 : decode cX12_mend 3 = .ok (.invokevirtual 168, 3) := by decide +kernel
theorem dX12_mend_6 : decode cX12_mend 6 = .ok (.ifCond .eq 21, 3) := by decide +kernel
theorem dX12_mend_9 : decode cX12_mend 9 = .ok (.iload_n 2, 1) := by decide +kernel
theorem dX12_mend_10 : decode cX12_mend 10 = .ok (.iload_n 3, 1) := by decide +kernel
theorem dX12_mend_11 : decode cX12_mend 11 = .ok (.invokestatic 172, 3) := by decide +kernel
theorem dX12_mend_14 : decode cX12_mend 14 = .ok (.ifCond .eq 13, 3) := by decide +kernel
theorem dX12_mend_17 : decode cX12_mend 17 = .ok (.aload_n 0, 1) := by decide +kernel
theorem dX12_mend_18 : decode cX12_mend 18 = .ok (.iload_n 2, 1) := by decide +kernel
theorem dX12_mend_19 : decode cX12_mend 19 = .ok (.iload_n 1, 1) := by decide +kernel
theorem dX12_mend_20 : decode cX12_mend 20 = .ok (.iload_n 3, 1) := by decide +kernel
theorem dX12_mend_21 : decode cX12_mend 21 = .ok (.invokevirtual 175, 3) := by decide +kernel
theorem dX12_mend_24 : decode cX12_mend 24 = .ok (.goto 4, 3) := by decide +kernel
theorem dX12_mend_27 : decode cX12_mend 27 = .ok (.iconst (-1), 1) := by decide +kernel
theorem dX12_mend_28 : decode cX12_mend 28 = .ok (.ireturn, 1) := by decide +kernel
theorem dX12_figure_0 : decode cX12_figure 0 = .ok (.iconst 0, 1) := by decide +kernel
theorem dX12_figure_1 : decode cX12_figure 1 = .ok (.istore_n 1, 1) := by decide +kernel
theorem dX12_figure_2 : decode cX12_figure 2 = .ok (.iconst 0, 1) := by decide +kernel
theorem dX12_figure_3 : decode cX12_figure 3 = .ok (.istore_n 2, 1) := by decide +kernel
theorem dX12_figure_4 : decode cX12_figure 4 = .ok (.iload_n 2, 1) := by decide +kernel
theorem dX12_figure_5 : decode cX12_figure 5 = .ok (.iconst 4, 1) := by decide +kernel
theorem dX12_figure_6 : decode cX12_figure 6 = .ok (.if_icmp .ge 46, 3) := by decide +kernel
theorem dX12_figure_9 : decode cX12_figure 9 = .ok (.aload_n 0, 1) := by decide +kernel
theorem dX12_figure_10 : decode cX12_figure 10 = .ok (.invokevirtual 196, 3) := by decide +kernel
theorem dX12_figure_13 : decode cX12_figure 13 = .ok (.bipush 48, 2) := by decide +kernel
theorem dX12_figure_15 : decode cX12_figure 15 = .ok (.bipush 57, 2) := by decide +kernel
theorem dX12_figure_17 : decode cX12_figure 17 = .ok (.invokestatic 128, 3) := by decide +kernel
theorem dX12_figure_20 : decode cX12_figure 20 = .ok (.ifCond .eq 32, 3) := by decide +kernel
theorem dX12_figure_23 : decode cX12_figure 23 = .ok (.bipush 10, 2) := by decide +kernel
theorem dX12_figure_25 : decode cX12_figure 25 = .ok (.iload_n 1, 1) := by decide +kernel
theorem dX12_figure_26 : decode cX12_figure 26 = .ok (.imul, 1) := by decide +kernel
theorem dX12_figure_27 : decode cX12_figure 27 = .ok (.aload_n 0, 1) := by decide +kernel
theorem dX12_figure_28 : decode cX12_figure 28 = .ok (.invokevirtual 196, 3) := by decide +kernel
theorem dX12_figure_31 : decode cX12_figure 31 = .ok (.iadd, 1) := by decide +kernel
theorem dX12_figure_32 : decode cX12_figure 32 = .ok (.bipush 48, 2) := by decide +kernel
theorem dX12_figure_34 : decode cX12_figure 34 = .ok (.isub, 1) := by decide +kernel
theorem dX12_figure_35 : decode cX12_figure 35 = .ok (.istore_n 1, 1) := by decide +kernel
theorem dX12_figure_36 : decode cX12_figure 36 = .ok (.iinc 2 1, 3) := by decide +kernel
theorem dX12_figure_39 : decode cX12_figure 39 = .ok (.aload_n 0, 1) := by decide +kernel
theorem dX12_figure_40 : decode cX12_figure 40 = .ok (.dup, 1) := by decide +kernel
theorem dX12_figure_41 : decode cX12_figure 41 = .ok (.getfield 181, 3) := by decide +kernel
theorem dX12_figure_44 : decode cX12_figure 44 = .ok (.iconst 1, 1) := by decide +kernel
theorem dX12_figure_45 : decode cX12_figure 45 = .ok (.iadd, 1) := by decide +kernel
theorem dX12_figure_46 : decode cX12_figure 46 = .ok (.putfield 181, 3) := by decide +kernel
theorem dX12_figure_49 : decode cX12_figure 49 = .ok (.goto (-45), 3) := by decide +kernel
theorem dX12_figure_52 : decode cX12_figure 52 = .ok (.iload_n 2, 1) := by decide +kernel
theorem dX12_figure_53 : decode cX12_figure 53 = .ok (.ifCond .eq 17, 3) := by decide +kernel
theorem dX12_figure_56 : decode cX12_figure 56 = .ok (.aload_n 0, 1) := by decide +kernel
theorem dX12_figure_57 : decode cX12_figure 57 = .ok (.invokevirtual 196, 3) := by decide +kernel
theorem dX12_figure_60 : decode cX12_figure 60 = .ok (.bipush 48, 2) := by decide +kernel
theorem dX12_figure_62 : decode cX12_figure 62 = .ok (.bipush 57, 2) := by decide +kernel
theorem dX12_figure_64 : decode cX12_figure 64 = .ok (.invokestatic 128, 3) := by decide +kernel
theorem dX12_figure_67 : decode cX12_figure 67 = .ok (.ifCond .eq 7, 3) := by decide +kernel
theorem dX12_figure_70 : decode cX12_figure 70 = .ok (.aload_n 0, 1) := by decide +kernel
theorem dX12_figure_71 : decode cX12_figure 71 = .ok (.invokevirtual 193, 3) := by decide +kernel
theorem dX12_figure_74 : decode cX12_figure 74 = .ok (.aload_n 0, 1) := by decide +kernel
theorem dX12_figure_75 : decode cX12_figure 75 = .ok (.iconst 1, 1) := by decide +kernel
theorem dX12_figure_76 : decode cX12_figure 76 = .ok (.iload_n 1, 1) := by decide +kernel
theorem dX12_figure_77 : decode cX12_figure 77 = .ok (.invokevirtual 200, 3) := by decide +kernel
theorem dX12_figure_80 : decode cX12_figure 80 = .ok (.return_, 1) := by decide +kernel
theorem b_X11_waits_0 {X : zX} {d : Nat} {Q : Option Value → zH → Prop} (hd : 1 ≤ d) (σ : zS) (a2 : Int32) (a3 : Int32)  : zwp X d MX11_waits 0 [.ref 0, .int a2, .int a3, .null] [] (zen σ) Q = zwp X (d - 1) MX11_readProgrammeFor 0 [.ref 0, .int a2, .int a3] [] (zen σ) (fun v h' => zwp X d MX11_waits 6 [.ref 0, .int a2, .int a3, .null] (zpsh v []) h' Q) :=
  Eq.trans (q_aload_n (pc := 0) dX11_waits_0 rfl rfl) (Eq.trans (q_iload_n (pc := 1) dX11_waits_1 rfl rfl) (Eq.trans (q_iload_n (pc := 2) dX11_waits_2 rfl rfl) (zdpos (q_callV (as := [.int a2, .int a3]) (rest := []) (l0 := [.ref 0, .int a2, .int a3]) (pc := 3) dX11_waits_3 zC_11_168 rfl (z_recv zl_0 zh_0) rfl rfl) (by omega))))
theorem b_X11_waits_6 {X : zX} {d : Nat} {Q : Option Value → zH → Prop} (hd : 1 ≤ d) (σ : zS) (l1 : Int32) (l2 : Int32) (t0 : Int32)  : zwp X d MX11_waits 6 [.ref 0, .int l1, .int l2, .null] [.int t0] (zen σ) Q = (if t0 = 0 then zwp X (d - 1) MX10_carriedWithout 0 [.ref 41, .int (-1), .null] [] (zen σ) (fun v h' => zwp X d MX11_waits 21 [.ref 0, .int l1, .int l2, .int t0] (zpsh v []) h' Q) else Q (some (.int t0)) (zen σ)) :=
  Eq.trans (q_istore_n (ls' := [.ref 0, .int l1, .int l2, .int t0]) (pc := 6) dX11_waits_6 rfl (Nat.le_of_ble_eq_true rfl) rfl) (Eq.trans (q_iload_n (pc := 7) dX11_waits_7 rfl rfl) (Eq.trans (q_if_eq (tgt := 13) (pc := 8) dX11_waits_8 rfl) (zite (fun hz1 => Eq.trans (q_aload_n (pc := 13) dX11_waits_13 rfl rfl) (Eq.trans (q_getf (pc := 14) dX11_waits_14 zF_11_69 (z_rfr zl_0 zh_0 (by decide) rfl)) (Eq.trans (q_iconst (v := (-1)) (pc := 17) dX11_waits_17 rfl) (zdpos (q_callV (as := [.int (-1)]) (rest := []) (l0 := [.ref 41, .int (-1), .null]) (pc := 18) dX11_waits_18 zC_11_171 rfl (z_recv zl_41 zh_41) rfl rfl) (by omega))))) (fun hz1 => Eq.trans (q_iload_n (pc := 11) dX11_waits_11 rfl rfl) (q_iret (pc := 12) dX11_waits_12 rfl rfl)))))
theorem b_X11_waits_21 {X : zX} {d : Nat} {Q : Option Value → zH → Prop} (hd : 1 ≤ d) (σ : zS) (l1 : Int32) (l2 : Int32) (l3 : Int32) (t0 : Int32)  : zwp X d MX11_waits 21 [.ref 0, .int l1, .int l2, .int l3] [.int t0] (zen σ) Q = zwp X (d - 1) MX2_longestWait 0 [.ref 43, .int (l2 / 10), .int (l2 - l2 / 10 * 10), .ref 1, .null, .null, .null, .null] [] (zen σ) (fun v h' => zwp X d MX11_waits 44 [.ref 0, .int l1, .int l2, .int l3] (zpsh v []) h' Q) :=
  Eq.trans (q_pop_int (pc := 21) dX11_waits_21) (Eq.trans (q_aload_n (pc := 22) dX11_waits_22 rfl rfl) (Eq.trans (q_getf (pc := 23) dX11_waits_23 zF_11_69 (z_rfr zl_0 zh_0 (by decide) rfl)) (Eq.trans (q_getf (pc := 26) dX11_waits_26 zF_11_174 (z_rfr zl_41 zh_41 (by decide) rfl)) (Eq.trans (q_iload_n (pc := 29) dX11_waits_29 rfl rfl) (Eq.trans (q_bipush (v := 10) (pc := 30) dX11_waits_30 rfl) (Eq.trans (q_idivK (pc := 32) dX11_waits_32 (by decide)) (Eq.trans (q_iload_n (pc := 33) dX11_waits_33 rfl rfl) (Eq.trans (q_bipush (v := 10) (pc := 34) dX11_waits_34 rfl) (Eq.trans (q_iremK (pc := 36) dX11_waits_36 (by decide)) (Eq.trans (q_aload_n (pc := 37) dX11_waits_37 rfl rfl) (Eq.trans (q_getf (pc := 38) dX11_waits_38 zF_11_10 (z_rfr zl_0 zh_0 (by decide) rfl)) (zdpos (q_callV (as := [.int (l2 / 10), .int (l2 - l2 / 10 * 10), .ref 1]) (rest := []) (l0 := [.ref 43, .int (l2 / 10), .int (l2 - l2 / 10 * 10), .ref 1, .null, .null, .null, .null]) (pc := 41) dX11_waits_41 zC_11_185 rfl (z_recv zl_43 zh_43) rfl rfl) (by omega)))))))))))))
theorem b_X11_waits_44 {X : zX} {d : Nat} {Q : Option Value → zH → Prop} (σ : zS) (l1 : Int32) (l2 : Int32) (l3 : Int32) (t0 : Int32)  : zwp X d MX11_waits 44 [.ref 0, .int l1, .int l2, .int l3] [.int t0] (zen σ) Q = Q (some (.int t0)) (zen σ) :=
  q_iret (pc := 44) dX11_waits_44 rfl rfl
theorem b_X11_first_0 {X : zX} {d : Nat} {Q : Option Value → zH → Prop} (hd : 1 ≤ d) (σ : zS) (a2 : Int32) (a3 : Int32)  : zwp X d MX11_first 0 [.ref 0, .int a2, .int a3, .null] [] (zen σ) Q = zwp X (d - 1) MX11_readProgrammeFor 0 [.ref 0, .int a2, .int a3] [] (zen σ) (fun v h' => zwp X d MX11_first 6 [.ref 0, .int a2, .int a3, .null] (zpsh v []) h' Q) :=
  Eq.trans (q_aload_n (pc := 0) dX11_first_0 rfl rfl) (Eq.trans (q_iload_n (pc := 1) dX11_first_1 rfl rfl) (Eq.trans (q_iload_n (pc := 2) dX11_first_2 rfl rfl) (zdpos (q_callV (as := [.int a2, .int a3]) (rest := []) (l0 := [.ref 0, .int a2, .int a3]) (pc := 3) dX11_first_3 zC_11_168 rfl (z_recv zl_0 zh_0) rfl rfl) (by omega))))
theorem b_X11_first_6 {X : zX} {d : Nat} {Q : Option Value → zH → Prop} (hd : 1 ≤ d) (σ : zS) (l1 : Int32) (l2 : Int32) (t0 : Int32)  : zwp X d MX11_first 6 [.ref 0, .int l1, .int l2, .null] [.int t0] (zen σ) Q = (if t0 = 0 then zwp X (d - 1) MX10_bytesUntil 0 [.ref 41, .int (l2 / 10), .int (l2 - l2 / 10 * 10), .null] [] (zen σ) (fun v h' => zwp X d MX11_first 30 [.ref 0, .int l1, .int l2, .int t0] (zpsh v []) h' Q) else Q (some (.int t0)) (zen σ)) :=
  Eq.trans (q_istore_n (ls' := [.ref 0, .int l1, .int l2, .int t0]) (pc := 6) dX11_first_6 rfl (Nat.le_of_ble_eq_true rfl) rfl) (Eq.trans (q_iload_n (pc := 7) dX11_first_7 rfl rfl) (Eq.trans (q_if_eq (tgt := 15) (pc := 8) dX11_first_8 rfl) (zite (fun hz1 => Eq.trans (q_aload_n (pc := 15) dX11_first_15 rfl rfl) (Eq.trans (q_getf (pc := 16) dX11_first_16 zF_11_69 (z_rfr zl_0 zh_0 (by decide) rfl)) (Eq.trans (q_iload_n (pc := 19) dX11_first_19 rfl rfl) (Eq.trans (q_bipush (v := 10) (pc := 20) dX11_first_20 rfl) (Eq.trans (q_idivK (pc := 22) dX11_first_22 (by decide)) (Eq.trans (q_iload_n (pc := 23) dX11_first_23 rfl rfl) (Eq.trans (q_bipush (v := 10) (pc := 24) dX11_first_24 rfl) (Eq.trans (q_iremK (pc := 26) dX11_first_26 (by decide)) (zdpos (q_callV (as := [.int (l2 / 10), .int (l2 - l2 / 10 * 10)]) (rest := []) (l0 := [.ref 41, .int (l2 / 10), .int (l2 - l2 / 10 * 10), .null]) (pc := 27) dX11_first_27 zC_11_188 rfl (z_recv zl_41 zh_41) rfl rfl) (by omega)))))))))) (fun hz1 => Eq.trans (q_iload_n (pc := 11) dX11_first_11 rfl rfl) (Eq.trans (q_goto (tgt := 30) (pc := 12) dX11_first_12 rfl) (q_iret (pc := 30) dX11_first_30 rfl rfl))))))
theorem b_X11_first_30 {X : zX} {d : Nat} {Q : Option Value → zH → Prop} (σ : zS) (l1 : Int32) (l2 : Int32) (l3 : Int32) (t0 : Int32)  : zwp X d MX11_first 30 [.ref 0, .int l1, .int l2, .int l3] [.int t0] (zen σ) Q = Q (some (.int t0)) (zen σ) :=
  q_iret (pc := 30) dX11_first_30 rfl rfl
theorem b_X11_order_0 {X : zX} {d : Nat} {Q : Option Value → zH → Prop} (hd : 1 ≤ d) (σ : zS) (a2 : Int32)  : zwp X d MX11_order 0 [.ref 0, .int a2, .null] [] (zen σ) Q = (if (-1) ≤ a2 then (if (gi σ 1 2) ≤ 6 then (if a2 < (gi σ 1 2) then zwp X (d - 1) MX7_bestOrder 0 [.ref 45, .null, .null, .null, .null, .null] [] (zen σ) (fun v h' => zwp X d MX11_order 43 [.ref 0, .int a2, .null] (zpsh v []) h' Q) else Q (some (.int (-2))) (zen σ)) else Q (some (.int (-5))) (zen σ)) else Q (some (.int (-1))) (zen σ)) :=
  Eq.trans (q_iload_n (pc := 0) dX11_order_0 rfl rfl) (Eq.trans (q_iconst (v := (-1)) (pc := 1) dX11_order_1 rfl) (Eq.trans (q_icmp_ge (tgt := 7) (pc := 2) dX11_order_2 rfl) (zite (fun hz1 => Eq.trans (q_aload_n (pc := 7) dX11_order_7 rfl rfl) (Eq.trans (q_getf (pc := 8) dX11_order_8 zF_11_10 (z_rfr zl_0 zh_0 (by decide) rfl)) (Eq.trans (q_getf (pc := 11) dX11_order_11 zF_11_107 (z_rfiE (x := (gi σ 1 2)) zl_1 zh_1 (by decide) rfl rfl)) (Eq.trans (q_bipush (v := 6) (pc := 14) dX11_order_14 rfl) (Eq.trans (q_icmp_le (tgt := 22) (pc := 16) dX11_order_16 rfl) (zite (fun hz2 => Eq.trans (q_iload_n (pc := 22) dX11_order_22 rfl rfl) (Eq.trans (q_aload_n (pc := 23) dX11_order_23 rfl rfl) (Eq.trans (q_getf (pc := 24) dX11_order_24 zF_11_10 (z_rfr zl_0 zh_0 (by decide) rfl)) (Eq.trans (q_getf (pc := 27) dX11_order_27 zF_11_107 (z_rfiE (x := (gi σ 1 2)) zl_1 zh_1 (by decide) rfl rfl)) (Eq.trans (q_icmp_lt (tgt := 36) (pc := 30) dX11_order_30 rfl) (zite (fun hz3 => Eq.trans (q_aload_n (pc := 36) dX11_order_36 rfl rfl) (Eq.trans (q_getf (pc := 37) dX11_order_37 zF_11_76 (z_rfr zl_0 zh_0 (by decide) rfl)) (zdpos (q_callV (as := []) (rest := []) (l0 := [.ref 45, .null, .null, .null, .null, .null]) (pc := 40) dX11_order_40 zC_11_191 rfl (z_recv zl_45 zh_45) rfl rfl) (by omega)))) (fun hz3 => Eq.trans (q_bipush (v := (-2)) (pc := 33) dX11_order_33 rfl) (q_iret (pc := 35) dX11_order_35 rfl rfl)))))))) (fun hz2 => Eq.trans (q_bipush (v := (-5)) (pc := 19) dX11_order_19 rfl) (q_iret (pc := 21) dX11_order_21 rfl rfl)))))))) (fun hz1 => Eq.trans (q_iconst (v := (-1)) (pc := 5) dX11_order_5 rfl) (q_iret (pc := 6) dX11_order_6 rfl rfl)))))
theorem b_X11_order_43 {X : zX} {d : Nat} {Q : Option Value → zH → Prop} (σ : zS) (l1 : Int32) (t0 : Int32)  : zwp X d MX11_order 43 [.ref 0, .int l1, .null] [.int t0] (zen σ) Q = (if 0 ≤ l1 then (zin l1 6 = true ∧ Q (some (.int (gi σ 48 (ix l1)))) (zen σ)) else Q (some (.int t0)) (zen σ)) :=
  Eq.trans (q_istore_n (ls' := [.ref 0, .int l1, .int t0]) (pc := 43) dX11_order_43 rfl (Nat.le_of_ble_eq_true rfl) rfl) (Eq.trans (q_iload_n (pc := 44) dX11_order_44 rfl rfl) (Eq.trans (q_if_ge (tgt := 52) (pc := 45) dX11_order_45 rfl) (zite (fun hz1 => Eq.trans (q_aload_n (pc := 52) dX11_order_52 rfl rfl) (Eq.trans (q_getf (pc := 53) dX11_order_53 zF_11_76 (z_rfr zl_0 zh_0 (by decide) rfl)) (Eq.trans (q_getf (pc := 56) dX11_order_56 zF_11_194 (z_rfr zl_45 zh_45 (by decide) rfl)) (Eq.trans (q_iload_n (pc := 59) dX11_order_59 rfl rfl) (Eq.trans (qe_iaload (x := (gi σ 48 (ix l1))) (pc := 60) dX11_order_60 (z_ia zl_48 zh_48 (by decide)) rfl) (zand fun hz2 => q_iret (pc := 61) dX11_order_61 rfl rfl)))))) (fun hz1 => Eq.trans (q_iload_n (pc := 48) dX11_order_48 rfl rfl) (Eq.trans (q_goto (tgt := 61) (pc := 49) dX11_order_49 rfl) (q_iret (pc := 61) dX11_order_61 rfl rfl))))))
theorem b_X11_fewest_0 {X : zX} {d : Nat} {Q : Option Value → zH → Prop} (hd : 1 ≤ d) (σ : zS) (a2 : Int32) (a3 : Int32)  : zwp X d MX11_fewest 0 [.ref 0, .int a2, .int a3, .null] [] (zen σ) Q = (if a2 < 0 then Q (some (.int (-1))) (zen σ) else (if 999 < a2 then Q (some (.int (-1))) (zen σ) else (if (-1) ≤ a3 then (if (gi σ 1 2) ≤ 5 then zwp X (d - 1) MX7_fewestFor 0 [.ref 45, .int a2, .null, .null, .null, .null] [] (zen σ) (fun v h' => zwp X d MX11_fewest 40 [.ref 0, .int a2, .int a3, .null] (zpsh v []) h' Q) else Q (some (.int (-5))) (zen σ)) else Q (some (.int (-1))) (zen σ)))) :=
  Eq.trans (q_iload_n (pc := 0) dX11_fewest_0 rfl rfl) (Eq.trans (q_if_lt (tgt := 16) (pc := 1) dX11_fewest_1 rfl) (zite (fun hz1 => Eq.trans (q_iconst (v := (-1)) (pc := 16) dX11_fewest_16 rfl) (q_iret (pc := 17) dX11_fewest_17 rfl rfl)) (fun hz1 => Eq.trans (q_iload_n (pc := 4) dX11_fewest_4 rfl rfl) (Eq.trans (q_sipush (v := 999) (pc := 5) dX11_fewest_5 rfl) (Eq.trans (q_icmp_gt (tgt := 16) (pc := 8) dX11_fewest_8 rfl) (zite (fun hz2 => Eq.trans (q_iconst (v := (-1)) (pc := 16) dX11_fewest_16 rfl) (q_iret (pc := 17) dX11_fewest_17 rfl rfl)) (fun hz2 => Eq.trans (q_iload_n (pc := 11) dX11_fewest_11 rfl rfl) (Eq.trans (q_iconst (v := (-1)) (pc := 12) dX11_fewest_12 rfl) (Eq.trans (q_icmp_ge (tgt := 18) (pc := 13) dX11_fewest_13 rfl) (zite (fun hz3 => Eq.trans (q_aload_n (pc := 18) dX11_fewest_18 rfl rfl) (Eq.trans (q_getf (pc := 19) dX11_fewest_19 zF_11_10 (z_rfr zl_0 zh_0 (by decide) rfl)) (Eq.trans (q_getf (pc := 22) dX11_fewest_22 zF_11_107 (z_rfiE (x := (gi σ 1 2)) zl_1 zh_1 (by decide) rfl rfl)) (Eq.trans (q_iconst (v := 5) (pc := 25) dX11_fewest_25 rfl) (Eq.trans (q_icmp_le (tgt := 32) (pc := 26) dX11_fewest_26 rfl) (zite (fun hz4 => Eq.trans (q_aload_n (pc := 32) dX11_fewest_32 rfl rfl) (Eq.trans (q_getf (pc := 33) dX11_fewest_33 zF_11_76 (z_rfr zl_0 zh_0 (by decide) rfl)) (Eq.trans (q_iload_n (pc := 36) dX11_fewest_36 rfl rfl) (zdpos (q_callV (as := [.int a2]) (rest := []) (l0 := [.ref 45, .int a2, .null, .null, .null, .null]) (pc := 37) dX11_fewest_37 zC_11_197 rfl (z_recv zl_45 zh_45) rfl rfl) (by omega))))) (fun hz4 => Eq.trans (q_bipush (v := (-5)) (pc := 29) dX11_fewest_29 rfl) (q_iret (pc := 31) dX11_fewest_31 rfl rfl)))))))) (fun hz3 => Eq.trans (q_iconst (v := (-1)) (pc := 16) dX11_fewest_16 rfl) (q_iret (pc := 17) dX11_fewest_17 rfl rfl))))))))))))
theorem b_X11_fewest_40 {X : zX} {d : Nat} {Q : Option Value → zH → Prop} (σ : zS) (l1 : Int32) (l2 : Int32) (t0 : Int32)  : zwp X d MX11_fewest 40 [.ref 0, .int l1, .int l2, .null] [.int t0] (zen σ) Q = (if t0 = (-2) then Q (some (.int (-2))) (zen σ) else (if l2 < t0 then (if 0 ≤ l2 then (zin l2 6 = true ∧ Q (some (.int (gi σ 48 (ix l2)))) (zen σ)) else Q (some (.int t0)) (zen σ)) else Q (some (.int (-2))) (zen σ))) :=
  Eq.trans (q_istore_n (ls' := [.ref 0, .int l1, .int l2, .int t0]) (pc := 40) dX11_fewest_40 rfl (Nat.le_of_ble_eq_true rfl) rfl) (Eq.trans (q_iload_n (pc := 41) dX11_fewest_41 rfl rfl) (Eq.trans (q_bipush (v := (-2)) (pc := 42) dX11_fewest_42 rfl) (Eq.trans (q_icmp_eq (tgt := 52) (pc := 44) dX11_fewest_44 rfl) (zite (fun hz1 => Eq.trans (q_bipush (v := (-2)) (pc := 52) dX11_fewest_52 rfl) (q_iret (pc := 54) dX11_fewest_54 rfl rfl)) (fun hz1 => Eq.trans (q_iload_n (pc := 47) dX11_fewest_47 rfl rfl) (Eq.trans (q_iload_n (pc := 48) dX11_fewest_48 rfl rfl) (Eq.trans (q_icmp_lt (tgt := 55) (pc := 49) dX11_fewest_49 rfl) (zite (fun hz2 => Eq.trans (q_iload_n (pc := 55) dX11_fewest_55 rfl rfl) (Eq.trans (q_if_ge (tgt := 63) (pc := 56) dX11_fewest_56 rfl) (zite (fun hz3 => Eq.trans (q_aload_n (pc := 63) dX11_fewest_63 rfl rfl) (Eq.trans (q_getf (pc := 64) dX11_fewest_64 zF_11_76 (z_rfr zl_0 zh_0 (by decide) rfl)) (Eq.trans (q_getf (pc := 67) dX11_fewest_67 zF_11_194 (z_rfr zl_45 zh_45 (by decide) rfl)) (Eq.trans (q_iload_n (pc := 70) dX11_fewest_70 rfl rfl) (Eq.trans (qe_iaload (x := (gi σ 48 (ix l2))) (pc := 71) dX11_fewest_71 (z_ia zl_48 zh_48 (by decide)) rfl) (zand fun hz4 => q_iret (pc := 72) dX11_fewest_72 rfl rfl)))))) (fun hz3 => Eq.trans (q_iload_n (pc := 59) dX11_fewest_59 rfl rfl) (Eq.trans (q_goto (tgt := 72) (pc := 60) dX11_fewest_60 rfl) (q_iret (pc := 72) dX11_fewest_72 rfl rfl)))))) (fun hz2 => Eq.trans (q_bipush (v := (-2)) (pc := 52) dX11_fewest_52 rfl) (q_iret (pc := 54) dX11_fewest_54 rfl rfl))))))))))
theorem b_X11_spare_0 {X : zX} {d : Nat} {Q : Option Value → zH → Prop} (hd : 1 ≤ d) (σ : zS) (a2 : Int32) (a3 : Int32)  : zwp X d MX11_spare 0 [.ref 0, .int a2, .int a3, .null] [] (zen σ) Q = (if ¬ (f_X11_isHalf σ a3) = 0 then zwp X (d - 1) MX11_readProgramme 0 [.ref 0, .int a2, .null] [] (zen σ) (fun v h' => zwp X d MX11_spare 14 [.ref 0, .int a2, .int a3, .null] (zpsh v []) h' Q) else Q (some (.int (-1))) (zen σ)) :=
  Eq.trans (q_iload_n (pc := 0) dX11_spare_0 rfl rfl) (Eq.trans (q_sumI (q_callS (as := [.int a3]) (rest := []) (l0 := [.int a3]) (pc := 1) dX11_spare_1 zSN_11_200 zC_11_200 rfl rfl rfl) (by omega) (s_X11_isHalf σ a3)) (Eq.trans (q_if_ne (tgt := 9) (pc := 4) dX11_spare_4 rfl) (zite (fun hz1 => Eq.trans (q_aload_n (pc := 9) dX11_spare_9 rfl rfl) (Eq.trans (q_iload_n (pc := 10) dX11_spare_10 rfl rfl) (zdpos (q_callV (as := [.int a2]) (rest := []) (l0 := [.ref 0, .int a2, .null]) (pc := 11) dX11_spare_11 zC_11_162 rfl (z_recv zl_0 zh_0) rfl rfl) (by omega)))) (fun hz1 => Eq.trans (q_iconst (v := (-1)) (pc := 7) dX11_spare_7 rfl) (q_iret (pc := 8) dX11_spare_8 rfl rfl)))))
theorem b_X11_spare_14 {X : zX} {d : Nat} {Q : Option Value → zH → Prop} (hd : 1 ≤ d) (σ : zS) (l1 : Int32) (l2 : Int32) (t0 : Int32)  : zwp X d MX11_spare 14 [.ref 0, .int l1, .int l2, .null] [.int t0] (zen σ) Q = (if t0 = 0 then zwp X (d - 1) MX10_bestSpared 0 [.ref 41, .int l2, .null, .null, .null, .null] [] (zen σ) (fun v h' => zwp X d MX11_spare 31 [.ref 0, .int l1, .int l2, .int t0] (zpsh v []) h' Q) else Q (some (.int t0)) (zen σ)) :=
  Eq.trans (q_istore_n (ls' := [.ref 0, .int l1, .int l2, .int t0]) (pc := 14) dX11_spare_14 rfl (Nat.le_of_ble_eq_true rfl) rfl) (Eq.trans (q_iload_n (pc := 15) dX11_spare_15 rfl rfl) (Eq.trans (q_if_eq (tgt := 23) (pc := 16) dX11_spare_16 rfl) (zite (fun hz1 => Eq.trans (q_aload_n (pc := 23) dX11_spare_23 rfl rfl) (Eq.trans (q_getf (pc := 24) dX11_spare_24 zF_11_69 (z_rfr zl_0 zh_0 (by decide) rfl)) (Eq.trans (q_iload_n (pc := 27) dX11_spare_27 rfl rfl) (zdpos (q_callV (as := [.int l2]) (rest := []) (l0 := [.ref 41, .int l2, .null, .null, .null, .null]) (pc := 28) dX11_spare_28 zC_11_204 rfl (z_recv zl_41 zh_41) rfl rfl) (by omega))))) (fun hz1 => Eq.trans (q_iload_n (pc := 19) dX11_spare_19 rfl rfl) (Eq.trans (q_goto (tgt := 31) (pc := 20) dX11_spare_20 rfl) (q_iret (pc := 31) dX11_spare_31 rfl rfl))))))
theorem b_X11_spare_31 {X : zX} {d : Nat} {Q : Option Value → zH → Prop} (σ : zS) (l1 : Int32) (l2 : Int32) (l3 : Int32) (t0 : Int32)  : zwp X d MX11_spare 31 [.ref 0, .int l1, .int l2, .int l3] [.int t0] (zen σ) Q = Q (some (.int t0)) (zen σ) :=
  q_iret (pc := 31) dX11_spare_31 rfl rfl
theorem b_X11_harm_0 {X : zX} {d : Nat} {Q : Option Value → zH → Prop} (hd : 1 ≤ d) (σ : zS) (a2 : Int32)  : zwp X d MX11_harm 0 [.ref 0, .int a2, .null] [] (zen σ) Q = zwp X (d - 1) MX11_readProgramme 0 [.ref 0, .int a2, .null] [] (zen σ) (fun v h' => zwp X d MX11_harm 5 [.ref 0, .int a2, .null] (zpsh v []) h' Q) :=
  Eq.trans (q_aload_n (pc := 0) dX11_harm_0 rfl rfl) (Eq.trans (q_iload_n (pc := 1) dX11_harm_1 rfl rfl) (zdpos (q_callV (as := [.int a2]) (rest := []) (l0 := [.ref 0, .int a2, .null]) (pc := 2) dX11_harm_2 zC_11_162 rfl (z_recv zl_0 zh_0) rfl rfl) (by omega)))
theorem b_X11_harm_5 {X : zX} {d : Nat} {Q : Option Value → zH → Prop} (hd : 1 ≤ d) (σ : zS) (l1 : Int32) (t0 : Int32)  : zwp X d MX11_harm 5 [.ref 0, .int l1, .null] [.int t0] (zen σ) Q = (if t0 = 0 then zwp X (d - 1) MX10_harmfulRows 0 [.ref 41, .null, .null, .null] [] (zen σ) (fun v h' => zwp X d MX11_harm 21 [.ref 0, .int l1, .int t0] (zpsh v []) h' Q) else Q (some (.int t0)) (zen σ)) :=
  Eq.trans (q_istore_n (ls' := [.ref 0, .int l1, .int t0]) (pc := 5) dX11_harm_5 rfl (Nat.le_of_ble_eq_true rfl) rfl) (Eq.trans (q_iload_n (pc := 6) dX11_harm_6 rfl rfl) (Eq.trans (q_if_eq (tgt := 14) (pc := 7) dX11_harm_7 rfl) (zite (fun hz1 => Eq.trans (q_aload_n (pc := 14) dX11_harm_14 rfl rfl) (Eq.trans (q_getf (pc := 15) dX11_harm_15 zF_11_69 (z_rfr zl_0 zh_0 (by decide) rfl)) (zdpos (q_callV (as := []) (rest := []) (l0 := [.ref 41, .null, .null, .null]) (pc := 18) dX11_harm_18 zC_11_207 rfl (z_recv zl_41 zh_41) rfl rfl) (by omega)))) (fun hz1 => Eq.trans (q_iload_n (pc := 10) dX11_harm_10 rfl rfl) (Eq.trans (q_goto (tgt := 21) (pc := 11) dX11_harm_11 rfl) (q_iret (pc := 21) dX11_harm_21 rfl rfl))))))
theorem b_X11_harm_21 {X : zX} {d : Nat} {Q : Option Value → zH → Prop} (σ : zS) (l1 : Int32) (l2 : Int32) (t0 : Int32)  : zwp X d MX11_harm 21 [.ref 0, .int l1, .int l2] [.int t0] (zen σ) Q = Q (some (.int t0)) (zen σ) :=
  q_iret (pc := 21) dX11_harm_21 rfl rfl
theorem b_X11_seat_0 {X : zX} {d : Nat} {Q : Option Value → zH → Prop} (hd : 1 ≤ d) (σ : zS) (a2 : Int32) (a3 : Int32) (a4 : Int32)  : zwp X d MX11_seat 0 [.ref 0, .int a2, .int a3, .int a4, .null] [] (zen σ) Q = (if a3 < 0 then Q (some (.int (-1))) (zen σ) else (if (gi σ 1 1) ≤ a3 then Q (some (.int (-1))) (zen σ) else (if ¬ (f_X11_isHalf σ a4) = 0 then zwp X (d - 1) MX11_readProgramme 0 [.ref 0, .int a2, .null] [] (zen σ) (fun v h' => zwp X d MX11_seat 29 [.ref 0, .int a2, .int a3, .int a4, .null] (zpsh v []) h' Q) else Q (some (.int (-1))) (zen σ)))) :=
  Eq.trans (q_iload_n (pc := 0) dX11_seat_0 rfl rfl) (Eq.trans (q_if_lt (tgt := 22) (pc := 1) dX11_seat_1 rfl) (zite (fun hz1 => Eq.trans (q_iconst (v := (-1)) (pc := 22) dX11_seat_22 rfl) (q_iret (pc := 23) dX11_seat_23 rfl rfl)) (fun hz1 => Eq.trans (q_iload_n (pc := 4) dX11_seat_4 rfl rfl) (Eq.trans (q_aload_n (pc := 5) dX11_seat_5 rfl rfl) (Eq.trans (q_getf (pc := 6) dX11_seat_6 zF_11_10 (z_rfr zl_0 zh_0 (by decide) rfl)) (Eq.trans (q_getf (pc := 9) dX11_seat_9 zF_11_91 (z_rfiE (x := (gi σ 1 1)) zl_1 zh_1 (by decide) rfl rfl)) (Eq.trans (q_icmp_ge (tgt := 22) (pc := 12) dX11_seat_12 rfl) (zite (fun hz2 => Eq.trans (q_iconst (v := (-1)) (pc := 22) dX11_seat_22 rfl) (q_iret (pc := 23) dX11_seat_23 rfl rfl)) (fun hz2 => Eq.trans (q_iload_n (pc := 15) dX11_seat_15 rfl rfl) (Eq.trans (q_sumI (q_callS (as := [.int a4]) (rest := []) (l0 := [.int a4]) (pc := 16) dX11_seat_16 zSN_11_200 zC_11_200 rfl rfl rfl) (by omega) (s_X11_isHalf σ a4)) (Eq.trans (q_if_ne (tgt := 24) (pc := 19) dX11_seat_19 rfl) (zite (fun hz3 => Eq.trans (q_aload_n (pc := 24) dX11_seat_24 rfl rfl) (Eq.trans (q_iload_n (pc := 25) dX11_seat_25 rfl rfl) (zdpos (q_callV (as := [.int a2]) (rest := []) (l0 := [.ref 0, .int a2, .null]) (pc := 26) dX11_seat_26 zC_11_162 rfl (z_recv zl_0 zh_0) rfl rfl) (by omega)))) (fun hz3 => Eq.trans (q_iconst (v := (-1)) (pc := 22) dX11_seat_22 rfl) (q_iret (pc := 23) dX11_seat_23 rfl rfl))))))))))))))
theorem b_X11_seat_29 {X : zX} {d : Nat} {Q : Option Value → zH → Prop} (hd : 1 ≤ d) (σ : zS) (l1 : Int32) (l2 : Int32) (l3 : Int32) (t0 : Int32)  : zwp X d MX11_seat 29 [.ref 0, .int l1, .int l2, .int l3, .null] [.int t0] (zen σ) Q = (if t0 = 0 then zwp X (d - 1) MX10_bestSeat 0 [.ref 41, .int l2, .int l3, .null, .null, .null, .null, .null, .null, .null] [] (zen σ) (fun v h' => zwp X d MX11_seat 50 [.ref 0, .int l1, .int l2, .int l3, .int t0] (zpsh v []) h' Q) else Q (some (.int t0)) (zen σ)) :=
  Eq.trans (q_istore (ls' := [.ref 0, .int l1, .int l2, .int l3, .int t0]) (pc := 29) dX11_seat_29 (Nat.le_of_ble_eq_true rfl) rfl) (Eq.trans (q_iload (pc := 31) dX11_seat_31 rfl) (Eq.trans (q_if_eq (tgt := 41) (pc := 33) dX11_seat_33 rfl) (zite (fun hz1 => Eq.trans (q_aload_n (pc := 41) dX11_seat_41 rfl rfl) (Eq.trans (q_getf (pc := 42) dX11_seat_42 zF_11_69 (z_rfr zl_0 zh_0 (by decide) rfl)) (Eq.trans (q_iload_n (pc := 45) dX11_seat_45 rfl rfl) (Eq.trans (q_iload_n (pc := 46) dX11_seat_46 rfl rfl) (zdpos (q_callV (as := [.int l2, .int l3]) (rest := []) (l0 := [.ref 41, .int l2, .int l3, .null, .null, .null, .null, .null, .null, .null]) (pc := 47) dX11_seat_47 zC_11_210 rfl (z_recv zl_41 zh_41) rfl rfl) (by omega)))))) (fun hz1 => Eq.trans (q_iload (pc := 36) dX11_seat_36 rfl) (Eq.trans (q_goto (tgt := 50) (pc := 38) dX11_seat_38 rfl) (q_iret (pc := 50) dX11_seat_50 rfl rfl))))))
theorem b_X11_seat_50 {X : zX} {d : Nat} {Q : Option Value → zH → Prop} (σ : zS) (l1 : Int32) (l2 : Int32) (l3 : Int32) (l4 : Int32) (t0 : Int32)  : zwp X d MX11_seat 50 [.ref 0, .int l1, .int l2, .int l3, .int l4] [.int t0] (zen σ) Q = Q (some (.int t0)) (zen σ) :=
  q_iret (pc := 50) dX11_seat_50 rfl rfl
theorem b_X11_encore_0 {X : zX} {d : Nat} {Q : Option Value → zH → Prop} (hd : 1 ≤ d) (σ : zS) (a2 : Int32)  : zwp X d MX11_encore 0 [.ref 0, .int a2] [] (zen σ) Q = zwp X (d - 1) MX11_readProgramme 0 [.ref 0, .int a2, .null] [] (zen σ) (fun v h' => zwp X d MX11_encore 5 [.ref 0, .int a2] (zpsh v []) h' Q) :=
  Eq.trans (q_aload_n (pc := 0) dX11_encore_0 rfl rfl) (Eq.trans (q_iload_n (pc := 1) dX11_encore_1 rfl rfl) (zdpos (q_callV (as := [.int a2]) (rest := []) (l0 := [.ref 0, .int a2, .null]) (pc := 2) dX11_encore_2 zC_11_162 rfl (z_recv zl_0 zh_0) rfl rfl) (by omega)))
theorem b_X11_encore_5 {X : zX} {d : Nat} {Q : Option Value → zH → Prop} (hd : 1 ≤ d) (σ : zS) (l1 : Int32) (t0 : Int32)  : zwp X d MX11_encore 5 [.ref 0, .int l1] [.int t0] (zen σ) Q = (if t0 = 0 then zwp X (d - 1) MX10_moreByEncore 0 [.ref 41, .null, .null] [] (zen σ) (fun v h' => zwp X d MX11_encore 20 [.ref 0, .int l1] (zpsh v []) h' Q) else Q (some (.int (-2000000000))) (zen σ)) :=
  Eq.trans (q_if_eq (tgt := 13) (pc := 5) dX11_encore_5 rfl) (zite (fun hz1 => Eq.trans (q_aload_n (pc := 13) dX11_encore_13 rfl rfl) (Eq.trans (q_getf (pc := 14) dX11_encore_14 zF_11_69 (z_rfr zl_0 zh_0 (by decide) rfl)) (zdpos (q_callV (as := []) (rest := []) (l0 := [.ref 41, .null, .null]) (pc := 17) dX11_encore_17 zC_11_213 rfl (z_recv zl_41 zh_41) rfl rfl) (by omega)))) (fun hz1 => Eq.trans (q_ldci (v := (-2000000000)) (pc := 8) dX11_encore_8 zK_11_157) (Eq.trans (q_goto (tgt := 20) (pc := 10) dX11_encore_10 rfl) (q_iret (pc := 20) dX11_encore_20 rfl rfl))))
theorem b_X11_encore_20 {X : zX} {d : Nat} {Q : Option Value → zH → Prop} (σ : zS) (l1 : Int32) (t0 : Int32)  : zwp X d MX11_encore 20 [.ref 0, .int l1] [.int t0] (zen σ) Q = Q (some (.int t0)) (zen σ) :=
  q_iret (pc := 20) dX11_encore_20 rfl rfl
theorem b_X11_claque_0 {X : zX} {d : Nat} {Q : Option Value → zH → Prop} (hd : 1 ≤ d) (σ : zS) (a2 : Int32) (a3 : Int32)  : zwp X d MX11_claque 0 [.ref 0, .int a2, .int a3, .null] [] (zen σ) Q = (if a3 < 0 then Q (some (.int (-1))) (zen σ) else (if (a3 / 1000) < (gi σ 1 1) then zwp X (d - 1) MX11_readProgramme 0 [.ref 0, .int a2, .null] [] (zen σ) (fun v h' => zwp X d MX11_claque 26 [.ref 0, .int a2, .int a3, .null] (zpsh v []) h' Q) else Q (some (.int (-1))) (zen σ))) :=
  Eq.trans (q_iload_n (pc := 0) dX11_claque_0 rfl rfl) (Eq.trans (q_if_lt (tgt := 19) (pc := 1) dX11_claque_1 rfl) (zite (fun hz1 => Eq.trans (q_iconst (v := (-1)) (pc := 19) dX11_claque_19 rfl) (q_iret (pc := 20) dX11_claque_20 rfl rfl)) (fun hz1 => Eq.trans (q_iload_n (pc := 4) dX11_claque_4 rfl rfl) (Eq.trans (q_sipush (v := 1000) (pc := 5) dX11_claque_5 rfl) (Eq.trans (q_idivK (pc := 8) dX11_claque_8 (by decide)) (Eq.trans (q_aload_n (pc := 9) dX11_claque_9 rfl rfl) (Eq.trans (q_getf (pc := 10) dX11_claque_10 zF_11_10 (z_rfr zl_0 zh_0 (by decide) rfl)) (Eq.trans (q_getf (pc := 13) dX11_claque_13 zF_11_91 (z_rfiE (x := (gi σ 1 1)) zl_1 zh_1 (by decide) rfl rfl)) (Eq.trans (q_icmp_lt (tgt := 21) (pc := 16) dX11_claque_16 rfl) (zite (fun hz2 => Eq.trans (q_aload_n (pc := 21) dX11_claque_21 rfl rfl) (Eq.trans (q_iload_n (pc := 22) dX11_claque_22 rfl rfl) (zdpos (q_callV (as := [.int a2]) (rest := []) (l0 := [.ref 0, .int a2, .null]) (pc := 23) dX11_claque_23 zC_11_162 rfl (z_recv zl_0 zh_0) rfl rfl) (by omega)))) (fun hz2 => Eq.trans (q_iconst (v := (-1)) (pc := 19) dX11_claque_19 rfl) (q_iret (pc := 20) dX11_claque_20 rfl rfl))))))))))))
theorem b_X11_claque_26 {X : zX} {d : Nat} {Q : Option Value → zH → Prop} (hd : 1 ≤ d) (σ : zS) (l1 : Int32) (l2 : Int32) (t0 : Int32)  : zwp X d MX11_claque 26 [.ref 0, .int l1, .int l2, .null] [.int t0] (zen σ) Q = (if t0 = 0 then zwp X (d - 1) MX10_fewestHands 0 [.ref 41, .int (l2 / 1000), .int (l2 - l2 / 1000 * 1000), .null, .null, .null, .null] [] (zen σ) (fun v h' => zwp X d MX11_claque 52 [.ref 0, .int l1, .int l2, .int t0] (zpsh v []) h' Q) else Q (some (.int t0)) (zen σ)) :=
  Eq.trans (q_istore_n (ls' := [.ref 0, .int l1, .int l2, .int t0]) (pc := 26) dX11_claque_26 rfl (Nat.le_of_ble_eq_true rfl) rfl) (Eq.trans (q_iload_n (pc := 27) dX11_claque_27 rfl rfl) (Eq.trans (q_if_eq (tgt := 35) (pc := 28) dX11_claque_28 rfl) (zite (fun hz1 => Eq.trans (q_aload_n (pc := 35) dX11_claque_35 rfl rfl) (Eq.trans (q_getf (pc := 36) dX11_claque_36 zF_11_69 (z_rfr zl_0 zh_0 (by decide) rfl)) (Eq.trans (q_iload_n (pc := 39) dX11_claque_39 rfl rfl) (Eq.trans (q_sipush (v := 1000) (pc := 40) dX11_claque_40 rfl) (Eq.trans (q_idivK (pc := 43) dX11_claque_43 (by decide)) (Eq.trans (q_iload_n (pc := 44) dX11_claque_44 rfl rfl) (Eq.trans (q_sipush (v := 1000) (pc := 45) dX11_claque_45 rfl) (Eq.trans (q_iremK (pc := 48) dX11_claque_48 (by decide)) (zdpos (q_callV (as := [.int (l2 / 1000), .int (l2 - l2 / 1000 * 1000)]) (rest := []) (l0 := [.ref 41, .int (l2 / 1000), .int (l2 - l2 / 1000 * 1000), .null, .null, .null, .null]) (pc := 49) dX11_claque_49 zC_11_216 rfl (z_recv zl_41 zh_41) rfl rfl) (by omega)))))))))) (fun hz1 => Eq.trans (q_iload_n (pc := 31) dX11_claque_31 rfl rfl) (Eq.trans (q_goto (tgt := 52) (pc := 32) dX11_claque_32 rfl) (q_iret (pc := 52) dX11_claque_52 rfl rfl))))))
theorem b_X11_claque_52 {X : zX} {d : Nat} {Q : Option Value → zH → Prop} (σ : zS) (l1 : Int32) (l2 : Int32) (l3 : Int32) (t0 : Int32)  : zwp X d MX11_claque 52 [.ref 0, .int l1, .int l2, .int l3] [.int t0] (zen σ) Q = Q (some (.int t0)) (zen σ) :=
  q_iret (pc := 52) dX11_claque_52 rfl rfl
theorem b_X11_judge_0 {X : zX} {d : Nat} {Q : Option Value → zH → Prop} (hd : 1 ≤ d) (σ : zS) (a2 : Int32)  : zwp X d MX11_judge 0 [.ref 0, .int a2, .null] [] (zen σ) Q = zwp X (d - 1) MX11_readProgrammeAndSeen 0 [.ref 0, .int a2, .null] [] (zen σ) (fun v h' => zwp X d MX11_judge 5 [.ref 0, .int a2, .null] (zpsh v []) h' Q) :=
  Eq.trans (q_aload_n (pc := 0) dX11_judge_0 rfl rfl) (Eq.trans (q_iload_n (pc := 1) dX11_judge_1 rfl rfl) (zdpos (q_callV (as := [.int a2]) (rest := []) (l0 := [.ref 0, .int a2, .null]) (pc := 2) dX11_judge_2 zC_11_219 rfl (z_recv zl_0 zh_0) rfl rfl) (by omega)))
theorem b_X11_judge_5 {X : zX} {d : Nat} {Q : Option Value → zH → Prop} (hd : 1 ≤ d) (σ : zS) (l1 : Int32) (t0 : Int32)  : zwp X d MX11_judge 5 [.ref 0, .int l1, .null] [.int t0] (zen σ) Q = (if t0 = 0 then zwp X (d - 1) MX10_carriedWithout 0 [.ref 41, .int (-1), .null] [] (zen σ) (fun v h' => zwp X d MX11_judge 20 [.ref 0, .int l1, .int t0] (zpsh v []) h' Q) else Q (some (.int t0)) (zen σ)) :=
  Eq.trans (q_istore_n (ls' := [.ref 0, .int l1, .int t0]) (pc := 5) dX11_judge_5 rfl (Nat.le_of_ble_eq_true rfl) rfl) (Eq.trans (q_iload_n (pc := 6) dX11_judge_6 rfl rfl) (Eq.trans (q_if_eq (tgt := 12) (pc := 7) dX11_judge_7 rfl) (zite (fun hz1 => Eq.trans (q_aload_n (pc := 12) dX11_judge_12 rfl rfl) (Eq.trans (q_getf (pc := 13) dX11_judge_13 zF_11_69 (z_rfr zl_0 zh_0 (by decide) rfl)) (Eq.trans (q_iconst (v := (-1)) (pc := 16) dX11_judge_16 rfl) (zdpos (q_callV (as := [.int (-1)]) (rest := []) (l0 := [.ref 41, .int (-1), .null]) (pc := 17) dX11_judge_17 zC_11_171 rfl (z_recv zl_41 zh_41) rfl rfl) (by omega))))) (fun hz1 => Eq.trans (q_iload_n (pc := 10) dX11_judge_10 rfl rfl) (q_iret (pc := 11) dX11_judge_11 rfl rfl)))))
theorem b_X11_judge_20 {X : zX} {d : Nat} {Q : Option Value → zH → Prop} (hd : 1 ≤ d) (σ : zS) (l1 : Int32) (l2 : Int32) (t0 : Int32)  : zwp X d MX11_judge 20 [.ref 0, .int l1, .int l2] [.int t0] (zen σ) Q = (zin (l1 - l1 / 10 * 10) 6 = true ∧ zwp X (d - 1) MX10_firstUnlike 0 [.ref 41, .ref (29 + 2 * ix (l1 - l1 / 10 * 10))] [] (zen σ) (fun v h' => zwp X d MX11_judge 37 [.ref 0, .int l1, .int l2] (zpsh v []) h' Q)) :=
  Eq.trans (q_pop_int (pc := 20) dX11_judge_20) (Eq.trans (q_aload_n (pc := 21) dX11_judge_21 rfl rfl) (Eq.trans (q_getf (pc := 22) dX11_judge_22 zF_11_69 (z_rfr zl_0 zh_0 (by decide) rfl)) (Eq.trans (q_aload_n (pc := 25) dX11_judge_25 rfl rfl) (Eq.trans (q_getf (pc := 26) dX11_judge_26 zF_11_55 (z_rfr zl_0 zh_0 (by decide) rfl)) (Eq.trans (q_iload_n (pc := 29) dX11_judge_29 rfl rfl) (Eq.trans (q_bipush (v := 10) (pc := 30) dX11_judge_30 rfl) (Eq.trans (q_iremK (pc := 32) dX11_judge_32 (by decide)) (Eq.trans (q_aaload (pc := 33) dX11_judge_33 (z_ra zl_28 zh_28 (by decide)) zra28) (zand fun hz1 => zdpos (q_callV (as := [.ref (29 + 2 * ix (l1 - l1 / 10 * 10))]) (rest := []) (l0 := [.ref 41, .ref (29 + 2 * ix (l1 - l1 / 10 * 10))]) (pc := 34) dX11_judge_34 zC_11_222 rfl (z_recv zl_41 zh_41) rfl rfl) (by omega))))))))))
theorem b_X11_judge_37 {X : zX} {d : Nat} {Q : Option Value → zH → Prop} (σ : zS) (l1 : Int32) (l2 : Int32) (t0 : Int32)  : zwp X d MX11_judge 37 [.ref 0, .int l1, .int l2] [.int t0] (zen σ) Q = Q (some (.int t0)) (zen σ) :=
  q_iret (pc := 37) dX11_judge_37 rfl rfl
theorem b_X11_which_0 {X : zX} {d : Nat} {Q : Option Value → zH → Prop} (hd : 2 ≤ d) (σ : zS) (a2 : Int32) (a3 : Int32)  : zwp X d MX11_which 0 [.ref 0, .int a2, .int a3, .null] [] (zen σ) Q = (if ¬ (f_X11_isHalf σ a3) = 0 then (p_X11_refusal σ a2 1 ∧ (if (f_X11_refusal σ a2 1) = 0 then (zin a2 6 = true ∧ zwp X (d - 1) MX10_turnsThatMake 0 [.ref 41, .ref (29 + 2 * ix a2), .int a3, .null, .null, .null] [] (zen σ) (fun v h' => zwp X d MX11_which 38 [.ref 0, .int a2, .int a3, .int (f_X11_refusal σ a2 1)] (zpsh v []) h' Q)) else Q (some (.int (f_X11_refusal σ a2 1))) (zen σ))) else Q (some (.int (-1))) (zen σ)) :=
  Eq.trans (q_iload_n (pc := 0) dX11_which_0 rfl rfl) (Eq.trans (q_sumI (q_callS (as := [.int a3]) (rest := []) (l0 := [.int a3]) (pc := 1) dX11_which_1 zSN_11_200 zC_11_200 rfl rfl rfl) (by omega) (s_X11_isHalf σ a3)) (Eq.trans (q_if_ne (tgt := 9) (pc := 4) dX11_which_4 rfl) (zite (fun hz1 => Eq.trans (q_aload_n (pc := 9) dX11_which_9 rfl rfl) (Eq.trans (q_iload_n (pc := 10) dX11_which_10 rfl rfl) (Eq.trans (q_iconst (v := 1) (pc := 11) dX11_which_11 rfl) (Eq.trans (q_sumIP (q_callV (as := [.int a2, .int 1]) (rest := []) (l0 := [.ref 0, .int a2, .int 1, .null]) (pc := 12) dX11_which_12 zC_11_99 rfl (z_recv zl_0 zh_0) rfl rfl) (by omega) (s_X11_refusal (hd := by omega) σ a2 1)) (zand fun hz2 => Eq.trans (q_istore_n (ls' := [.ref 0, .int a2, .int a3, .int (f_X11_refusal σ a2 1)]) (pc := 15) dX11_which_15 rfl (Nat.le_of_ble_eq_true rfl) rfl) (Eq.trans (q_iload_n (pc := 16) dX11_which_16 rfl rfl) (Eq.trans (q_if_eq (tgt := 24) (pc := 17) dX11_which_17 rfl) (zite (fun hz3 => Eq.trans (q_aload_n (pc := 24) dX11_which_24 rfl rfl) (Eq.trans (q_getf (pc := 25) dX11_which_25 zF_11_69 (z_rfr zl_0 zh_0 (by decide) rfl)) (Eq.trans (q_aload_n (pc := 28) dX11_which_28 rfl rfl) (Eq.trans (q_getf (pc := 29) dX11_which_29 zF_11_55 (z_rfr zl_0 zh_0 (by decide) rfl)) (Eq.trans (q_iload_n (pc := 32) dX11_which_32 rfl rfl) (Eq.trans (q_aaload (pc := 33) dX11_which_33 (z_ra zl_28 zh_28 (by decide)) zra28) (zand fun hz4 => Eq.trans (q_iload_n (pc := 34) dX11_which_34 rfl rfl) (zdpos (q_callV (as := [.ref (29 + 2 * ix a2), .int a3]) (rest := []) (l0 := [.ref 41, .ref (29 + 2 * ix a2), .int a3, .null, .null, .null]) (pc := 35) dX11_which_35 zC_11_226 rfl (z_recv zl_41 zh_41) rfl rfl) (by omega))))))))) (fun hz3 => Eq.trans (q_iload_n (pc := 20) dX11_which_20 rfl rfl) (Eq.trans (q_goto (tgt := 38) (pc := 21) dX11_which_21 rfl) (q_iret (pc := 38) dX11_which_38 rfl rfl))))))))))) (fun hz1 => Eq.trans (q_iconst (v := (-1)) (pc := 7) dX11_which_7 rfl) (q_iret (pc := 8) dX11_which_8 rfl rfl)))))
theorem b_X11_which_38 {X : zX} {d : Nat} {Q : Option Value → zH → Prop} (σ : zS) (l1 : Int32) (l2 : Int32) (l3 : Int32) (t0 : Int32)  : zwp X d MX11_which 38 [.ref 0, .int l1, .int l2, .int l3] [.int t0] (zen σ) Q = Q (some (.int t0)) (zen σ) :=
  q_iret (pc := 38) dX11_which_38 rfl rfl
theorem b_X11_good_0 {X : zX} {d : Nat} {Q : Option Value → zH → Prop} (hd : 2 ≤ d) (σ : zS) (a2 : Int32) (a3 : Int32) (a4 : Int32)  : zwp X d MX11_good 0 [.ref 0, .int a2, .int a3, .int a4, .null] [] (zen σ) Q = (if a3 < 0 then Q (some (.int (-1))) (zen σ) else (if (gi σ 1 2) ≤ a3 then Q (some (.int (-1))) (zen σ) else (if ¬ (f_X11_isHalf σ a4) = 0 then (p_X11_refusal σ a2 1 ∧ (if (f_X11_refusal σ a2 1) = 0 then (zin a2 6 = true ∧ zwp X (d - 1) MX10_goodsThatMake 0 [.ref 41, .ref (29 + 2 * ix a2), .int a3, .int a4, .null, .null, .null, .null, .null] [] (zen σ) (fun v h' => zwp X d MX11_good 57 [.ref 0, .int a2, .int a3, .int a4, .int (f_X11_refusal σ a2 1)] (zpsh v []) h' Q)) else Q (some (.int (f_X11_refusal σ a2 1))) (zen σ))) else Q (some (.int (-1))) (zen σ)))) :=
  Eq.trans (q_iload_n (pc := 0) dX11_good_0 rfl rfl) (Eq.trans (q_if_lt (tgt := 22) (pc := 1) dX11_good_1 rfl) (zite (fun hz1 => Eq.trans (q_iconst (v := (-1)) (pc := 22) dX11_good_22 rfl) (q_iret (pc := 23) dX11_good_23 rfl rfl)) (fun hz1 => Eq.trans (q_iload_n (pc := 4) dX11_good_4 rfl rfl) (Eq.trans (q_aload_n (pc := 5) dX11_good_5 rfl rfl) (Eq.trans (q_getf (pc := 6) dX11_good_6 zF_11_10 (z_rfr zl_0 zh_0 (by decide) rfl)) (Eq.trans (q_getf (pc := 9) dX11_good_9 zF_11_107 (z_rfiE (x := (gi σ 1 2)) zl_1 zh_1 (by decide) rfl rfl)) (Eq.trans (q_icmp_ge (tgt := 22) (pc := 12) dX11_good_12 rfl) (zite (fun hz2 => Eq.trans (q_iconst (v := (-1)) (pc := 22) dX11_good_22 rfl) (q_iret (pc := 23) dX11_good_23 rfl rfl)) (fun hz2 => Eq.trans (q_iload_n (pc := 15) dX11_good_15 rfl rfl) (Eq.trans (q_sumI (q_callS (as := [.int a4]) (rest := []) (l0 := [.int a4]) (pc := 16) dX11_good_16 zSN_11_200 zC_11_200 rfl rfl rfl) (by omega) (s_X11_isHalf σ a4)) (Eq.trans (q_if_ne (tgt := 24) (pc := 19) dX11_good_19 rfl) (zite (fun hz3 => Eq.trans (q_aload_n (pc := 24) dX11_good_24 rfl rfl) (Eq.trans (q_iload_n (pc := 25) dX11_good_25 rfl rfl) (Eq.trans (q_iconst (v := 1) (pc := 26) dX11_good_26 rfl) (Eq.trans (q_sumIP (q_callV (as := [.int a2, .int 1]) (rest := []) (l0 := [.ref 0, .int a2, .int 1, .null]) (pc := 27) dX11_good_27 zC_11_99 rfl (z_recv zl_0 zh_0) rfl rfl) (by omega) (s_X11_refusal (hd := by omega) σ a2 1)) (zand fun hz4 => Eq.trans (q_istore (ls' := [.ref 0, .int a2, .int a3, .int a4, .int (f_X11_refusal σ a2 1)]) (pc := 30) dX11_good_30 (Nat.le_of_ble_eq_true rfl) rfl) (Eq.trans (q_iload (pc := 32) dX11_good_32 rfl) (Eq.trans (q_if_eq (tgt := 42) (pc := 34) dX11_good_34 rfl) (zite (fun hz5 => Eq.trans (q_aload_n (pc := 42) dX11_good_42 rfl rfl) (Eq.trans (q_getf (pc := 43) dX11_good_43 zF_11_69 (z_rfr zl_0 zh_0 (by decide) rfl)) (Eq.trans (q_aload_n (pc := 46) dX11_good_46 rfl rfl) (Eq.trans (q_getf (pc := 47) dX11_good_47 zF_11_55 (z_rfr zl_0 zh_0 (by decide) rfl)) (Eq.trans (q_iload_n (pc := 50) dX11_good_50 rfl rfl) (Eq.trans (q_aaload (pc := 51) dX11_good_51 (z_ra zl_28 zh_28 (by decide)) zra28) (zand fun hz6 => Eq.trans (q_iload_n (pc := 52) dX11_good_52 rfl rfl) (Eq.trans (q_iload_n (pc := 53) dX11_good_53 rfl rfl) (zdpos (q_callV (as := [.ref (29 + 2 * ix a2), .int a3, .int a4]) (rest := []) (l0 := [.ref 41, .ref (29 + 2 * ix a2), .int a3, .int a4, .null, .null, .null, .null, .null]) (pc := 54) dX11_good_54 zC_11_230 rfl (z_recv zl_41 zh_41) rfl rfl) (by omega)))))))))) (fun hz5 => Eq.trans (q_iload (pc := 37) dX11_good_37 rfl) (Eq.trans (q_goto (tgt := 57) (pc := 39) dX11_good_39 rfl) (q_iret (pc := 57) dX11_good_57 rfl rfl))))))))))) (fun hz3 => Eq.trans (q_iconst (v := (-1)) (pc := 22) dX11_good_22 rfl) (q_iret (pc := 23) dX11_good_23 rfl rfl))))))))))))))
theorem b_X11_good_57 {X : zX} {d : Nat} {Q : Option Value → zH → Prop} (σ : zS) (l1 : Int32) (l2 : Int32) (l3 : Int32) (l4 : Int32) (t0 : Int32)  : zwp X d MX11_good 57 [.ref 0, .int l1, .int l2, .int l3, .int l4] [.int t0] (zen σ) Q = Q (some (.int t0)) (zen σ) :=
  q_iret (pc := 57) dX11_good_57 rfl rfl
theorem b_X11_orders_0 {X : zX} {d : Nat} {Q : Option Value → zH → Prop} (hd : 2 ≤ d) (σ : zS) (a2 : Int32) (a3 : Int32)  : zwp X d MX11_orders 0 [.ref 0, .int a2, .int a3, .null] [] (zen σ) Q = (if ¬ (f_X11_isHalf σ a3) = 0 then (p_X11_refusal σ a2 1 ∧ (if (f_X11_refusal σ a2 1) = 0 then (if (gi σ 1 2) ≤ 6 then (zin a2 6 = true ∧ zwp X (d - 1) MX7_ordersThatMake 0 [.ref 45, .ref (29 + 2 * ix a2), .int a3, .null, .null, .null, .null, .null] [] (zen σ) (fun v h' => zwp X d MX11_orders 53 [.ref 0, .int a2, .int a3, .int (f_X11_refusal σ a2 1)] (zpsh v []) h' Q)) else Q (some (.int (-5))) (zen σ)) else Q (some (.int (f_X11_refusal σ a2 1))) (zen σ))) else Q (some (.int (-1))) (zen σ)) :=
  Eq.trans (q_iload_n (pc := 0) dX11_orders_0 rfl rfl) (Eq.trans (q_sumI (q_callS (as := [.int a3]) (rest := []) (l0 := [.int a3]) (pc := 1) dX11_orders_1 zSN_11_200 zC_11_200 rfl rfl rfl) (by omega) (s_X11_isHalf σ a3)) (Eq.trans (q_if_ne (tgt := 9) (pc := 4) dX11_orders_4 rfl) (zite (fun hz1 => Eq.trans (q_aload_n (pc := 9) dX11_orders_9 rfl rfl) (Eq.trans (q_iload_n (pc := 10) dX11_orders_10 rfl rfl) (Eq.trans (q_iconst (v := 1) (pc := 11) dX11_orders_11 rfl) (Eq.trans (q_sumIP (q_callV (as := [.int a2, .int 1]) (rest := []) (l0 := [.ref 0, .int a2, .int 1, .null]) (pc := 12) dX11_orders_12 zC_11_99 rfl (z_recv zl_0 zh_0) rfl rfl) (by omega) (s_X11_refusal (hd := by omega) σ a2 1)) (zand fun hz2 => Eq.trans (q_istore_n (ls' := [.ref 0, .int a2, .int a3, .int (f_X11_refusal σ a2 1)]) (pc := 15) dX11_orders_15 rfl (Nat.le_of_ble_eq_true rfl) rfl) (Eq.trans (q_iload_n (pc := 16) dX11_orders_16 rfl rfl) (Eq.trans (q_if_eq (tgt := 22) (pc := 17) dX11_orders_17 rfl) (zite (fun hz3 => Eq.trans (q_aload_n (pc := 22) dX11_orders_22 rfl rfl) (Eq.trans (q_getf (pc := 23) dX11_orders_23 zF_11_10 (z_rfr zl_0 zh_0 (by decide) rfl)) (Eq.trans (q_getf (pc := 26) dX11_orders_26 zF_11_107 (z_rfiE (x := (gi σ 1 2)) zl_1 zh_1 (by decide) rfl rfl)) (Eq.trans (q_bipush (v := 6) (pc := 29) dX11_orders_29 rfl) (Eq.trans (q_icmp_le (tgt := 39) (pc := 31) dX11_orders_31 rfl) (zite (fun hz4 => Eq.trans (q_aload_n (pc := 39) dX11_orders_39 rfl rfl) (Eq.trans (q_getf (pc := 40) dX11_orders_40 zF_11_76 (z_rfr zl_0 zh_0 (by decide) rfl)) (Eq.trans (q_aload_n (pc := 43) dX11_orders_43 rfl rfl) (Eq.trans (q_getf (pc := 44) dX11_orders_44 zF_11_55 (z_rfr zl_0 zh_0 (by decide) rfl)) (Eq.trans (q_iload_n (pc := 47) dX11_orders_47 rfl rfl) (Eq.trans (q_aaload (pc := 48) dX11_orders_48 (z_ra zl_28 zh_28 (by decide)) zra28) (zand fun hz5 => Eq.trans (q_iload_n (pc := 49) dX11_orders_49 rfl rfl) (zdpos (q_callV (as := [.ref (29 + 2 * ix a2), .int a3]) (rest := []) (l0 := [.ref 45, .ref (29 + 2 * ix a2), .int a3, .null, .null, .null, .null, .null]) (pc := 50) dX11_orders_50 zC_11_233 rfl (z_recv zl_45 zh_45) rfl rfl) (by omega))))))))) (fun hz4 => Eq.trans (q_bipush (v := (-5)) (pc := 34) dX11_orders_34 rfl) (Eq.trans (q_goto (tgt := 53) (pc := 36) dX11_orders_36 rfl) (q_iret (pc := 53) dX11_orders_53 rfl rfl))))))))) (fun hz3 => Eq.trans (q_iload_n (pc := 20) dX11_orders_20 rfl rfl) (q_iret (pc := 21) dX11_orders_21 rfl rfl)))))))))) (fun hz1 => Eq.trans (q_iconst (v := (-1)) (pc := 7) dX11_orders_7 rfl) (q_iret (pc := 8) dX11_orders_8 rfl rfl)))))
theorem b_X11_orders_53 {X : zX} {d : Nat} {Q : Option Value → zH → Prop} (σ : zS) (l1 : Int32) (l2 : Int32) (l3 : Int32) (t0 : Int32)  : zwp X d MX11_orders 53 [.ref 0, .int l1, .int l2, .int l3] [.int t0] (zen σ) Q = Q (some (.int t0)) (zen σ) :=
  q_iret (pc := 53) dX11_orders_53 rfl rfl
theorem b_X11_warm_0 {X : zX} {d : Nat} {Q : Option Value → zH → Prop} (hd : 1 ≤ d) (σ : zS) (a2 : Int32)  : zwp X d MX11_warm 0 [.ref 0, .int a2, .null] [] (zen σ) Q = zwp X (d - 1) MX11_readProgrammeAndSeen 0 [.ref 0, .int a2, .null] [] (zen σ) (fun v h' => zwp X d MX11_warm 5 [.ref 0, .int a2, .null] (zpsh v []) h' Q) :=
  Eq.trans (q_aload_n (pc := 0) dX11_warm_0 rfl rfl) (Eq.trans (q_iload_n (pc := 1) dX11_warm_1 rfl rfl) (zdpos (q_callV (as := [.int a2]) (rest := []) (l0 := [.ref 0, .int a2, .null]) (pc := 2) dX11_warm_2 zC_11_219 rfl (z_recv zl_0 zh_0) rfl rfl) (by omega)))
theorem b_X11_warm_5 {X : zX} {d : Nat} {Q : Option Value → zH → Prop} (hd : 1 ≤ d) (σ : zS) (l1 : Int32) (t0 : Int32)  : zwp X d MX11_warm 5 [.ref 0, .int l1, .null] [.int t0] (zen σ) Q = (if t0 = 0 then (zin (l1 - l1 / 10 * 10) 6 = true ∧ zwp X (d - 1) MX10_leastWarm 0 [.ref 41, .ref (29 + 2 * ix (l1 - l1 / 10 * 10)), .null, .null, .null, .null] [] (zen σ) (fun v h' => zwp X d MX11_warm 30 [.ref 0, .int l1, .int t0] (zpsh v []) h' Q)) else Q (some (.int t0)) (zen σ)) :=
  Eq.trans (q_istore_n (ls' := [.ref 0, .int l1, .int t0]) (pc := 5) dX11_warm_5 rfl (Nat.le_of_ble_eq_true rfl) rfl) (Eq.trans (q_iload_n (pc := 6) dX11_warm_6 rfl rfl) (Eq.trans (q_if_eq (tgt := 14) (pc := 7) dX11_warm_7 rfl) (zite (fun hz1 => Eq.trans (q_aload_n (pc := 14) dX11_warm_14 rfl rfl) (Eq.trans (q_getf (pc := 15) dX11_warm_15 zF_11_69 (z_rfr zl_0 zh_0 (by decide) rfl)) (Eq.trans (q_aload_n (pc := 18) dX11_warm_18 rfl rfl) (Eq.trans (q_getf (pc := 19) dX11_warm_19 zF_11_55 (z_rfr zl_0 zh_0 (by decide) rfl)) (Eq.trans (q_iload_n (pc := 22) dX11_warm_22 rfl rfl) (Eq.trans (q_bipush (v := 10) (pc := 23) dX11_warm_23 rfl) (Eq.trans (q_iremK (pc := 25) dX11_warm_25 (by decide)) (Eq.trans (q_aaload (pc := 26) dX11_warm_26 (z_ra zl_28 zh_28 (by decide)) zra28) (zand fun hz2 => zdpos (q_callV (as := [.ref (29 + 2 * ix (l1 - l1 / 10 * 10))]) (rest := []) (l0 := [.ref 41, .ref (29 + 2 * ix (l1 - l1 / 10 * 10)), .null, .null, .null, .null]) (pc := 27) dX11_warm_27 zC_11_236 rfl (z_recv zl_41 zh_41) rfl rfl) (by omega)))))))))) (fun hz1 => Eq.trans (q_iload_n (pc := 10) dX11_warm_10 rfl rfl) (Eq.trans (q_goto (tgt := 30) (pc := 11) dX11_warm_11 rfl) (q_iret (pc := 30) dX11_warm_30 rfl rfl))))))
theorem b_X11_warm_30 {X : zX} {d : Nat} {Q : Option Value → zH → Prop} (σ : zS) (l1 : Int32) (l2 : Int32) (t0 : Int32)  : zwp X d MX11_warm 30 [.ref 0, .int l1, .int l2] [.int t0] (zen σ) Q = Q (some (.int t0)) (zen σ) :=
  q_iret (pc := 30) dX11_warm_30 rfl rfl
theorem b_X11_drawn_0 {X : zX} {d : Nat} {Q : Option Value → zH → Prop} (hd : 1 ≤ d) (σ : zS) (a2 : Int32) (a3 : Int32) (a4 : Int32)  : zwp X d MX11_drawn 0 [.ref 0, .int a2, .int a3, .int a4, .null, .null] [] (zen σ) Q = (if (a3 / 100) < 1 then Q (some (.int (-1))) (zen σ) else (if 30 < (a3 / 100) then Q (some (.int (-1))) (zen σ) else (if (a3 - a3 / 100 * 100) < 1 then Q (some (.int (-1))) (zen σ) else (if 20 < (a3 - a3 / 100 * 100) then Q (some (.int (-1))) (zen σ) else (if ¬ (f_X11_isHalf σ a4) = 0 then zwp X (d - 1) MX10_drawnEvenings 0 [.ref 41, .int a2, .int (a3 / 100), .int (a3 - a3 / 100 * 100), .int a4, .null, .null, .null, .null, .null, .null, .null] [] (zen σ) (fun v h' => zwp X d MX11_drawn 60 [.ref 0, .int a2, .int a3, .int a4, .int (a3 / 100), .int (a3 - a3 / 100 * 100)] (zpsh v []) h' Q) else Q (some (.int (-1))) (zen σ)))))) :=
  Eq.trans (q_iload_n (pc := 0) dX11_drawn_0 rfl rfl) (Eq.trans (q_bipush (v := 100) (pc := 1) dX11_drawn_1 rfl) (Eq.trans (q_idivK (pc := 3) dX11_drawn_3 (by decide)) (Eq.trans (q_istore (ls' := [.ref 0, .int a2, .int a3, .int a4, .int (a3 / 100), .null]) (pc := 4) dX11_drawn_4 (Nat.le_of_ble_eq_true rfl) rfl) (Eq.trans (q_iload_n (pc := 6) dX11_drawn_6 rfl rfl) (Eq.trans (q_bipush (v := 100) (pc := 7) dX11_drawn_7 rfl) (Eq.trans (q_iremK (pc := 9) dX11_drawn_9 (by decide)) (Eq.trans (q_istore (ls' := [.ref 0, .int a2, .int a3, .int a4, .int (a3 / 100), .int (a3 - a3 / 100 * 100)]) (pc := 10) dX11_drawn_10 (Nat.le_of_ble_eq_true rfl) rfl) (Eq.trans (q_iload (pc := 12) dX11_drawn_12 rfl) (Eq.trans (q_iconst (v := 1) (pc := 14) dX11_drawn_14 rfl) (Eq.trans (q_icmp_lt (tgt := 45) (pc := 15) dX11_drawn_15 rfl) (zite (fun hz1 => Eq.trans (q_iconst (v := (-1)) (pc := 45) dX11_drawn_45 rfl) (q_iret (pc := 46) dX11_drawn_46 rfl rfl)) (fun hz1 => Eq.trans (q_iload (pc := 18) dX11_drawn_18 rfl) (Eq.trans (q_bipush (v := 30) (pc := 20) dX11_drawn_20 rfl) (Eq.trans (q_icmp_gt (tgt := 45) (pc := 22) dX11_drawn_22 rfl) (zite (fun hz2 => Eq.trans (q_iconst (v := (-1)) (pc := 45) dX11_drawn_45 rfl) (q_iret (pc := 46) dX11_drawn_46 rfl rfl)) (fun hz2 => Eq.trans (q_iload (pc := 25) dX11_drawn_25 rfl) (Eq.trans (q_iconst (v := 1) (pc := 27) dX11_drawn_27 rfl) (Eq.trans (q_icmp_lt (tgt := 45) (pc := 28) dX11_drawn_28 rfl) (zite (fun hz3 => Eq.trans (q_iconst (v := (-1)) (pc := 45) dX11_drawn_45 rfl) (q_iret (pc := 46) dX11_drawn_46 rfl rfl)) (fun hz3 => Eq.trans (q_iload (pc := 31) dX11_drawn_31 rfl) (Eq.trans (q_bipush (v := 20) (pc := 33) dX11_drawn_33 rfl) (Eq.trans (q_icmp_gt (tgt := 45) (pc := 35) dX11_drawn_35 rfl) (zite (fun hz4 => Eq.trans (q_iconst (v := (-1)) (pc := 45) dX11_drawn_45 rfl) (q_iret (pc := 46) dX11_drawn_46 rfl rfl)) (fun hz4 => Eq.trans (q_iload_n (pc := 38) dX11_drawn_38 rfl rfl) (Eq.trans (q_sumI (q_callS (as := [.int a4]) (rest := []) (l0 := [.int a4]) (pc := 39) dX11_drawn_39 zSN_11_200 zC_11_200 rfl rfl rfl) (by omega) (s_X11_isHalf σ a4)) (Eq.trans (q_if_ne (tgt := 47) (pc := 42) dX11_drawn_42 rfl) (zite (fun hz5 => Eq.trans (q_aload_n (pc := 47) dX11_drawn_47 rfl rfl) (Eq.trans (q_getf (pc := 48) dX11_drawn_48 zF_11_69 (z_rfr zl_0 zh_0 (by decide) rfl)) (Eq.trans (q_iload_n (pc := 51) dX11_drawn_51 rfl rfl) (Eq.trans (q_iload (pc := 52) dX11_drawn_52 rfl) (Eq.trans (q_iload (pc := 54) dX11_drawn_54 rfl) (Eq.trans (q_iload_n (pc := 56) dX11_drawn_56 rfl rfl) (zdpos (q_callV (as := [.int a2, .int (a3 / 100), .int (a3 - a3 / 100 * 100), .int a4]) (rest := []) (l0 := [.ref 41, .int a2, .int (a3 / 100), .int (a3 - a3 / 100 * 100), .int a4, .null, .null, .null, .null, .null, .null, .null]) (pc := 57) dX11_drawn_57 zC_11_239 rfl (z_recv zl_41 zh_41) rfl rfl) (by omega)))))))) (fun hz5 => Eq.trans (q_iconst (v := (-1)) (pc := 45) dX11_drawn_45 rfl) (q_iret (pc := 46) dX11_drawn_46 rfl rfl)))))))))))))))))))))))))))))
theorem b_X11_drawn_60 {X : zX} {d : Nat} {Q : Option Value → zH → Prop} (σ : zS) (l1 : Int32) (l2 : Int32) (l3 : Int32) (l4 : Int32) (l5 : Int32) (t0 : Int32)  : zwp X d MX11_drawn 60 [.ref 0, .int l1, .int l2, .int l3, .int l4, .int l5] [.int t0] (zen σ) Q = Q (some (.int t0)) (zen σ) :=
  q_iret (pc := 60) dX11_drawn_60 rfl rfl
theorem b_X11_play_0 {X : zX} {d : Nat} {Q : Option Value → zH → Prop} (hd : 1 ≤ d) (σ : zS) (a2 : Int32)  : zwp X d MX11_play 0 [.ref 0, .int a2] [] (zen σ) Q = (if a2 < 0 then Q (some (.int (-1))) (zen σ) else (if a2 < (gi σ 1 2) then zwp X (d - 1) MX0_step 0 [.ref 13, .int a2, .ref 18, .null] [] (zen σ) (fun v h' => zwp X d MX11_play 42 [.ref 0, .int a2] (zpsh v [.int (gi σ 20 (ix 4)), .int 4, .ref 20]) h' Q) else Q (some (.int (-1))) (zen σ))) :=
  Eq.trans (q_iload_n (pc := 0) dX11_play_0 rfl rfl) (Eq.trans (q_if_lt (tgt := 15) (pc := 1) dX11_play_1 rfl) (zite (fun hz1 => Eq.trans (q_iconst (v := (-1)) (pc := 15) dX11_play_15 rfl) (q_iret (pc := 16) dX11_play_16 rfl rfl)) (fun hz1 => Eq.trans (q_iload_n (pc := 4) dX11_play_4 rfl rfl) (Eq.trans (q_aload_n (pc := 5) dX11_play_5 rfl rfl) (Eq.trans (q_getf (pc := 6) dX11_play_6 zF_11_10 (z_rfr zl_0 zh_0 (by decide) rfl)) (Eq.trans (q_getf (pc := 9) dX11_play_9 zF_11_107 (z_rfiE (x := (gi σ 1 2)) zl_1 zh_1 (by decide) rfl rfl)) (Eq.trans (q_icmp_lt (tgt := 17) (pc := 12) dX11_play_12 rfl) (zite (fun hz2 => Eq.trans (q_aload_n (pc := 17) dX11_play_17 rfl rfl) (Eq.trans (q_getf (pc := 18) dX11_play_18 zF_11_42 (z_rfr zl_0 zh_0 (by decide) rfl)) (Eq.trans (q_getf (pc := 21) dX11_play_21 zF_11_243 (z_rfr zl_17 zh_17 (by decide) rfl)) (Eq.trans (q_iconst (v := 4) (pc := 24) dX11_play_24 rfl) (Eq.trans (q_dup2_int_ref (pc := 25) dX11_play_25) (Eq.trans (Eq.trans (qe_iaload (x := (gi σ 20 (ix 4))) (pc := 26) dX11_play_26 (z_ia zl_20 zh_20 (by decide)) rfl) (ztrue_and (by decide))) (Eq.trans (q_aload_n (pc := 27) dX11_play_27 rfl rfl) (Eq.trans (q_getf (pc := 28) dX11_play_28 zF_11_35 (z_rfr zl_0 zh_0 (by decide) rfl)) (Eq.trans (q_iload_n (pc := 31) dX11_play_31 rfl rfl) (Eq.trans (q_aload_n (pc := 32) dX11_play_32 rfl rfl) (Eq.trans (q_getf (pc := 33) dX11_play_33 zF_11_42 (z_rfr zl_0 zh_0 (by decide) rfl)) (Eq.trans (q_getf (pc := 36) dX11_play_36 zF_11_62 (z_rfr zl_17 zh_17 (by decide) rfl)) (zdpos (q_callV (as := [.int a2, .ref 18]) (rest := [.int (gi σ 20 (ix 4)), .int 4, .ref 20]) (l0 := [.ref 13, .int a2, .ref 18, .null]) (pc := 39) dX11_play_39 zC_11_246 rfl (z_recv zl_13 zh_13) rfl rfl) (by omega)))))))))))))) (fun hz2 => Eq.trans (q_iconst (v := (-1)) (pc := 15) dX11_play_15 rfl) (q_iret (pc := 16) dX11_play_16 rfl rfl))))))))))
theorem b_X11_play_42 {X : zX} {d : Nat} {Q : Option Value → zH → Prop} (hd : 1 ≤ d) (σ : zS) (l1 : Int32) (t0 : Int32) (t1 : Int32) (t2 : Int32)  : zwp X d MX11_play 42 [.ref 0, .int l1] [.int t0, .int t1, .int t2, .ref 20] (zen σ) Q = (zin t2 5 = true ∧ zwp X (d - 1) MX2_carries 0 [.ref 18, .int 0, .ref 1, .null, .null, .null, .null] [] (zen (si (si σ 20 (ix t2) (t1 + t0)) 20 (ix 0) ((gi (si σ 20 (ix t2) (t1 + t0)) 20 (ix 0)) + 1))) (fun v h' => zwp X d MX11_play 72 [.ref 0, .int l1] (zpsh v []) h' Q)) :=
  Eq.trans (q_iadd (pc := 42) dX11_play_42) (Eq.trans (q_iastore (pc := 43) dX11_play_43 (zN_lt zl_20) (z_ia zl_20 zh_20 (by decide)) (z_pi zl_20 zh_20 (by decide))) (zand fun hz1 => Eq.trans (q_aload_n (pc := 44) dX11_play_44 rfl rfl) (Eq.trans (q_getf (pc := 45) dX11_play_45 zF_11_42 (z_rfr zl_0 zh_0 (by decide) rfl)) (Eq.trans (q_getf (pc := 48) dX11_play_48 zF_11_243 (z_rfr zl_17 zh_17 (by decide) rfl)) (Eq.trans (q_iconst (v := 0) (pc := 51) dX11_play_51 rfl) (Eq.trans (q_dup2_int_ref (pc := 52) dX11_play_52) (Eq.trans (Eq.trans (qe_iaload (x := (gi (si σ 20 (ix t2) (t1 + t0)) 20 (ix 0))) (pc := 53) dX11_play_53 (z_ia zl_20 zh_20 (by decide)) rfl) (ztrue_and (by decide))) (Eq.trans (q_iconst (v := 1) (pc := 54) dX11_play_54 rfl) (Eq.trans (q_iadd (pc := 55) dX11_play_55) (Eq.trans (Eq.trans (q_iastore (pc := 56) dX11_play_56 (zN_lt zl_20) (z_ia zl_20 zh_20 (by decide)) (z_pi zl_20 zh_20 (by decide))) (ztrue_and (by decide))) (Eq.trans (q_aload_n (pc := 57) dX11_play_57 rfl rfl) (Eq.trans (q_getf (pc := 58) dX11_play_58 zF_11_42 (z_rfr zl_0 zh_0 (by decide) rfl)) (Eq.trans (q_getf (pc := 61) dX11_play_61 zF_11_62 (z_rfr zl_17 zh_17 (by decide) rfl)) (Eq.trans (q_iconst (v := 0) (pc := 64) dX11_play_64 rfl) (Eq.trans (q_aload_n (pc := 65) dX11_play_65 rfl rfl) (Eq.trans (q_getf (pc := 66) dX11_play_66 zF_11_10 (z_rfr zl_0 zh_0 (by decide) rfl)) (zdpos (q_callV (as := [.int 0, .ref 1]) (rest := []) (l0 := [.ref 18, .int 0, .ref 1, .null, .null, .null, .null]) (pc := 69) dX11_play_69 zC_11_181 rfl (z_recv zl_18 zh_18) rfl rfl) (by omega))))))))))))))))))
theorem b_X11_play_72 {X : zX} {d : Nat} {Q : Option Value → zH → Prop} (σ : zS) (l1 : Int32) (t0 : Int32)  : zwp X d MX11_play 72 [.ref 0, .int l1] [.int t0] (zen σ) Q = Q (some (.int t0)) (zen σ) :=
  q_iret (pc := 72) dX11_play_72 rfl rfl
theorem b_X11_interval_0 {X : zX} {d : Nat} {Q : Option Value → zH → Prop} (hd : 1 ≤ d) (σ : zS)  : zwp X d MX11_interval 0 [.ref 0] [] (zen σ) Q = zwp X (d - 1) MX0_step 0 [.ref 13, .int 20, .ref 18, .null] [] (zen σ) (fun v h' => zwp X d MX11_interval 26 [.ref 0] (zpsh v [.int (gi σ 20 (ix 4)), .int 4, .ref 20]) h' Q) :=
  Eq.trans (q_aload_n (pc := 0) dX11_interval_0 rfl rfl) (Eq.trans (q_getf (pc := 1) dX11_interval_1 zF_11_42 (z_rfr zl_0 zh_0 (by decide) rfl)) (Eq.trans (q_getf (pc := 4) dX11_interval_4 zF_11_243 (z_rfr zl_17 zh_17 (by decide) rfl)) (Eq.trans (q_iconst (v := 4) (pc := 7) dX11_interval_7 rfl) (Eq.trans (q_dup2_int_ref (pc := 8) dX11_interval_8) (Eq.trans (Eq.trans (qe_iaload (x := (gi σ 20 (ix 4))) (pc := 9) dX11_interval_9 (z_ia zl_20 zh_20 (by decide)) rfl) (ztrue_and (by decide))) (Eq.trans (q_aload_n (pc := 10) dX11_interval_10 rfl rfl) (Eq.trans (q_getf (pc := 11) dX11_interval_11 zF_11_35 (z_rfr zl_0 zh_0 (by decide) rfl)) (Eq.trans (q_bipush (v := 20) (pc := 14) dX11_interval_14 rfl) (Eq.trans (q_aload_n (pc := 16) dX11_interval_16 rfl rfl) (Eq.trans (q_getf (pc := 17) dX11_interval_17 zF_11_42 (z_rfr zl_0 zh_0 (by decide) rfl)) (Eq.trans (q_getf (pc := 20) dX11_interval_20 zF_11_62 (z_rfr zl_17 zh_17 (by decide) rfl)) (zdpos (q_callV (as := [.int 20, .ref 18]) (rest := [.int (gi σ 20 (ix 4)), .int 4, .ref 20]) (l0 := [.ref 13, .int 20, .ref 18, .null]) (pc := 23) dX11_interval_23 zC_11_246 rfl (z_recv zl_13 zh_13) rfl rfl) (by omega)))))))))))))
theorem b_X11_interval_26 {X : zX} {d : Nat} {Q : Option Value → zH → Prop} (hd : 1 ≤ d) (σ : zS) (t0 : Int32) (t1 : Int32) (t2 : Int32)  : zwp X d MX11_interval 26 [.ref 0] [.int t0, .int t1, .int t2, .ref 20] (zen σ) Q = (zin t2 5 = true ∧ zwp X (d - 1) MX2_carries 0 [.ref 18, .int 0, .ref 1, .null, .null, .null, .null] [] (zen (si (si σ 20 (ix t2) (t1 + t0)) 20 (ix 1) ((gi (si σ 20 (ix t2) (t1 + t0)) 20 (ix 1)) + 1))) (fun v h' => zwp X d MX11_interval 56 [.ref 0] (zpsh v []) h' Q)) :=
  Eq.trans (q_iadd (pc := 26) dX11_interval_26) (Eq.trans (q_iastore (pc := 27) dX11_interval_27 (zN_lt zl_20) (z_ia zl_20 zh_20 (by decide)) (z_pi zl_20 zh_20 (by decide))) (zand fun hz1 => Eq.trans (q_aload_n (pc := 28) dX11_interval_28 rfl rfl) (Eq.trans (q_getf (pc := 29) dX11_interval_29 zF_11_42 (z_rfr zl_0 zh_0 (by decide) rfl)) (Eq.trans (q_getf (pc := 32) dX11_interval_32 zF_11_243 (z_rfr zl_17 zh_17 (by decide) rfl)) (Eq.trans (q_iconst (v := 1) (pc := 35) dX11_interval_35 rfl) (Eq.trans (q_dup2_int_ref (pc := 36) dX11_interval_36) (Eq.trans (Eq.trans (qe_iaload (x := (gi (si σ 20 (ix t2) (t1 + t0)) 20 (ix 1))) (pc := 37) dX11_interval_37 (z_ia zl_20 zh_20 (by decide)) rfl) (ztrue_and (by decide))) (Eq.trans (q_iconst (v := 1) (pc := 38) dX11_interval_38 rfl) (Eq.trans (q_iadd (pc := 39) dX11_interval_39) (Eq.trans (Eq.trans (q_iastore (pc := 40) dX11_interval_40 (zN_lt zl_20) (z_ia zl_20 zh_20 (by decide)) (z_pi zl_20 zh_20 (by decide))) (ztrue_and (by decide))) (Eq.trans (q_aload_n (pc := 41) dX11_interval_41 rfl rfl) (Eq.trans (q_getf (pc := 42) dX11_interval_42 zF_11_42 (z_rfr zl_0 zh_0 (by decide) rfl)) (Eq.trans (q_getf (pc := 45) dX11_interval_45 zF_11_62 (z_rfr zl_17 zh_17 (by decide) rfl)) (Eq.trans (q_iconst (v := 0) (pc := 48) dX11_interval_48 rfl) (Eq.trans (q_aload_n (pc := 49) dX11_interval_49 rfl rfl) (Eq.trans (q_getf (pc := 50) dX11_interval_50 zF_11_10 (z_rfr zl_0 zh_0 (by decide) rfl)) (zdpos (q_callV (as := [.int 0, .ref 1]) (rest := []) (l0 := [.ref 18, .int 0, .ref 1, .null, .null, .null, .null]) (pc := 53) dX11_interval_53 zC_11_181 rfl (z_recv zl_18 zh_18) rfl rfl) (by omega))))))))))))))))))
theorem b_X11_interval_56 {X : zX} {d : Nat} {Q : Option Value → zH → Prop} (σ : zS) (t0 : Int32)  : zwp X d MX11_interval 56 [.ref 0] [.int t0] (zen σ) Q = Q (some (.int t0)) (zen σ) :=
  q_iret (pc := 56) dX11_interval_56 rfl rfl
theorem b_X11_goes_0 {X : zX} {d : Nat} {Q : Option Value → zH → Prop} (hd : 1 ≤ d) (σ : zS) (a2 : Int32)  : zwp X d MX11_goes 0 [.ref 0, .int a2] [] (zen σ) Q = (if (f_X11_isWeightAndPace σ a2) = 0 then Q (some (.int (-1))) (zen σ) else zwp X (d - 1) MX4_someoneCrosses 0 [.ref 17, .int (a2 / 10), .int (a2 - a2 / 10 * 10), .ref 1, .null, .null] [] (zen σ) (fun v h' => zwp X d MX11_goes 26 [.ref 0, .int a2] (zpsh v []) h' Q)) :=
  Eq.trans (q_iload_n (pc := 0) dX11_goes_0 rfl rfl) (Eq.trans (q_sumI (q_callS (as := [.int a2]) (rest := []) (l0 := [.int a2]) (pc := 1) dX11_goes_1 zSN_11_250 zC_11_250 rfl rfl rfl) (by omega) (s_X11_isWeightAndPace σ a2)) (Eq.trans (q_if_eq (tgt := 29) (pc := 4) dX11_goes_4 rfl) (zite (fun hz1 => Eq.trans (q_iconst (v := (-1)) (pc := 29) dX11_goes_29 rfl) (q_iret (pc := 30) dX11_goes_30 rfl rfl)) (fun hz1 => Eq.trans (q_aload_n (pc := 7) dX11_goes_7 rfl rfl) (Eq.trans (q_getf (pc := 8) dX11_goes_8 zF_11_42 (z_rfr zl_0 zh_0 (by decide) rfl)) (Eq.trans (q_iload_n (pc := 11) dX11_goes_11 rfl rfl) (Eq.trans (q_bipush (v := 10) (pc := 12) dX11_goes_12 rfl) (Eq.trans (q_idivK (pc := 14) dX11_goes_14 (by decide)) (Eq.trans (q_iload_n (pc := 15) dX11_goes_15 rfl rfl) (Eq.trans (q_bipush (v := 10) (pc := 16) dX11_goes_16 rfl) (Eq.trans (q_iremK (pc := 18) dX11_goes_18 (by decide)) (Eq.trans (q_aload_n (pc := 19) dX11_goes_19 rfl rfl) (Eq.trans (q_getf (pc := 20) dX11_goes_20 zF_11_10 (z_rfr zl_0 zh_0 (by decide) rfl)) (zdpos (q_callV (as := [.int (a2 / 10), .int (a2 - a2 / 10 * 10), .ref 1]) (rest := []) (l0 := [.ref 17, .int (a2 / 10), .int (a2 - a2 / 10 * 10), .ref 1, .null, .null]) (pc := 23) dX11_goes_23 zC_11_253 rfl (z_recv zl_17 zh_17) rfl rfl) (by omega)))))))))))))))
theorem b_X11_goes_26 {X : zX} {d : Nat} {Q : Option Value → zH → Prop} (σ : zS) (l1 : Int32) (t0 : Int32)  : zwp X d MX11_goes 26 [.ref 0, .int l1] [.int t0] (zen σ) Q = Q (some (.int t0)) (zen σ) :=
  Eq.trans (q_goto (tgt := 30) (pc := 26) dX11_goes_26 rfl) (q_iret (pc := 30) dX11_goes_30 rfl rfl)
theorem b_X11_act_0 {X : zX} {d : Nat} {Q : Option Value → zH → Prop} (hd : 1 ≤ d) (σ : zS) (a2 : Int32) (a3 : Int32) (a4 : Int32)  : zwp X d MX11_act 0 [.ref 0, .int a2, .int a3, .int a4] [] (zen σ) Q = (if (f_X1_has (si σ 63 3 0) a2) = 0 then Q (some (.int 0)) (zen (si σ 63 3 0)) else (if a3 < 0 then Q (some (.int 0)) (zen (si σ 63 3 0)) else (if a3 < 4 then zwp X (d - 1) MX1_perform 0 [.ref 63, .int a2, .int a3, .int a4] [] (zen (si σ 63 3 0)) (fun v h' => zwp X d MX11_act 40 [.ref 0, .int a2, .int a3, .int a4] (zpsh v []) h' Q) else Q (some (.int 0)) (zen (si σ 63 3 0))))) :=
  Eq.trans (q_aload_n (pc := 0) dX11_act_0 rfl rfl) (Eq.trans (q_getf (pc := 1) dX11_act_1 zF_11_83 (z_rfr zl_0 zh_0 (by decide) rfl)) (Eq.trans (q_iconst (v := 0) (pc := 4) dX11_act_4 rfl) (Eq.trans (q_pf (pc := 5) dX11_act_5 zF_11_283 zPF_1_3 (z_pf zl_63 zh_63 rfl)) (Eq.trans (q_aload_n (pc := 8) dX11_act_8 rfl rfl) (Eq.trans (q_getf (pc := 9) dX11_act_9 zF_11_83 (z_rfr zl_0 zh_0 (by decide) rfl)) (Eq.trans (q_iload_n (pc := 12) dX11_act_12 rfl rfl) (Eq.trans (q_sumI (q_callV (as := [.int a2]) (rest := []) (l0 := [.ref 63, .int a2]) (pc := 13) dX11_act_13 zC_11_286 rfl (z_recv zl_63 zh_63) rfl rfl) (by omega) (s_X1_has (si σ 63 3 0) a2)) (Eq.trans (q_if_eq (tgt := 28) (pc := 16) dX11_act_16 rfl) (zite (fun hz1 => Eq.trans (q_iconst (v := 0) (pc := 28) dX11_act_28 rfl) (q_iret (pc := 29) dX11_act_29 rfl rfl)) (fun hz1 => Eq.trans (q_iload_n (pc := 19) dX11_act_19 rfl rfl) (Eq.trans (q_if_lt (tgt := 28) (pc := 20) dX11_act_20 rfl) (zite (fun hz2 => Eq.trans (q_iconst (v := 0) (pc := 28) dX11_act_28 rfl) (q_iret (pc := 29) dX11_act_29 rfl rfl)) (fun hz2 => Eq.trans (q_iload_n (pc := 23) dX11_act_23 rfl rfl) (Eq.trans (q_iconst (v := 4) (pc := 24) dX11_act_24 rfl) (Eq.trans (q_icmp_lt (tgt := 30) (pc := 25) dX11_act_25 rfl) (zite (fun hz3 => Eq.trans (q_aload_n (pc := 30) dX11_act_30 rfl rfl) (Eq.trans (q_getf (pc := 31) dX11_act_31 zF_11_83 (z_rfr zl_0 zh_0 (by decide) rfl)) (Eq.trans (q_iload_n (pc := 34) dX11_act_34 rfl rfl) (Eq.trans (q_iload_n (pc := 35) dX11_act_35 rfl rfl) (Eq.trans (q_iload_n (pc := 36) dX11_act_36 rfl rfl) (zdpos (q_callV (as := [.int a2, .int a3, .int a4]) (rest := []) (l0 := [.ref 63, .int a2, .int a3, .int a4]) (pc := 37) dX11_act_37 zC_11_289 rfl (z_recv zl_63 zh_63) rfl rfl) (by omega))))))) (fun hz3 => Eq.trans (q_iconst (v := 0) (pc := 28) dX11_act_28 rfl) (q_iret (pc := 29) dX11_act_29 rfl rfl))))))))))))))))))
theorem b_X11_act_40 {X : zX} {d : Nat} {Q : Option Value → zH → Prop} (σ : zS) (l1 : Int32) (l2 : Int32) (l3 : Int32) (t0 : Int32)  : zwp X d MX11_act 40 [.ref 0, .int l1, .int l2, .int l3] [.int t0] (zen σ) Q = Q (some (.int t0)) (zen σ) :=
  q_iret (pc := 40) dX11_act_40 rfl rfl
theorem b_X11_row_0 {X : zX} {d : Nat} {Q : Option Value → zH → Prop} (hd : 1 ≤ d) (σ : zS) (a2 : Int32) (a3 : Int32) (a4 : Int32)  : zwp X d MX11_row 0 [.ref 0, .int a2, .int a3, .int a4] [] (zen σ) Q = (if (f_X11_isShelf σ a2) = 0 then Q (some (.int (-1))) (zen σ) else (if a3 < 0 then Q (some (.int (-1))) (zen σ) else (if 4 < a3 then Q (some (.int (-1))) (zen σ) else (if a4 ≤ 60 then (if 0 ≤ a4 then (zin a2 6 = true ∧ zwp X (d - 1) MX8_holdRow 0 [.ref (29 + 2 * ix a2), .int a3, .int a4] [] (zen σ) (fun v h' => zwp X d MX11_row 42 [.ref 0, .int a2, .int a3, .int a4] (zpsh v []) h' Q)) else Q (some (.int (-14))) (zen σ)) else Q (some (.int (-1))) (zen σ))))) :=
  Eq.trans (q_iload_n (pc := 0) dX11_row_0 rfl rfl) (Eq.trans (q_sumI (q_callS (as := [.int a2]) (rest := []) (l0 := [.int a2]) (pc := 1) dX11_row_1 zSN_11_300 zC_11_300 rfl rfl rfl) (by omega) (s_X11_isShelf σ a2)) (Eq.trans (q_if_eq (tgt := 22) (pc := 4) dX11_row_4 rfl) (zite (fun hz1 => Eq.trans (q_iconst (v := (-1)) (pc := 22) dX11_row_22 rfl) (q_iret (pc := 23) dX11_row_23 rfl rfl)) (fun hz1 => Eq.trans (q_iload_n (pc := 7) dX11_row_7 rfl rfl) (Eq.trans (q_if_lt (tgt := 22) (pc := 8) dX11_row_8 rfl) (zite (fun hz2 => Eq.trans (q_iconst (v := (-1)) (pc := 22) dX11_row_22 rfl) (q_iret (pc := 23) dX11_row_23 rfl rfl)) (fun hz2 => Eq.trans (q_iload_n (pc := 11) dX11_row_11 rfl rfl) (Eq.trans (q_iconst (v := 4) (pc := 12) dX11_row_12 rfl) (Eq.trans (q_icmp_gt (tgt := 22) (pc := 13) dX11_row_13 rfl) (zite (fun hz3 => Eq.trans (q_iconst (v := (-1)) (pc := 22) dX11_row_22 rfl) (q_iret (pc := 23) dX11_row_23 rfl rfl)) (fun hz3 => Eq.trans (q_iload_n (pc := 16) dX11_row_16 rfl rfl) (Eq.trans (q_bipush (v := 60) (pc := 17) dX11_row_17 rfl) (Eq.trans (q_icmp_le (tgt := 24) (pc := 19) dX11_row_19 rfl) (zite (fun hz4 => Eq.trans (q_iload_n (pc := 24) dX11_row_24 rfl rfl) (Eq.trans (q_if_ge (tgt := 31) (pc := 25) dX11_row_25 rfl) (zite (fun hz5 => Eq.trans (q_aload_n (pc := 31) dX11_row_31 rfl rfl) (Eq.trans (q_getf (pc := 32) dX11_row_32 zF_11_55 (z_rfr zl_0 zh_0 (by decide) rfl)) (Eq.trans (q_iload_n (pc := 35) dX11_row_35 rfl rfl) (Eq.trans (q_aaload (pc := 36) dX11_row_36 (z_ra zl_28 zh_28 (by decide)) zra28) (zand fun hz6 => Eq.trans (q_iload_n (pc := 37) dX11_row_37 rfl rfl) (Eq.trans (q_iload_n (pc := 38) dX11_row_38 rfl rfl) (zdpos (q_callV (as := [.int a3, .int a4]) (rest := []) (l0 := [.ref (29 + 2 * ix a2), .int a3, .int a4]) (pc := 39) dX11_row_39 zC_11_307 rfl (z_recv (zS_1 (zS_at hz6)).2.2.1 (zS_1 (zS_at hz6)).1) rfl rfl) (by omega)))))))) (fun hz5 => Eq.trans (q_bipush (v := (-14)) (pc := 28) dX11_row_28 rfl) (q_iret (pc := 30) dX11_row_30 rfl rfl))))) (fun hz4 => Eq.trans (q_iconst (v := (-1)) (pc := 22) dX11_row_22 rfl) (q_iret (pc := 23) dX11_row_23 rfl rfl))))))))))))))))
theorem b_X11_row_42 {X : zX} {d : Nat} {Q : Option Value → zH → Prop} (σ : zS) (l1 : Int32) (l2 : Int32) (l3 : Int32)  : zwp X d MX11_row 42 [.ref 0, .int l1, .int l2, .int l3] [] (zen σ) Q = Q (some (.int 1)) (zen σ) :=
  Eq.trans (q_iconst (v := 1) (pc := 42) dX11_row_42 rfl) (q_iret (pc := 43) dX11_row_43 rfl rfl)
theorem b_X11_taken_0 {X : zX} {d : Nat} {Q : Option Value → zH → Prop} (hd : 1 ≤ d) (σ : zS) (a2 : Int32) (a3 : Int32)  : zwp X d MX11_taken 0 [.ref 0, .int a2, .int a3, .null] [] (zen σ) Q = (if (f_X11_isShelf σ a2) = 0 then Q (some (.int (-1))) (zen σ) else (if a3 < 0 then Q (some (.int (-1))) (zen σ) else (if a3 < 8 then (zin a2 6 = true ∧ (if ¬ (gi σ (29 + 2 * ix a2) 1) = 0 then (if ¬ (gi σ (29 + 2 * ix a2) 1) = 1 then Q (some (.int (-12))) (zen σ) else (zin (gi σ (29 + 2 * ix a2) 2) 50 = true ∧ zwp X (d - 1) MX1_isUnder 0 [.int (gi σ 64 (ix (gi σ (29 + 2 * ix a2) 2))), .int a3, .null, .null] [] (zen σ) (fun v h' => zwp X d MX11_taken 60 [.ref 0, .int a2, .int a3, .ref (29 + 2 * ix a2)] (zpsh v []) h' Q))) else Q (some (.int (-11))) (zen σ))) else Q (some (.int (-1))) (zen σ)))) :=
  Eq.trans (q_iload_n (pc := 0) dX11_taken_0 rfl rfl) (Eq.trans (q_sumI (q_callS (as := [.int a2]) (rest := []) (l0 := [.int a2]) (pc := 1) dX11_taken_1 zSN_11_300 zC_11_300 rfl rfl rfl) (by omega) (s_X11_isShelf σ a2)) (Eq.trans (q_if_eq (tgt := 17) (pc := 4) dX11_taken_4 rfl) (zite (fun hz1 => Eq.trans (q_iconst (v := (-1)) (pc := 17) dX11_taken_17 rfl) (q_iret (pc := 18) dX11_taken_18 rfl rfl)) (fun hz1 => Eq.trans (q_iload_n (pc := 7) dX11_taken_7 rfl rfl) (Eq.trans (q_if_lt (tgt := 17) (pc := 8) dX11_taken_8 rfl) (zite (fun hz2 => Eq.trans (q_iconst (v := (-1)) (pc := 17) dX11_taken_17 rfl) (q_iret (pc := 18) dX11_taken_18 rfl rfl)) (fun hz2 => Eq.trans (q_iload_n (pc := 11) dX11_taken_11 rfl rfl) (Eq.trans (q_bipush (v := 8) (pc := 12) dX11_taken_12 rfl) (Eq.trans (q_icmp_lt (tgt := 19) (pc := 14) dX11_taken_14 rfl) (zite (fun hz3 => Eq.trans (q_aload_n (pc := 19) dX11_taken_19 rfl rfl) (Eq.trans (q_getf (pc := 20) dX11_taken_20 zF_11_55 (z_rfr zl_0 zh_0 (by decide) rfl)) (Eq.trans (q_iload_n (pc := 23) dX11_taken_23 rfl rfl) (Eq.trans (q_aaload (pc := 24) dX11_taken_24 (z_ra zl_28 zh_28 (by decide)) zra28) (zand fun hz4 => Eq.trans (q_astore_n (ls' := [.ref 0, .int a2, .int a3, .ref (29 + 2 * ix a2)]) (pc := 25) dX11_taken_25 rfl (Nat.le_of_ble_eq_true rfl) rfl) (Eq.trans (q_aload_n (pc := 26) dX11_taken_26 rfl rfl) (Eq.trans (q_getf (pc := 27) dX11_taken_27 zF_11_335 (z_rfiE (x := (gi σ (29 + 2 * ix a2) 1)) (zS_1 (zS_at hz4)).2.2.1 (zS_1 (zS_at hz4)).1 (by decide) rfl rfl)) (Eq.trans (q_if_ne (tgt := 36) (pc := 30) dX11_taken_30 rfl) (zite (fun hz5 => Eq.trans (q_aload_n (pc := 36) dX11_taken_36 rfl rfl) (Eq.trans (q_getf (pc := 37) dX11_taken_37 zF_11_335 (z_rfiE (x := (gi σ (29 + 2 * ix a2) 1)) (zS_1 (zS_at hz4)).2.2.1 (zS_1 (zS_at hz4)).1 (by decide) rfl rfl)) (Eq.trans (q_iconst (v := 1) (pc := 40) dX11_taken_40 rfl) (Eq.trans (q_icmp_ne (tgt := 63) (pc := 41) dX11_taken_41 rfl) (zite (fun hz6 => Eq.trans (q_bipush (v := (-12)) (pc := 63) dX11_taken_63 rfl) (q_iret (pc := 65) dX11_taken_65 rfl rfl)) (fun hz6 => Eq.trans (q_aload_n (pc := 44) dX11_taken_44 rfl rfl) (Eq.trans (q_getf (pc := 45) dX11_taken_45 zF_11_83 (z_rfr zl_0 zh_0 (by decide) rfl)) (Eq.trans (q_getf (pc := 48) dX11_taken_48 zF_11_338 (z_rfr zl_63 zh_63 (by decide) rfl)) (Eq.trans (q_aload_n (pc := 51) dX11_taken_51 rfl rfl) (Eq.trans (q_getf (pc := 52) dX11_taken_52 zF_11_341 (z_rfiE (x := (gi σ (29 + 2 * ix a2) 2)) (zS_1 (zS_at hz4)).2.2.1 (zS_1 (zS_at hz4)).1 (by decide) rfl rfl)) (Eq.trans (qe_iaload (x := (gi σ 64 (ix (gi σ (29 + 2 * ix a2) 2)))) (pc := 55) dX11_taken_55 (z_ia zl_64 zh_64 (by decide)) rfl) (zand fun hz7 => Eq.trans (q_iload_n (pc := 56) dX11_taken_56 rfl rfl) (zdpos (q_callS (as := [.int (gi σ 64 (ix (gi σ (29 + 2 * ix a2) 2))), .int a3]) (rest := []) (l0 := [.int (gi σ 64 (ix (gi σ (29 + 2 * ix a2) 2))), .int a3, .null, .null]) (pc := 57) dX11_taken_57 zSN_11_344 zC_11_344 rfl rfl rfl) (by omega)))))))))))))) (fun hz5 => Eq.trans (q_bipush (v := (-11)) (pc := 33) dX11_taken_33 rfl) (q_iret (pc := 35) dX11_taken_35 rfl rfl))))))))))) (fun hz3 => Eq.trans (q_iconst (v := (-1)) (pc := 17) dX11_taken_17 rfl) (q_iret (pc := 18) dX11_taken_18 rfl rfl))))))))))))
theorem b_X11_taken_60 {X : zX} {d : Nat} {Q : Option Value → zH → Prop} (σ : zS) (l1 : Int32) (l2 : Int32) (rl3 : Nat) (t0 : Int32) (hl3 : zisS rl3 = true) : zwp X d MX11_taken 60 [.ref 0, .int l1, .int l2, .ref rl3] [.int t0] (zen σ) Q = (if ¬ t0 = 0 then (zin (gi σ rl3 2) 50 = true ∧ Q (some (.int (gi σ 64 (ix (gi σ rl3 2))))) (zen σ)) else Q (some (.int (-12))) (zen σ)) :=
  Eq.trans (q_if_ne (tgt := 66) (pc := 60) dX11_taken_60 rfl) (zite (fun hz1 => Eq.trans (q_aload_n (pc := 66) dX11_taken_66 rfl rfl) (Eq.trans (q_getf (pc := 67) dX11_taken_67 zF_11_83 (z_rfr zl_0 zh_0 (by decide) rfl)) (Eq.trans (q_getf (pc := 70) dX11_taken_70 zF_11_338 (z_rfr zl_63 zh_63 (by decide) rfl)) (Eq.trans (q_aload_n (pc := 73) dX11_taken_73 rfl rfl) (Eq.trans (q_getf (pc := 74) dX11_taken_74 zF_11_341 (z_rfiE (x := (gi σ rl3 2)) (zS_1 hl3).2.2.1 (zS_1 hl3).1 (by decide) rfl rfl)) (Eq.trans (qe_iaload (x := (gi σ 64 (ix (gi σ rl3 2)))) (pc := 77) dX11_taken_77 (z_ia zl_64 zh_64 (by decide)) rfl) (zand fun hz2 => q_iret (pc := 78) dX11_taken_78 rfl rfl))))))) (fun hz1 => Eq.trans (q_bipush (v := (-12)) (pc := 63) dX11_taken_63 rfl) (q_iret (pc := 65) dX11_taken_65 rfl rfl)))
theorem b_X11_readProgramme_0 {X : zX} {d : Nat} {Q : Option Value → zH → Prop} (hd : 2 ≤ d) (σ : zS) (a2 : Int32)  : zwp X d MX11_readProgramme 0 [.ref 0, .int a2, .null] [] (zen σ) Q = (p_X11_refusal σ a2 0 ∧ (if ¬ (f_X11_refusal σ a2 0) = 0 then Q (some (.int (f_X11_refusal σ a2 0))) (zen σ) else (zin a2 6 = true ∧ zwp X (d - 1) MX10_read 0 [.ref 41, .ref (29 + 2 * ix a2), .null, .null] [] (zen σ) (fun v h' => zwp X d MX11_readProgramme 24 [.ref 0, .int a2, .int (f_X11_refusal σ a2 0)] (zpsh v []) h' Q)))) :=
  Eq.trans (q_aload_n (pc := 0) dX11_readProgramme_0 rfl rfl) (Eq.trans (q_iload_n (pc := 1) dX11_readProgramme_1 rfl rfl) (Eq.trans (q_iconst (v := 0) (pc := 2) dX11_readProgramme_2 rfl) (Eq.trans (q_sumIP (q_callV (as := [.int a2, .int 0]) (rest := []) (l0 := [.ref 0, .int a2, .int 0, .null]) (pc := 3) dX11_readProgramme_3 zC_11_99 rfl (z_recv zl_0 zh_0) rfl rfl) (by omega) (s_X11_refusal (hd := by omega) σ a2 0)) (zand fun hz1 => Eq.trans (q_istore_n (ls' := [.ref 0, .int a2, .int (f_X11_refusal σ a2 0)]) (pc := 6) dX11_readProgramme_6 rfl (Nat.le_of_ble_eq_true rfl) rfl) (Eq.trans (q_iload_n (pc := 7) dX11_readProgramme_7 rfl rfl) (Eq.trans (q_if_ne (tgt := 24) (pc := 8) dX11_readProgramme_8 rfl) (zite (fun hz2 => Eq.trans (q_iload_n (pc := 24) dX11_readProgramme_24 rfl rfl) (q_iret (pc := 25) dX11_readProgramme_25 rfl rfl)) (fun hz2 => Eq.trans (q_aload_n (pc := 11) dX11_readProgramme_11 rfl rfl) (Eq.trans (q_getf (pc := 12) dX11_readProgramme_12 zF_11_69 (z_rfr zl_0 zh_0 (by decide) rfl)) (Eq.trans (q_aload_n (pc := 15) dX11_readProgramme_15 rfl rfl) (Eq.trans (q_getf (pc := 16) dX11_readProgramme_16 zF_11_55 (z_rfr zl_0 zh_0 (by decide) rfl)) (Eq.trans (q_iload_n (pc := 19) dX11_readProgramme_19 rfl rfl) (Eq.trans (q_aaload (pc := 20) dX11_readProgramme_20 (z_ra zl_28 zh_28 (by decide)) zra28) (zand fun hz3 => zdpos (q_callV (as := [.ref (29 + 2 * ix a2)]) (rest := []) (l0 := [.ref 41, .ref (29 + 2 * ix a2), .null, .null]) (pc := 21) dX11_readProgramme_21 zC_11_356 rfl (z_recv zl_41 zh_41) rfl rfl) (by omega)))))))))))))))
theorem b_X11_readProgramme_24 {X : zX} {d : Nat} {Q : Option Value → zH → Prop} (σ : zS) (l1 : Int32) (l2 : Int32)  : zwp X d MX11_readProgramme 24 [.ref 0, .int l1, .int l2] [] (zen σ) Q = Q (some (.int l2)) (zen σ) :=
  Eq.trans (q_iload_n (pc := 24) dX11_readProgramme_24 rfl rfl) (q_iret (pc := 25) dX11_readProgramme_25 rfl rfl)
theorem b_X11_readProgrammeFor_0 {X : zX} {d : Nat} {Q : Option Value → zH → Prop} (hd : 1 ≤ d) (σ : zS) (a2 : Int32) (a3 : Int32)  : zwp X d MX11_readProgrammeFor 0 [.ref 0, .int a2, .int a3] [] (zen σ) Q = (if (f_X11_isWeightAndPace σ a3) = 0 then Q (some (.int (-1))) (zen σ) else zwp X (d - 1) MX11_readProgramme 0 [.ref 0, .int a2, .null] [] (zen σ) (fun v h' => zwp X d MX11_readProgrammeFor 12 [.ref 0, .int a2, .int a3] (zpsh v []) h' Q)) :=
  Eq.trans (q_iload_n (pc := 0) dX11_readProgrammeFor_0 rfl rfl) (Eq.trans (q_sumI (q_callS (as := [.int a3]) (rest := []) (l0 := [.int a3]) (pc := 1) dX11_readProgrammeFor_1 zSN_11_250 zC_11_250 rfl rfl rfl) (by omega) (s_X11_isWeightAndPace σ a3)) (Eq.trans (q_if_eq (tgt := 15) (pc := 4) dX11_readProgrammeFor_4 rfl) (zite (fun hz1 => Eq.trans (q_iconst (v := (-1)) (pc := 15) dX11_readProgrammeFor_15 rfl) (q_iret (pc := 16) dX11_readProgrammeFor_16 rfl rfl)) (fun hz1 => Eq.trans (q_aload_n (pc := 7) dX11_readProgrammeFor_7 rfl rfl) (Eq.trans (q_iload_n (pc := 8) dX11_readProgrammeFor_8 rfl rfl) (zdpos (q_callV (as := [.int a2]) (rest := []) (l0 := [.ref 0, .int a2, .null]) (pc := 9) dX11_readProgrammeFor_9 zC_11_162 rfl (z_recv zl_0 zh_0) rfl rfl) (by omega)))))))
theorem b_X11_readProgrammeFor_12 {X : zX} {d : Nat} {Q : Option Value → zH → Prop} (σ : zS) (l1 : Int32) (l2 : Int32) (t0 : Int32)  : zwp X d MX11_readProgrammeFor 12 [.ref 0, .int l1, .int l2] [.int t0] (zen σ) Q = Q (some (.int t0)) (zen σ) :=
  Eq.trans (q_goto (tgt := 16) (pc := 12) dX11_readProgrammeFor_12 rfl) (q_iret (pc := 16) dX11_readProgrammeFor_16 rfl rfl)
theorem b_X11_readProgrammeAndSeen_0 {X : zX} {d : Nat} {Q : Option Value → zH → Prop} (hd : 2 ≤ d) (σ : zS) (a2 : Int32)  : zwp X d MX11_readProgrammeAndSeen 0 [.ref 0, .int a2, .null] [] (zen σ) Q = (if 0 ≤ a2 then (p_X11_refusal σ (a2 / 10) 0 ∧ (p_X11_refusal σ (a2 - a2 / 10 * 10) 1 ∧ (if (f_X11_firstNamed σ (f_X11_refusal σ (a2 / 10) 0) (f_X11_refusal σ (a2 - a2 / 10 * 10) 1)) = 0 then zwp X (d - 1) MX11_readProgramme 0 [.ref 0, .int (a2 / 10), .null] [] (zen σ) (fun v h' => zwp X d MX11_readProgrammeAndSeen 44 [.ref 0, .int a2, .int (f_X11_firstNamed σ (f_X11_refusal σ (a2 / 10) 0) (f_X11_refusal σ (a2 - a2 / 10 * 10) 1))] (zpsh v []) h' Q) else Q (some (.int (f_X11_firstNamed σ (f_X11_refusal σ (a2 / 10) 0) (f_X11_refusal σ (a2 - a2 / 10 * 10) 1)))) (zen σ)))) else Q (some (.int (-1))) (zen σ)) :=
  Eq.trans (q_iload_n (pc := 0) dX11_readProgrammeAndSeen_0 rfl rfl) (Eq.trans (q_if_ge (tgt := 6) (pc := 1) dX11_readProgrammeAndSeen_1 rfl) (zite (fun hz1 => Eq.trans (q_aload_n (pc := 6) dX11_readProgrammeAndSeen_6 rfl rfl) (Eq.trans (q_iload_n (pc := 7) dX11_readProgrammeAndSeen_7 rfl rfl) (Eq.trans (q_bipush (v := 10) (pc := 8) dX11_readProgrammeAndSeen_8 rfl) (Eq.trans (q_idivK (pc := 10) dX11_readProgrammeAndSeen_10 (by decide)) (Eq.trans (q_iconst (v := 0) (pc := 11) dX11_readProgrammeAndSeen_11 rfl) (Eq.trans (q_sumIP (q_callV (as := [.int (a2 / 10), .int 0]) (rest := []) (l0 := [.ref 0, .int (a2 / 10), .int 0, .null]) (pc := 12) dX11_readProgrammeAndSeen_12 zC_11_99 rfl (z_recv zl_0 zh_0) rfl rfl) (by omega) (s_X11_refusal (hd := by omega) σ (a2 / 10) 0)) (zand fun hz2 => Eq.trans (q_aload_n (pc := 15) dX11_readProgrammeAndSeen_15 rfl rfl) (Eq.trans (q_iload_n (pc := 16) dX11_readProgrammeAndSeen_16 rfl rfl) (Eq.trans (q_bipush (v := 10) (pc := 17) dX11_readProgrammeAndSeen_17 rfl) (Eq.trans (q_iremK (pc := 19) dX11_readProgrammeAndSeen_19 (by decide)) (Eq.trans (q_iconst (v := 1) (pc := 20) dX11_readProgrammeAndSeen_20 rfl) (Eq.trans (q_sumIP (q_callV (as := [.int (a2 - a2 / 10 * 10), .int 1]) (rest := [.int (f_X11_refusal σ (a2 / 10) 0)]) (l0 := [.ref 0, .int (a2 - a2 / 10 * 10), .int 1, .null]) (pc := 21) dX11_readProgrammeAndSeen_21 zC_11_99 rfl (z_recv zl_0 zh_0) rfl rfl) (by omega) (s_X11_refusal (hd := by omega) σ (a2 - a2 / 10 * 10) 1)) (zand fun hz3 => Eq.trans (q_sumI (q_callS (as := [.int (f_X11_refusal σ (a2 / 10) 0), .int (f_X11_refusal σ (a2 - a2 / 10 * 10) 1)]) (rest := []) (l0 := [.int (f_X11_refusal σ (a2 / 10) 0), .int (f_X11_refusal σ (a2 - a2 / 10 * 10) 1)]) (pc := 24) dX11_readProgrammeAndSeen_24 zSN_11_350 zC_11_350 rfl rfl rfl) (by omega) (s_X11_firstNamed σ (f_X11_refusal σ (a2 / 10) 0) (f_X11_refusal σ (a2 - a2 / 10 * 10) 1))) (Eq.trans (q_istore_n (ls' := [.ref 0, .int a2, .int (f_X11_firstNamed σ (f_X11_refusal σ (a2 / 10) 0) (f_X11_refusal σ (a2 - a2 / 10 * 10) 1))]) (pc := 27) dX11_readProgrammeAndSeen_27 rfl (Nat.le_of_ble_eq_true rfl) rfl) (Eq.trans (q_iload_n (pc := 28) dX11_readProgrammeAndSeen_28 rfl rfl) (Eq.trans (q_if_eq (tgt := 36) (pc := 29) dX11_readProgrammeAndSeen_29 rfl) (zite (fun hz4 => Eq.trans (q_aload_n (pc := 36) dX11_readProgrammeAndSeen_36 rfl rfl) (Eq.trans (q_iload_n (pc := 37) dX11_readProgrammeAndSeen_37 rfl rfl) (Eq.trans (q_bipush (v := 10) (pc := 38) dX11_readProgrammeAndSeen_38 rfl) (Eq.trans (q_idivK (pc := 40) dX11_readProgrammeAndSeen_40 (by decide)) (zdpos (q_callV (as := [.int (a2 / 10)]) (rest := []) (l0 := [.ref 0, .int (a2 / 10), .null]) (pc := 41) dX11_readProgrammeAndSeen_41 zC_11_162 rfl (z_recv zl_0 zh_0) rfl rfl) (by omega)))))) (fun hz4 => Eq.trans (q_iload_n (pc := 32) dX11_readProgrammeAndSeen_32 rfl rfl) (Eq.trans (q_goto (tgt := 44) (pc := 33) dX11_readProgrammeAndSeen_33 rfl) (q_iret (pc := 44) dX11_readProgrammeAndSeen_44 rfl rfl)))))))))))))))))))) (fun hz1 => Eq.trans (q_iconst (v := (-1)) (pc := 4) dX11_readProgrammeAndSeen_4 rfl) (q_iret (pc := 5) dX11_readProgrammeAndSeen_5 rfl rfl))))
theorem b_X11_readProgrammeAndSeen_44 {X : zX} {d : Nat} {Q : Option Value → zH → Prop} (σ : zS) (l1 : Int32) (l2 : Int32) (t0 : Int32)  : zwp X d MX11_readProgrammeAndSeen 44 [.ref 0, .int l1, .int l2] [.int t0] (zen σ) Q = Q (some (.int t0)) (zen σ) :=
  q_iret (pc := 44) dX11_readProgrammeAndSeen_44 rfl rfl
theorem b_X12_rows_0 {X : zX} {d : Nat} {Q : Option Value → zH → Prop} (hd : 2 ≤ d) (σ : zS) (a2 : Int32) (a3 : Int32) (a4 : Int32)  : zwp X d MX12_rows 0 [.ref 66, .int a2, .int a3, .int a4, .null, .null, .null, .null] [] (zen σ) Q = (if (f_X12_isShelf σ a2) = 0 then Q (some (.int (-1))) (zen σ) else (if ¬ (f_X12_in σ a4 1 6) = 0 then (zin a2 6 = true ∧ (if (gi σ 95 (ix a2)) = (-1) then (zin a2 6 = true ∧ (if ¬ (gi σ 95 (ix a2)) = (-1) then zwp X d MX12_rows 58 [.ref 66, .int a2, .int a3, .int a4, .int 0, .null, .null, .null] [] (zen σ) Q else Q (some (.int 0)) (zen σ))) else (zin a2 6 = true ∧ (if (gi σ 95 (ix a2)) = (-2) then (zin a2 6 = true ∧ (if ¬ (gi σ 95 (ix a2)) = (-1) then zwp X d MX12_rows 58 [.ref 66, .int a2, .int a3, .int a4, .int 0, .null, .null, .null] [] (zen σ) Q else Q (some (.int 0)) (zen σ))) else Q (some (.int (-12))) (zen σ))))) else Q (some (.int (-1))) (zen σ))) :=
  Eq.trans (q_iload_n (pc := 0) dX12_rows_0 rfl rfl) (Eq.trans (q_sumI (q_callS (as := [.int a2]) (rest := []) (l0 := [.int a2]) (pc := 1) dX12_rows_1 zSN_12_139 zC_12_139 rfl rfl rfl) (by omega) (s_X12_isShelf (hd := by omega) σ a2)) (Eq.trans (q_if_eq (tgt := 17) (pc := 4) dX12_rows_4 rfl) (zite (fun hz1 => Eq.trans (q_iconst (v := (-1)) (pc := 17) dX12_rows_17 rfl) (q_iret (pc := 18) dX12_rows_18 rfl rfl)) (fun hz1 => Eq.trans (q_iload_n (pc := 7) dX12_rows_7 rfl rfl) (Eq.trans (q_iconst (v := 1) (pc := 8) dX12_rows_8 rfl) (Eq.trans (q_bipush (v := 6) (pc := 9) dX12_rows_9 rfl) (Eq.trans (q_sumI (q_callS (as := [.int a4, .int 1, .int 6]) (rest := []) (l0 := [.int a4, .int 1, .int 6]) (pc := 11) dX12_rows_11 zSN_12_128 zC_12_128 rfl rfl rfl) (by omega) (s_X12_in σ a4 1 6)) (Eq.trans (q_if_ne (tgt := 19) (pc := 14) dX12_rows_14 rfl) (zite (fun hz2 => Eq.trans (q_aload_n (pc := 19) dX12_rows_19 rfl rfl) (Eq.trans (q_getf (pc := 20) dX12_rows_20 zF_12_109 (z_rfr zl_66 zh_66 (by decide) rfl)) (Eq.trans (q_iload_n (pc := 23) dX12_rows_23 rfl rfl) (Eq.trans (qe_iaload (x := (gi σ 95 (ix a2))) (pc := 24) dX12_rows_24 (z_ia zl_95 zh_95 (by decide)) rfl) (zand fun hz3 => Eq.trans (q_iconst (v := (-1)) (pc := 25) dX12_rows_25 rfl) (Eq.trans (q_icmp_eq (tgt := 43) (pc := 26) dX12_rows_26 rfl) (zite (fun hz4 => Eq.trans (q_aload_n (pc := 43) dX12_rows_43 rfl rfl) (Eq.trans (q_getf (pc := 44) dX12_rows_44 zF_12_109 (z_rfr zl_66 zh_66 (by decide) rfl)) (Eq.trans (q_iload_n (pc := 47) dX12_rows_47 rfl rfl) (Eq.trans (qe_iaload (x := (gi σ 95 (ix a2))) (pc := 48) dX12_rows_48 (z_ia zl_95 zh_95 (by decide)) rfl) (zand fun hz5 => Eq.trans (q_iconst (v := (-1)) (pc := 49) dX12_rows_49 rfl) (Eq.trans (q_icmp_ne (tgt := 55) (pc := 50) dX12_rows_50 rfl) (zite (fun hz6 => Eq.trans (q_iconst (v := 0) (pc := 55) dX12_rows_55 rfl) (Eq.trans (q_istore (ls' := [.ref 66, .int a2, .int a3, .int a4, .int 0, .null, .null, .null]) (pc := 56) dX12_rows_56 (Nat.le_of_ble_eq_true rfl) rfl) (rfl))) (fun hz6 => Eq.trans (q_iconst (v := 0) (pc := 53) dX12_rows_53 rfl) (q_iret (pc := 54) dX12_rows_54 rfl rfl))))))))) (fun hz4 => Eq.trans (q_aload_n (pc := 29) dX12_rows_29 rfl rfl) (Eq.trans (q_getf (pc := 30) dX12_rows_30 zF_12_109 (z_rfr zl_66 zh_66 (by decide) rfl)) (Eq.trans (q_iload_n (pc := 33) dX12_rows_33 rfl rfl) (Eq.trans (qe_iaload (x := (gi σ 95 (ix a2))) (pc := 34) dX12_rows_34 (z_ia zl_95 zh_95 (by decide)) rfl) (zand fun hz7 => Eq.trans (q_bipush (v := (-2)) (pc := 35) dX12_rows_35 rfl) (Eq.trans (q_icmp_eq (tgt := 43) (pc := 37) dX12_rows_37 rfl) (zite (fun hz8 => Eq.trans (q_aload_n (pc := 43) dX12_rows_43 rfl rfl) (Eq.trans (q_getf (pc := 44) dX12_rows_44 zF_12_109 (z_rfr zl_66 zh_66 (by decide) rfl)) (Eq.trans (q_iload_n (pc := 47) dX12_rows_47 rfl rfl) (Eq.trans (qe_iaload (x := (gi σ 95 (ix a2))) (pc := 48) dX12_rows_48 (z_ia zl_95 zh_95 (by decide)) rfl) (zand fun hz9 => Eq.trans (q_iconst (v := (-1)) (pc := 49) dX12_rows_49 rfl) (Eq.trans (q_icmp_ne (tgt := 55) (pc := 50) dX12_rows_50 rfl) (zite (fun hz10 => Eq.trans (q_iconst (v := 0) (pc := 55) dX12_rows_55 rfl) (Eq.trans (q_istore (ls' := [.ref 66, .int a2, .int a3, .int a4, .int 0, .null, .null, .null]) (pc := 56) dX12_rows_56 (Nat.le_of_ble_eq_true rfl) rfl) (rfl))) (fun hz10 => Eq.trans (q_iconst (v := 0) (pc := 53) dX12_rows_53 rfl) (q_iret (pc := 54) dX12_rows_54 rfl rfl))))))))) (fun hz8 => Eq.trans (q_bipush (v := (-12)) (pc := 40) dX12_rows_40 rfl) (q_iret (pc := 42) dX12_rows_42 rfl rfl)))))))))))))))) (fun hz2 => Eq.trans (q_iconst (v := (-1)) (pc := 17) dX12_rows_17 rfl) (q_iret (pc := 18) dX12_rows_18 rfl rfl)))))))))))
theorem b_X12_rows_58 {X : zX} {d : Nat} {Q : Option Value → zH → Prop} (hd : 1 ≤ d) (σ : zS) (l1 : Int32) (l2 : Int32) (l3 : Int32) (l4 : Int32) (w5 : Value) (w7 : Value)  : zwp X d MX12_rows 58 [.ref 66, .int l1, .int l2, .int l3, .int l4, w5, .null, w7] [] (zen σ) Q = (if l3 ≤ l4 then Q (some (.int l3)) (zen σ) else (if (lg_cmp ((Int32.toInt64 l2) + (Int32.toInt64 (3 * l4))) 0) < 0 then Q (some (.int l4)) (zen σ) else (zin l1 6 = true ∧ (if 0 ≤ (lg_cmp (((Int32.toInt64 l2) + (Int32.toInt64 (3 * l4))) + 2) (Int32.toInt64 (gi σ 96 (ix l1)))) then Q (some (.int l4)) (zen σ) else (if ¬ (gi σ 66 1) = 6 then (zin ((60 * l1) + (Int64.toInt32 ((Int32.toInt64 l2) + (Int32.toInt64 (3 * l4))))) 360 = true ∧ (if (f_X12_in σ (Int64.toInt32 (gl σ 97 (ix ((60 * l1) + (Int64.toInt32 ((Int32.toInt64 l2) + (Int32.toInt64 (3 * l4)))))))) 0 99) = 0 then Q (some (.int l4)) (zen σ) else (zin (((60 * l1) + (Int64.toInt32 ((Int32.toInt64 l2) + (Int32.toInt64 (3 * l4))))) + 1) 360 = true ∧ (if (f_X12_in σ (Int64.toInt32 (gl σ 97 (ix (((60 * l1) + (Int64.toInt32 ((Int32.toInt64 l2) + (Int32.toInt64 (3 * l4))))) + 1)))) 0 15) = 0 then Q (some (.int l4)) (zen σ) else (zin (((60 * l1) + (Int64.toInt32 ((Int32.toInt64 l2) + (Int32.toInt64 (3 * l4))))) + 2) 360 = true ∧ (if ¬ (f_X12_in σ (Int64.toInt32 (gl σ 97 (ix (((60 * l1) + (Int64.toInt32 ((Int32.toInt64 l2) + (Int32.toInt64 (3 * l4))))) + 2)))) 0 9) = 0 then (zin ((60 * l1) + (Int64.toInt32 ((Int32.toInt64 l2) + (Int32.toInt64 (3 * l4))))) 360 = true ∧ (zin (((60 * l1) + (Int64.toInt32 ((Int32.toInt64 l2) + (Int32.toInt64 (3 * l4))))) + 1) 360 = true ∧ (zin (((60 * l1) + (Int64.toInt32 ((Int32.toInt64 l2) + (Int32.toInt64 (3 * l4))))) + 2) 360 = true ∧ (p_X12_addRow σ (Int64.toInt32 (gl σ 97 (ix ((60 * l1) + (Int64.toInt32 ((Int32.toInt64 l2) + (Int32.toInt64 (3 * l4)))))))) (Int64.toInt32 (gl σ 97 (ix (((60 * l1) + (Int64.toInt32 ((Int32.toInt64 l2) + (Int32.toInt64 (3 * l4))))) + 1)))) (Int64.toInt32 (gl σ 97 (ix (((60 * l1) + (Int64.toInt32 ((Int32.toInt64 l2) + (Int32.toInt64 (3 * l4))))) + 2)))) ∧ zwp X d MX12_rows 58 [.ref 66, .int l1, .int l2, .int l3, .int (l4 + 1), .long ((Int32.toInt64 l2) + (Int32.toInt64 (3 * l4))), .null, .int ((60 * l1) + (Int64.toInt32 ((Int32.toInt64 l2) + (Int32.toInt64 (3 * l4)))))] [] (zen (g_X12_addRow σ (Int64.toInt32 (gl σ 97 (ix ((60 * l1) + (Int64.toInt32 ((Int32.toInt64 l2) + (Int32.toInt64 (3 * l4)))))))) (Int64.toInt32 (gl σ 97 (ix (((60 * l1) + (Int64.toInt32 ((Int32.toInt64 l2) + (Int32.toInt64 (3 * l4))))) + 1)))) (Int64.toInt32 (gl σ 97 (ix (((60 * l1) + (Int64.toInt32 ((Int32.toInt64 l2) + (Int32.toInt64 (3 * l4))))) + 2)))))) Q)))) else Q (some (.int l4)) (zen σ))))))) else Q (some (.int l4)) (zen σ)))))) :=
  Eq.trans (q_iload (pc := 58) dX12_rows_58 rfl) (Eq.trans (q_iload_n (pc := 60) dX12_rows_60 rfl rfl) (Eq.trans (q_icmp_ge (tgt := 217) (pc := 61) dX12_rows_61 rfl) (zite (fun hz1 => Eq.trans (q_iload_n (pc := 217) dX12_rows_217 rfl rfl) (q_iret (pc := 218) dX12_rows_218 rfl rfl)) (fun hz1 => Eq.trans (q_iload_n (pc := 64) dX12_rows_64 rfl rfl) (Eq.trans (q_i2l (pc := 65) dX12_rows_65) (Eq.trans (q_iconst (v := 3) (pc := 66) dX12_rows_66 rfl) (Eq.trans (q_iload (pc := 67) dX12_rows_67 rfl) (Eq.trans (q_imul (pc := 69) dX12_rows_69) (Eq.trans (q_i2l (pc := 70) dX12_rows_70) (Eq.trans (q_ladd (pc := 71) dX12_rows_71) (Eq.trans (q_lstore (ls' := [.ref 66, .int l1, .int l2, .int l3, .int l4, .long ((Int32.toInt64 l2) + (Int32.toInt64 (3 * l4))), .null, w7]) (pc := 72) dX12_rows_72 (Nat.le_of_ble_eq_true rfl) rfl) (Eq.trans (q_lload (pc := 74) dX12_rows_74 rfl) (Eq.trans (q_lconst (v := 0) (pc := 76) dX12_rows_76 rfl) (Eq.trans (q_lcmp (pc := 77) dX12_rows_77) (Eq.trans (q_if_lt (tgt := 107) (pc := 78) dX12_rows_78 rfl) (zite (fun hz2 => Eq.trans (q_iload (pc := 107) dX12_rows_107 rfl) (q_iret (pc := 109) dX12_rows_109 rfl rfl)) (fun hz2 => Eq.trans (q_lload (pc := 81) dX12_rows_81 rfl) (Eq.trans (q_ldc2 (v := 2) (pc := 83) dX12_rows_83 zK_12_143) (Eq.trans (q_ladd (pc := 86) dX12_rows_86) (Eq.trans (q_aload_n (pc := 87) dX12_rows_87 rfl rfl) (Eq.trans (q_getf (pc := 88) dX12_rows_88 zF_12_112 (z_rfr zl_66 zh_66 (by decide) rfl)) (Eq.trans (q_iload_n (pc := 91) dX12_rows_91 rfl rfl) (Eq.trans (qe_iaload (x := (gi σ 96 (ix l1))) (pc := 92) dX12_rows_92 (z_ia zl_96 zh_96 (by decide)) rfl) (zand fun hz3 => Eq.trans (q_i2l (pc := 93) dX12_rows_93) (Eq.trans (q_lcmp (pc := 94) dX12_rows_94) (Eq.trans (q_if_ge (tgt := 107) (pc := 95) dX12_rows_95 rfl) (zite (fun hz4 => Eq.trans (q_iload (pc := 107) dX12_rows_107 rfl) (q_iret (pc := 109) dX12_rows_109 rfl rfl)) (fun hz4 => Eq.trans (q_aload_n (pc := 98) dX12_rows_98 rfl rfl) (Eq.trans (q_getf (pc := 99) dX12_rows_99 zF_12_125 (z_rfiE (x := (gi σ 66 1)) zl_66 zh_66 (by decide) rfl rfl)) (Eq.trans (q_bipush (v := 6) (pc := 102) dX12_rows_102 rfl) (Eq.trans (q_icmp_ne (tgt := 110) (pc := 104) dX12_rows_104 rfl) (zite (fun hz5 => Eq.trans (q_bipush (v := 60) (pc := 110) dX12_rows_110 rfl) (Eq.trans (q_iload_n (pc := 112) dX12_rows_112 rfl rfl) (Eq.trans (q_imul (pc := 113) dX12_rows_113) (Eq.trans (q_lload (pc := 114) dX12_rows_114 rfl) (Eq.trans (q_l2i (pc := 116) dX12_rows_116) (Eq.trans (q_iadd (pc := 117) dX12_rows_117) (Eq.trans (q_istore (ls' := [.ref 66, .int l1, .int l2, .int l3, .int l4, .long ((Int32.toInt64 l2) + (Int32.toInt64 (3 * l4))), .null, .int ((60 * l1) + (Int64.toInt32 ((Int32.toInt64 l2) + (Int32.toInt64 (3 * l4)))))]) (pc := 118) dX12_rows_118 (Nat.le_of_ble_eq_true rfl) rfl) (Eq.trans (q_aload_n (pc := 120) dX12_rows_120 rfl rfl) (Eq.trans (q_getf (pc := 121) dX12_rows_121 zF_12_115 (z_rfr zl_66 zh_66 (by decide) rfl)) (Eq.trans (q_iload (pc := 124) dX12_rows_124 rfl) (Eq.trans (qe_laload (x := (gl σ 97 (ix ((60 * l1) + (Int64.toInt32 ((Int32.toInt64 l2) + (Int32.toInt64 (3 * l4)))))))) (pc := 126) dX12_rows_126 (z_la zl_97 zh_97) rfl) (zand fun hz6 => Eq.trans (q_l2i (pc := 127) dX12_rows_127) (Eq.trans (q_iconst (v := 0) (pc := 128) dX12_rows_128 rfl) (Eq.trans (q_bipush (v := 99) (pc := 129) dX12_rows_129 rfl) (Eq.trans (q_sumI (q_callS (as := [.int (Int64.toInt32 (gl σ 97 (ix ((60 * l1) + (Int64.toInt32 ((Int32.toInt64 l2) + (Int32.toInt64 (3 * l4)))))))), .int 0, .int 99]) (rest := []) (l0 := [.int (Int64.toInt32 (gl σ 97 (ix ((60 * l1) + (Int64.toInt32 ((Int32.toInt64 l2) + (Int32.toInt64 (3 * l4)))))))), .int 0, .int 99]) (pc := 131) dX12_rows_131 zSN_12_128 zC_12_128 rfl rfl rfl) (by omega) (s_X12_in σ (Int64.toInt32 (gl σ 97 (ix ((60 * l1) + (Int64.toInt32 ((Int32.toInt64 l2) + (Int32.toInt64 (3 * l4)))))))) 0 99)) (Eq.trans (q_if_eq (tgt := 175) (pc := 134) dX12_rows_134 rfl) (zite (fun hz7 => Eq.trans (q_iload (pc := 175) dX12_rows_175 rfl) (q_iret (pc := 177) dX12_rows_177 rfl rfl)) (fun hz7 => Eq.trans (q_aload_n (pc := 137) dX12_rows_137 rfl rfl) (Eq.trans (q_getf (pc := 138) dX12_rows_138 zF_12_115 (z_rfr zl_66 zh_66 (by decide) rfl)) (Eq.trans (q_iload (pc := 141) dX12_rows_141 rfl) (Eq.trans (q_iconst (v := 1) (pc := 143) dX12_rows_143 rfl) (Eq.trans (q_iadd (pc := 144) dX12_rows_144) (Eq.trans (qe_laload (x := (gl σ 97 (ix (((60 * l1) + (Int64.toInt32 ((Int32.toInt64 l2) + (Int32.toInt64 (3 * l4))))) + 1)))) (pc := 145) dX12_rows_145 (z_la zl_97 zh_97) rfl) (zand fun hz8 => Eq.trans (q_l2i (pc := 146) dX12_rows_146) (Eq.trans (q_iconst (v := 0) (pc := 147) dX12_rows_147 rfl) (Eq.trans (q_bipush (v := 15) (pc := 148) dX12_rows_148 rfl) (Eq.trans (q_sumI (q_callS (as := [.int (Int64.toInt32 (gl σ 97 (ix (((60 * l1) + (Int64.toInt32 ((Int32.toInt64 l2) + (Int32.toInt64 (3 * l4))))) + 1)))), .int 0, .int 15]) (rest := []) (l0 := [.int (Int64.toInt32 (gl σ 97 (ix (((60 * l1) + (Int64.toInt32 ((Int32.toInt64 l2) + (Int32.toInt64 (3 * l4))))) + 1)))), .int 0, .int 15]) (pc := 150) dX12_rows_150 zSN_12_128 zC_12_128 rfl rfl rfl) (by omega) (s_X12_in σ (Int64.toInt32 (gl σ 97 (ix (((60 * l1) + (Int64.toInt32 ((Int32.toInt64 l2) + (Int32.toInt64 (3 * l4))))) + 1)))) 0 15)) (Eq.trans (q_if_eq (tgt := 175) (pc := 153) dX12_rows_153 rfl) (zite (fun hz9 => Eq.trans (q_iload (pc := 175) dX12_rows_175 rfl) (q_iret (pc := 177) dX12_rows_177 rfl rfl)) (fun hz9 => Eq.trans (q_aload_n (pc := 156) dX12_rows_156 rfl rfl) (Eq.trans (q_getf (pc := 157) dX12_rows_157 zF_12_115 (z_rfr zl_66 zh_66 (by decide) rfl)) (Eq.trans (q_iload (pc := 160) dX12_rows_160 rfl) (Eq.trans (q_iconst (v := 2) (pc := 162) dX12_rows_162 rfl) (Eq.trans (q_iadd (pc := 163) dX12_rows_163) (Eq.trans (qe_laload (x := (gl σ 97 (ix (((60 * l1) + (Int64.toInt32 ((Int32.toInt64 l2) + (Int32.toInt64 (3 * l4))))) + 2)))) (pc := 164) dX12_rows_164 (z_la zl_97 zh_97) rfl) (zand fun hz10 => Eq.trans (q_l2i (pc := 165) dX12_rows_165) (Eq.trans (q_iconst (v := 0) (pc := 166) dX12_rows_166 rfl) (Eq.trans (q_bipush (v := 9) (pc := 167) dX12_rows_167 rfl) (Eq.trans (q_sumI (q_callS (as := [.int (Int64.toInt32 (gl σ 97 (ix (((60 * l1) + (Int64.toInt32 ((Int32.toInt64 l2) + (Int32.toInt64 (3 * l4))))) + 2)))), .int 0, .int 9]) (rest := []) (l0 := [.int (Int64.toInt32 (gl σ 97 (ix (((60 * l1) + (Int64.toInt32 ((Int32.toInt64 l2) + (Int32.toInt64 (3 * l4))))) + 2)))), .int 0, .int 9]) (pc := 169) dX12_rows_169 zSN_12_128 zC_12_128 rfl rfl rfl) (by omega) (s_X12_in σ (Int64.toInt32 (gl σ 97 (ix (((60 * l1) + (Int64.toInt32 ((Int32.toInt64 l2) + (Int32.toInt64 (3 * l4))))) + 2)))) 0 9)) (Eq.trans (q_if_ne (tgt := 178) (pc := 172) dX12_rows_172 rfl) (zite (fun hz11 => Eq.trans (q_aload_n (pc := 178) dX12_rows_178 rfl rfl) (Eq.trans (q_aload_n (pc := 179) dX12_rows_179 rfl rfl) (Eq.trans (q_getf (pc := 180) dX12_rows_180 zF_12_115 (z_rfr zl_66 zh_66 (by decide) rfl)) (Eq.trans (q_iload (pc := 183) dX12_rows_183 rfl) (Eq.trans (qe_laload (x := (gl σ 97 (ix ((60 * l1) + (Int64.toInt32 ((Int32.toInt64 l2) + (Int32.toInt64 (3 * l4)))))))) (pc := 185) dX12_rows_185 (z_la zl_97 zh_97) rfl) (zand fun hz12 => Eq.trans (q_l2i (pc := 186) dX12_rows_186) (Eq.trans (q_aload_n (pc := 187) dX12_rows_187 rfl rfl) (Eq.trans (q_getf (pc := 188) dX12_rows_188 zF_12_115 (z_rfr zl_66 zh_66 (by decide) rfl)) (Eq.trans (q_iload (pc := 191) dX12_rows_191 rfl) (Eq.trans (q_iconst (v := 1) (pc := 193) dX12_rows_193 rfl) (Eq.trans (q_iadd (pc := 194) dX12_rows_194) (Eq.trans (qe_laload (x := (gl σ 97 (ix (((60 * l1) + (Int64.toInt32 ((Int32.toInt64 l2) + (Int32.toInt64 (3 * l4))))) + 1)))) (pc := 195) dX12_rows_195 (z_la zl_97 zh_97) rfl) (zand fun hz13 => Eq.trans (q_l2i (pc := 196) dX12_rows_196) (Eq.trans (q_aload_n (pc := 197) dX12_rows_197 rfl rfl) (Eq.trans (q_getf (pc := 198) dX12_rows_198 zF_12_115 (z_rfr zl_66 zh_66 (by decide) rfl)) (Eq.trans (q_iload (pc := 201) dX12_rows_201 rfl) (Eq.trans (q_iconst (v := 2) (pc := 203) dX12_rows_203 rfl) (Eq.trans (q_iadd (pc := 204) dX12_rows_204) (Eq.trans (qe_laload (x := (gl σ 97 (ix (((60 * l1) + (Int64.toInt32 ((Int32.toInt64 l2) + (Int32.toInt64 (3 * l4))))) + 2)))) (pc := 205) dX12_rows_205 (z_la zl_97 zh_97) rfl) (zand fun hz14 => Eq.trans (q_l2i (pc := 206) dX12_rows_206) (Eq.trans (q_sumIP (q_callV (as := [.int (Int64.toInt32 (gl σ 97 (ix ((60 * l1) + (Int64.toInt32 ((Int32.toInt64 l2) + (Int32.toInt64 (3 * l4)))))))), .int (Int64.toInt32 (gl σ 97 (ix (((60 * l1) + (Int64.toInt32 ((Int32.toInt64 l2) + (Int32.toInt64 (3 * l4))))) + 1)))), .int (Int64.toInt32 (gl σ 97 (ix (((60 * l1) + (Int64.toInt32 ((Int32.toInt64 l2) + (Int32.toInt64 (3 * l4))))) + 2))))]) (rest := []) (l0 := [.ref 66, .int (Int64.toInt32 (gl σ 97 (ix ((60 * l1) + (Int64.toInt32 ((Int32.toInt64 l2) + (Int32.toInt64 (3 * l4)))))))), .int (Int64.toInt32 (gl σ 97 (ix (((60 * l1) + (Int64.toInt32 ((Int32.toInt64 l2) + (Int32.toInt64 (3 * l4))))) + 1)))), .int (Int64.toInt32 (gl σ 97 (ix (((60 * l1) + (Int64.toInt32 ((Int32.toInt64 l2) + (Int32.toInt64 (3 * l4))))) + 2))))]) (pc := 207) dX12_rows_207 zC_12_135 rfl (z_recv zl_66 zh_66) rfl rfl) (by omega) (s_X12_addRow σ (Int64.toInt32 (gl σ 97 (ix ((60 * l1) + (Int64.toInt32 ((Int32.toInt64 l2) + (Int32.toInt64 (3 * l4)))))))) (Int64.toInt32 (gl σ 97 (ix (((60 * l1) + (Int64.toInt32 ((Int32.toInt64 l2) + (Int32.toInt64 (3 * l4))))) + 1)))) (Int64.toInt32 (gl σ 97 (ix (((60 * l1) + (Int64.toInt32 ((Int32.toInt64 l2) + (Int32.toInt64 (3 * l4))))) + 2)))))) (zand fun hz15 => Eq.trans (q_pop_int (pc := 210) dX12_rows_210) (Eq.trans (q_iinc (c := 1) (ls' := [.ref 66, .int l1, .int l2, .int l3, .int (l4 + 1), .long ((Int32.toInt64 l2) + (Int32.toInt64 (3 * l4))), .null, .int ((60 * l1) + (Int64.toInt32 ((Int32.toInt64 l2) + (Int32.toInt64 (3 * l4)))))]) (pc := 211) dX12_rows_211 rfl rfl rfl) (Eq.trans (q_goto (tgt := 58) (pc := 214) dX12_rows_214 rfl) (rfl))))))))))))))))))))))))) (fun hz11 => Eq.trans (q_iload (pc := 175) dX12_rows_175 rfl) (q_iret (pc := 177) dX12_rows_177 rfl rfl))))))))))))))))))))))))))))))))))))))))))) (fun hz5 => Eq.trans (q_iload (pc := 107) dX12_rows_107 rfl) (q_iret (pc := 109) dX12_rows_109 rfl rfl))))))))))))))))))))))))))))))))))
theorem b_X12_changes_0 {X : zX} {d : Nat} {Q : Option Value → zH → Prop} (hd : 1 ≤ d) (σ : zS) (a2 : Int32) (a3 : Int32) (a4 : Int32)  : zwp X d MX12_changes 0 [.ref 66, .int a2, .int a3, .int a4, .null, .null] [] (zen σ) Q = (p_X12_valueAt σ a2 a3 ∧ (if ¬ (f_X12_valueAt σ a2 a3) = a4 then (if ¬ (gi σ 66 13) = 40 then (zin (gi σ 66 13) 40 = true ∧ (zin (gi σ 66 13) 40 = true ∧ (zin (gi σ 66 13) 40 = true ∧ (zin (gi σ 66 13) 40 = true ∧ (p_X12_lays (si (si (si (si (si (si σ 66 14 0) 73 (ix (gi σ 66 13)) a2) 74 (ix (gi σ 66 13)) a3) 75 (ix (gi σ 66 13)) (f_X12_valueAt σ a2 a3)) 76 (ix (gi σ 66 13)) a4) 66 13 ((gi σ 66 13) + 1)) a2 a3 a4 ∧ Q (some (.int (f_X12_valueAt σ a2 a3))) (zen (g_X12_lays (si (si (si (si (si (si σ 66 14 0) 73 (ix (gi σ 66 13)) a2) 74 (ix (gi σ 66 13)) a3) 75 (ix (gi σ 66 13)) (f_X12_valueAt σ a2 a3)) 76 (ix (gi σ 66 13)) a4) 66 13 ((gi σ 66 13) + 1)) a2 a3 a4))))))) else zwp X d MX12_changes 34 [.ref 66, .int a2, .int a3, .int a4, .int (f_X12_valueAt σ a2 a3), .int 1] [] (zen (si σ 66 14 0)) Q) else Q (some (.int (f_X12_valueAt σ a2 a3))) (zen σ))) :=
  Eq.trans (q_aload_n (pc := 0) dX12_changes_0 rfl rfl) (Eq.trans (q_iload_n (pc := 1) dX12_changes_1 rfl rfl) (Eq.trans (q_iload_n (pc := 2) dX12_changes_2 rfl rfl) (Eq.trans (q_sumIP (q_callV (as := [.int a2, .int a3]) (rest := []) (l0 := [.ref 66, .int a2, .int a3]) (pc := 3) dX12_changes_3 zC_12_148 rfl (z_recv zl_66 zh_66) rfl rfl) (by omega) (s_X12_valueAt σ a2 a3)) (zand fun hz1 => Eq.trans (q_istore (ls' := [.ref 66, .int a2, .int a3, .int a4, .int (f_X12_valueAt σ a2 a3), .null]) (pc := 6) dX12_changes_6 (Nat.le_of_ble_eq_true rfl) rfl) (Eq.trans (q_iload (pc := 8) dX12_changes_8 rfl) (Eq.trans (q_iload_n (pc := 10) dX12_changes_10 rfl rfl) (Eq.trans (q_icmp_ne (tgt := 17) (pc := 11) dX12_changes_11 rfl) (zite (fun hz2 => Eq.trans (q_aload_n (pc := 17) dX12_changes_17 rfl rfl) (Eq.trans (q_iconst (v := 0) (pc := 18) dX12_changes_18 rfl) (Eq.trans (q_pf (pc := 19) dX12_changes_19 zF_12_152 zPF_12_14 (z_pf zl_66 zh_66 rfl)) (Eq.trans (q_aload_n (pc := 22) dX12_changes_22 rfl rfl) (Eq.trans (q_getf (pc := 23) dX12_changes_23 zF_12_155 (z_rfiE (x := (gi σ 66 13)) zl_66 zh_66 (by decide) rfl rfl)) (Eq.trans (q_bipush (v := 40) (pc := 26) dX12_changes_26 rfl) (Eq.trans (q_icmp_ne (tgt := 121) (pc := 28) dX12_changes_28 rfl) (zite (fun hz3 => Eq.trans (q_aload_n (pc := 121) dX12_changes_121 rfl rfl) (Eq.trans (q_getf (pc := 122) dX12_changes_122 zF_12_38 (z_rfr zl_66 zh_66 (by decide) rfl)) (Eq.trans (q_aload_n (pc := 125) dX12_changes_125 rfl rfl) (Eq.trans (q_getf (pc := 126) dX12_changes_126 zF_12_155 (z_rfiE (x := (gi σ 66 13)) zl_66 zh_66 (by decide) rfl rfl)) (Eq.trans (q_iload_n (pc := 129) dX12_changes_129 rfl rfl) (Eq.trans (q_iastore (pc := 130) dX12_changes_130 (zN_lt zl_73) (z_ia zl_73 zh_73 (by decide)) (z_pi zl_73 zh_73 (by decide))) (zand fun hz4 => Eq.trans (q_aload_n (pc := 131) dX12_changes_131 rfl rfl) (Eq.trans (q_getf (pc := 132) dX12_changes_132 zF_12_41 (z_rfr zl_66 zh_66 (by decide) rfl)) (Eq.trans (q_aload_n (pc := 135) dX12_changes_135 rfl rfl) (Eq.trans (q_getf (pc := 136) dX12_changes_136 zF_12_155 (z_rfiE (x := (gi σ 66 13)) zl_66 zh_66 (by decide) rfl rfl)) (Eq.trans (q_iload_n (pc := 139) dX12_changes_139 rfl rfl) (Eq.trans (q_iastore (pc := 140) dX12_changes_140 (zN_lt zl_74) (z_ia zl_74 zh_74 (by decide)) (z_pi zl_74 zh_74 (by decide))) (zand fun hz5 => Eq.trans (q_aload_n (pc := 141) dX12_changes_141 rfl rfl) (Eq.trans (q_getf (pc := 142) dX12_changes_142 zF_12_44 (z_rfr zl_66 zh_66 (by decide) rfl)) (Eq.trans (q_aload_n (pc := 145) dX12_changes_145 rfl rfl) (Eq.trans (q_getf (pc := 146) dX12_changes_146 zF_12_155 (z_rfiE (x := (gi σ 66 13)) zl_66 zh_66 (by decide) rfl rfl)) (Eq.trans (q_iload (pc := 149) dX12_changes_149 rfl) (Eq.trans (q_iastore (pc := 151) dX12_changes_151 (zN_lt zl_75) (z_ia zl_75 zh_75 (by decide)) (z_pi zl_75 zh_75 (by decide))) (zand fun hz6 => Eq.trans (q_aload_n (pc := 152) dX12_changes_152 rfl rfl) (Eq.trans (q_getf (pc := 153) dX12_changes_153 zF_12_47 (z_rfr zl_66 zh_66 (by decide) rfl)) (Eq.trans (q_aload_n (pc := 156) dX12_changes_156 rfl rfl) (Eq.trans (q_getf (pc := 157) dX12_changes_157 zF_12_155 (z_rfiE (x := (gi σ 66 13)) zl_66 zh_66 (by decide) rfl rfl)) (Eq.trans (q_iload_n (pc := 160) dX12_changes_160 rfl rfl) (Eq.trans (q_iastore (pc := 161) dX12_changes_161 (zN_lt zl_76) (z_ia zl_76 zh_76 (by decide)) (z_pi zl_76 zh_76 (by decide))) (zand fun hz7 => Eq.trans (q_aload_n (pc := 162) dX12_changes_162 rfl rfl) (Eq.trans (q_dup_ref (pc := 163) dX12_changes_163) (Eq.trans (q_getf (pc := 164) dX12_changes_164 zF_12_155 (z_rfiE (x := (gi σ 66 13)) zl_66 zh_66 (by decide) rfl rfl)) (Eq.trans (q_iconst (v := 1) (pc := 167) dX12_changes_167 rfl) (Eq.trans (q_iadd (pc := 168) dX12_changes_168) (Eq.trans (q_pf (pc := 169) dX12_changes_169 zF_12_155 zPF_12_13 (z_pf zl_66 zh_66 rfl)) (Eq.trans (q_aload_n (pc := 172) dX12_changes_172 rfl rfl) (Eq.trans (q_iload_n (pc := 173) dX12_changes_173 rfl rfl) (Eq.trans (q_iload_n (pc := 174) dX12_changes_174 rfl rfl) (Eq.trans (q_iload_n (pc := 175) dX12_changes_175 rfl rfl) (Eq.trans (q_sumNP (q_callV (as := [.int a2, .int a3, .int a4]) (rest := []) (l0 := [.ref 66, .int a2, .int a3, .int a4]) (pc := 176) dX12_changes_176 zC_12_158 rfl (z_recv zl_66 zh_66) rfl rfl) (by omega) (s_X12_lays (si (si (si (si (si (si σ 66 14 0) 73 (ix (gi σ 66 13)) a2) 74 (ix (gi σ 66 13)) a3) 75 (ix (gi σ 66 13)) (f_X12_valueAt σ a2 a3)) 76 (ix (gi σ 66 13)) a4) 66 13 ((gi σ 66 13) + 1)) a2 a3 a4)) (zand fun hz8 => Eq.trans (q_iload (pc := 179) dX12_changes_179 rfl) (q_iret (pc := 181) dX12_changes_181 rfl rfl))))))))))))))))))))))))))))))))))))) (fun hz3 => Eq.trans (q_iconst (v := 1) (pc := 31) dX12_changes_31 rfl) (Eq.trans (q_istore (ls' := [.ref 66, .int a2, .int a3, .int a4, .int (f_X12_valueAt σ a2 a3), .int 1]) (pc := 32) dX12_changes_32 (Nat.le_of_ble_eq_true rfl) rfl) (rfl))))))))))) (fun hz2 => Eq.trans (q_iload (pc := 14) dX12_changes_14 rfl) (q_iret (pc := 16) dX12_changes_16 rfl rfl))))))))))
theorem b_X12_changes_34 {X : zX} {d : Nat} {Q : Option Value → zH → Prop} (hd : 1 ≤ d) (σ : zS) (l1 : Int32) (l2 : Int32) (l3 : Int32) (l4 : Int32) (l5 : Int32)  : zwp X d MX12_changes 34 [.ref 66, .int l1, .int l2, .int l3, .int l4, .int l5] [] (zen σ) Q = (if 40 ≤ l5 then (zin ((gi σ 66 13) - 1) 40 = true ∧ (zin ((gi σ 66 13) - 1) 40 = true ∧ (zin ((gi σ 66 13) - 1) 40 = true ∧ (zin ((gi σ 66 13) - 1) 40 = true ∧ (p_X12_lays (si (si (si (si (si (si σ 66 13 ((gi σ 66 13) - 1)) 73 (ix ((gi σ 66 13) - 1)) l1) 74 (ix ((gi σ 66 13) - 1)) l2) 75 (ix ((gi σ 66 13) - 1)) l4) 76 (ix ((gi σ 66 13) - 1)) l3) 66 13 (((gi σ 66 13) - 1) + 1)) l1 l2 l3 ∧ Q (some (.int l4)) (zen (g_X12_lays (si (si (si (si (si (si σ 66 13 ((gi σ 66 13) - 1)) 73 (ix ((gi σ 66 13) - 1)) l1) 74 (ix ((gi σ 66 13) - 1)) l2) 75 (ix ((gi σ 66 13) - 1)) l4) 76 (ix ((gi σ 66 13) - 1)) l3) 66 13 (((gi σ 66 13) - 1) + 1)) l1 l2 l3))))))) else (zin l5 40 = true ∧ (zin (l5 - 1) 40 = true ∧ (zin l5 40 = true ∧ (zin (l5 - 1) 40 = true ∧ (zin l5 40 = true ∧ (zin (l5 - 1) 40 = true ∧ (zin l5 40 = true ∧ (zin (l5 - 1) 40 = true ∧ zwp X d MX12_changes 34 [.ref 66, .int l1, .int l2, .int l3, .int l4, .int (l5 + 1)] [] (zen (si (si (si (si σ 73 (ix (l5 - 1)) (gi σ 73 (ix l5))) 74 (ix (l5 - 1)) (gi σ 74 (ix l5))) 75 (ix (l5 - 1)) (gi σ 75 (ix l5))) 76 (ix (l5 - 1)) (gi σ 76 (ix l5)))) Q))))))))) :=
  Eq.trans (q_iload (pc := 34) dX12_changes_34 rfl) (Eq.trans (q_bipush (v := 40) (pc := 36) dX12_changes_36 rfl) (Eq.trans (q_icmp_ge (tgt := 111) (pc := 38) dX12_changes_38 rfl) (zite (fun hz1 => Eq.trans (q_aload_n (pc := 111) dX12_changes_111 rfl rfl) (Eq.trans (q_dup_ref (pc := 112) dX12_changes_112) (Eq.trans (q_getf (pc := 113) dX12_changes_113 zF_12_155 (z_rfiE (x := (gi σ 66 13)) zl_66 zh_66 (by decide) rfl rfl)) (Eq.trans (q_iconst (v := 1) (pc := 116) dX12_changes_116 rfl) (Eq.trans (q_isub (pc := 117) dX12_changes_117) (Eq.trans (q_pf (pc := 118) dX12_changes_118 zF_12_155 zPF_12_13 (z_pf zl_66 zh_66 rfl)) (Eq.trans (q_aload_n (pc := 121) dX12_changes_121 rfl rfl) (Eq.trans (q_getf (pc := 122) dX12_changes_122 zF_12_38 (z_rfr zl_66 zh_66 (by decide) rfl)) (Eq.trans (q_aload_n (pc := 125) dX12_changes_125 rfl rfl) (Eq.trans (q_getf (pc := 126) dX12_changes_126 zF_12_155 (z_rfiE (x := ((gi σ 66 13) - 1)) zl_66 zh_66 (by decide) rfl rfl)) (Eq.trans (q_iload_n (pc := 129) dX12_changes_129 rfl rfl) (Eq.trans (q_iastore (pc := 130) dX12_changes_130 (zN_lt zl_73) (z_ia zl_73 zh_73 (by decide)) (z_pi zl_73 zh_73 (by decide))) (zand fun hz2 => Eq.trans (q_aload_n (pc := 131) dX12_changes_131 rfl rfl) (Eq.trans (q_getf (pc := 132) dX12_changes_132 zF_12_41 (z_rfr zl_66 zh_66 (by decide) rfl)) (Eq.trans (q_aload_n (pc := 135) dX12_changes_135 rfl rfl) (Eq.trans (q_getf (pc := 136) dX12_changes_136 zF_12_155 (z_rfiE (x := ((gi σ 66 13) - 1)) zl_66 zh_66 (by decide) rfl rfl)) (Eq.trans (q_iload_n (pc := 139) dX12_changes_139 rfl rfl) (Eq.trans (q_iastore (pc := 140) dX12_changes_140 (zN_lt zl_74) (z_ia zl_74 zh_74 (by decide)) (z_pi zl_74 zh_74 (by decide))) (zand fun hz3 => Eq.trans (q_aload_n (pc := 141) dX12_changes_141 rfl rfl) (Eq.trans (q_getf (pc := 142) dX12_changes_142 zF_12_44 (z_rfr zl_66 zh_66 (by decide) rfl)) (Eq.trans (q_aload_n (pc := 145) dX12_changes_145 rfl rfl) (Eq.trans (q_getf (pc := 146) dX12_changes_146 zF_12_155 (z_rfiE (x := ((gi σ 66 13) - 1)) zl_66 zh_66 (by decide) rfl rfl)) (Eq.trans (q_iload (pc := 149) dX12_changes_149 rfl) (Eq.trans (q_iastore (pc := 151) dX12_changes_151 (zN_lt zl_75) (z_ia zl_75 zh_75 (by decide)) (z_pi zl_75 zh_75 (by decide))) (zand fun hz4 => Eq.trans (q_aload_n (pc := 152) dX12_changes_152 rfl rfl) (Eq.trans (q_getf (pc := 153) dX12_changes_153 zF_12_47 (z_rfr zl_66 zh_66 (by decide) rfl)) (Eq.trans (q_aload_n (pc := 156) dX12_changes_156 rfl rfl) (Eq.trans (q_getf (pc := 157) dX12_changes_157 zF_12_155 (z_rfiE (x := ((gi σ 66 13) - 1)) zl_66 zh_66 (by decide) rfl rfl)) (Eq.trans (q_iload_n (pc := 160) dX12_changes_160 rfl rfl) (Eq.trans (q_iastore (pc := 161) dX12_changes_161 (zN_lt zl_76) (z_ia zl_76 zh_76 (by decide)) (z_pi zl_76 zh_76 (by decide))) (zand fun hz5 => Eq.trans (q_aload_n (pc := 162) dX12_changes_162 rfl rfl) (Eq.trans (q_dup_ref (pc := 163) dX12_changes_163) (Eq.trans (q_getf (pc := 164) dX12_changes_164 zF_12_155 (z_rfiE (x := ((gi σ 66 13) - 1)) zl_66 zh_66 (by decide) rfl rfl)) (Eq.trans (q_iconst (v := 1) (pc := 167) dX12_changes_167 rfl) (Eq.trans (q_iadd (pc := 168) dX12_changes_168) (Eq.trans (q_pf (pc := 169) dX12_changes_169 zF_12_155 zPF_12_13 (z_pf zl_66 zh_66 rfl)) (Eq.trans (q_aload_n (pc := 172) dX12_changes_172 rfl rfl) (Eq.trans (q_iload_n (pc := 173) dX12_changes_173 rfl rfl) (Eq.trans (q_iload_n (pc := 174) dX12_changes_174 rfl rfl) (Eq.trans (q_iload_n (pc := 175) dX12_changes_175 rfl rfl) (Eq.trans (q_sumNP (q_callV (as := [.int l1, .int l2, .int l3]) (rest := []) (l0 := [.ref 66, .int l1, .int l2, .int l3]) (pc := 176) dX12_changes_176 zC_12_158 rfl (z_recv zl_66 zh_66) rfl rfl) (by omega) (s_X12_lays (si (si (si (si (si (si σ 66 13 ((gi σ 66 13) - 1)) 73 (ix ((gi σ 66 13) - 1)) l1) 74 (ix ((gi σ 66 13) - 1)) l2) 75 (ix ((gi σ 66 13) - 1)) l4) 76 (ix ((gi σ 66 13) - 1)) l3) 66 13 (((gi σ 66 13) - 1) + 1)) l1 l2 l3)) (zand fun hz6 => Eq.trans (q_iload (pc := 179) dX12_changes_179 rfl) (q_iret (pc := 181) dX12_changes_181 rfl rfl))))))))))))))))))))))))))))))))))))))))))) (fun hz1 => Eq.trans (q_aload_n (pc := 41) dX12_changes_41 rfl rfl) (Eq.trans (q_getf (pc := 42) dX12_changes_42 zF_12_38 (z_rfr zl_66 zh_66 (by decide) rfl)) (Eq.trans (q_iload (pc := 45) dX12_changes_45 rfl) (Eq.trans (q_iconst (v := 1) (pc := 47) dX12_changes_47 rfl) (Eq.trans (q_isub (pc := 48) dX12_changes_48) (Eq.trans (q_aload_n (pc := 49) dX12_changes_49 rfl rfl) (Eq.trans (q_getf (pc := 50) dX12_changes_50 zF_12_38 (z_rfr zl_66 zh_66 (by decide) rfl)) (Eq.trans (q_iload (pc := 53) dX12_changes_53 rfl) (Eq.trans (qe_iaload (x := (gi σ 73 (ix l5))) (pc := 55) dX12_changes_55 (z_ia zl_73 zh_73 (by decide)) rfl) (zand fun hz7 => Eq.trans (q_iastore (pc := 56) dX12_changes_56 (zN_lt zl_73) (z_ia zl_73 zh_73 (by decide)) (z_pi zl_73 zh_73 (by decide))) (zand fun hz8 => Eq.trans (q_aload_n (pc := 57) dX12_changes_57 rfl rfl) (Eq.trans (q_getf (pc := 58) dX12_changes_58 zF_12_41 (z_rfr zl_66 zh_66 (by decide) rfl)) (Eq.trans (q_iload (pc := 61) dX12_changes_61 rfl) (Eq.trans (q_iconst (v := 1) (pc := 63) dX12_changes_63 rfl) (Eq.trans (q_isub (pc := 64) dX12_changes_64) (Eq.trans (q_aload_n (pc := 65) dX12_changes_65 rfl rfl) (Eq.trans (q_getf (pc := 66) dX12_changes_66 zF_12_41 (z_rfr zl_66 zh_66 (by decide) rfl)) (Eq.trans (q_iload (pc := 69) dX12_changes_69 rfl) (Eq.trans (qe_iaload (x := (gi σ 74 (ix l5))) (pc := 71) dX12_changes_71 (z_ia zl_74 zh_74 (by decide)) rfl) (zand fun hz9 => Eq.trans (q_iastore (pc := 72) dX12_changes_72 (zN_lt zl_74) (z_ia zl_74 zh_74 (by decide)) (z_pi zl_74 zh_74 (by decide))) (zand fun hz10 => Eq.trans (q_aload_n (pc := 73) dX12_changes_73 rfl rfl) (Eq.trans (q_getf (pc := 74) dX12_changes_74 zF_12_44 (z_rfr zl_66 zh_66 (by decide) rfl)) (Eq.trans (q_iload (pc := 77) dX12_changes_77 rfl) (Eq.trans (q_iconst (v := 1) (pc := 79) dX12_changes_79 rfl) (Eq.trans (q_isub (pc := 80) dX12_changes_80) (Eq.trans (q_aload_n (pc := 81) dX12_changes_81 rfl rfl) (Eq.trans (q_getf (pc := 82) dX12_changes_82 zF_12_44 (z_rfr zl_66 zh_66 (by decide) rfl)) (Eq.trans (q_iload (pc := 85) dX12_changes_85 rfl) (Eq.trans (qe_iaload (x := (gi σ 75 (ix l5))) (pc := 87) dX12_changes_87 (z_ia zl_75 zh_75 (by decide)) rfl) (zand fun hz11 => Eq.trans (q_iastore (pc := 88) dX12_changes_88 (zN_lt zl_75) (z_ia zl_75 zh_75 (by decide)) (z_pi zl_75 zh_75 (by decide))) (zand fun hz12 => Eq.trans (q_aload_n (pc := 89) dX12_changes_89 rfl rfl) (Eq.trans (q_getf (pc := 90) dX12_changes_90 zF_12_47 (z_rfr zl_66 zh_66 (by decide) rfl)) (Eq.trans (q_iload (pc := 93) dX12_changes_93 rfl) (Eq.trans (q_iconst (v := 1) (pc := 95) dX12_changes_95 rfl) (Eq.trans (q_isub (pc := 96) dX12_changes_96) (Eq.trans (q_aload_n (pc := 97) dX12_changes_97 rfl rfl) (Eq.trans (q_getf (pc := 98) dX12_changes_98 zF_12_47 (z_rfr zl_66 zh_66 (by decide) rfl)) (Eq.trans (q_iload (pc := 101) dX12_changes_101 rfl) (Eq.trans (qe_iaload (x := (gi σ 76 (ix l5))) (pc := 103) dX12_changes_103 (z_ia zl_76 zh_76 (by decide)) rfl) (zand fun hz13 => Eq.trans (q_iastore (pc := 104) dX12_changes_104 (zN_lt zl_76) (z_ia zl_76 zh_76 (by decide)) (z_pi zl_76 zh_76 (by decide))) (zand fun hz14 => Eq.trans (q_iinc (c := 1) (ls' := [.ref 66, .int l1, .int l2, .int l3, .int l4, .int (l5 + 1)]) (pc := 105) dX12_changes_105 rfl rfl rfl) (Eq.trans (q_goto (tgt := 34) (pc := 108) dX12_changes_108 rfl) (rfl))))))))))))))))))))))))))))))))))))))))))))))
theorem b_X12_mend_0 {X : zX} {d : Nat} {Q : Option Value → zH → Prop} (hd : 3 ≤ d) (σ : zS) (a2 : Int32) (a3 : Int32) (a4 : Int32)  : zwp X d MX12_mend 0 [.ref 66, .int a2, .int a3, .int a4] [] (zen σ) Q = (if (f_X12_isOne σ a2 a3) = 0 then Q (some (.int (-1))) (zen σ) else (if (f_X12_mayBe σ a3 a4) = 0 then Q (some (.int (-1))) (zen σ) else zwp X (d - 1) MX12_changes 0 [.ref 66, .int a3, .int a2, .int a4, .null, .null] [] (zen σ) (fun v h' => zwp X d MX12_mend 24 [.ref 66, .int a2, .int a3, .int a4] (zpsh v []) h' Q))) :=
  Eq.trans (q_aload_n (pc := 0) dX12_mend_0 rfl rfl) (Eq.trans (q_iload_n (pc := 1) dX12_mend_1 rfl rfl) (Eq.trans (q_iload_n (pc := 2) dX12_mend_2 rfl rfl) (Eq.trans (q_sumI (q_callV (as := [.int a2, .int a3]) (rest := []) (l0 := [.ref 66, .int a2, .int a3]) (pc := 3) dX12_mend_3 zC_12_168 rfl (z_recv zl_66 zh_66) rfl rfl) (by omega) (s_X12_isOne (hd := by omega) σ a2 a3)) (Eq.trans (q_if_eq (tgt := 27) (pc := 6) dX12_mend_6 rfl) (zite (fun hz1 => Eq.trans (q_iconst (v := (-1)) (pc := 27) dX12_mend_27 rfl) (q_iret (pc := 28) dX12_mend_28 rfl rfl)) (fun hz1 => Eq.trans (q_iload_n (pc := 9) dX12_mend_9 rfl rfl) (Eq.trans (q_iload_n (pc := 10) dX12_mend_10 rfl rfl) (Eq.trans (q_sumI (q_callS (as := [.int a3, .int a4]) (rest := []) (l0 := [.int a3, .int a4]) (pc := 11) dX12_mend_11 zSN_12_172 zC_12_172 rfl rfl rfl) (by omega) (s_X12_mayBe (hd := by omega) σ a3 a4)) (Eq.trans (q_if_eq (tgt := 27) (pc := 14) dX12_mend_14 rfl) (zite (fun hz2 => Eq.trans (q_iconst (v := (-1)) (pc := 27) dX12_mend_27 rfl) (q_iret (pc := 28) dX12_mend_28 rfl rfl)) (fun hz2 => Eq.trans (q_aload_n (pc := 17) dX12_mend_17 rfl rfl) (Eq.trans (q_iload_n (pc := 18) dX12_mend_18 rfl rfl) (Eq.trans (q_iload_n (pc := 19) dX12_mend_19 rfl rfl) (Eq.trans (q_iload_n (pc := 20) dX12_mend_20 rfl rfl) (zdpos (q_callV (as := [.int a3, .int a2, .int a4]) (rest := []) (l0 := [.ref 66, .int a3, .int a2, .int a4, .null, .null]) (pc := 21) dX12_mend_21 zC_12_175 rfl (z_recv zl_66 zh_66) rfl rfl) (by omega))))))))))))))))
theorem b_X12_mend_24 {X : zX} {d : Nat} {Q : Option Value → zH → Prop} (σ : zS) (l1 : Int32) (l2 : Int32) (l3 : Int32) (t0 : Int32)  : zwp X d MX12_mend 24 [.ref 66, .int l1, .int l2, .int l3] [.int t0] (zen σ) Q = Q (some (.int t0)) (zen σ) :=
  Eq.trans (q_goto (tgt := 28) (pc := 24) dX12_mend_24 rfl) (q_iret (pc := 28) dX12_mend_28 rfl rfl)
theorem b_X12_figure_0 {X : zX} {d : Nat} {Q : Option Value → zH → Prop} (σ : zS)  : zwp X d MX12_figure 0 [.ref 66, .null, .null] [] (zen σ) Q = zwp X d MX12_figure 4 [.ref 66, .int 0, .int 0] [] (zen σ) Q :=
  Eq.trans (q_iconst (v := 0) (pc := 0) dX12_figure_0 rfl) (Eq.trans (q_istore_n (ls' := [.ref 66, .int 0, .null]) (pc := 1) dX12_figure_1 rfl (Nat.le_of_ble_eq_true rfl) rfl) (Eq.trans (q_iconst (v := 0) (pc := 2) dX12_figure_2 rfl) (Eq.trans (q_istore_n (ls' := [.ref 66, .int 0, .int 0]) (pc := 3) dX12_figure_3 rfl (Nat.le_of_ble_eq_true rfl) rfl) (rfl))))
theorem b_X12_figure_4 {X : zX} {d : Nat} {Q : Option Value → zH → Prop} (hd : 1 ≤ d) (σ : zS) (l1 : Int32) (l2 : Int32)  : zwp X d MX12_figure 4 [.ref 66, .int l1, .int l2] [] (zen σ) Q = (if 4 ≤ l2 then (if l2 = 0 then (p_X12_addStep (g_X12_wrong σ) 1 l1 ∧ Q none (zen (g_X12_addStep (g_X12_wrong σ) 1 l1))) else (p_X12_look σ ∧ (if (f_X12_in σ (f_X12_look σ) 48 57) = 0 then (p_X12_addStep σ 1 l1 ∧ Q none (zen (g_X12_addStep σ 1 l1))) else (p_X12_addStep (g_X12_wrong σ) 1 l1 ∧ Q none (zen (g_X12_addStep (g_X12_wrong σ) 1 l1)))))) else (p_X12_look σ ∧ (if (f_X12_in σ (f_X12_look σ) 48 57) = 0 then (if l2 = 0 then (p_X12_addStep (g_X12_wrong σ) 1 l1 ∧ Q none (zen (g_X12_addStep (g_X12_wrong σ) 1 l1))) else (p_X12_look σ ∧ (if (f_X12_in σ (f_X12_look σ) 48 57) = 0 then (p_X12_addStep σ 1 l1 ∧ Q none (zen (g_X12_addStep σ 1 l1))) else (p_X12_addStep (g_X12_wrong σ) 1 l1 ∧ Q none (zen (g_X12_addStep (g_X12_wrong σ) 1 l1)))))) else (p_X12_look σ ∧ zwp X d MX12_figure 4 [.ref 66, .int (((10 * l1) + (f_X12_look σ)) - 48), .int (l2 + 1)] [] (zen (si σ 66 21 ((gi σ 66 21) + 1))) Q)))) :=
  Eq.trans (q_iload_n (pc := 4) dX12_figure_4 rfl rfl) (Eq.trans (q_iconst (v := 4) (pc := 5) dX12_figure_5 rfl) (Eq.trans (q_icmp_ge (tgt := 52) (pc := 6) dX12_figure_6 rfl) (zite (fun hz1 => Eq.trans (q_iload_n (pc := 52) dX12_figure_52 rfl rfl) (Eq.trans (q_if_eq (tgt := 70) (pc := 53) dX12_figure_53 rfl) (zite (fun hz2 => Eq.trans (q_aload_n (pc := 70) dX12_figure_70 rfl rfl) (Eq.trans (q_sumN (q_callV (as := []) (rest := []) (l0 := [.ref 66]) (pc := 71) dX12_figure_71 zC_12_193 rfl (z_recv zl_66 zh_66) rfl rfl) (by omega) (s_X12_wrong σ)) (Eq.trans (q_aload_n (pc := 74) dX12_figure_74 rfl rfl) (Eq.trans (q_iconst (v := 1) (pc := 75) dX12_figure_75 rfl) (Eq.trans (q_iload_n (pc := 76) dX12_figure_76 rfl rfl) (Eq.trans (q_sumNP (q_callV (as := [.int 1, .int l1]) (rest := []) (l0 := [.ref 66, .int 1, .int l1]) (pc := 77) dX12_figure_77 zC_12_200 rfl (z_recv zl_66 zh_66) rfl rfl) (by omega) (s_X12_addStep (g_X12_wrong σ) 1 l1)) (zand fun hz3 => q_vret (pc := 80) dX12_figure_80 rfl))))))) (fun hz2 => Eq.trans (q_aload_n (pc := 56) dX12_figure_56 rfl rfl) (Eq.trans (q_sumIP (q_callV (as := []) (rest := []) (l0 := [.ref 66]) (pc := 57) dX12_figure_57 zC_12_196 rfl (z_recv zl_66 zh_66) rfl rfl) (by omega) (s_X12_look σ)) (zand fun hz4 => Eq.trans (q_bipush (v := 48) (pc := 60) dX12_figure_60 rfl) (Eq.trans (q_bipush (v := 57) (pc := 62) dX12_figure_62 rfl) (Eq.trans (q_sumI (q_callS (as := [.int (f_X12_look σ), .int 48, .int 57]) (rest := []) (l0 := [.int (f_X12_look σ), .int 48, .int 57]) (pc := 64) dX12_figure_64 zSN_12_128 zC_12_128 rfl rfl rfl) (by omega) (s_X12_in σ (f_X12_look σ) 48 57)) (Eq.trans (q_if_eq (tgt := 74) (pc := 67) dX12_figure_67 rfl) (zite (fun hz5 => Eq.trans (q_aload_n (pc := 74) dX12_figure_74 rfl rfl) (Eq.trans (q_iconst (v := 1) (pc := 75) dX12_figure_75 rfl) (Eq.trans (q_iload_n (pc := 76) dX12_figure_76 rfl rfl) (Eq.trans (q_sumNP (q_callV (as := [.int 1, .int l1]) (rest := []) (l0 := [.ref 66, .int 1, .int l1]) (pc := 77) dX12_figure_77 zC_12_200 rfl (z_recv zl_66 zh_66) rfl rfl) (by omega) (s_X12_addStep σ 1 l1)) (zand fun hz6 => q_vret (pc := 80) dX12_figure_80 rfl))))) (fun hz5 => Eq.trans (q_aload_n (pc := 70) dX12_figure_70 rfl rfl) (Eq.trans (q_sumN (q_callV (as := []) (rest := []) (l0 := [.ref 66]) (pc := 71) dX12_figure_71 zC_12_193 rfl (z_recv zl_66 zh_66) rfl rfl) (by omega) (s_X12_wrong σ)) (Eq.trans (q_aload_n (pc := 74) dX12_figure_74 rfl rfl) (Eq.trans (q_iconst (v := 1) (pc := 75) dX12_figure_75 rfl) (Eq.trans (q_iload_n (pc := 76) dX12_figure_76 rfl rfl) (Eq.trans (q_sumNP (q_callV (as := [.int 1, .int l1]) (rest := []) (l0 := [.ref 66, .int 1, .int l1]) (pc := 77) dX12_figure_77 zC_12_200 rfl (z_recv zl_66 zh_66) rfl rfl) (by omega) (s_X12_addStep (g_X12_wrong σ) 1 l1)) (zand fun hz7 => q_vret (pc := 80) dX12_figure_80 rfl))))))))))))))))) (fun hz1 => Eq.trans (q_aload_n (pc := 9) dX12_figure_9 rfl rfl) (Eq.trans (q_sumIP (q_callV (as := []) (rest := []) (l0 := [.ref 66]) (pc := 10) dX12_figure_10 zC_12_196 rfl (z_recv zl_66 zh_66) rfl rfl) (by omega) (s_X12_look σ)) (zand fun hz8 => Eq.trans (q_bipush (v := 48) (pc := 13) dX12_figure_13 rfl) (Eq.trans (q_bipush (v := 57) (pc := 15) dX12_figure_15 rfl) (Eq.trans (q_sumI (q_callS (as := [.int (f_X12_look σ), .int 48, .int 57]) (rest := []) (l0 := [.int (f_X12_look σ), .int 48, .int 57]) (pc := 17) dX12_figure_17 zSN_12_128 zC_12_128 rfl rfl rfl) (by omega) (s_X12_in σ (f_X12_look σ) 48 57)) (Eq.trans (q_if_eq (tgt := 52) (pc := 20) dX12_figure_20 rfl) (zite (fun hz9 => Eq.trans (q_iload_n (pc := 52) dX12_figure_52 rfl rfl) (Eq.trans (q_if_eq (tgt := 70) (pc := 53) dX12_figure_53 rfl) (zite (fun hz10 => Eq.trans (q_aload_n (pc := 70) dX12_figure_70 rfl rfl) (Eq.trans (q_sumN (q_callV (as := []) (rest := []) (l0 := [.ref 66]) (pc := 71) dX12_figure_71 zC_12_193 rfl (z_recv zl_66 zh_66) rfl rfl) (by omega) (s_X12_wrong σ)) (Eq.trans (q_aload_n (pc := 74) dX12_figure_74 rfl rfl) (Eq.trans (q_iconst (v := 1) (pc := 75) dX12_figure_75 rfl) (Eq.trans (q_iload_n (pc := 76) dX12_figure_76 rfl rfl) (Eq.trans (q_sumNP (q_callV (as := [.int 1, .int l1]) (rest := []) (l0 := [.ref 66, .int 1, .int l1]) (pc := 77) dX12_figure_77 zC_12_200 rfl (z_recv zl_66 zh_66) rfl rfl) (by omega) (s_X12_addStep (g_X12_wrong σ) 1 l1)) (zand fun hz11 => q_vret (pc := 80) dX12_figure_80 rfl))))))) (fun hz10 => Eq.trans (q_aload_n (pc := 56) dX12_figure_56 rfl rfl) (Eq.trans (q_sumIP (q_callV (as := []) (rest := []) (l0 := [.ref 66]) (pc := 57) dX12_figure_57 zC_12_196 rfl (z_recv zl_66 zh_66) rfl rfl) (by omega) (s_X12_look σ)) (zand fun hz12 => Eq.trans (q_bipush (v := 48) (pc := 60) dX12_figure_60 rfl) (Eq.trans (q_bipush (v := 57) (pc := 62) dX12_figure_62 rfl) (Eq.trans (q_sumI (q_callS (as := [.int (f_X12_look σ), .int 48, .int 57]) (rest := []) (l0 := [.int (f_X12_look σ), .int 48, .int 57]) (pc := 64) dX12_figure_64 zSN_12_128 zC_12_128 rfl rfl rfl) (by omega) (s_X12_in σ (f_X12_look σ) 48 57)) (Eq.trans (q_if_eq (tgt := 74) (pc := 67) dX12_figure_67 rfl) (zite (fun hz13 => Eq.trans (q_aload_n (pc := 74) dX12_figure_74 rfl rfl) (Eq.trans (q_iconst (v := 1) (pc := 75) dX12_figure_75 rfl) (Eq.trans (q_iload_n (pc := 76) dX12_figure_76 rfl rfl) (Eq.trans (q_sumNP (q_callV (as := [.int 1, .int l1]) (rest := []) (l0 := [.ref 66, .int 1, .int l1]) (pc := 77) dX12_figure_77 zC_12_200 rfl (z_recv zl_66 zh_66) rfl rfl) (by omega) (s_X12_addStep σ 1 l1)) (zand fun hz14 => q_vret (pc := 80) dX12_figure_80 rfl))))) (fun hz13 => Eq.trans (q_aload_n (pc := 70) dX12_figure_70 rfl rfl) (Eq.trans (q_sumN (q_callV (as := []) (rest := []) (l0 := [.ref 66]) (pc := 71) dX12_figure_71 zC_12_193 rfl (z_recv zl_66 zh_66) rfl rfl) (by omega) (s_X12_wrong σ)) (Eq.trans (q_aload_n (pc := 74) dX12_figure_74 rfl rfl) (Eq.trans (q_iconst (v := 1) (pc := 75) dX12_figure_75 rfl) (Eq.trans (q_iload_n (pc := 76) dX12_figure_76 rfl rfl) (Eq.trans (q_sumNP (q_callV (as := [.int 1, .int l1]) (rest := []) (l0 := [.ref 66, .int 1, .int l1]) (pc := 77) dX12_figure_77 zC_12_200 rfl (z_recv zl_66 zh_66) rfl rfl) (by omega) (s_X12_addStep (g_X12_wrong σ) 1 l1)) (zand fun hz15 => q_vret (pc := 80) dX12_figure_80 rfl))))))))))))))))) (fun hz9 => Eq.trans (q_bipush (v := 10) (pc := 23) dX12_figure_23 rfl) (Eq.trans (q_iload_n (pc := 25) dX12_figure_25 rfl rfl) (Eq.trans (q_imul (pc := 26) dX12_figure_26) (Eq.trans (q_aload_n (pc := 27) dX12_figure_27 rfl rfl) (Eq.trans (q_sumIP (q_callV (as := []) (rest := [.int (10 * l1)]) (l0 := [.ref 66]) (pc := 28) dX12_figure_28 zC_12_196 rfl (z_recv zl_66 zh_66) rfl rfl) (by omega) (s_X12_look σ)) (zand fun hz16 => Eq.trans (q_iadd (pc := 31) dX12_figure_31) (Eq.trans (q_bipush (v := 48) (pc := 32) dX12_figure_32 rfl) (Eq.trans (q_isub (pc := 34) dX12_figure_34) (Eq.trans (q_istore_n (ls' := [.ref 66, .int (((10 * l1) + (f_X12_look σ)) - 48), .int l2]) (pc := 35) dX12_figure_35 rfl (Nat.le_of_ble_eq_true rfl) rfl) (Eq.trans (q_iinc (c := 1) (ls' := [.ref 66, .int (((10 * l1) + (f_X12_look σ)) - 48), .int (l2 + 1)]) (pc := 36) dX12_figure_36 rfl rfl rfl) (Eq.trans (q_aload_n (pc := 39) dX12_figure_39 rfl rfl) (Eq.trans (q_dup_ref (pc := 40) dX12_figure_40) (Eq.trans (q_getf (pc := 41) dX12_figure_41 zF_12_181 (z_rfiE (x := (gi σ 66 21)) zl_66 zh_66 (by decide) rfl rfl)) (Eq.trans (q_iconst (v := 1) (pc := 44) dX12_figure_44 rfl) (Eq.trans (q_iadd (pc := 45) dX12_figure_45) (Eq.trans (q_pf (pc := 46) dX12_figure_46 zF_12_181 zPF_12_21 (z_pf zl_66 zh_66 rfl)) (Eq.trans (q_goto (tgt := 4) (pc := 49) dX12_figure_49 rfl) (rfl))))))))))))))))))))))))))))
