theorem dX7_init_0 : decode cX7_init 0 = .ok (.aload_n 0, 1) := by decide +kernel
theorem dX7_init_1 : decode cX7_init 1 = .ok (.invokespecial 3, 3) := by decide +kernel
theorem dX7_init_4 : decode cX7_init 4 = .ok (.aload_n 0, 1) := by decide +kernel
theorem dX7_init_5 : decode cX7_init 5 = .ok (.iconst 3, 1) := by decide +kernel
theorem dX7_init_6 : decode cX7_init 6 = .ok (.putfield 9, 3) := by decide +kernel
theorem dX7_init_9 : decode cX7_init 9 = .ok (.aload_n 0, 1) := by decide +kernel
theorem dX7_init_10 : decode cX7_init 10 = .ok (.bipush 16, 2) := by decide +kernel
theorem dX7_init_12 : decode cX7_init 12 = .ok (.newarray .int, 2) := by decide +kernel
theorem dX7_init_14 : decode cX7_init 14 = .ok (.putfield 15, 3) := by decide +kernel
theorem dX7_init_17 : decode cX7_init 17 = .ok (.return_, 1) := by decide +kernel
theorem dX7_restart_0 : decode cX7_restart 0 = .ok (.aload_n 0, 1) := by decide +kernel
theorem dX7_restart_1 : decode cX7_restart 1 = .ok (.iload_n 1, 1) := by decide +kernel
theorem dX7_restart_2 : decode cX7_restart 2 = .ok (.putfield 9, 3) := by decide +kernel
theorem dX7_restart_5 : decode cX7_restart 5 = .ok (.iconst 0, 1) := by decide +kernel
theorem dX7_restart_6 : decode cX7_restart 6 = .ok (.istore_n 2, 1) := by decide +kernel
theorem dX7_restart_7 : decode cX7_restart 7 = .ok (.iload_n 2, 1) := by decide +kernel
theorem dX7_restart_8 : decode cX7_restart 8 = .ok (.aload_n 0, 1) := by decide +kernel
theorem dX7_restart_9 : decode cX7_restart 9 = .ok (.getfield 15, 3) := by decide +kernel
theorem dX7_restart_12 : decode cX7_restart 12 = .ok (.arraylength, 1) := by decide +kernel
theorem dX7_restart_13 : decode cX7_restart 13 = .ok (.if_icmp .ge 16, 3) := by decide +kernel
theorem dX7_restart_16 : decode cX7_restart 16 = .ok (.aload_n 0, 1) := by decide +kernel
theorem dX7_restart_17 : decode cX7_restart 17 = .ok (.getfield 15, 3) := by decide +kernel
theorem dX7_restart_20 : decode cX7_restart 20 = .ok (.iload_n 2, 1) := by decide +kernel
theorem dX7_restart_21 : decode cX7_restart 21 = .ok (.iconst 0, 1) := by decide +kernel
theorem dX7_restart_22 : decode cX7_restart 22 = .ok (.iastore, 1) := by decide +kernel
theorem dX7_restart_23 : decode cX7_restart 23 = .ok (.iinc 2 1, 3) := by decide +kernel
theorem dX7_restart_26 : decode cX7_restart 26 = .ok (.goto (-19), 3) := by decide +kernel
theorem dX7_restart_29 : decode cX7_restart 29 = .ok (.return_, 1) := by decide +kernel
theorem dX7_all_0 : decode cX7_all 0 = .ok (.iconst 1, 1) := by decide +kernel
theorem dX7_all_1 : decode cX7_all 1 = .ok (.aload_n 0, 1) := by decide +kernel
theorem dX7_all_2 : decode cX7_all 2 = .ok (.getfield 9, 3) := by decide +kernel
theorem dX7_all_5 : decode cX7_all 5 = .ok (.ishl, 1) := by decide +kernel
theorem dX7_all_6 : decode cX7_all 6 = .ok (.iconst 1, 1) := by decide +kernel
theorem dX7_all_7 : decode cX7_all 7 = .ok (.isub, 1) := by decide +kernel
theorem dX7_all_8 : decode cX7_all 8 = .ok (.ireturn, 1) := by decide +kernel
theorem dX7_knowsSet_0 : decode cX7_knowsSet 0 = .ok (.iload_n 1, 1) := by decide +kernel
theorem dX7_knowsSet_1 : decode cX7_knowsSet 1 = .ok (.iconst 1, 1) := by decide +kernel
theorem dX7_knowsSet_2 : decode cX7_knowsSet 2 = .ok (.aload_n 0, 1) := by decide +kernel
theorem dX7_knowsSet_3 : decode cX7_knowsSet 3 = .ok (.invokevirtual 19, 3) := by decide +kernel
theorem dX7_knowsSet_6 : decode cX7_knowsSet 6 = .ok (.invokestatic 23, 3) := by decide +kernel
theorem dX7_knowsSet_9 : decode cX7_knowsSet 9 = .ok (.ireturn, 1) := by decide +kernel
theorem dX7_knowsSide_0 : decode cX7_knowsSide 0 = .ok (.iload_n 1, 1) := by decide +kernel
theorem dX7_knowsSide_1 : decode cX7_knowsSide 1 = .ok (.iconst 0, 1) := by decide +kernel
theorem dX7_knowsSide_2 : decode cX7_knowsSide 2 = .ok (.aload_n 0, 1) := by decide +kernel
theorem dX7_knowsSide_3 : decode cX7_knowsSide 3 = .ok (.getfield 9, 3) := by decide +kernel
theorem dX7_knowsSide_6 : decode cX7_knowsSide 6 = .ok (.iconst 1, 1) := by decide +kernel
theorem dX7_knowsSide_7 : decode cX7_knowsSide 7 = .ok (.isub, 1) := by decide +kernel
theorem dX7_knowsSide_8 : decode cX7_knowsSide 8 = .ok (.invokestatic 23, 3) := by decide +kernel
theorem dX7_knowsSide_11 : decode cX7_knowsSide 11 = .ok (.ireturn, 1) := by decide +kernel
theorem dX7_replaceWorth_0 : decode cX7_replaceWorth 0 = .ok (.aload_n 0, 1) := by decide +kernel
theorem dX7_replaceWorth_1 : decode cX7_replaceWorth 1 = .ok (.getfield 15, 3) := by decide +kernel
theorem dX7_replaceWorth_4 : decode cX7_replaceWorth 4 = .ok (.iload_n 1, 1) := by decide +kernel
theorem dX7_replaceWorth_5 : decode cX7_replaceWorth 5 = .ok (.iaload, 1) := by decide +kernel
theorem dX7_replaceWorth_6 : decode cX7_replaceWorth 6 = .ok (.istore_n 3, 1) := by decide +kernel
theorem dX7_replaceWorth_7 : decode cX7_replaceWorth 7 = .ok (.aload_n 0, 1) := by decide +kernel
theorem dX7_replaceWorth_8 : decode cX7_replaceWorth 8 = .ok (.getfield 15, 3) := by decide +kernel
theorem dX7_replaceWorth_11 : decode cX7_replaceWorth 11 = .ok (.iload_n 1, 1) := by decide +kernel
theorem dX7_replaceWorth_12 : decode cX7_replaceWorth 12 = .ok (.iload_n 2, 1) := by decide +kernel
theorem dX7_replaceWorth_13 : decode cX7_replaceWorth 13 = .ok (.iastore, 1) := by decide +kernel
theorem dX7_replaceWorth_14 : decode cX7_replaceWorth 14 = .ok (.iload_n 3, 1) := by decide +kernel
theorem dX7_replaceWorth_15 : decode cX7_replaceWorth 15 = .ok (.ireturn, 1) := by decide +kernel
theorem dX7_dividendOf_0 : decode cX7_dividendOf 0 = .ok (.iconst 0, 1) := by decide +kernel
theorem dX7_dividendOf_1 : decode cX7_dividendOf 1 = .ok (.istore_n 2, 1) := by decide +kernel
theorem dX7_dividendOf_2 : decode cX7_dividendOf 2 = .ok (.iconst 1, 1) := by decide +kernel
theorem dX7_dividendOf_3 : decode cX7_dividendOf 3 = .ok (.istore_n 3, 1) := by decide +kernel
theorem dX7_dividendOf_4 : decode cX7_dividendOf 4 = .ok (.iload_n 3, 1) := by decide +kernel
theorem dX7_dividendOf_5 : decode cX7_dividendOf 5 = .ok (.iload_n 1, 1) := by decide +kernel
theorem dX7_dividendOf_6 : decode cX7_dividendOf 6 = .ok (.if_icmp .gt 50, 3) := by decide +kernel
theorem dX7_dividendOf_9 : decode cX7_dividendOf 9 = .ok (.iload_n 3, 1) := by decide +kernel
theorem dX7_dividendOf_10 : decode cX7_dividendOf 10 = .ok (.iload_n 1, 1) := by decide +kernel
theorem dX7_dividendOf_11 : decode cX7_dividendOf 11 = .ok (.iand, 1) := by decide +kernel
theorem dX7_dividendOf_12 : decode cX7_dividendOf 12 = .ok (.iload_n 3, 1) := by decide +kernel
theorem dX7_dividendOf_13 : decode cX7_dividendOf 13 = .ok (.if_icmp .ne 37, 3) := by decide +kernel
theorem dX7_dividendOf_16 : decode cX7_dividendOf 16 = .ok (.iload_n 1, 1) := by decide +kernel
theorem dX7_dividendOf_17 : decode cX7_dividendOf 17 = .ok (.iload_n 3, 1) := by decide +kernel
theorem dX7_dividendOf_18 : decode cX7_dividendOf 18 = .ok (.isub, 1) := by decide +kernel
theorem dX7_dividendOf_19 : decode cX7_dividendOf 19 = .ok (.invokestatic 27, 3) := by decide +kernel
theorem dX7_dividendOf_22 : decode cX7_dividendOf 22 = .ok (.istore 4, 2) := by decide +kernel
theorem dX7_dividendOf_24 : decode cX7_dividendOf 24 = .ok (.iload_n 2, 1) := by decide +kernel
theorem dX7_dividendOf_25 : decode cX7_dividendOf 25 = .ok (.iload 4, 2) := by decide +kernel
theorem dX7_dividendOf_27 : decode cX7_dividendOf 27 = .ok (.iconst 2, 1) := by decide +kernel
theorem dX7_dividendOf_28 : decode cX7_dividendOf 28 = .ok (.irem, 1) := by decide +kernel
theorem dX7_dividendOf_29 : decode cX7_dividendOf 29 = .ok (.ifCond .ne 12, 3) := by decide +kernel
theorem dX7_dividendOf_32 : decode cX7_dividendOf 32 = .ok (.aload_n 0, 1) := by decide +kernel
theorem dX7_dividendOf_33 : decode cX7_dividendOf 33 = .ok (.getfield 15, 3) := by decide +kernel
theorem dX7_dividendOf_36 : decode cX7_dividendOf 36 = .ok (.iload_n 3, 1) := by decide +kernel
theorem dX7_dividendOf_37 : decode cX7_dividendOf 37 = .ok (.iaload, 1) := by decide +kernel
theorem dX7_dividendOf_38 : decode cX7_dividendOf 38 = .ok (.goto 10, 3) := by decide +kernel
theorem dX7_dividendOf_41 : decode cX7_dividendOf 41 = .ok (.aload_n 0, 1) := by decide +kernel
theorem dX7_dividendOf_42 : decode cX7_dividendOf 42 = .ok (.getfield 15, 3) := by decide +kernel
theorem dX7_dividendOf_45 : decode cX7_dividendOf 45 = .ok (.iload_n 3, 1) := by decide +kernel
theorem dX7_dividendOf_46 : decode cX7_dividendOf 46 = .ok (.iaload, 1) := by decide +kernel
theorem dX7_dividendOf_47 : decode cX7_dividendOf 47 = .ok (.ineg, 1) := by decide +kernel
theorem dX7_dividendOf_48 : decode cX7_dividendOf 48 = .ok (.iadd, 1) := by decide +kernel
theorem dX7_dividendOf_49 : decode cX7_dividendOf 49 = .ok (.istore_n 2, 1) := by decide +kernel
theorem dX7_dividendOf_50 : decode cX7_dividendOf 50 = .ok (.iinc 3 1, 3) := by decide +kernel
theorem dX7_dividendOf_53 : decode cX7_dividendOf 53 = .ok (.goto (-49), 3) := by decide +kernel
theorem dX7_dividendOf_56 : decode cX7_dividendOf 56 = .ok (.iload_n 2, 1) := by decide +kernel
theorem dX7_dividendOf_57 : decode cX7_dividendOf 57 = .ok (.ireturn, 1) := by decide +kernel
theorem dX7_digitAt_0 : decode cX7_digitAt 0 = .ok (.iload_n 1, 1) := by decide +kernel
theorem dX7_digitAt_1 : decode cX7_digitAt 1 = .ok (.iconst 2, 1) := by decide +kernel
theorem dX7_digitAt_2 : decode cX7_digitAt 2 = .ok (.aload_n 0, 1) := by decide +kernel
theorem dX7_digitAt_3 : decode cX7_digitAt 3 = .ok (.getfield 9, 3) := by decide +kernel
theorem dX7_digitAt_6 : decode cX7_digitAt 6 = .ok (.iconst 1, 1) := by decide +kernel
theorem dX7_digitAt_7 : decode cX7_digitAt 7 = .ok (.isub, 1) := by decide +kernel
theorem dX7_digitAt_8 : decode cX7_digitAt 8 = .ok (.iload_n 2, 1) := by decide +kernel
theorem dX7_digitAt_9 : decode cX7_digitAt 9 = .ok (.isub, 1) := by decide +kernel
theorem dX7_digitAt_10 : decode cX7_digitAt 10 = .ok (.imul, 1) := by decide +kernel
theorem dX7_digitAt_11 : decode cX7_digitAt 11 = .ok (.ishr, 1) := by decide +kernel
theorem dX7_digitAt_12 : decode cX7_digitAt 12 = .ok (.iconst 3, 1) := by decide +kernel
theorem dX7_digitAt_13 : decode cX7_digitAt 13 = .ok (.iand, 1) := by decide +kernel
theorem dX7_digitAt_14 : decode cX7_digitAt 14 = .ok (.ireturn, 1) := by decide +kernel
theorem dX7_knowsOrder_0 : decode cX7_knowsOrder 0 = .ok (.iload_n 1, 1) := by decide +kernel
theorem dX7_knowsOrder_1 : decode cX7_knowsOrder 1 = .ok (.iconst 0, 1) := by decide +kernel
theorem dX7_knowsOrder_2 : decode cX7_knowsOrder 2 = .ok (.iconst 1, 1) := by decide +kernel
theorem dX7_knowsOrder_3 : decode cX7_knowsOrder 3 = .ok (.iconst 2, 1) := by decide +kernel
theorem dX7_knowsOrder_4 : decode cX7_knowsOrder 4 = .ok (.aload_n 0, 1) := by decide +kernel
theorem dX7_knowsOrder_5 : decode cX7_knowsOrder 5 = .ok (.getfield 9, 3) := by decide +kernel
theorem dX7_knowsOrder_8 : decode cX7_knowsOrder 8 = .ok (.imul, 1) := by decide +kernel
theorem dX7_knowsOrder_9 : decode cX7_knowsOrder 9 = .ok (.ishl, 1) := by decide +kernel
theorem dX7_knowsOrder_10 : decode cX7_knowsOrder 10 = .ok (.iconst 1, 1) := by decide +kernel
theorem dX7_knowsOrder_11 : decode cX7_knowsOrder 11 = .ok (.isub, 1) := by decide +kernel
theorem dX7_knowsOrder_12 : decode cX7_knowsOrder 12 = .ok (.invokestatic 23, 3) := by decide +kernel
theorem dX7_knowsOrder_15 : decode cX7_knowsOrder 15 = .ok (.ifCond .ne 5, 3) := by decide +kernel
theorem dX7_knowsOrder_18 : decode cX7_knowsOrder 18 = .ok (.iconst 0, 1) := by decide +kernel
theorem dX7_knowsOrder_19 : decode cX7_knowsOrder 19 = .ok (.ireturn, 1) := by decide +kernel
theorem dX7_knowsOrder_20 : decode cX7_knowsOrder 20 = .ok (.iconst 0, 1) := by decide +kernel
theorem dX7_knowsOrder_21 : decode cX7_knowsOrder 21 = .ok (.istore_n 2, 1) := by decide +kernel
theorem dX7_knowsOrder_22 : decode cX7_knowsOrder 22 = .ok (.iconst 0, 1) := by decide +kernel
theorem dX7_knowsOrder_23 : decode cX7_knowsOrder 23 = .ok (.istore_n 3, 1) := by decide +kernel
theorem dX7_knowsOrder_24 : decode cX7_knowsOrder 24 = .ok (.iload_n 3, 1) := by decide +kernel
theorem dX7_knowsOrder_25 : decode cX7_knowsOrder 25 = .ok (.aload_n 0, 1) := by decide +kernel
theorem dX7_knowsOrder_26 : decode cX7_knowsOrder 26 = .ok (.getfield 9, 3) := by decide +kernel
theorem dX7_knowsOrder_29 : decode cX7_knowsOrder 29 = .ok (.if_icmp .ge 20, 3) := by decide +kernel
theorem dX7_knowsOrder_32 : decode cX7_knowsOrder 32 = .ok (.iload_n 2, 1) := by decide +kernel
theorem dX7_knowsOrder_33 : decode cX7_knowsOrder 33 = .ok (.iconst 1, 1) := by decide +kernel
theorem dX7_knowsOrder_34 : decode cX7_knowsOrder 34 = .ok (.aload_n 0, 1) := by decide +kernel
theorem dX7_knowsOrder_35 : decode cX7_knowsOrder 35 = .ok (.iload_n 1, 1) := by decide +kernel
theorem dX7_knowsOrder_36 : decode cX7_knowsOrder 36 = .ok (.iload_n 3, 1) := by decide +kernel
theorem dX7_knowsOrder_37 : decode cX7_knowsOrder 37 = .ok (.invokevirtual 33, 3) := by decide +kernel
theorem dX7_knowsOrder_40 : decode cX7_knowsOrder 40 = .ok (.ishl, 1) := by decide +kernel
theorem dX7_knowsOrder_41 : decode cX7_knowsOrder 41 = .ok (.ior, 1) := by decide +kernel
theorem dX7_knowsOrder_42 : decode cX7_knowsOrder 42 = .ok (.istore_n 2, 1) := by decide +kernel
theorem dX7_knowsOrder_43 : decode cX7_knowsOrder 43 = .ok (.iinc 3 1, 3) := by decide +kernel
theorem dX7_knowsOrder_46 : decode cX7_knowsOrder 46 = .ok (.goto (-22), 3) := by decide +kernel
theorem dX7_knowsOrder_49 : decode cX7_knowsOrder 49 = .ok (.iload_n 2, 1) := by decide +kernel
theorem dX7_knowsOrder_50 : decode cX7_knowsOrder 50 = .ok (.aload_n 0, 1) := by decide +kernel
theorem dX7_knowsOrder_51 : decode cX7_knowsOrder 51 = .ok (.invokevirtual 19, 3) := by decide +kernel
theorem dX7_knowsOrder_54 : decode cX7_knowsOrder 54 = .ok (.if_icmp .ne 7, 3) := by decide +kernel
theorem dX7_knowsOrder_57 : decode cX7_knowsOrder 57 = .ok (.iconst 1, 1) := by decide +kernel
theorem dX7_knowsOrder_58 : decode cX7_knowsOrder 58 = .ok (.goto 4, 3) := by decide +kernel
theorem dX7_knowsOrder_61 : decode cX7_knowsOrder 61 = .ok (.iconst 0, 1) := by decide +kernel
theorem dX7_knowsOrder_62 : decode cX7_knowsOrder 62 = .ok (.ireturn, 1) := by decide +kernel
theorem dX7_marginIn_0 : decode cX7_marginIn 0 = .ok (.iconst 0, 1) := by decide +kernel
theorem dX7_marginIn_1 : decode cX7_marginIn 1 = .ok (.istore_n 3, 1) := by decide +kernel
theorem dX7_marginIn_2 : decode cX7_marginIn 2 = .ok (.iconst 0, 1) := by decide +kernel
theorem dX7_marginIn_3 : decode cX7_marginIn 3 = .ok (.istore 4, 2) := by decide +kernel
theorem dX7_marginIn_5 : decode cX7_marginIn 5 = .ok (.iload 4, 2) := by decide +kernel
theorem dX7_marginIn_7 : decode cX7_marginIn 7 = .ok (.aload_n 0, 1) := by decide +kernel
theorem dX7_marginIn_8 : decode cX7_marginIn 8 = .ok (.getfield 9, 3) := by decide +kernel
theorem dX7_marginIn_11 : decode cX7_marginIn 11 = .ok (.if_icmp .ge 34, 3) := by decide +kernel
theorem dX7_marginIn_14 : decode cX7_marginIn 14 = .ok (.aload_n 0, 1) := by decide +kernel
theorem dX7_marginIn_15 : decode cX7_marginIn 15 = .ok (.iload_n 1, 1) := by decide +kernel
theorem dX7_marginIn_16 : decode cX7_marginIn 16 = .ok (.iload 4, 2) := by decide +kernel
theorem dX7_marginIn_18 : decode cX7_marginIn 18 = .ok (.invokevirtual 33, 3) := by decide +kernel
theorem dX7_marginIn_21 : decode cX7_marginIn 21 = .ok (.istore 5, 2) := by decide +kernel
theorem dX7_marginIn_23 : decode cX7_marginIn 23 = .ok (.iload 5, 2) := by decide +kernel
theorem dX7_marginIn_25 : decode cX7_marginIn 25 = .ok (.iload_n 2, 1) := by decide +kernel
theorem dX7_marginIn_26 : decode cX7_marginIn 26 = .ok (.if_icmp .ne 6, 3) := by decide +kernel
theorem dX7_marginIn_29 : decode cX7_marginIn 29 = .ok (.goto 16, 3) := by decide +kernel
theorem dX7_marginIn_32 : decode cX7_marginIn 32 = .ok (.iload_n 3, 1) := by decide +kernel
theorem dX7_marginIn_33 : decode cX7_marginIn 33 = .ok (.iconst 1, 1) := by decide +kernel
theorem dX7_marginIn_34 : decode cX7_marginIn 34 = .ok (.iload 5, 2) := by decide +kernel
theorem dX7_marginIn_36 : decode cX7_marginIn 36 = .ok (.ishl, 1) := by decide +kernel
theorem dX7_marginIn_37 : decode cX7_marginIn 37 = .ok (.ior, 1) := by decide +kernel
theorem dX7_marginIn_38 : decode cX7_marginIn 38 = .ok (.istore_n 3, 1) := by decide +kernel
theorem dX7_marginIn_39 : decode cX7_marginIn 39 = .ok (.iinc 4 1, 3) := by decide +kernel
theorem dX7_marginIn_42 : decode cX7_marginIn 42 = .ok (.goto (-37), 3) := by decide +kernel
theorem dX7_marginIn_45 : decode cX7_marginIn 45 = .ok (.aload_n 0, 1) := by decide +kernel
theorem dX7_marginIn_46 : decode cX7_marginIn 46 = .ok (.iload_n 3, 1) := by decide +kernel
theorem dX7_marginIn_47 : decode cX7_marginIn 47 = .ok (.iload_n 2, 1) := by decide +kernel
theorem dX7_marginIn_48 : decode cX7_marginIn 48 = .ok (.invokevirtual 37, 3) := by decide +kernel
theorem dX7_marginIn_51 : decode cX7_marginIn 51 = .ok (.ireturn, 1) := by decide +kernel
theorem dX7_added_0 : decode cX7_added 0 = .ok (.aload_n 0, 1) := by decide +kernel
theorem dX7_added_1 : decode cX7_added 1 = .ok (.getfield 15, 3) := by decide +kernel
theorem dX7_added_4 : decode cX7_added 4 = .ok (.iload_n 1, 1) := by decide +kernel
theorem dX7_added_5 : decode cX7_added 5 = .ok (.iconst 1, 1) := by decide +kernel
theorem dX7_added_6 : decode cX7_added 6 = .ok (.iload_n 2, 1) := by decide +kernel
theorem dX7_added_7 : decode cX7_added 7 = .ok (.ishl, 1) := by decide +kernel
theorem dX7_added_8 : decode cX7_added 8 = .ok (.ior, 1) := by decide +kernel
theorem dX7_added_9 : decode cX7_added 9 = .ok (.iaload, 1) := by decide +kernel
theorem dX7_added_10 : decode cX7_added 10 = .ok (.aload_n 0, 1) := by decide +kernel
theorem dX7_added_11 : decode cX7_added 11 = .ok (.getfield 15, 3) := by decide +kernel
theorem dX7_added_14 : decode cX7_added 14 = .ok (.iload_n 1, 1) := by decide +kernel
theorem dX7_added_15 : decode cX7_added 15 = .ok (.iaload, 1) := by decide +kernel
theorem dX7_added_16 : decode cX7_added 16 = .ok (.isub, 1) := by decide +kernel
theorem dX7_added_17 : decode cX7_added 17 = .ok (.ireturn, 1) := by decide +kernel
theorem dX7_marginsInOrders_0 : decode cX7_marginsInOrders 0 = .ok (.iconst 0, 1) := by decide +kernel
theorem dX7_marginsInOrders_1 : decode cX7_marginsInOrders 1 = .ok (.istore_n 2, 1) := by decide +kernel
theorem dX7_marginsInOrders_2 : decode cX7_marginsInOrders 2 = .ok (.iconst 0, 1) := by decide +kernel
theorem dX7_marginsInOrders_3 : decode cX7_marginsInOrders 3 = .ok (.istore_n 3, 1) := by decide +kernel
theorem dX7_marginsInOrders_4 : decode cX7_marginsInOrders 4 = .ok (.iload_n 3, 1) := by decide +kernel
theorem dX7_marginsInOrders_5 : decode cX7_marginsInOrders 5 = .ok (.aload_n 0, 1) := by decide +kernel
theorem dX7_marginsInOrders_6 : decode cX7_marginsInOrders 6 = .ok (.invokevirtual 19, 3) := by decide +kernel
theorem dX7_marginsInOrders_9 : decode cX7_marginsInOrders 9 = .ok (.if_icmp .gt 38, 3) := by decide +kernel
theorem dX7_marginsInOrders_12 : decode cX7_marginsInOrders 12 = .ok (.iload_n 3, 1) := by decide +kernel
theorem dX7_marginsInOrders_13 : decode cX7_marginsInOrders 13 = .ok (.iload_n 1, 1) := by decide +kernel
theorem dX7_marginsInOrders_14 : decode cX7_marginsInOrders 14 = .ok (.invokestatic 40, 3) := by decide +kernel
theorem dX7_marginsInOrders_17 : decode cX7_marginsInOrders 17 = .ok (.ifCond .ne 24, 3) := by decide +kernel
theorem dX7_marginsInOrders_20 : decode cX7_marginsInOrders 20 = .ok (.iload_n 2, 1) := by decide +kernel
theorem dX7_marginsInOrders_21 : decode cX7_marginsInOrders 21 = .ok (.iload_n 3, 1) := by decide +kernel
theorem dX7_marginsInOrders_22 : decode cX7_marginsInOrders 22 = .ok (.invokestatic 27, 3) := by decide +kernel
theorem dX7_marginsInOrders_25 : decode cX7_marginsInOrders 25 = .ok (.aload_n 0, 1) := by decide +kernel
theorem dX7_marginsInOrders_26 : decode cX7_marginsInOrders 26 = .ok (.getfield 9, 3) := by decide +kernel
theorem dX7_marginsInOrders_29 : decode cX7_marginsInOrders 29 = .ok (.invokestatic 44, 3) := by decide +kernel
theorem dX7_marginsInOrders_32 : decode cX7_marginsInOrders 32 = .ok (.aload_n 0, 1) := by decide +kernel
theorem dX7_marginsInOrders_33 : decode cX7_marginsInOrders 33 = .ok (.iload_n 3, 1) := by decide +kernel
theorem dX7_marginsInOrders_34 : decode cX7_marginsInOrders 34 = .ok (.iload_n 1, 1) := by decide +kernel
theorem dX7_marginsInOrders_35 : decode cX7_marginsInOrders 35 = .ok (.invokevirtual 37, 3) := by decide +kernel
theorem dX7_marginsInOrders_38 : decode cX7_marginsInOrders 38 = .ok (.imul, 1) := by decide +kernel
theorem dX7_marginsInOrders_39 : decode cX7_marginsInOrders 39 = .ok (.iadd, 1) := by decide +kernel
theorem dX7_marginsInOrders_40 : decode cX7_marginsInOrders 40 = .ok (.istore_n 2, 1) := by decide +kernel
theorem dX7_marginsInOrders_41 : decode cX7_marginsInOrders 41 = .ok (.iinc 3 1, 3) := by decide +kernel
theorem dX7_marginsInOrders_44 : decode cX7_marginsInOrders 44 = .ok (.goto (-40), 3) := by decide +kernel
theorem dX7_marginsInOrders_47 : decode cX7_marginsInOrders 47 = .ok (.iload_n 2, 1) := by decide +kernel
theorem dX7_marginsInOrders_48 : decode cX7_marginsInOrders 48 = .ok (.ireturn, 1) := by decide +kernel
theorem dX7_marginsOverSets_0 : decode cX7_marginsOverSets 0 = .ok (.iconst 0, 1) := by decide +kernel
theorem dX7_marginsOverSets_1 : decode cX7_marginsOverSets 1 = .ok (.istore_n 2, 1) := by decide +kernel
theorem dX7_marginsOverSets_2 : decode cX7_marginsOverSets 2 = .ok (.iconst 0, 1) := by decide +kernel
theorem dX7_marginsOverSets_3 : decode cX7_marginsOverSets 3 = .ok (.istore_n 3, 1) := by decide +kernel
theorem dX7_marginsOverSets_4 : decode cX7_marginsOverSets 4 = .ok (.iload_n 3, 1) := by decide +kernel
theorem dX7_marginsOverSets_5 : decode cX7_marginsOverSets 5 = .ok (.aload_n 0, 1) := by decide +kernel
theorem dX7_marginsOverSets_6 : decode cX7_marginsOverSets 6 = .ok (.invokevirtual 19, 3) := by decide +kernel
theorem dX7_marginsOverSets_9 : decode cX7_marginsOverSets 9 = .ok (.if_icmp .gt 26, 3) := by decide +kernel
theorem dX7_marginsOverSets_12 : decode cX7_marginsOverSets 12 = .ok (.iload_n 3, 1) := by decide +kernel
theorem dX7_marginsOverSets_13 : decode cX7_marginsOverSets 13 = .ok (.iload_n 1, 1) := by decide +kernel
theorem dX7_marginsOverSets_14 : decode cX7_marginsOverSets 14 = .ok (.invokestatic 40, 3) := by decide +kernel
theorem dX7_marginsOverSets_17 : decode cX7_marginsOverSets 17 = .ok (.ifCond .ne 12, 3) := by decide +kernel
theorem dX7_marginsOverSets_20 : decode cX7_marginsOverSets 20 = .ok (.iload_n 2, 1) := by decide +kernel
theorem dX7_marginsOverSets_21 : decode cX7_marginsOverSets 21 = .ok (.aload_n 0, 1) := by decide +kernel
theorem dX7_marginsOverSets_22 : decode cX7_marginsOverSets 22 = .ok (.iload_n 3, 1) := by decide +kernel
theorem dX7_marginsOverSets_23 : decode cX7_marginsOverSets 23 = .ok (.iload_n 1, 1) := by decide +kernel
theorem dX7_marginsOverSets_24 : decode cX7_marginsOverSets 24 = .ok (.invokevirtual 37, 3) := by decide +kernel
theorem dX7_marginsOverSets_27 : decode cX7_marginsOverSets 27 = .ok (.iadd, 1) := by decide +kernel
theorem dX7_marginsOverSets_28 : decode cX7_marginsOverSets 28 = .ok (.istore_n 2, 1) := by decide +kernel
theorem dX7_marginsOverSets_29 : decode cX7_marginsOverSets 29 = .ok (.iinc 3 1, 3) := by decide +kernel
theorem dX7_marginsOverSets_32 : decode cX7_marginsOverSets 32 = .ok (.goto (-28), 3) := by decide +kernel
theorem dX7_marginsOverSets_35 : decode cX7_marginsOverSets 35 = .ok (.iload_n 2, 1) := by decide +kernel
theorem dX7_marginsOverSets_36 : decode cX7_marginsOverSets 36 = .ok (.ireturn, 1) := by decide +kernel
theorem dX7_firstBetterApart_0 : decode cX7_firstBetterApart 0 = .ok (.iconst 1, 1) := by decide +kernel
theorem dX7_firstBetterApart_1 : decode cX7_firstBetterApart 1 = .ok (.istore_n 1, 1) := by decide +kernel
theorem dX7_firstBetterApart_2 : decode cX7_firstBetterApart 2 = .ok (.iload_n 1, 1) := by decide +kernel
theorem dX7_firstBetterApart_3 : decode cX7_firstBetterApart 3 = .ok (.aload_n 0, 1) := by decide +kernel
theorem dX7_firstBetterApart_4 : decode cX7_firstBetterApart 4 = .ok (.invokevirtual 19, 3) := by decide +kernel
theorem dX7_firstBetterApart_7 : decode cX7_firstBetterApart 7 = .ok (.if_icmp .gt 64, 3) := by decide +kernel
theorem dX7_firstBetterApart_10 : decode cX7_firstBetterApart 10 = .ok (.iload_n 1, 1) := by decide +kernel
theorem dX7_firstBetterApart_11 : decode cX7_firstBetterApart 11 = .ok (.iconst 1, 1) := by decide +kernel
theorem dX7_firstBetterApart_12 : decode cX7_firstBetterApart 12 = .ok (.iadd, 1) := by decide +kernel
theorem dX7_firstBetterApart_13 : decode cX7_firstBetterApart 13 = .ok (.istore_n 2, 1) := by decide +kernel
theorem dX7_firstBetterApart_14 : decode cX7_firstBetterApart 14 = .ok (.iload_n 2, 1) := by decide +kernel
theorem dX7_firstBetterApart_15 : decode cX7_firstBetterApart 15 = .ok (.aload_n 0, 1) := by decide +kernel
theorem dX7_firstBetterApart_16 : decode cX7_firstBetterApart 16 = .ok (.invokevirtual 19, 3) := by decide +kernel
theorem dX7_firstBetterApart_19 : decode cX7_firstBetterApart 19 = .ok (.if_icmp .gt 46, 3) := by decide +kernel
theorem dX7_firstBetterApart_22 : decode cX7_firstBetterApart 22 = .ok (.iload_n 1, 1) := by decide +kernel
theorem dX7_firstBetterApart_23 : decode cX7_firstBetterApart 23 = .ok (.iload_n 2, 1) := by decide +kernel
theorem dX7_firstBetterApart_24 : decode cX7_firstBetterApart 24 = .ok (.iand, 1) := by decide +kernel
theorem dX7_firstBetterApart_25 : decode cX7_firstBetterApart 25 = .ok (.ifCond .ne 34, 3) := by decide +kernel
theorem dX7_firstBetterApart_28 : decode cX7_firstBetterApart 28 = .ok (.aload_n 0, 1) := by decide +kernel
theorem dX7_firstBetterApart_29 : decode cX7_firstBetterApart 29 = .ok (.getfield 15, 3) := by decide +kernel
theorem dX7_firstBetterApart_32 : decode cX7_firstBetterApart 32 = .ok (.iload_n 1, 1) := by decide +kernel
theorem dX7_firstBetterApart_33 : decode cX7_firstBetterApart 33 = .ok (.iaload, 1) := by decide +kernel
theorem dX7_firstBetterApart_34 : decode cX7_firstBetterApart 34 = .ok (.aload_n 0, 1) := by decide +kernel
theorem dX7_firstBetterApart_35 : decode cX7_firstBetterApart 35 = .ok (.getfield 15, 3) := by decide +kernel
theorem dX7_firstBetterApart_38 : decode cX7_firstBetterApart 38 = .ok (.iload_n 2, 1) := by decide +kernel
theorem dX7_firstBetterApart_39 : decode cX7_firstBetterApart 39 = .ok (.iaload, 1) := by decide +kernel
theorem dX7_firstBetterApart_40 : decode cX7_firstBetterApart 40 = .ok (.iadd, 1) := by decide +kernel
theorem dX7_firstBetterApart_41 : decode cX7_firstBetterApart 41 = .ok (.aload_n 0, 1) := by decide +kernel
theorem dX7_firstBetterApart_42 : decode cX7_firstBetterApart 42 = .ok (.getfield 15, 3) := by decide +kernel
theorem dX7_firstBetterApart_45 : decode cX7_firstBetterApart 45 = .ok (.iload_n 1, 1) := by decide +kernel
theorem dX7_firstBetterApart_46 : decode cX7_firstBetterApart 46 = .ok (.iload_n 2, 1) := by decide +kernel
theorem dX7_firstBetterApart_47 : decode cX7_firstBetterApart 47 = .ok (.ior, 1) := by decide +kernel
theorem dX7_firstBetterApart_48 : decode cX7_firstBetterApart 48 = .ok (.iaload, 1) := by decide +kernel
theorem dX7_firstBetterApart_49 : decode cX7_firstBetterApart 49 = .ok (.if_icmp .le 10, 3) := by decide +kernel
theorem dX7_firstBetterApart_52 : decode cX7_firstBetterApart 52 = .ok (.bipush 16, 2) := by decide +kernel
theorem dX7_firstBetterApart_54 : decode cX7_firstBetterApart 54 = .ok (.iload_n 1, 1) := by decide +kernel
theorem dX7_firstBetterApart_55 : decode cX7_firstBetterApart 55 = .ok (.imul, 1) := by decide +kernel
theorem dX7_firstBetterApart_56 : decode cX7_firstBetterApart 56 = .ok (.iload_n 2, 1) := by decide +kernel
theorem dX7_firstBetterApart_57 : decode cX7_firstBetterApart 57 = .ok (.iadd, 1) := by decide +kernel
theorem dX7_firstBetterApart_58 : decode cX7_firstBetterApart 58 = .ok (.ireturn, 1) := by decide +kernel
theorem dX7_firstBetterApart_59 : decode cX7_firstBetterApart 59 = .ok (.iinc 2 1, 3) := by decide +kernel
theorem dX7_firstBetterApart_62 : decode cX7_firstBetterApart 62 = .ok (.goto (-48), 3) := by decide +kernel
theorem dX7_firstBetterApart_65 : decode cX7_firstBetterApart 65 = .ok (.iinc 1 1, 3) := by decide +kernel
theorem dX7_firstBetterApart_68 : decode cX7_firstBetterApart 68 = .ok (.goto (-66), 3) := by decide +kernel
theorem dX7_firstBetterApart_71 : decode cX7_firstBetterApart 71 = .ok (.iconst (-1), 1) := by decide +kernel
theorem dX7_firstBetterApart_72 : decode cX7_firstBetterApart 72 = .ok (.ireturn, 1) := by decide +kernel
theorem dX7_firstLessByMore_0 : decode cX7_firstLessByMore 0 = .ok (.iconst 1, 1) := by decide +kernel
theorem dX7_firstLessByMore_1 : decode cX7_firstLessByMore 1 = .ok (.istore_n 1, 1) := by decide +kernel
theorem dX7_firstLessByMore_2 : decode cX7_firstLessByMore 2 = .ok (.iload_n 1, 1) := by decide +kernel
theorem dX7_firstLessByMore_3 : decode cX7_firstLessByMore 3 = .ok (.aload_n 0, 1) := by decide +kernel
theorem dX7_firstLessByMore_4 : decode cX7_firstLessByMore 4 = .ok (.invokevirtual 19, 3) := by decide +kernel
theorem dX7_firstLessByMore_7 : decode cX7_firstLessByMore 7 = .ok (.if_icmp .gt 67, 3) := by decide +kernel
theorem dX7_firstLessByMore_10 : decode cX7_firstLessByMore 10 = .ok (.iload_n 1, 1) := by decide +kernel
theorem dX7_firstLessByMore_11 : decode cX7_firstLessByMore 11 = .ok (.iconst 1, 1) := by decide +kernel
theorem dX7_firstLessByMore_12 : decode cX7_firstLessByMore 12 = .ok (.iadd, 1) := by decide +kernel
theorem dX7_firstLessByMore_13 : decode cX7_firstLessByMore 13 = .ok (.istore_n 2, 1) := by decide +kernel
theorem dX7_firstLessByMore_14 : decode cX7_firstLessByMore 14 = .ok (.iload_n 2, 1) := by decide +kernel
theorem dX7_firstLessByMore_15 : decode cX7_firstLessByMore 15 = .ok (.aload_n 0, 1) := by decide +kernel
theorem dX7_firstLessByMore_16 : decode cX7_firstLessByMore 16 = .ok (.invokevirtual 19, 3) := by decide +kernel
theorem dX7_firstLessByMore_19 : decode cX7_firstLessByMore 19 = .ok (.if_icmp .gt 49, 3) := by decide +kernel
theorem dX7_firstLessByMore_22 : decode cX7_firstLessByMore 22 = .ok (.aload_n 0, 1) := by decide +kernel
theorem dX7_firstLessByMore_23 : decode cX7_firstLessByMore 23 = .ok (.getfield 15, 3) := by decide +kernel
theorem dX7_firstLessByMore_26 : decode cX7_firstLessByMore 26 = .ok (.iload_n 1, 1) := by decide +kernel
theorem dX7_firstLessByMore_27 : decode cX7_firstLessByMore 27 = .ok (.iaload, 1) := by decide +kernel
theorem dX7_firstLessByMore_28 : decode cX7_firstLessByMore 28 = .ok (.aload_n 0, 1) := by decide +kernel
theorem dX7_firstLessByMore_29 : decode cX7_firstLessByMore 29 = .ok (.getfield 15, 3) := by decide +kernel
theorem dX7_firstLessByMore_32 : decode cX7_firstLessByMore 32 = .ok (.iload_n 2, 1) := by decide +kernel
theorem dX7_firstLessByMore_33 : decode cX7_firstLessByMore 33 = .ok (.iaload, 1) := by decide +kernel
theorem dX7_firstLessByMore_34 : decode cX7_firstLessByMore 34 = .ok (.iadd, 1) := by decide +kernel
theorem dX7_firstLessByMore_35 : decode cX7_firstLessByMore 35 = .ok (.aload_n 0, 1) := by decide +kernel
theorem dX7_firstLessByMore_36 : decode cX7_firstLessByMore 36 = .ok (.getfield 15, 3) := by decide +kernel
theorem dX7_firstLessByMore_39 : decode cX7_firstLessByMore 39 = .ok (.iload_n 1, 1) := by decide +kernel
theorem dX7_firstLessByMore_40 : decode cX7_firstLessByMore 40 = .ok (.iload_n 2, 1) := by decide +kernel
theorem dX7_firstLessByMore_41 : decode cX7_firstLessByMore 41 = .ok (.ior, 1) := by decide +kernel
theorem dX7_firstLessByMore_42 : decode cX7_firstLessByMore 42 = .ok (.iaload, 1) := by decide +kernel
theorem dX7_firstLessByMore_43 : decode cX7_firstLessByMore 43 = .ok (.aload_n 0, 1) := by decide +kernel
theorem dX7_firstLessByMore_44 : decode cX7_firstLessByMore 44 = .ok (.getfield 15, 3) := by decide +kernel
theorem dX7_firstLessByMore_47 : decode cX7_firstLessByMore 47 = .ok (.iload_n 1, 1) := by decide +kernel
theorem dX7_firstLessByMore_48 : decode cX7_firstLessByMore 48 = .ok (.iload_n 2, 1) := by decide +kernel
theorem dX7_firstLessByMore_49 : decode cX7_firstLessByMore 49 = .ok (.iand, 1) := by decide +kernel
theorem dX7_firstLessByMore_50 : decode cX7_firstLessByMore 50 = .ok (.iaload, 1) := by decide +kernel
theorem dX7_firstLessByMore_51 : decode cX7_firstLessByMore 51 = .ok (.iadd, 1) := by decide +kernel
theorem dX7_firstLessByMore_52 : decode cX7_firstLessByMore 52 = .ok (.if_icmp .le 10, 3) := by decide +kernel
theorem dX7_firstLessByMore_55 : decode cX7_firstLessByMore 55 = .ok (.bipush 16, 2) := by decide +kernel
theorem dX7_firstLessByMore_57 : decode cX7_firstLessByMore 57 = .ok (.iload_n 1, 1) := by decide +kernel
theorem dX7_firstLessByMore_58 : decode cX7_firstLessByMore 58 = .ok (.imul, 1) := by decide +kernel
theorem dX7_firstLessByMore_59 : decode cX7_firstLessByMore 59 = .ok (.iload_n 2, 1) := by decide +kernel
theorem dX7_firstLessByMore_60 : decode cX7_firstLessByMore 60 = .ok (.iadd, 1) := by decide +kernel
theorem dX7_firstLessByMore_61 : decode cX7_firstLessByMore 61 = .ok (.ireturn, 1) := by decide +kernel
theorem dX7_firstLessByMore_62 : decode cX7_firstLessByMore 62 = .ok (.iinc 2 1, 3) := by decide +kernel
theorem dX7_firstLessByMore_65 : decode cX7_firstLessByMore 65 = .ok (.goto (-51), 3) := by decide +kernel
theorem dX7_firstLessByMore_68 : decode cX7_firstLessByMore 68 = .ok (.iinc 1 1, 3) := by decide +kernel
theorem dX7_firstLessByMore_71 : decode cX7_firstLessByMore 71 = .ok (.goto (-69), 3) := by decide +kernel
theorem dX7_firstLessByMore_74 : decode cX7_firstLessByMore 74 = .ok (.iconst (-1), 1) := by decide +kernel
theorem dX7_firstLessByMore_75 : decode cX7_firstLessByMore 75 = .ok (.ireturn, 1) := by decide +kernel
theorem dX7_bestParting_0 : decode cX7_bestParting 0 = .ok (.iconst 0, 1) := by decide +kernel
theorem dX7_bestParting_1 : decode cX7_bestParting 1 = .ok (.istore_n 1, 1) := by decide +kernel
theorem dX7_bestParting_2 : decode cX7_bestParting 2 = .ok (.iconst 1, 1) := by decide +kernel
theorem dX7_bestParting_3 : decode cX7_bestParting 3 = .ok (.istore_n 2, 1) := by decide +kernel
theorem dX7_bestParting_4 : decode cX7_bestParting 4 = .ok (.iload_n 2, 1) := by decide +kernel
theorem dX7_bestParting_5 : decode cX7_bestParting 5 = .ok (.iconst 1, 1) := by decide +kernel
theorem dX7_bestParting_6 : decode cX7_bestParting 6 = .ok (.iconst 2, 1) := by decide +kernel
theorem dX7_bestParting_7 : decode cX7_bestParting 7 = .ok (.aload_n 0, 1) := by decide +kernel
theorem dX7_bestParting_8 : decode cX7_bestParting 8 = .ok (.getfield 9, 3) := by decide +kernel
theorem dX7_bestParting_11 : decode cX7_bestParting 11 = .ok (.imul, 1) := by decide +kernel
theorem dX7_bestParting_12 : decode cX7_bestParting 12 = .ok (.ishl, 1) := by decide +kernel
theorem dX7_bestParting_13 : decode cX7_bestParting 13 = .ok (.if_icmp .ge 28, 3) := by decide +kernel
theorem dX7_bestParting_16 : decode cX7_bestParting 16 = .ok (.aload_n 0, 1) := by decide +kernel
theorem dX7_bestParting_17 : decode cX7_bestParting 17 = .ok (.iload_n 2, 1) := by decide +kernel
theorem dX7_bestParting_18 : decode cX7_bestParting 18 = .ok (.invokevirtual 47, 3) := by decide +kernel
theorem dX7_bestParting_21 : decode cX7_bestParting 21 = .ok (.ifCond .eq 14, 3) := by decide +kernel
theorem dX7_bestParting_24 : decode cX7_bestParting 24 = .ok (.aload_n 0, 1) := by decide +kernel
theorem dX7_bestParting_25 : decode cX7_bestParting 25 = .ok (.iload_n 2, 1) := by decide +kernel
theorem dX7_bestParting_26 : decode cX7_bestParting 26 = .ok (.iload_n 1, 1) := by decide +kernel
theorem dX7_bestParting_27 : decode cX7_bestParting 27 = .ok (.invokevirtual 51, 3) := by decide +kernel
theorem dX7_bestParting_30 : decode cX7_bestParting 30 = .ok (.ifCond .eq 5, 3) := by decide +kernel
theorem dX7_bestParting_33 : decode cX7_bestParting 33 = .ok (.iload_n 2, 1) := by decide +kernel
theorem dX7_bestParting_34 : decode cX7_bestParting 34 = .ok (.istore_n 1, 1) := by decide +kernel
theorem dX7_bestParting_35 : decode cX7_bestParting 35 = .ok (.iinc 2 1, 3) := by decide +kernel
theorem dX7_bestParting_38 : decode cX7_bestParting 38 = .ok (.goto (-34), 3) := by decide +kernel
theorem dX7_bestParting_41 : decode cX7_bestParting 41 = .ok (.iload_n 1, 1) := by decide +kernel
theorem dX7_bestParting_42 : decode cX7_bestParting 42 = .ok (.ireturn, 1) := by decide +kernel
theorem dX7_isParting_0 : decode cX7_isParting 0 = .ok (.iconst 0, 1) := by decide +kernel
theorem dX7_isParting_1 : decode cX7_isParting 1 = .ok (.istore_n 2, 1) := by decide +kernel
theorem dX7_isParting_2 : decode cX7_isParting 2 = .ok (.iload_n 2, 1) := by decide +kernel
theorem dX7_isParting_3 : decode cX7_isParting 3 = .ok (.aload_n 0, 1) := by decide +kernel
theorem dX7_isParting_4 : decode cX7_isParting 4 = .ok (.getfield 9, 3) := by decide +kernel
theorem dX7_isParting_7 : decode cX7_isParting 7 = .ok (.if_icmp .ge 33, 3) := by decide +kernel
theorem dX7_isParting_10 : decode cX7_isParting 10 = .ok (.aload_n 0, 1) := by decide +kernel
theorem dX7_isParting_11 : decode cX7_isParting 11 = .ok (.iload_n 1, 1) := by decide +kernel
theorem dX7_isParting_12 : decode cX7_isParting 12 = .ok (.iload_n 2, 1) := by decide +kernel
theorem dX7_isParting_13 : decode cX7_isParting 13 = .ok (.invokevirtual 33, 3) := by decide +kernel
theorem dX7_isParting_16 : decode cX7_isParting 16 = .ok (.istore_n 3, 1) := by decide +kernel
theorem dX7_isParting_17 : decode cX7_isParting 17 = .ok (.iload_n 3, 1) := by decide +kernel
theorem dX7_isParting_18 : decode cX7_isParting 18 = .ok (.iload_n 2, 1) := by decide +kernel
theorem dX7_isParting_19 : decode cX7_isParting 19 = .ok (.if_icmp .gt 13, 3) := by decide +kernel
theorem dX7_isParting_22 : decode cX7_isParting 22 = .ok (.aload_n 0, 1) := by decide +kernel
theorem dX7_isParting_23 : decode cX7_isParting 23 = .ok (.iload_n 1, 1) := by decide +kernel
theorem dX7_isParting_24 : decode cX7_isParting 24 = .ok (.iload_n 3, 1) := by decide +kernel
theorem dX7_isParting_25 : decode cX7_isParting 25 = .ok (.invokevirtual 33, 3) := by decide +kernel
theorem dX7_isParting_28 : decode cX7_isParting 28 = .ok (.iload_n 3, 1) := by decide +kernel
theorem dX7_isParting_29 : decode cX7_isParting 29 = .ok (.if_icmp .eq 5, 3) := by decide +kernel
theorem dX7_isParting_32 : decode cX7_isParting 32 = .ok (.iconst 0, 1) := by decide +kernel
theorem dX7_isParting_33 : decode cX7_isParting 33 = .ok (.ireturn, 1) := by decide +kernel
theorem dX7_isParting_34 : decode cX7_isParting 34 = .ok (.iinc 2 1, 3) := by decide +kernel
theorem dX7_isParting_37 : decode cX7_isParting 37 = .ok (.goto (-35), 3) := by decide +kernel
theorem dX7_isParting_40 : decode cX7_isParting 40 = .ok (.iconst 1, 1) := by decide +kernel
theorem dX7_isParting_41 : decode cX7_isParting 41 = .ok (.ireturn, 1) := by decide +kernel
theorem dX7_beats_0 : decode cX7_beats 0 = .ok (.aload_n 0, 1) := by decide +kernel
theorem dX7_beats_1 : decode cX7_beats 1 = .ok (.iload_n 1, 1) := by decide +kernel
theorem dX7_beats_2 : decode cX7_beats 2 = .ok (.invokevirtual 54, 3) := by decide +kernel
theorem dX7_beats_5 : decode cX7_beats 5 = .ok (.aload_n 0, 1) := by decide +kernel
theorem dX7_beats_6 : decode cX7_beats 6 = .ok (.iload_n 2, 1) := by decide +kernel
theorem dX7_beats_7 : decode cX7_beats 7 = .ok (.invokevirtual 54, 3) := by decide +kernel
theorem dX7_beats_10 : decode cX7_beats 10 = .ok (.isub, 1) := by decide +kernel
theorem dX7_beats_11 : decode cX7_beats 11 = .ok (.istore_n 3, 1) := by decide +kernel
theorem dX7_beats_12 : decode cX7_beats 12 = .ok (.iload_n 3, 1) := by decide +kernel
theorem dX7_beats_13 : decode cX7_beats 13 = .ok (.ifCond .gt 20, 3) := by decide +kernel
theorem dX7_beats_16 : decode cX7_beats 16 = .ok (.iload_n 3, 1) := by decide +kernel
theorem dX7_beats_17 : decode cX7_beats 17 = .ok (.ifCond .ne 20, 3) := by decide +kernel
theorem dX7_beats_20 : decode cX7_beats 20 = .ok (.aload_n 0, 1) := by decide +kernel
theorem dX7_beats_21 : decode cX7_beats 21 = .ok (.iload_n 1, 1) := by decide +kernel
theorem dX7_beats_22 : decode cX7_beats 22 = .ok (.invokevirtual 57, 3) := by decide +kernel
theorem dX7_beats_25 : decode cX7_beats 25 = .ok (.aload_n 0, 1) := by decide +kernel
theorem dX7_beats_26 : decode cX7_beats 26 = .ok (.iload_n 2, 1) := by decide +kernel
theorem dX7_beats_27 : decode cX7_beats 27 = .ok (.invokevirtual 57, 3) := by decide +kernel
theorem dX7_beats_30 : decode cX7_beats 30 = .ok (.if_icmp .ge 7, 3) := by decide +kernel
theorem dX7_beats_33 : decode cX7_beats 33 = .ok (.iconst 1, 1) := by decide +kernel
theorem dX7_beats_34 : decode cX7_beats 34 = .ok (.goto 4, 3) := by decide +kernel
theorem dX7_beats_37 : decode cX7_beats 37 = .ok (.iconst 0, 1) := by decide +kernel
theorem dX7_beats_38 : decode cX7_beats 38 = .ok (.ireturn, 1) := by decide +kernel
theorem dX7_partingSets_0 : decode cX7_partingSets 0 = .ok (.iconst 0, 1) := by decide +kernel
theorem dX7_partingSets_1 : decode cX7_partingSets 1 = .ok (.istore_n 2, 1) := by decide +kernel
theorem dX7_partingSets_2 : decode cX7_partingSets 2 = .ok (.iconst 0, 1) := by decide +kernel
theorem dX7_partingSets_3 : decode cX7_partingSets 3 = .ok (.istore_n 3, 1) := by decide +kernel
theorem dX7_partingSets_4 : decode cX7_partingSets 4 = .ok (.iload_n 3, 1) := by decide +kernel
theorem dX7_partingSets_5 : decode cX7_partingSets 5 = .ok (.aload_n 0, 1) := by decide +kernel
theorem dX7_partingSets_6 : decode cX7_partingSets 6 = .ok (.getfield 9, 3) := by decide +kernel
theorem dX7_partingSets_9 : decode cX7_partingSets 9 = .ok (.if_icmp .ge 22, 3) := by decide +kernel
theorem dX7_partingSets_12 : decode cX7_partingSets 12 = .ok (.aload_n 0, 1) := by decide +kernel
theorem dX7_partingSets_13 : decode cX7_partingSets 13 = .ok (.iload_n 1, 1) := by decide +kernel
theorem dX7_partingSets_14 : decode cX7_partingSets 14 = .ok (.iload_n 3, 1) := by decide +kernel
theorem dX7_partingSets_15 : decode cX7_partingSets 15 = .ok (.invokevirtual 33, 3) := by decide +kernel
theorem dX7_partingSets_18 : decode cX7_partingSets 18 = .ok (.iload_n 3, 1) := by decide +kernel
theorem dX7_partingSets_19 : decode cX7_partingSets 19 = .ok (.if_icmp .ne 6, 3) := by decide +kernel
theorem dX7_partingSets_22 : decode cX7_partingSets 22 = .ok (.iinc 2 1, 3) := by decide +kernel
theorem dX7_partingSets_25 : decode cX7_partingSets 25 = .ok (.iinc 3 1, 3) := by decide +kernel
theorem dX7_partingSets_28 : decode cX7_partingSets 28 = .ok (.goto (-24), 3) := by decide +kernel
theorem dX7_partingSets_31 : decode cX7_partingSets 31 = .ok (.iload_n 2, 1) := by decide +kernel
theorem dX7_partingSets_32 : decode cX7_partingSets 32 = .ok (.ireturn, 1) := by decide +kernel
theorem dX7_partingWorth_0 : decode cX7_partingWorth 0 = .ok (.iconst 0, 1) := by decide +kernel
theorem dX7_partingWorth_1 : decode cX7_partingWorth 1 = .ok (.istore_n 2, 1) := by decide +kernel
theorem dX7_partingWorth_2 : decode cX7_partingWorth 2 = .ok (.iconst 0, 1) := by decide +kernel
theorem dX7_partingWorth_3 : decode cX7_partingWorth 3 = .ok (.istore_n 3, 1) := by decide +kernel
theorem dX7_partingWorth_4 : decode cX7_partingWorth 4 = .ok (.iload_n 3, 1) := by decide +kernel
theorem dX7_partingWorth_5 : decode cX7_partingWorth 5 = .ok (.aload_n 0, 1) := by decide +kernel
theorem dX7_partingWorth_6 : decode cX7_partingWorth 6 = .ok (.getfield 9, 3) := by decide +kernel
theorem dX7_partingWorth_9 : decode cX7_partingWorth 9 = .ok (.if_icmp .ge 60, 3) := by decide +kernel
theorem dX7_partingWorth_12 : decode cX7_partingWorth 12 = .ok (.iconst 0, 1) := by decide +kernel
theorem dX7_partingWorth_13 : decode cX7_partingWorth 13 = .ok (.istore 4, 2) := by decide +kernel
theorem dX7_partingWorth_15 : decode cX7_partingWorth 15 = .ok (.iconst 0, 1) := by decide +kernel
theorem dX7_partingWorth_16 : decode cX7_partingWorth 16 = .ok (.istore 5, 2) := by decide +kernel
theorem dX7_partingWorth_18 : decode cX7_partingWorth 18 = .ok (.iload 5, 2) := by decide +kernel
theorem dX7_partingWorth_20 : decode cX7_partingWorth 20 = .ok (.aload_n 0, 1) := by decide +kernel
theorem dX7_partingWorth_21 : decode cX7_partingWorth 21 = .ok (.getfield 9, 3) := by decide +kernel
theorem dX7_partingWorth_24 : decode cX7_partingWorth 24 = .ok (.if_icmp .ge 29, 3) := by decide +kernel
theorem dX7_partingWorth_27 : decode cX7_partingWorth 27 = .ok (.aload_n 0, 1) := by decide +kernel
theorem dX7_partingWorth_28 : decode cX7_partingWorth 28 = .ok (.iload_n 1, 1) := by decide +kernel
theorem dX7_partingWorth_29 : decode cX7_partingWorth 29 = .ok (.iload 5, 2) := by decide +kernel
theorem dX7_partingWorth_31 : decode cX7_partingWorth 31 = .ok (.invokevirtual 33, 3) := by decide +kernel
theorem dX7_partingWorth_34 : decode cX7_partingWorth 34 = .ok (.iload_n 3, 1) := by decide +kernel
theorem dX7_partingWorth_35 : decode cX7_partingWorth 35 = .ok (.if_icmp .ne 12, 3) := by decide +kernel
theorem dX7_partingWorth_38 : decode cX7_partingWorth 38 = .ok (.iload 4, 2) := by decide +kernel
theorem dX7_partingWorth_40 : decode cX7_partingWorth 40 = .ok (.iconst 1, 1) := by decide +kernel
theorem dX7_partingWorth_41 : decode cX7_partingWorth 41 = .ok (.iload 5, 2) := by decide +kernel
theorem dX7_partingWorth_43 : decode cX7_partingWorth 43 = .ok (.ishl, 1) := by decide +kernel
theorem dX7_partingWorth_44 : decode cX7_partingWorth 44 = .ok (.ior, 1) := by decide +kernel
theorem dX7_partingWorth_45 : decode cX7_partingWorth 45 = .ok (.istore 4, 2) := by decide +kernel
theorem dX7_partingWorth_47 : decode cX7_partingWorth 47 = .ok (.iinc 5 1, 3) := by decide +kernel
theorem dX7_partingWorth_50 : decode cX7_partingWorth 50 = .ok (.goto (-32), 3) := by decide +kernel
theorem dX7_partingWorth_53 : decode cX7_partingWorth 53 = .ok (.iload_n 2, 1) := by decide +kernel
theorem dX7_partingWorth_54 : decode cX7_partingWorth 54 = .ok (.aload_n 0, 1) := by decide +kernel
theorem dX7_partingWorth_55 : decode cX7_partingWorth 55 = .ok (.getfield 15, 3) := by decide +kernel
theorem dX7_partingWorth_58 : decode cX7_partingWorth 58 = .ok (.iload 4, 2) := by decide +kernel
theorem dX7_partingWorth_60 : decode cX7_partingWorth 60 = .ok (.iaload, 1) := by decide +kernel
theorem dX7_partingWorth_61 : decode cX7_partingWorth 61 = .ok (.iadd, 1) := by decide +kernel
theorem dX7_partingWorth_62 : decode cX7_partingWorth 62 = .ok (.istore_n 2, 1) := by decide +kernel
theorem dX7_partingWorth_63 : decode cX7_partingWorth 63 = .ok (.iinc 3 1, 3) := by decide +kernel
theorem dX7_partingWorth_66 : decode cX7_partingWorth 66 = .ok (.goto (-62), 3) := by decide +kernel
theorem dX7_partingWorth_69 : decode cX7_partingWorth 69 = .ok (.iload_n 2, 1) := by decide +kernel
theorem dX7_partingWorth_70 : decode cX7_partingWorth 70 = .ok (.ireturn, 1) := by decide +kernel
theorem dX7_leastBeside_0 : decode cX7_leastBeside 0 = .ok (.aload_n 0, 1) := by decide +kernel
theorem dX7_leastBeside_1 : decode cX7_leastBeside 1 = .ok (.iload_n 1, 1) := by decide +kernel
theorem dX7_leastBeside_2 : decode cX7_leastBeside 2 = .ok (.iload_n 2, 1) := by decide +kernel
theorem dX7_leastBeside_3 : decode cX7_leastBeside 3 = .ok (.invokevirtual 33, 3) := by decide +kernel
theorem dX7_leastBeside_6 : decode cX7_leastBeside 6 = .ok (.ireturn, 1) := by decide +kernel
theorem dX7_mixInto_0 : decode cX7_mixInto 0 = .ok (.lload_n 1, 1) := by decide +kernel
theorem dX7_mixInto_1 : decode cX7_mixInto 1 = .ok (.lstore_n 3, 1) := by decide +kernel
theorem dX7_mixInto_2 : decode cX7_mixInto 2 = .ok (.iconst 1, 1) := by decide +kernel
theorem dX7_mixInto_3 : decode cX7_mixInto 3 = .ok (.istore 5, 2) := by decide +kernel
theorem dX7_mixInto_5 : decode cX7_mixInto 5 = .ok (.iload 5, 2) := by decide +kernel
theorem dX7_mixInto_7 : decode cX7_mixInto 7 = .ok (.aload_n 0, 1) := by decide +kernel
theorem dX7_mixInto_8 : decode cX7_mixInto 8 = .ok (.invokevirtual 19, 3) := by decide +kernel
theorem dX7_mixInto_11 : decode cX7_mixInto 11 = .ok (.if_icmp .gt 22, 3) := by decide +kernel
theorem dX7_mixInto_14 : decode cX7_mixInto 14 = .ok (.lload_n 3, 1) := by decide +kernel
theorem dX7_mixInto_15 : decode cX7_mixInto 15 = .ok (.aload_n 0, 1) := by decide +kernel
theorem dX7_mixInto_16 : decode cX7_mixInto 16 = .ok (.getfield 15, 3) := by decide +kernel
theorem dX7_mixInto_19 : decode cX7_mixInto 19 = .ok (.iload 5, 2) := by decide +kernel
theorem dX7_mixInto_21 : decode cX7_mixInto 21 = .ok (.iaload, 1) := by decide +kernel
theorem dX7_mixInto_22 : decode cX7_mixInto 22 = .ok (.i2l, 1) := by decide +kernel
theorem dX7_mixInto_23 : decode cX7_mixInto 23 = .ok (.invokestatic 60, 3) := by decide +kernel
theorem dX7_mixInto_26 : decode cX7_mixInto 26 = .ok (.lstore_n 3, 1) := by decide +kernel
theorem dX7_mixInto_27 : decode cX7_mixInto 27 = .ok (.iinc 5 1, 3) := by decide +kernel
theorem dX7_mixInto_30 : decode cX7_mixInto 30 = .ok (.goto (-25), 3) := by decide +kernel
theorem dX7_mixInto_33 : decode cX7_mixInto 33 = .ok (.lload_n 3, 1) := by decide +kernel
theorem dX7_mixInto_34 : decode cX7_mixInto 34 = .ok (.lreturn, 1) := by decide +kernel
