theorem dX5_init_0 : decode cX5_init 0 = .ok (.aload_n 0, 1) := by decide +kernel
theorem dX5_init_1 : decode cX5_init 1 = .ok (.invokespecial 3, 3) := by decide +kernel
theorem dX5_init_4 : decode cX5_init 4 = .ok (.aload_n 0, 1) := by decide +kernel
theorem dX5_init_5 : decode cX5_init 5 = .ok (.iconst 0, 1) := by decide +kernel
theorem dX5_init_6 : decode cX5_init 6 = .ok (.putfield 9, 3) := by decide +kernel
theorem dX5_init_9 : decode cX5_init 9 = .ok (.aload_n 0, 1) := by decide +kernel
theorem dX5_init_10 : decode cX5_init 10 = .ok (.iconst 1, 1) := by decide +kernel
theorem dX5_init_11 : decode cX5_init 11 = .ok (.putfield 15, 3) := by decide +kernel
theorem dX5_init_14 : decode cX5_init 14 = .ok (.aload_n 0, 1) := by decide +kernel
theorem dX5_init_15 : decode cX5_init 15 = .ok (.bipush 8, 2) := by decide +kernel
theorem dX5_init_17 : decode cX5_init 17 = .ok (.newarray .int, 2) := by decide +kernel
theorem dX5_init_19 : decode cX5_init 19 = .ok (.putfield 18, 3) := by decide +kernel
theorem dX5_init_22 : decode cX5_init 22 = .ok (.aload_n 0, 1) := by decide +kernel
theorem dX5_init_23 : decode cX5_init 23 = .ok (.sipush 256, 3) := by decide +kernel
theorem dX5_init_26 : decode cX5_init 26 = .ok (.newarray .int, 2) := by decide +kernel
theorem dX5_init_28 : decode cX5_init 28 = .ok (.putfield 22, 3) := by decide +kernel
theorem dX5_init_31 : decode cX5_init 31 = .ok (.aload_n 0, 1) := by decide +kernel
theorem dX5_init_32 : decode cX5_init 32 = .ok (.iconst 5, 1) := by decide +kernel
theorem dX5_init_33 : decode cX5_init 33 = .ok (.newarray .int, 2) := by decide +kernel
theorem dX5_init_35 : decode cX5_init 35 = .ok (.putfield 25, 3) := by decide +kernel
theorem dX5_init_38 : decode cX5_init 38 = .ok (.aload_n 0, 1) := by decide +kernel
theorem dX5_init_39 : decode cX5_init 39 = .ok (.iconst 5, 1) := by decide +kernel
theorem dX5_init_40 : decode cX5_init 40 = .ok (.newarray .int, 2) := by decide +kernel
theorem dX5_init_42 : decode cX5_init 42 = .ok (.putfield 28, 3) := by decide +kernel
theorem dX5_init_45 : decode cX5_init 45 = .ok (.aload_n 0, 1) := by decide +kernel
theorem dX5_init_46 : decode cX5_init 46 = .ok (.bipush 32, 2) := by decide +kernel
theorem dX5_init_48 : decode cX5_init 48 = .ok (.newarray .int, 2) := by decide +kernel
theorem dX5_init_50 : decode cX5_init 50 = .ok (.putfield 31, 3) := by decide +kernel
theorem dX5_init_53 : decode cX5_init 53 = .ok (.aload_n 0, 1) := by decide +kernel
theorem dX5_init_54 : decode cX5_init 54 = .ok (.iconst 5, 1) := by decide +kernel
theorem dX5_init_55 : decode cX5_init 55 = .ok (.newarray .int, 2) := by decide +kernel
theorem dX5_init_57 : decode cX5_init 57 = .ok (.putfield 34, 3) := by decide +kernel
theorem dX5_init_60 : decode cX5_init 60 = .ok (.aload_n 0, 1) := by decide +kernel
theorem dX5_init_61 : decode cX5_init 61 = .ok (.iconst (-1), 1) := by decide +kernel
theorem dX5_init_62 : decode cX5_init 62 = .ok (.putfield 37, 3) := by decide +kernel
theorem dX5_init_65 : decode cX5_init 65 = .ok (.aload_n 0, 1) := by decide +kernel
theorem dX5_init_66 : decode cX5_init 66 = .ok (.iconst 0, 1) := by decide +kernel
theorem dX5_init_67 : decode cX5_init 67 = .ok (.putfield 40, 3) := by decide +kernel
theorem dX5_init_70 : decode cX5_init 70 = .ok (.return_, 1) := by decide +kernel
theorem dX5_allVoters_0 : decode cX5_allVoters 0 = .ok (.iconst 1, 1) := by decide +kernel
theorem dX5_allVoters_1 : decode cX5_allVoters 1 = .ok (.aload_n 0, 1) := by decide +kernel
theorem dX5_allVoters_2 : decode cX5_allVoters 2 = .ok (.getfield 9, 3) := by decide +kernel
theorem dX5_allVoters_5 : decode cX5_allVoters 5 = .ok (.ishl, 1) := by decide +kernel
theorem dX5_allVoters_6 : decode cX5_allVoters 6 = .ok (.iconst 1, 1) := by decide +kernel
theorem dX5_allVoters_7 : decode cX5_allVoters 7 = .ok (.isub, 1) := by decide +kernel
theorem dX5_allVoters_8 : decode cX5_allVoters 8 = .ok (.ireturn, 1) := by decide +kernel
theorem dX5_knowsVoter_0 : decode cX5_knowsVoter 0 = .ok (.iload_n 1, 1) := by decide +kernel
theorem dX5_knowsVoter_1 : decode cX5_knowsVoter 1 = .ok (.iconst 0, 1) := by decide +kernel
theorem dX5_knowsVoter_2 : decode cX5_knowsVoter 2 = .ok (.aload_n 0, 1) := by decide +kernel
theorem dX5_knowsVoter_3 : decode cX5_knowsVoter 3 = .ok (.getfield 9, 3) := by decide +kernel
theorem dX5_knowsVoter_6 : decode cX5_knowsVoter 6 = .ok (.iconst 1, 1) := by decide +kernel
theorem dX5_knowsVoter_7 : decode cX5_knowsVoter 7 = .ok (.isub, 1) := by decide +kernel
theorem dX5_knowsVoter_8 : decode cX5_knowsVoter 8 = .ok (.invokestatic 44, 3) := by decide +kernel
theorem dX5_knowsVoter_11 : decode cX5_knowsVoter 11 = .ok (.ireturn, 1) := by decide +kernel
theorem dX5_addVoter_0 : decode cX5_addVoter 0 = .ok (.aload_n 0, 1) := by decide +kernel
theorem dX5_addVoter_1 : decode cX5_addVoter 1 = .ok (.dup, 1) := by decide +kernel
theorem dX5_addVoter_2 : decode cX5_addVoter 2 = .ok (.getfield 9, 3) := by decide +kernel
theorem dX5_addVoter_5 : decode cX5_addVoter 5 = .ok (.iconst 1, 1) := by decide +kernel
theorem dX5_addVoter_6 : decode cX5_addVoter 6 = .ok (.iadd, 1) := by decide +kernel
theorem dX5_addVoter_7 : decode cX5_addVoter 7 = .ok (.putfield 9, 3) := by decide +kernel
theorem dX5_addVoter_10 : decode cX5_addVoter 10 = .ok (.aload_n 0, 1) := by decide +kernel
theorem dX5_addVoter_11 : decode cX5_addVoter 11 = .ok (.aload_n 0, 1) := by decide +kernel
theorem dX5_addVoter_12 : decode cX5_addVoter 12 = .ok (.getfield 9, 3) := by decide +kernel
theorem dX5_addVoter_15 : decode cX5_addVoter 15 = .ok (.iconst 1, 1) := by decide +kernel
theorem dX5_addVoter_16 : decode cX5_addVoter 16 = .ok (.isub, 1) := by decide +kernel
theorem dX5_addVoter_17 : decode cX5_addVoter 17 = .ok (.iload_n 1, 1) := by decide +kernel
theorem dX5_addVoter_18 : decode cX5_addVoter 18 = .ok (.invokevirtual 48, 3) := by decide +kernel
theorem dX5_addVoter_21 : decode cX5_addVoter 21 = .ok (.pop, 1) := by decide +kernel
theorem dX5_addVoter_22 : decode cX5_addVoter 22 = .ok (.aload_n 0, 1) := by decide +kernel
theorem dX5_addVoter_23 : decode cX5_addVoter 23 = .ok (.getfield 9, 3) := by decide +kernel
theorem dX5_addVoter_26 : decode cX5_addVoter 26 = .ok (.iconst 1, 1) := by decide +kernel
theorem dX5_addVoter_27 : decode cX5_addVoter 27 = .ok (.isub, 1) := by decide +kernel
theorem dX5_addVoter_28 : decode cX5_addVoter 28 = .ok (.ireturn, 1) := by decide +kernel
theorem dX5_replaceWeight_0 : decode cX5_replaceWeight 0 = .ok (.aload_n 0, 1) := by decide +kernel
theorem dX5_replaceWeight_1 : decode cX5_replaceWeight 1 = .ok (.getfield 18, 3) := by decide +kernel
theorem dX5_replaceWeight_4 : decode cX5_replaceWeight 4 = .ok (.iload_n 1, 1) := by decide +kernel
theorem dX5_replaceWeight_5 : decode cX5_replaceWeight 5 = .ok (.iaload, 1) := by decide +kernel
theorem dX5_replaceWeight_6 : decode cX5_replaceWeight 6 = .ok (.istore_n 3, 1) := by decide +kernel
theorem dX5_replaceWeight_7 : decode cX5_replaceWeight 7 = .ok (.aload_n 0, 1) := by decide +kernel
theorem dX5_replaceWeight_8 : decode cX5_replaceWeight 8 = .ok (.getfield 18, 3) := by decide +kernel
theorem dX5_replaceWeight_11 : decode cX5_replaceWeight 11 = .ok (.iload_n 1, 1) := by decide +kernel
theorem dX5_replaceWeight_12 : decode cX5_replaceWeight 12 = .ok (.iload_n 2, 1) := by decide +kernel
theorem dX5_replaceWeight_13 : decode cX5_replaceWeight 13 = .ok (.iastore, 1) := by decide +kernel
theorem dX5_replaceWeight_14 : decode cX5_replaceWeight 14 = .ok (.aload_n 0, 1) := by decide +kernel
theorem dX5_replaceWeight_15 : decode cX5_replaceWeight 15 = .ok (.getfield 18, 3) := by decide +kernel
theorem dX5_replaceWeight_18 : decode cX5_replaceWeight 18 = .ok (.aload_n 0, 1) := by decide +kernel
theorem dX5_replaceWeight_19 : decode cX5_replaceWeight 19 = .ok (.getfield 9, 3) := by decide +kernel
theorem dX5_replaceWeight_22 : decode cX5_replaceWeight 22 = .ok (.aload_n 0, 1) := by decide +kernel
theorem dX5_replaceWeight_23 : decode cX5_replaceWeight 23 = .ok (.getfield 22, 3) := by decide +kernel
theorem dX5_replaceWeight_26 : decode cX5_replaceWeight 26 = .ok (.invokestatic 52, 3) := by decide +kernel
theorem dX5_replaceWeight_29 : decode cX5_replaceWeight 29 = .ok (.aload_n 0, 1) := by decide +kernel
theorem dX5_replaceWeight_30 : decode cX5_replaceWeight 30 = .ok (.iconst 0, 1) := by decide +kernel
theorem dX5_replaceWeight_31 : decode cX5_replaceWeight 31 = .ok (.putfield 40, 3) := by decide +kernel
theorem dX5_replaceWeight_34 : decode cX5_replaceWeight 34 = .ok (.iload_n 3, 1) := by decide +kernel
theorem dX5_replaceWeight_35 : decode cX5_replaceWeight 35 = .ok (.ireturn, 1) := by decide +kernel
theorem dX5_replaceQuota_0 : decode cX5_replaceQuota 0 = .ok (.aload_n 0, 1) := by decide +kernel
theorem dX5_replaceQuota_1 : decode cX5_replaceQuota 1 = .ok (.getfield 15, 3) := by decide +kernel
theorem dX5_replaceQuota_4 : decode cX5_replaceQuota 4 = .ok (.istore_n 2, 1) := by decide +kernel
theorem dX5_replaceQuota_5 : decode cX5_replaceQuota 5 = .ok (.aload_n 0, 1) := by decide +kernel
theorem dX5_replaceQuota_6 : decode cX5_replaceQuota 6 = .ok (.iload_n 1, 1) := by decide +kernel
theorem dX5_replaceQuota_7 : decode cX5_replaceQuota 7 = .ok (.putfield 15, 3) := by decide +kernel
theorem dX5_replaceQuota_10 : decode cX5_replaceQuota 10 = .ok (.aload_n 0, 1) := by decide +kernel
theorem dX5_replaceQuota_11 : decode cX5_replaceQuota 11 = .ok (.iconst 0, 1) := by decide +kernel
theorem dX5_replaceQuota_12 : decode cX5_replaceQuota 12 = .ok (.putfield 40, 3) := by decide +kernel
theorem dX5_replaceQuota_15 : decode cX5_replaceQuota 15 = .ok (.iload_n 2, 1) := by decide +kernel
theorem dX5_replaceQuota_16 : decode cX5_replaceQuota 16 = .ok (.ireturn, 1) := by decide +kernel
theorem dX5_addUp_0 : decode cX5_addUp 0 = .ok (.iconst 0, 1) := by decide +kernel
theorem dX5_addUp_1 : decode cX5_addUp 1 = .ok (.istore_n 3, 1) := by decide +kernel
theorem dX5_addUp_2 : decode cX5_addUp 2 = .ok (.iload_n 3, 1) := by decide +kernel
theorem dX5_addUp_3 : decode cX5_addUp 3 = .ok (.iload_n 1, 1) := by decide +kernel
theorem dX5_addUp_4 : decode cX5_addUp 4 = .ok (.if_icmp .ge 57, 3) := by decide +kernel
theorem dX5_addUp_7 : decode cX5_addUp 7 = .ok (.iload_n 3, 1) := by decide +kernel
theorem dX5_addUp_8 : decode cX5_addUp 8 = .ok (.aload_n 0, 1) := by decide +kernel
theorem dX5_addUp_9 : decode cX5_addUp 9 = .ok (.arraylength, 1) := by decide +kernel
theorem dX5_addUp_10 : decode cX5_addUp 10 = .ok (.if_icmp .ge 51, 3) := by decide +kernel
theorem dX5_addUp_13 : decode cX5_addUp 13 = .ok (.iconst 1, 1) := by decide +kernel
theorem dX5_addUp_14 : decode cX5_addUp 14 = .ok (.iload_n 3, 1) := by decide +kernel
theorem dX5_addUp_15 : decode cX5_addUp 15 = .ok (.ishl, 1) := by decide +kernel
theorem dX5_addUp_16 : decode cX5_addUp 16 = .ok (.istore 4, 2) := by decide +kernel
theorem dX5_addUp_18 : decode cX5_addUp 18 = .ok (.iload 4, 2) := by decide +kernel
theorem dX5_addUp_20 : decode cX5_addUp 20 = .ok (.iconst 2, 1) := by decide +kernel
theorem dX5_addUp_21 : decode cX5_addUp 21 = .ok (.iload_n 3, 1) := by decide +kernel
theorem dX5_addUp_22 : decode cX5_addUp 22 = .ok (.ishl, 1) := by decide +kernel
theorem dX5_addUp_23 : decode cX5_addUp 23 = .ok (.if_icmp .ge 32, 3) := by decide +kernel
theorem dX5_addUp_26 : decode cX5_addUp 26 = .ok (.iload 4, 2) := by decide +kernel
theorem dX5_addUp_28 : decode cX5_addUp 28 = .ok (.aload_n 2, 1) := by decide +kernel
theorem dX5_addUp_29 : decode cX5_addUp 29 = .ok (.arraylength, 1) := by decide +kernel
theorem dX5_addUp_30 : decode cX5_addUp 30 = .ok (.if_icmp .ge 25, 3) := by decide +kernel
theorem dX5_addUp_33 : decode cX5_addUp 33 = .ok (.aload_n 2, 1) := by decide +kernel
theorem dX5_addUp_34 : decode cX5_addUp 34 = .ok (.iload 4, 2) := by decide +kernel
theorem dX5_addUp_36 : decode cX5_addUp 36 = .ok (.aload_n 2, 1) := by decide +kernel
theorem dX5_addUp_37 : decode cX5_addUp 37 = .ok (.iload 4, 2) := by decide +kernel
theorem dX5_addUp_39 : decode cX5_addUp 39 = .ok (.iconst 1, 1) := by decide +kernel
theorem dX5_addUp_40 : decode cX5_addUp 40 = .ok (.iload_n 3, 1) := by decide +kernel
theorem dX5_addUp_41 : decode cX5_addUp 41 = .ok (.ishl, 1) := by decide +kernel
theorem dX5_addUp_42 : decode cX5_addUp 42 = .ok (.isub, 1) := by decide +kernel
theorem dX5_addUp_43 : decode cX5_addUp 43 = .ok (.iaload, 1) := by decide +kernel
theorem dX5_addUp_44 : decode cX5_addUp 44 = .ok (.aload_n 0, 1) := by decide +kernel
theorem dX5_addUp_45 : decode cX5_addUp 45 = .ok (.iload_n 3, 1) := by decide +kernel
theorem dX5_addUp_46 : decode cX5_addUp 46 = .ok (.iaload, 1) := by decide +kernel
theorem dX5_addUp_47 : decode cX5_addUp 47 = .ok (.iadd, 1) := by decide +kernel
theorem dX5_addUp_48 : decode cX5_addUp 48 = .ok (.iastore, 1) := by decide +kernel
theorem dX5_addUp_49 : decode cX5_addUp 49 = .ok (.iinc 4 1, 3) := by decide +kernel
theorem dX5_addUp_52 : decode cX5_addUp 52 = .ok (.goto (-34), 3) := by decide +kernel
theorem dX5_addUp_55 : decode cX5_addUp 55 = .ok (.iinc 3 1, 3) := by decide +kernel
theorem dX5_addUp_58 : decode cX5_addUp 58 = .ok (.goto (-56), 3) := by decide +kernel
theorem dX5_addUp_61 : decode cX5_addUp 61 = .ok (.return_, 1) := by decide +kernel
theorem dX5_isWinning_0 : decode cX5_isWinning 0 = .ok (.aload_n 0, 1) := by decide +kernel
theorem dX5_isWinning_1 : decode cX5_isWinning 1 = .ok (.getfield 22, 3) := by decide +kernel
theorem dX5_isWinning_4 : decode cX5_isWinning 4 = .ok (.iload_n 1, 1) := by decide +kernel
theorem dX5_isWinning_5 : decode cX5_isWinning 5 = .ok (.iaload, 1) := by decide +kernel
theorem dX5_isWinning_6 : decode cX5_isWinning 6 = .ok (.aload_n 0, 1) := by decide +kernel
theorem dX5_isWinning_7 : decode cX5_isWinning 7 = .ok (.getfield 15, 3) := by decide +kernel
theorem dX5_isWinning_10 : decode cX5_isWinning 10 = .ok (.if_icmp .lt 7, 3) := by decide +kernel
theorem dX5_isWinning_13 : decode cX5_isWinning 13 = .ok (.iconst 1, 1) := by decide +kernel
theorem dX5_isWinning_14 : decode cX5_isWinning 14 = .ok (.goto 4, 3) := by decide +kernel
theorem dX5_isWinning_17 : decode cX5_isWinning 17 = .ok (.iconst 0, 1) := by decide +kernel
theorem dX5_isWinning_18 : decode cX5_isWinning 18 = .ok (.ireturn, 1) := by decide +kernel
theorem dX5_isTurned_0 : decode cX5_isTurned 0 = .ok (.iload_n 1, 1) := by decide +kernel
theorem dX5_isTurned_1 : decode cX5_isTurned 1 = .ok (.iload_n 2, 1) := by decide +kernel
theorem dX5_isTurned_2 : decode cX5_isTurned 2 = .ok (.invokestatic 56, 3) := by decide +kernel
theorem dX5_isTurned_5 : decode cX5_isTurned 5 = .ok (.ifCond .ne 27, 3) := by decide +kernel
theorem dX5_isTurned_8 : decode cX5_isTurned 8 = .ok (.aload_n 0, 1) := by decide +kernel
theorem dX5_isTurned_9 : decode cX5_isTurned 9 = .ok (.iload_n 1, 1) := by decide +kernel
theorem dX5_isTurned_10 : decode cX5_isTurned 10 = .ok (.invokevirtual 60, 3) := by decide +kernel
theorem dX5_isTurned_13 : decode cX5_isTurned 13 = .ok (.ifCond .ne 19, 3) := by decide +kernel
theorem dX5_isTurned_16 : decode cX5_isTurned 16 = .ok (.aload_n 0, 1) := by decide +kernel
theorem dX5_isTurned_17 : decode cX5_isTurned 17 = .ok (.iload_n 1, 1) := by decide +kernel
theorem dX5_isTurned_18 : decode cX5_isTurned 18 = .ok (.iconst 1, 1) := by decide +kernel
theorem dX5_isTurned_19 : decode cX5_isTurned 19 = .ok (.iload_n 2, 1) := by decide +kernel
theorem dX5_isTurned_20 : decode cX5_isTurned 20 = .ok (.ishl, 1) := by decide +kernel
theorem dX5_isTurned_21 : decode cX5_isTurned 21 = .ok (.ior, 1) := by decide +kernel
theorem dX5_isTurned_22 : decode cX5_isTurned 22 = .ok (.invokevirtual 60, 3) := by decide +kernel
theorem dX5_isTurned_25 : decode cX5_isTurned 25 = .ok (.ifCond .eq 7, 3) := by decide +kernel
theorem dX5_isTurned_28 : decode cX5_isTurned 28 = .ok (.iconst 1, 1) := by decide +kernel
theorem dX5_isTurned_29 : decode cX5_isTurned 29 = .ok (.goto 4, 3) := by decide +kernel
theorem dX5_isTurned_32 : decode cX5_isTurned 32 = .ok (.iconst 0, 1) := by decide +kernel
theorem dX5_isTurned_33 : decode cX5_isTurned 33 = .ok (.ireturn, 1) := by decide +kernel
theorem dX5_isLeastSet_0 : decode cX5_isLeastSet 0 = .ok (.aload_n 0, 1) := by decide +kernel
theorem dX5_isLeastSet_1 : decode cX5_isLeastSet 1 = .ok (.iload_n 1, 1) := by decide +kernel
theorem dX5_isLeastSet_2 : decode cX5_isLeastSet 2 = .ok (.invokevirtual 60, 3) := by decide +kernel
theorem dX5_isLeastSet_5 : decode cX5_isLeastSet 5 = .ok (.ifCond .ne 5, 3) := by decide +kernel
theorem dX5_isLeastSet_8 : decode cX5_isLeastSet 8 = .ok (.iconst 0, 1) := by decide +kernel
theorem dX5_isLeastSet_9 : decode cX5_isLeastSet 9 = .ok (.ireturn, 1) := by decide +kernel
theorem dX5_isLeastSet_10 : decode cX5_isLeastSet 10 = .ok (.iconst 0, 1) := by decide +kernel
theorem dX5_isLeastSet_11 : decode cX5_isLeastSet 11 = .ok (.istore_n 2, 1) := by decide +kernel
theorem dX5_isLeastSet_12 : decode cX5_isLeastSet 12 = .ok (.iload_n 2, 1) := by decide +kernel
theorem dX5_isLeastSet_13 : decode cX5_isLeastSet 13 = .ok (.aload_n 0, 1) := by decide +kernel
theorem dX5_isLeastSet_14 : decode cX5_isLeastSet 14 = .ok (.getfield 9, 3) := by decide +kernel
theorem dX5_isLeastSet_17 : decode cX5_isLeastSet 17 = .ok (.if_icmp .ge 31, 3) := by decide +kernel
theorem dX5_isLeastSet_20 : decode cX5_isLeastSet 20 = .ok (.iload_n 1, 1) := by decide +kernel
theorem dX5_isLeastSet_21 : decode cX5_isLeastSet 21 = .ok (.iload_n 2, 1) := by decide +kernel
theorem dX5_isLeastSet_22 : decode cX5_isLeastSet 22 = .ok (.invokestatic 56, 3) := by decide +kernel
theorem dX5_isLeastSet_25 : decode cX5_isLeastSet 25 = .ok (.ifCond .eq 17, 3) := by decide +kernel
theorem dX5_isLeastSet_28 : decode cX5_isLeastSet 28 = .ok (.aload_n 0, 1) := by decide +kernel
theorem dX5_isLeastSet_29 : decode cX5_isLeastSet 29 = .ok (.iload_n 1, 1) := by decide +kernel
theorem dX5_isLeastSet_30 : decode cX5_isLeastSet 30 = .ok (.iconst 1, 1) := by decide +kernel
theorem dX5_isLeastSet_31 : decode cX5_isLeastSet 31 = .ok (.iload_n 2, 1) := by decide +kernel
theorem dX5_isLeastSet_32 : decode cX5_isLeastSet 32 = .ok (.ishl, 1) := by decide +kernel
theorem dX5_isLeastSet_33 : decode cX5_isLeastSet 33 = .ok (.isub, 1) := by decide +kernel
theorem dX5_isLeastSet_34 : decode cX5_isLeastSet 34 = .ok (.invokevirtual 60, 3) := by decide +kernel
theorem dX5_isLeastSet_37 : decode cX5_isLeastSet 37 = .ok (.ifCond .eq 5, 3) := by decide +kernel
theorem dX5_isLeastSet_40 : decode cX5_isLeastSet 40 = .ok (.iconst 0, 1) := by decide +kernel
theorem dX5_isLeastSet_41 : decode cX5_isLeastSet 41 = .ok (.ireturn, 1) := by decide +kernel
theorem dX5_isLeastSet_42 : decode cX5_isLeastSet 42 = .ok (.iinc 2 1, 3) := by decide +kernel
theorem dX5_isLeastSet_45 : decode cX5_isLeastSet 45 = .ok (.goto (-33), 3) := by decide +kernel
theorem dX5_isLeastSet_48 : decode cX5_isLeastSet 48 = .ok (.iconst 1, 1) := by decide +kernel
theorem dX5_isLeastSet_49 : decode cX5_isLeastSet 49 = .ok (.ireturn, 1) := by decide +kernel
theorem dX5_leastSets_0 : decode cX5_leastSets 0 = .ok (.iconst 0, 1) := by decide +kernel
theorem dX5_leastSets_1 : decode cX5_leastSets 1 = .ok (.istore_n 1, 1) := by decide +kernel
theorem dX5_leastSets_2 : decode cX5_leastSets 2 = .ok (.iconst 1, 1) := by decide +kernel
theorem dX5_leastSets_3 : decode cX5_leastSets 3 = .ok (.istore_n 2, 1) := by decide +kernel
theorem dX5_leastSets_4 : decode cX5_leastSets 4 = .ok (.iload_n 2, 1) := by decide +kernel
theorem dX5_leastSets_5 : decode cX5_leastSets 5 = .ok (.aload_n 0, 1) := by decide +kernel
theorem dX5_leastSets_6 : decode cX5_leastSets 6 = .ok (.invokevirtual 64, 3) := by decide +kernel
theorem dX5_leastSets_9 : decode cX5_leastSets 9 = .ok (.if_icmp .gt 20, 3) := by decide +kernel
theorem dX5_leastSets_12 : decode cX5_leastSets 12 = .ok (.aload_n 0, 1) := by decide +kernel
theorem dX5_leastSets_13 : decode cX5_leastSets 13 = .ok (.iload_n 2, 1) := by decide +kernel
theorem dX5_leastSets_14 : decode cX5_leastSets 14 = .ok (.invokevirtual 68, 3) := by decide +kernel
theorem dX5_leastSets_17 : decode cX5_leastSets 17 = .ok (.ifCond .eq 6, 3) := by decide +kernel
theorem dX5_leastSets_20 : decode cX5_leastSets 20 = .ok (.iinc 1 1, 3) := by decide +kernel
theorem dX5_leastSets_23 : decode cX5_leastSets 23 = .ok (.iinc 2 1, 3) := by decide +kernel
theorem dX5_leastSets_26 : decode cX5_leastSets 26 = .ok (.goto (-22), 3) := by decide +kernel
theorem dX5_leastSets_29 : decode cX5_leastSets 29 = .ok (.iload_n 1, 1) := by decide +kernel
theorem dX5_leastSets_30 : decode cX5_leastSets 30 = .ok (.ireturn, 1) := by decide +kernel
theorem dX5_leastSetAt_0 : decode cX5_leastSetAt 0 = .ok (.iconst 0, 1) := by decide +kernel
theorem dX5_leastSetAt_1 : decode cX5_leastSetAt 1 = .ok (.istore_n 2, 1) := by decide +kernel
theorem dX5_leastSetAt_2 : decode cX5_leastSetAt 2 = .ok (.iconst 1, 1) := by decide +kernel
theorem dX5_leastSetAt_3 : decode cX5_leastSetAt 3 = .ok (.istore_n 3, 1) := by decide +kernel
theorem dX5_leastSetAt_4 : decode cX5_leastSetAt 4 = .ok (.iload_n 3, 1) := by decide +kernel
theorem dX5_leastSetAt_5 : decode cX5_leastSetAt 5 = .ok (.aload_n 0, 1) := by decide +kernel
theorem dX5_leastSetAt_6 : decode cX5_leastSetAt 6 = .ok (.invokevirtual 64, 3) := by decide +kernel
theorem dX5_leastSetAt_9 : decode cX5_leastSetAt 9 = .ok (.if_icmp .gt 27, 3) := by decide +kernel
theorem dX5_leastSetAt_12 : decode cX5_leastSetAt 12 = .ok (.aload_n 0, 1) := by decide +kernel
theorem dX5_leastSetAt_13 : decode cX5_leastSetAt 13 = .ok (.iload_n 3, 1) := by decide +kernel
theorem dX5_leastSetAt_14 : decode cX5_leastSetAt 14 = .ok (.invokevirtual 68, 3) := by decide +kernel
theorem dX5_leastSetAt_17 : decode cX5_leastSetAt 17 = .ok (.ifCond .eq 13, 3) := by decide +kernel
theorem dX5_leastSetAt_20 : decode cX5_leastSetAt 20 = .ok (.iload_n 2, 1) := by decide +kernel
theorem dX5_leastSetAt_21 : decode cX5_leastSetAt 21 = .ok (.iload_n 1, 1) := by decide +kernel
theorem dX5_leastSetAt_22 : decode cX5_leastSetAt 22 = .ok (.if_icmp .ne 5, 3) := by decide +kernel
theorem dX5_leastSetAt_25 : decode cX5_leastSetAt 25 = .ok (.iload_n 3, 1) := by decide +kernel
theorem dX5_leastSetAt_26 : decode cX5_leastSetAt 26 = .ok (.ireturn, 1) := by decide +kernel
theorem dX5_leastSetAt_27 : decode cX5_leastSetAt 27 = .ok (.iinc 2 1, 3) := by decide +kernel
theorem dX5_leastSetAt_30 : decode cX5_leastSetAt 30 = .ok (.iinc 3 1, 3) := by decide +kernel
theorem dX5_leastSetAt_33 : decode cX5_leastSetAt 33 = .ok (.goto (-29), 3) := by decide +kernel
theorem dX5_leastSetAt_36 : decode cX5_leastSetAt 36 = .ok (.iconst (-1), 1) := by decide +kernel
theorem dX5_leastSetAt_37 : decode cX5_leastSetAt 37 = .ok (.ireturn, 1) := by decide +kernel
theorem dX5_turnsOf_0 : decode cX5_turnsOf 0 = .ok (.iconst 0, 1) := by decide +kernel
theorem dX5_turnsOf_1 : decode cX5_turnsOf 1 = .ok (.istore_n 2, 1) := by decide +kernel
theorem dX5_turnsOf_2 : decode cX5_turnsOf 2 = .ok (.iconst 0, 1) := by decide +kernel
theorem dX5_turnsOf_3 : decode cX5_turnsOf 3 = .ok (.istore_n 3, 1) := by decide +kernel
theorem dX5_turnsOf_4 : decode cX5_turnsOf 4 = .ok (.iload_n 3, 1) := by decide +kernel
theorem dX5_turnsOf_5 : decode cX5_turnsOf 5 = .ok (.aload_n 0, 1) := by decide +kernel
theorem dX5_turnsOf_6 : decode cX5_turnsOf 6 = .ok (.invokevirtual 64, 3) := by decide +kernel
theorem dX5_turnsOf_9 : decode cX5_turnsOf 9 = .ok (.if_icmp .gt 21, 3) := by decide +kernel
theorem dX5_turnsOf_12 : decode cX5_turnsOf 12 = .ok (.aload_n 0, 1) := by decide +kernel
theorem dX5_turnsOf_13 : decode cX5_turnsOf 13 = .ok (.iload_n 3, 1) := by decide +kernel
theorem dX5_turnsOf_14 : decode cX5_turnsOf 14 = .ok (.iload_n 1, 1) := by decide +kernel
theorem dX5_turnsOf_15 : decode cX5_turnsOf 15 = .ok (.invokevirtual 71, 3) := by decide +kernel
theorem dX5_turnsOf_18 : decode cX5_turnsOf 18 = .ok (.ifCond .eq 6, 3) := by decide +kernel
theorem dX5_turnsOf_21 : decode cX5_turnsOf 21 = .ok (.iinc 2 1, 3) := by decide +kernel
theorem dX5_turnsOf_24 : decode cX5_turnsOf 24 = .ok (.iinc 3 1, 3) := by decide +kernel
theorem dX5_turnsOf_27 : decode cX5_turnsOf 27 = .ok (.goto (-23), 3) := by decide +kernel
theorem dX5_turnsOf_30 : decode cX5_turnsOf 30 = .ok (.iload_n 2, 1) := by decide +kernel
theorem dX5_turnsOf_31 : decode cX5_turnsOf 31 = .ok (.ireturn, 1) := by decide +kernel
theorem dX5_pivotsOf_0 : decode cX5_pivotsOf 0 = .ok (.iconst 0, 1) := by decide +kernel
theorem dX5_pivotsOf_1 : decode cX5_pivotsOf 1 = .ok (.istore_n 2, 1) := by decide +kernel
theorem dX5_pivotsOf_2 : decode cX5_pivotsOf 2 = .ok (.iconst 0, 1) := by decide +kernel
theorem dX5_pivotsOf_3 : decode cX5_pivotsOf 3 = .ok (.istore_n 3, 1) := by decide +kernel
theorem dX5_pivotsOf_4 : decode cX5_pivotsOf 4 = .ok (.iload_n 3, 1) := by decide +kernel
theorem dX5_pivotsOf_5 : decode cX5_pivotsOf 5 = .ok (.aload_n 0, 1) := by decide +kernel
theorem dX5_pivotsOf_6 : decode cX5_pivotsOf 6 = .ok (.invokevirtual 64, 3) := by decide +kernel
theorem dX5_pivotsOf_9 : decode cX5_pivotsOf 9 = .ok (.if_icmp .gt 32, 3) := by decide +kernel
theorem dX5_pivotsOf_12 : decode cX5_pivotsOf 12 = .ok (.aload_n 0, 1) := by decide +kernel
theorem dX5_pivotsOf_13 : decode cX5_pivotsOf 13 = .ok (.iload_n 3, 1) := by decide +kernel
theorem dX5_pivotsOf_14 : decode cX5_pivotsOf 14 = .ok (.iload_n 1, 1) := by decide +kernel
theorem dX5_pivotsOf_15 : decode cX5_pivotsOf 15 = .ok (.invokevirtual 71, 3) := by decide +kernel
theorem dX5_pivotsOf_18 : decode cX5_pivotsOf 18 = .ok (.ifCond .eq 17, 3) := by decide +kernel
theorem dX5_pivotsOf_21 : decode cX5_pivotsOf 21 = .ok (.iload_n 2, 1) := by decide +kernel
theorem dX5_pivotsOf_22 : decode cX5_pivotsOf 22 = .ok (.iload_n 3, 1) := by decide +kernel
theorem dX5_pivotsOf_23 : decode cX5_pivotsOf 23 = .ok (.invokestatic 74, 3) := by decide +kernel
theorem dX5_pivotsOf_26 : decode cX5_pivotsOf 26 = .ok (.aload_n 0, 1) := by decide +kernel
theorem dX5_pivotsOf_27 : decode cX5_pivotsOf 27 = .ok (.getfield 9, 3) := by decide +kernel
theorem dX5_pivotsOf_30 : decode cX5_pivotsOf 30 = .ok (.invokestatic 80, 3) := by decide +kernel
theorem dX5_pivotsOf_33 : decode cX5_pivotsOf 33 = .ok (.iadd, 1) := by decide +kernel
theorem dX5_pivotsOf_34 : decode cX5_pivotsOf 34 = .ok (.istore_n 2, 1) := by decide +kernel
theorem dX5_pivotsOf_35 : decode cX5_pivotsOf 35 = .ok (.iinc 3 1, 3) := by decide +kernel
theorem dX5_pivotsOf_38 : decode cX5_pivotsOf 38 = .ok (.goto (-34), 3) := by decide +kernel
theorem dX5_pivotsOf_41 : decode cX5_pivotsOf 41 = .ok (.iload_n 2, 1) := by decide +kernel
theorem dX5_pivotsOf_42 : decode cX5_pivotsOf 42 = .ok (.ireturn, 1) := by decide +kernel
theorem dX5_isBlocking_0 : decode cX5_isBlocking 0 = .ok (.aload_n 0, 1) := by decide +kernel
theorem dX5_isBlocking_1 : decode cX5_isBlocking 1 = .ok (.aload_n 0, 1) := by decide +kernel
theorem dX5_isBlocking_2 : decode cX5_isBlocking 2 = .ok (.invokevirtual 64, 3) := by decide +kernel
theorem dX5_isBlocking_5 : decode cX5_isBlocking 5 = .ok (.invokevirtual 60, 3) := by decide +kernel
theorem dX5_isBlocking_8 : decode cX5_isBlocking 8 = .ok (.ifCond .eq 22, 3) := by decide +kernel
theorem dX5_isBlocking_11 : decode cX5_isBlocking 11 = .ok (.aload_n 0, 1) := by decide +kernel
theorem dX5_isBlocking_12 : decode cX5_isBlocking 12 = .ok (.aload_n 0, 1) := by decide +kernel
theorem dX5_isBlocking_13 : decode cX5_isBlocking 13 = .ok (.invokevirtual 64, 3) := by decide +kernel
theorem dX5_isBlocking_16 : decode cX5_isBlocking 16 = .ok (.iconst 1, 1) := by decide +kernel
theorem dX5_isBlocking_17 : decode cX5_isBlocking 17 = .ok (.iload_n 1, 1) := by decide +kernel
theorem dX5_isBlocking_18 : decode cX5_isBlocking 18 = .ok (.ishl, 1) := by decide +kernel
theorem dX5_isBlocking_19 : decode cX5_isBlocking 19 = .ok (.isub, 1) := by decide +kernel
theorem dX5_isBlocking_20 : decode cX5_isBlocking 20 = .ok (.invokevirtual 60, 3) := by decide +kernel
theorem dX5_isBlocking_23 : decode cX5_isBlocking 23 = .ok (.ifCond .ne 7, 3) := by decide +kernel
theorem dX5_isBlocking_26 : decode cX5_isBlocking 26 = .ok (.iconst 1, 1) := by decide +kernel
theorem dX5_isBlocking_27 : decode cX5_isBlocking 27 = .ok (.goto 4, 3) := by decide +kernel
theorem dX5_isBlocking_30 : decode cX5_isBlocking 30 = .ok (.iconst 0, 1) := by decide +kernel
theorem dX5_isBlocking_31 : decode cX5_isBlocking 31 = .ok (.ireturn, 1) := by decide +kernel
theorem dX5_isIdle_0 : decode cX5_isIdle 0 = .ok (.aload_n 0, 1) := by decide +kernel
theorem dX5_isIdle_1 : decode cX5_isIdle 1 = .ok (.iload_n 1, 1) := by decide +kernel
theorem dX5_isIdle_2 : decode cX5_isIdle 2 = .ok (.invokevirtual 83, 3) := by decide +kernel
theorem dX5_isIdle_5 : decode cX5_isIdle 5 = .ok (.ifCond .ne 7, 3) := by decide +kernel
theorem dX5_isIdle_8 : decode cX5_isIdle 8 = .ok (.iconst 1, 1) := by decide +kernel
theorem dX5_isIdle_9 : decode cX5_isIdle 9 = .ok (.goto 4, 3) := by decide +kernel
theorem dX5_isIdle_12 : decode cX5_isIdle 12 = .ok (.iconst 0, 1) := by decide +kernel
theorem dX5_isIdle_13 : decode cX5_isIdle 13 = .ok (.ireturn, 1) := by decide +kernel
theorem dX5_partsOfLeastSets_0 : decode cX5_partsOfLeastSets 0 = .ok (.iconst 0, 1) := by decide +kernel
theorem dX5_partsOfLeastSets_1 : decode cX5_partsOfLeastSets 1 = .ok (.istore_n 2, 1) := by decide +kernel
theorem dX5_partsOfLeastSets_2 : decode cX5_partsOfLeastSets 2 = .ok (.iconst 1, 1) := by decide +kernel
theorem dX5_partsOfLeastSets_3 : decode cX5_partsOfLeastSets 3 = .ok (.istore_n 3, 1) := by decide +kernel
theorem dX5_partsOfLeastSets_4 : decode cX5_partsOfLeastSets 4 = .ok (.iload_n 3, 1) := by decide +kernel
theorem dX5_partsOfLeastSets_5 : decode cX5_partsOfLeastSets 5 = .ok (.aload_n 0, 1) := by decide +kernel
theorem dX5_partsOfLeastSets_6 : decode cX5_partsOfLeastSets 6 = .ok (.invokevirtual 64, 3) := by decide +kernel
theorem dX5_partsOfLeastSets_9 : decode cX5_partsOfLeastSets 9 = .ok (.if_icmp .gt 40, 3) := by decide +kernel
theorem dX5_partsOfLeastSets_12 : decode cX5_partsOfLeastSets 12 = .ok (.iload_n 3, 1) := by decide +kernel
theorem dX5_partsOfLeastSets_13 : decode cX5_partsOfLeastSets 13 = .ok (.iload_n 1, 1) := by decide +kernel
theorem dX5_partsOfLeastSets_14 : decode cX5_partsOfLeastSets 14 = .ok (.invokestatic 56, 3) := by decide +kernel
theorem dX5_partsOfLeastSets_17 : decode cX5_partsOfLeastSets 17 = .ok (.ifCond .eq 26, 3) := by decide +kernel
theorem dX5_partsOfLeastSets_20 : decode cX5_partsOfLeastSets 20 = .ok (.aload_n 0, 1) := by decide +kernel
theorem dX5_partsOfLeastSets_21 : decode cX5_partsOfLeastSets 21 = .ok (.iload_n 3, 1) := by decide +kernel
theorem dX5_partsOfLeastSets_22 : decode cX5_partsOfLeastSets 22 = .ok (.invokevirtual 68, 3) := by decide +kernel
theorem dX5_partsOfLeastSets_25 : decode cX5_partsOfLeastSets 25 = .ok (.ifCond .eq 18, 3) := by decide +kernel
theorem dX5_partsOfLeastSets_28 : decode cX5_partsOfLeastSets 28 = .ok (.iload_n 2, 1) := by decide +kernel
theorem dX5_partsOfLeastSets_29 : decode cX5_partsOfLeastSets 29 = .ok (.sipush 840, 3) := by decide +kernel
theorem dX5_partsOfLeastSets_32 : decode cX5_partsOfLeastSets 32 = .ok (.iconst 1, 1) := by decide +kernel
theorem dX5_partsOfLeastSets_33 : decode cX5_partsOfLeastSets 33 = .ok (.iload_n 3, 1) := by decide +kernel
theorem dX5_partsOfLeastSets_34 : decode cX5_partsOfLeastSets 34 = .ok (.invokestatic 74, 3) := by decide +kernel
theorem dX5_partsOfLeastSets_37 : decode cX5_partsOfLeastSets 37 = .ok (.invokestatic 86, 3) := by decide +kernel
theorem dX5_partsOfLeastSets_40 : decode cX5_partsOfLeastSets 40 = .ok (.idiv, 1) := by decide +kernel
theorem dX5_partsOfLeastSets_41 : decode cX5_partsOfLeastSets 41 = .ok (.iadd, 1) := by decide +kernel
theorem dX5_partsOfLeastSets_42 : decode cX5_partsOfLeastSets 42 = .ok (.istore_n 2, 1) := by decide +kernel
theorem dX5_partsOfLeastSets_43 : decode cX5_partsOfLeastSets 43 = .ok (.iinc 3 1, 3) := by decide +kernel
theorem dX5_partsOfLeastSets_46 : decode cX5_partsOfLeastSets 46 = .ok (.goto (-42), 3) := by decide +kernel
theorem dX5_partsOfLeastSets_49 : decode cX5_partsOfLeastSets 49 = .ok (.iload_n 2, 1) := by decide +kernel
theorem dX5_partsOfLeastSets_50 : decode cX5_partsOfLeastSets 50 = .ok (.ireturn, 1) := by decide +kernel
theorem dX5_tellSame_0 : decode cX5_tellSame 0 = .ok (.aload_n 0, 1) := by decide +kernel
theorem dX5_tellSame_1 : decode cX5_tellSame 1 = .ok (.invokevirtual 91, 3) := by decide +kernel
theorem dX5_tellSame_4 : decode cX5_tellSame 4 = .ok (.aload_n 0, 1) := by decide +kernel
theorem dX5_tellSame_5 : decode cX5_tellSame 5 = .ok (.getfield 37, 3) := by decide +kernel
theorem dX5_tellSame_8 : decode cX5_tellSame 8 = .ok (.iconst (-1), 1) := by decide +kernel
theorem dX5_tellSame_9 : decode cX5_tellSame 9 = .ok (.if_icmp .ne 6, 3) := by decide +kernel
theorem dX5_tellSame_12 : decode cX5_tellSame 12 = .ok (.bipush (-5), 2) := by decide +kernel
theorem dX5_tellSame_14 : decode cX5_tellSame 14 = .ok (.ireturn, 1) := by decide +kernel
theorem dX5_tellSame_15 : decode cX5_tellSame 15 = .ok (.iload_n 1, 1) := by decide +kernel
theorem dX5_tellSame_16 : decode cX5_tellSame 16 = .ok (.iconst (-1), 1) := by decide +kernel
theorem dX5_tellSame_17 : decode cX5_tellSame 17 = .ok (.if_icmp .ne 10, 3) := by decide +kernel
theorem dX5_tellSame_20 : decode cX5_tellSame 20 = .ok (.aload_n 0, 1) := by decide +kernel
theorem dX5_tellSame_21 : decode cX5_tellSame 21 = .ok (.getfield 37, 3) := by decide +kernel
theorem dX5_tellSame_24 : decode cX5_tellSame 24 = .ok (.goto 9, 3) := by decide +kernel
theorem dX5_tellSame_27 : decode cX5_tellSame 27 = .ok (.aload_n 0, 1) := by decide +kernel
theorem dX5_tellSame_28 : decode cX5_tellSame 28 = .ok (.getfield 34, 3) := by decide +kernel
theorem dX5_tellSame_31 : decode cX5_tellSame 31 = .ok (.iload_n 1, 1) := by decide +kernel
theorem dX5_tellSame_32 : decode cX5_tellSame 32 = .ok (.iaload, 1) := by decide +kernel
theorem dX5_tellSame_33 : decode cX5_tellSame 33 = .ok (.ireturn, 1) := by decide +kernel
theorem dX5_findSame_0 : decode cX5_findSame 0 = .ok (.aload_n 0, 1) := by decide +kernel
theorem dX5_findSame_1 : decode cX5_findSame 1 = .ok (.getfield 40, 3) := by decide +kernel
theorem dX5_findSame_4 : decode cX5_findSame 4 = .ok (.ifCond .eq 4, 3) := by decide +kernel
theorem dX5_findSame_7 : decode cX5_findSame 7 = .ok (.return_, 1) := by decide +kernel
theorem dX5_findSame_8 : decode cX5_findSame 8 = .ok (.aload_n 0, 1) := by decide +kernel
theorem dX5_findSame_9 : decode cX5_findSame 9 = .ok (.iconst (-1), 1) := by decide +kernel
theorem dX5_findSame_10 : decode cX5_findSame 10 = .ok (.putfield 37, 3) := by decide +kernel
theorem dX5_findSame_13 : decode cX5_findSame 13 = .ok (.iconst 0, 1) := by decide +kernel
theorem dX5_findSame_14 : decode cX5_findSame 14 = .ok (.istore_n 1, 1) := by decide +kernel
theorem dX5_findSame_15 : decode cX5_findSame 15 = .ok (.iload_n 1, 1) := by decide +kernel
theorem dX5_findSame_16 : decode cX5_findSame 16 = .ok (.aload_n 0, 1) := by decide +kernel
theorem dX5_findSame_17 : decode cX5_findSame 17 = .ok (.getfield 9, 3) := by decide +kernel
theorem dX5_findSame_20 : decode cX5_findSame 20 = .ok (.if_icmp .ge 20, 3) := by decide +kernel
theorem dX5_findSame_23 : decode cX5_findSame 23 = .ok (.aload_n 0, 1) := by decide +kernel
theorem dX5_findSame_24 : decode cX5_findSame 24 = .ok (.getfield 25, 3) := by decide +kernel
theorem dX5_findSame_27 : decode cX5_findSame 27 = .ok (.iload_n 1, 1) := by decide +kernel
theorem dX5_findSame_28 : decode cX5_findSame 28 = .ok (.aload_n 0, 1) := by decide +kernel
theorem dX5_findSame_29 : decode cX5_findSame 29 = .ok (.iload_n 1, 1) := by decide +kernel
theorem dX5_findSame_30 : decode cX5_findSame 30 = .ok (.invokevirtual 94, 3) := by decide +kernel
theorem dX5_findSame_33 : decode cX5_findSame 33 = .ok (.iastore, 1) := by decide +kernel
theorem dX5_findSame_34 : decode cX5_findSame 34 = .ok (.iinc 1 1, 3) := by decide +kernel
theorem dX5_findSame_37 : decode cX5_findSame 37 = .ok (.goto (-22), 3) := by decide +kernel
theorem dX5_findSame_40 : decode cX5_findSame 40 = .ok (.iconst 0, 1) := by decide +kernel
theorem dX5_findSame_41 : decode cX5_findSame 41 = .ok (.istore_n 1, 1) := by decide +kernel
theorem dX5_findSame_42 : decode cX5_findSame 42 = .ok (.iload_n 1, 1) := by decide +kernel
theorem dX5_findSame_43 : decode cX5_findSame 43 = .ok (.bipush 12, 2) := by decide +kernel
theorem dX5_findSame_45 : decode cX5_findSame 45 = .ok (.if_icmp .gt 22, 3) := by decide +kernel
theorem dX5_findSame_48 : decode cX5_findSame 48 = .ok (.aload_n 0, 1) := by decide +kernel
theorem dX5_findSame_49 : decode cX5_findSame 49 = .ok (.getfield 37, 3) := by decide +kernel
theorem dX5_findSame_52 : decode cX5_findSame 52 = .ok (.iconst (-1), 1) := by decide +kernel
theorem dX5_findSame_53 : decode cX5_findSame 53 = .ok (.if_icmp .ne 14, 3) := by decide +kernel
theorem dX5_findSame_56 : decode cX5_findSame 56 = .ok (.aload_n 0, 1) := by decide +kernel
theorem dX5_findSame_57 : decode cX5_findSame 57 = .ok (.iload_n 1, 1) := by decide +kernel
theorem dX5_findSame_58 : decode cX5_findSame 58 = .ok (.invokevirtual 97, 3) := by decide +kernel
theorem dX5_findSame_61 : decode cX5_findSame 61 = .ok (.iinc 1 1, 3) := by decide +kernel
theorem dX5_findSame_64 : decode cX5_findSame 64 = .ok (.goto (-22), 3) := by decide +kernel
theorem dX5_findSame_67 : decode cX5_findSame 67 = .ok (.aload_n 0, 1) := by decide +kernel
theorem dX5_findSame_68 : decode cX5_findSame 68 = .ok (.iconst 1, 1) := by decide +kernel
theorem dX5_findSame_69 : decode cX5_findSame 69 = .ok (.putfield 40, 3) := by decide +kernel
theorem dX5_findSame_72 : decode cX5_findSame 72 = .ok (.return_, 1) := by decide +kernel
theorem dX5_findSameOfSum_0 : decode cX5_findSameOfSum 0 = .ok (.iconst 0, 1) := by decide +kernel
theorem dX5_findSameOfSum_1 : decode cX5_findSameOfSum 1 = .ok (.istore_n 2, 1) := by decide +kernel
theorem dX5_findSameOfSum_2 : decode cX5_findSameOfSum 2 = .ok (.iload_n 2, 1) := by decide +kernel
theorem dX5_findSameOfSum_3 : decode cX5_findSameOfSum 3 = .ok (.aload_n 0, 1) := by decide +kernel
theorem dX5_findSameOfSum_4 : decode cX5_findSameOfSum 4 = .ok (.getfield 9, 3) := by decide +kernel
theorem dX5_findSameOfSum_7 : decode cX5_findSameOfSum 7 = .ok (.if_icmp .ge 16, 3) := by decide +kernel
theorem dX5_findSameOfSum_10 : decode cX5_findSameOfSum 10 = .ok (.aload_n 0, 1) := by decide +kernel
theorem dX5_findSameOfSum_11 : decode cX5_findSameOfSum 11 = .ok (.getfield 28, 3) := by decide +kernel
theorem dX5_findSameOfSum_14 : decode cX5_findSameOfSum 14 = .ok (.iload_n 2, 1) := by decide +kernel
theorem dX5_findSameOfSum_15 : decode cX5_findSameOfSum 15 = .ok (.iconst 0, 1) := by decide +kernel
theorem dX5_findSameOfSum_16 : decode cX5_findSameOfSum 16 = .ok (.iastore, 1) := by decide +kernel
theorem dX5_findSameOfSum_17 : decode cX5_findSameOfSum 17 = .ok (.iinc 2 1, 3) := by decide +kernel
theorem dX5_findSameOfSum_20 : decode cX5_findSameOfSum 20 = .ok (.goto (-18), 3) := by decide +kernel
theorem dX5_findSameOfSum_23 : decode cX5_findSameOfSum 23 = .ok (.aload_n 0, 1) := by decide +kernel
theorem dX5_findSameOfSum_24 : decode cX5_findSameOfSum 24 = .ok (.getfield 28, 3) := by decide +kernel
theorem dX5_findSameOfSum_27 : decode cX5_findSameOfSum 27 = .ok (.aload_n 0, 1) := by decide +kernel
theorem dX5_findSameOfSum_28 : decode cX5_findSameOfSum 28 = .ok (.getfield 9, 3) := by decide +kernel
theorem dX5_findSameOfSum_31 : decode cX5_findSameOfSum 31 = .ok (.iconst 1, 1) := by decide +kernel
theorem dX5_findSameOfSum_32 : decode cX5_findSameOfSum 32 = .ok (.isub, 1) := by decide +kernel
theorem dX5_findSameOfSum_33 : decode cX5_findSameOfSum 33 = .ok (.iload_n 1, 1) := by decide +kernel
theorem dX5_findSameOfSum_34 : decode cX5_findSameOfSum 34 = .ok (.iastore, 1) := by decide +kernel
theorem dX5_findSameOfSum_35 : decode cX5_findSameOfSum 35 = .ok (.iconst 1, 1) := by decide +kernel
theorem dX5_findSameOfSum_36 : decode cX5_findSameOfSum 36 = .ok (.istore_n 2, 1) := by decide +kernel
theorem dX5_findSameOfSum_37 : decode cX5_findSameOfSum 37 = .ok (.iconst 0, 1) := by decide +kernel
theorem dX5_findSameOfSum_38 : decode cX5_findSameOfSum 38 = .ok (.istore_n 3, 1) := by decide +kernel
theorem dX5_findSameOfSum_39 : decode cX5_findSameOfSum 39 = .ok (.iload_n 3, 1) := by decide +kernel
theorem dX5_findSameOfSum_40 : decode cX5_findSameOfSum 40 = .ok (.ldc 101, 2) := by decide +kernel
theorem dX5_findSameOfSum_42 : decode cX5_findSameOfSum 42 = .ok (.if_icmp .ge 81, 3) := by decide +kernel
theorem dX5_findSameOfSum_45 : decode cX5_findSameOfSum 45 = .ok (.iload_n 2, 1) := by decide +kernel
theorem dX5_findSameOfSum_46 : decode cX5_findSameOfSum 46 = .ok (.ifCond .eq 77, 3) := by decide +kernel
theorem dX5_findSameOfSum_49 : decode cX5_findSameOfSum 49 = .ok (.aload_n 0, 1) := by decide +kernel
theorem dX5_findSameOfSum_50 : decode cX5_findSameOfSum 50 = .ok (.invokevirtual 102, 3) := by decide +kernel
theorem dX5_findSameOfSum_53 : decode cX5_findSameOfSum 53 = .ok (.ifCond .eq 10, 3) := by decide +kernel
theorem dX5_findSameOfSum_56 : decode cX5_findSameOfSum 56 = .ok (.aload_n 0, 1) := by decide +kernel
theorem dX5_findSameOfSum_57 : decode cX5_findSameOfSum 57 = .ok (.invokevirtual 106, 3) := by decide +kernel
theorem dX5_findSameOfSum_60 : decode cX5_findSameOfSum 60 = .ok (.goto 4, 3) := by decide +kernel
theorem dX5_findSameOfSum_63 : decode cX5_findSameOfSum 63 = .ok (.iconst (-1), 1) := by decide +kernel
theorem dX5_findSameOfSum_64 : decode cX5_findSameOfSum 64 = .ok (.istore 4, 2) := by decide +kernel
theorem dX5_findSameOfSum_66 : decode cX5_findSameOfSum 66 = .ok (.iload 4, 2) := by decide +kernel
theorem dX5_findSameOfSum_68 : decode cX5_findSameOfSum 68 = .ok (.iconst (-1), 1) := by decide +kernel
theorem dX5_findSameOfSum_69 : decode cX5_findSameOfSum 69 = .ok (.if_icmp .eq 43, 3) := by decide +kernel
theorem dX5_findSameOfSum_72 : decode cX5_findSameOfSum 72 = .ok (.aload_n 0, 1) := by decide +kernel
theorem dX5_findSameOfSum_73 : decode cX5_findSameOfSum 73 = .ok (.getfield 37, 3) := by decide +kernel
theorem dX5_findSameOfSum_76 : decode cX5_findSameOfSum 76 = .ok (.iconst (-1), 1) := by decide +kernel
theorem dX5_findSameOfSum_77 : decode cX5_findSameOfSum 77 = .ok (.if_icmp .eq 12, 3) := by decide +kernel
theorem dX5_findSameOfSum_80 : decode cX5_findSameOfSum 80 = .ok (.iload 4, 2) := by decide +kernel
theorem dX5_findSameOfSum_82 : decode cX5_findSameOfSum 82 = .ok (.aload_n 0, 1) := by decide +kernel
theorem dX5_findSameOfSum_83 : decode cX5_findSameOfSum 83 = .ok (.getfield 37, 3) := by decide +kernel
theorem dX5_findSameOfSum_86 : decode cX5_findSameOfSum 86 = .ok (.if_icmp .ge 26, 3) := by decide +kernel
theorem dX5_findSameOfSum_89 : decode cX5_findSameOfSum 89 = .ok (.aload_n 0, 1) := by decide +kernel
theorem dX5_findSameOfSum_90 : decode cX5_findSameOfSum 90 = .ok (.iload 4, 2) := by decide +kernel
theorem dX5_findSameOfSum_92 : decode cX5_findSameOfSum 92 = .ok (.putfield 37, 3) := by decide +kernel
theorem dX5_findSameOfSum_95 : decode cX5_findSameOfSum 95 = .ok (.aload_n 0, 1) := by decide +kernel
theorem dX5_findSameOfSum_96 : decode cX5_findSameOfSum 96 = .ok (.getfield 28, 3) := by decide +kernel
theorem dX5_findSameOfSum_99 : decode cX5_findSameOfSum 99 = .ok (.iconst 0, 1) := by decide +kernel
theorem dX5_findSameOfSum_100 : decode cX5_findSameOfSum 100 = .ok (.aload_n 0, 1) := by decide +kernel
theorem dX5_findSameOfSum_101 : decode cX5_findSameOfSum 101 = .ok (.getfield 34, 3) := by decide +kernel
theorem dX5_findSameOfSum_104 : decode cX5_findSameOfSum 104 = .ok (.iconst 0, 1) := by decide +kernel
theorem dX5_findSameOfSum_105 : decode cX5_findSameOfSum 105 = .ok (.aload_n 0, 1) := by decide +kernel
theorem dX5_findSameOfSum_106 : decode cX5_findSameOfSum 106 = .ok (.getfield 9, 3) := by decide +kernel
theorem dX5_findSameOfSum_109 : decode cX5_findSameOfSum 109 = .ok (.invokestatic 109, 3) := by decide +kernel
theorem dX5_findSameOfSum_112 : decode cX5_findSameOfSum 112 = .ok (.aload_n 0, 1) := by decide +kernel
theorem dX5_findSameOfSum_113 : decode cX5_findSameOfSum 113 = .ok (.invokevirtual 115, 3) := by decide +kernel
theorem dX5_findSameOfSum_116 : decode cX5_findSameOfSum 116 = .ok (.istore_n 2, 1) := by decide +kernel
theorem dX5_findSameOfSum_117 : decode cX5_findSameOfSum 117 = .ok (.iinc 3 1, 3) := by decide +kernel
theorem dX5_findSameOfSum_120 : decode cX5_findSameOfSum 120 = .ok (.goto (-81), 3) := by decide +kernel
theorem dX5_findSameOfSum_123 : decode cX5_findSameOfSum 123 = .ok (.return_, 1) := by decide +kernel
theorem dX5_nextRow_0 : decode cX5_nextRow 0 = .ok (.aload_n 0, 1) := by decide +kernel
theorem dX5_nextRow_1 : decode cX5_nextRow 1 = .ok (.getfield 9, 3) := by decide +kernel
theorem dX5_nextRow_4 : decode cX5_nextRow 4 = .ok (.iconst 1, 1) := by decide +kernel
theorem dX5_nextRow_5 : decode cX5_nextRow 5 = .ok (.isub, 1) := by decide +kernel
theorem dX5_nextRow_6 : decode cX5_nextRow 6 = .ok (.istore_n 1, 1) := by decide +kernel
theorem dX5_nextRow_7 : decode cX5_nextRow 7 = .ok (.iload_n 1, 1) := by decide +kernel
theorem dX5_nextRow_8 : decode cX5_nextRow 8 = .ok (.ifCond .le 18, 3) := by decide +kernel
theorem dX5_nextRow_11 : decode cX5_nextRow 11 = .ok (.aload_n 0, 1) := by decide +kernel
theorem dX5_nextRow_12 : decode cX5_nextRow 12 = .ok (.getfield 28, 3) := by decide +kernel
theorem dX5_nextRow_15 : decode cX5_nextRow 15 = .ok (.iload_n 1, 1) := by decide +kernel
theorem dX5_nextRow_16 : decode cX5_nextRow 16 = .ok (.iaload, 1) := by decide +kernel
theorem dX5_nextRow_17 : decode cX5_nextRow 17 = .ok (.ifCond .ne 9, 3) := by decide +kernel
theorem dX5_nextRow_20 : decode cX5_nextRow 20 = .ok (.iinc 1 (-1), 3) := by decide +kernel
theorem dX5_nextRow_23 : decode cX5_nextRow 23 = .ok (.goto (-16), 3) := by decide +kernel
theorem dX5_nextRow_26 : decode cX5_nextRow 26 = .ok (.iload_n 1, 1) := by decide +kernel
theorem dX5_nextRow_27 : decode cX5_nextRow 27 = .ok (.ifCond .ne 5, 3) := by decide +kernel
theorem dX5_nextRow_30 : decode cX5_nextRow 30 = .ok (.iconst 0, 1) := by decide +kernel
theorem dX5_nextRow_31 : decode cX5_nextRow 31 = .ok (.ireturn, 1) := by decide +kernel
theorem dX5_nextRow_32 : decode cX5_nextRow 32 = .ok (.aload_n 0, 1) := by decide +kernel
theorem dX5_nextRow_33 : decode cX5_nextRow 33 = .ok (.getfield 28, 3) := by decide +kernel
theorem dX5_nextRow_36 : decode cX5_nextRow 36 = .ok (.iload_n 1, 1) := by decide +kernel
theorem dX5_nextRow_37 : decode cX5_nextRow 37 = .ok (.iaload, 1) := by decide +kernel
theorem dX5_nextRow_38 : decode cX5_nextRow 38 = .ok (.iconst 1, 1) := by decide +kernel
theorem dX5_nextRow_39 : decode cX5_nextRow 39 = .ok (.isub, 1) := by decide +kernel
theorem dX5_nextRow_40 : decode cX5_nextRow 40 = .ok (.istore_n 2, 1) := by decide +kernel
theorem dX5_nextRow_41 : decode cX5_nextRow 41 = .ok (.aload_n 0, 1) := by decide +kernel
theorem dX5_nextRow_42 : decode cX5_nextRow 42 = .ok (.getfield 28, 3) := by decide +kernel
theorem dX5_nextRow_45 : decode cX5_nextRow 45 = .ok (.iload_n 1, 1) := by decide +kernel
theorem dX5_nextRow_46 : decode cX5_nextRow 46 = .ok (.iconst 0, 1) := by decide +kernel
theorem dX5_nextRow_47 : decode cX5_nextRow 47 = .ok (.iastore, 1) := by decide +kernel
theorem dX5_nextRow_48 : decode cX5_nextRow 48 = .ok (.aload_n 0, 1) := by decide +kernel
theorem dX5_nextRow_49 : decode cX5_nextRow 49 = .ok (.getfield 28, 3) := by decide +kernel
theorem dX5_nextRow_52 : decode cX5_nextRow 52 = .ok (.iload_n 1, 1) := by decide +kernel
theorem dX5_nextRow_53 : decode cX5_nextRow 53 = .ok (.iconst 1, 1) := by decide +kernel
theorem dX5_nextRow_54 : decode cX5_nextRow 54 = .ok (.isub, 1) := by decide +kernel
theorem dX5_nextRow_55 : decode cX5_nextRow 55 = .ok (.dup2, 1) := by decide +kernel
theorem dX5_nextRow_56 : decode cX5_nextRow 56 = .ok (.iaload, 1) := by decide +kernel
theorem dX5_nextRow_57 : decode cX5_nextRow 57 = .ok (.iconst 1, 1) := by decide +kernel
theorem dX5_nextRow_58 : decode cX5_nextRow 58 = .ok (.iadd, 1) := by decide +kernel
theorem dX5_nextRow_59 : decode cX5_nextRow 59 = .ok (.iastore, 1) := by decide +kernel
theorem dX5_nextRow_60 : decode cX5_nextRow 60 = .ok (.aload_n 0, 1) := by decide +kernel
theorem dX5_nextRow_61 : decode cX5_nextRow 61 = .ok (.getfield 28, 3) := by decide +kernel
theorem dX5_nextRow_64 : decode cX5_nextRow 64 = .ok (.aload_n 0, 1) := by decide +kernel
theorem dX5_nextRow_65 : decode cX5_nextRow 65 = .ok (.getfield 9, 3) := by decide +kernel
theorem dX5_nextRow_68 : decode cX5_nextRow 68 = .ok (.iconst 1, 1) := by decide +kernel
theorem dX5_nextRow_69 : decode cX5_nextRow 69 = .ok (.isub, 1) := by decide +kernel
theorem dX5_nextRow_70 : decode cX5_nextRow 70 = .ok (.iload_n 2, 1) := by decide +kernel
theorem dX5_nextRow_71 : decode cX5_nextRow 71 = .ok (.iastore, 1) := by decide +kernel
theorem dX5_nextRow_72 : decode cX5_nextRow 72 = .ok (.iconst 1, 1) := by decide +kernel
theorem dX5_nextRow_73 : decode cX5_nextRow 73 = .ok (.ireturn, 1) := by decide +kernel
theorem dX5_isRanked_0 : decode cX5_isRanked 0 = .ok (.iconst 0, 1) := by decide +kernel
theorem dX5_isRanked_1 : decode cX5_isRanked 1 = .ok (.istore_n 1, 1) := by decide +kernel
theorem dX5_isRanked_2 : decode cX5_isRanked 2 = .ok (.iload_n 1, 1) := by decide +kernel
theorem dX5_isRanked_3 : decode cX5_isRanked 3 = .ok (.aload_n 0, 1) := by decide +kernel
theorem dX5_isRanked_4 : decode cX5_isRanked 4 = .ok (.getfield 9, 3) := by decide +kernel
theorem dX5_isRanked_7 : decode cX5_isRanked 7 = .ok (.if_icmp .ge 130, 3) := by decide +kernel
theorem dX5_isRanked_10 : decode cX5_isRanked 10 = .ok (.iload_n 1, 1) := by decide +kernel
theorem dX5_isRanked_11 : decode cX5_isRanked 11 = .ok (.iconst 1, 1) := by decide +kernel
theorem dX5_isRanked_12 : decode cX5_isRanked 12 = .ok (.iadd, 1) := by decide +kernel
theorem dX5_isRanked_13 : decode cX5_isRanked 13 = .ok (.istore_n 2, 1) := by decide +kernel
theorem dX5_isRanked_14 : decode cX5_isRanked 14 = .ok (.iload_n 2, 1) := by decide +kernel
theorem dX5_isRanked_15 : decode cX5_isRanked 15 = .ok (.aload_n 0, 1) := by decide +kernel
theorem dX5_isRanked_16 : decode cX5_isRanked 16 = .ok (.getfield 9, 3) := by decide +kernel
theorem dX5_isRanked_19 : decode cX5_isRanked 19 = .ok (.if_icmp .ge 112, 3) := by decide +kernel
theorem dX5_isRanked_22 : decode cX5_isRanked 22 = .ok (.aload_n 0, 1) := by decide +kernel
theorem dX5_isRanked_23 : decode cX5_isRanked 23 = .ok (.getfield 25, 3) := by decide +kernel
theorem dX5_isRanked_26 : decode cX5_isRanked 26 = .ok (.iload_n 1, 1) := by decide +kernel
theorem dX5_isRanked_27 : decode cX5_isRanked 27 = .ok (.iaload, 1) := by decide +kernel
theorem dX5_isRanked_28 : decode cX5_isRanked 28 = .ok (.aload_n 0, 1) := by decide +kernel
theorem dX5_isRanked_29 : decode cX5_isRanked 29 = .ok (.getfield 25, 3) := by decide +kernel
theorem dX5_isRanked_32 : decode cX5_isRanked 32 = .ok (.iload_n 2, 1) := by decide +kernel
theorem dX5_isRanked_33 : decode cX5_isRanked 33 = .ok (.iaload, 1) := by decide +kernel
theorem dX5_isRanked_34 : decode cX5_isRanked 34 = .ok (.if_icmp .le 26, 3) := by decide +kernel
theorem dX5_isRanked_37 : decode cX5_isRanked 37 = .ok (.aload_n 0, 1) := by decide +kernel
theorem dX5_isRanked_38 : decode cX5_isRanked 38 = .ok (.getfield 28, 3) := by decide +kernel
theorem dX5_isRanked_41 : decode cX5_isRanked 41 = .ok (.iload_n 1, 1) := by decide +kernel
theorem dX5_isRanked_42 : decode cX5_isRanked 42 = .ok (.iaload, 1) := by decide +kernel
theorem dX5_isRanked_43 : decode cX5_isRanked 43 = .ok (.aload_n 0, 1) := by decide +kernel
theorem dX5_isRanked_44 : decode cX5_isRanked 44 = .ok (.getfield 28, 3) := by decide +kernel
theorem dX5_isRanked_47 : decode cX5_isRanked 47 = .ok (.iload_n 2, 1) := by decide +kernel
theorem dX5_isRanked_48 : decode cX5_isRanked 48 = .ok (.iaload, 1) := by decide +kernel
theorem dX5_isRanked_49 : decode cX5_isRanked 49 = .ok (.if_icmp .le 7, 3) := by decide +kernel
theorem dX5_isRanked_52 : decode cX5_isRanked 52 = .ok (.iconst 1, 1) := by decide +kernel
theorem dX5_isRanked_53 : decode cX5_isRanked 53 = .ok (.goto 65, 3) := by decide +kernel
theorem dX5_isRanked_56 : decode cX5_isRanked 56 = .ok (.iconst 0, 1) := by decide +kernel
theorem dX5_isRanked_57 : decode cX5_isRanked 57 = .ok (.goto 61, 3) := by decide +kernel
theorem dX5_isRanked_60 : decode cX5_isRanked 60 = .ok (.aload_n 0, 1) := by decide +kernel
theorem dX5_isRanked_61 : decode cX5_isRanked 61 = .ok (.getfield 25, 3) := by decide +kernel
theorem dX5_isRanked_64 : decode cX5_isRanked 64 = .ok (.iload_n 1, 1) := by decide +kernel
theorem dX5_isRanked_65 : decode cX5_isRanked 65 = .ok (.iaload, 1) := by decide +kernel
theorem dX5_isRanked_66 : decode cX5_isRanked 66 = .ok (.aload_n 0, 1) := by decide +kernel
theorem dX5_isRanked_67 : decode cX5_isRanked 67 = .ok (.getfield 25, 3) := by decide +kernel
theorem dX5_isRanked_70 : decode cX5_isRanked 70 = .ok (.iload_n 2, 1) := by decide +kernel
theorem dX5_isRanked_71 : decode cX5_isRanked 71 = .ok (.iaload, 1) := by decide +kernel
theorem dX5_isRanked_72 : decode cX5_isRanked 72 = .ok (.if_icmp .ge 26, 3) := by decide +kernel
theorem dX5_isRanked_75 : decode cX5_isRanked 75 = .ok (.aload_n 0, 1) := by decide +kernel
theorem dX5_isRanked_76 : decode cX5_isRanked 76 = .ok (.getfield 28, 3) := by decide +kernel
theorem dX5_isRanked_79 : decode cX5_isRanked 79 = .ok (.iload_n 1, 1) := by decide +kernel
theorem dX5_isRanked_80 : decode cX5_isRanked 80 = .ok (.iaload, 1) := by decide +kernel
theorem dX5_isRanked_81 : decode cX5_isRanked 81 = .ok (.aload_n 0, 1) := by decide +kernel
theorem dX5_isRanked_82 : decode cX5_isRanked 82 = .ok (.getfield 28, 3) := by decide +kernel
theorem dX5_isRanked_85 : decode cX5_isRanked 85 = .ok (.iload_n 2, 1) := by decide +kernel
theorem dX5_isRanked_86 : decode cX5_isRanked 86 = .ok (.iaload, 1) := by decide +kernel
theorem dX5_isRanked_87 : decode cX5_isRanked 87 = .ok (.if_icmp .ge 7, 3) := by decide +kernel
theorem dX5_isRanked_90 : decode cX5_isRanked 90 = .ok (.iconst 1, 1) := by decide +kernel
theorem dX5_isRanked_91 : decode cX5_isRanked 91 = .ok (.goto 27, 3) := by decide +kernel
theorem dX5_isRanked_94 : decode cX5_isRanked 94 = .ok (.iconst 0, 1) := by decide +kernel
theorem dX5_isRanked_95 : decode cX5_isRanked 95 = .ok (.goto 23, 3) := by decide +kernel
theorem dX5_isRanked_98 : decode cX5_isRanked 98 = .ok (.aload_n 0, 1) := by decide +kernel
theorem dX5_isRanked_99 : decode cX5_isRanked 99 = .ok (.getfield 28, 3) := by decide +kernel
theorem dX5_isRanked_102 : decode cX5_isRanked 102 = .ok (.iload_n 1, 1) := by decide +kernel
theorem dX5_isRanked_103 : decode cX5_isRanked 103 = .ok (.iaload, 1) := by decide +kernel
theorem dX5_isRanked_104 : decode cX5_isRanked 104 = .ok (.aload_n 0, 1) := by decide +kernel
theorem dX5_isRanked_105 : decode cX5_isRanked 105 = .ok (.getfield 28, 3) := by decide +kernel
theorem dX5_isRanked_108 : decode cX5_isRanked 108 = .ok (.iload_n 2, 1) := by decide +kernel
theorem dX5_isRanked_109 : decode cX5_isRanked 109 = .ok (.iaload, 1) := by decide +kernel
theorem dX5_isRanked_110 : decode cX5_isRanked 110 = .ok (.if_icmp .gt 7, 3) := by decide +kernel
theorem dX5_isRanked_113 : decode cX5_isRanked 113 = .ok (.iconst 1, 1) := by decide +kernel
theorem dX5_isRanked_114 : decode cX5_isRanked 114 = .ok (.goto 4, 3) := by decide +kernel
theorem dX5_isRanked_117 : decode cX5_isRanked 117 = .ok (.iconst 0, 1) := by decide +kernel
theorem dX5_isRanked_118 : decode cX5_isRanked 118 = .ok (.istore_n 3, 1) := by decide +kernel
theorem dX5_isRanked_119 : decode cX5_isRanked 119 = .ok (.iload_n 3, 1) := by decide +kernel
theorem dX5_isRanked_120 : decode cX5_isRanked 120 = .ok (.ifCond .ne 5, 3) := by decide +kernel
theorem dX5_isRanked_123 : decode cX5_isRanked 123 = .ok (.iconst 0, 1) := by decide +kernel
theorem dX5_isRanked_124 : decode cX5_isRanked 124 = .ok (.ireturn, 1) := by decide +kernel
theorem dX5_isRanked_125 : decode cX5_isRanked 125 = .ok (.iinc 2 1, 3) := by decide +kernel
theorem dX5_isRanked_128 : decode cX5_isRanked 128 = .ok (.goto (-114), 3) := by decide +kernel
theorem dX5_isRanked_131 : decode cX5_isRanked 131 = .ok (.iinc 1 1, 3) := by decide +kernel
theorem dX5_isRanked_134 : decode cX5_isRanked 134 = .ok (.goto (-132), 3) := by decide +kernel
theorem dX5_isRanked_137 : decode cX5_isRanked 137 = .ok (.iconst 1, 1) := by decide +kernel
theorem dX5_isRanked_138 : decode cX5_isRanked 138 = .ok (.ireturn, 1) := by decide +kernel
theorem dX5_quotaOfRow_0 : decode cX5_quotaOfRow 0 = .ok (.aload_n 0, 1) := by decide +kernel
theorem dX5_quotaOfRow_1 : decode cX5_quotaOfRow 1 = .ok (.getfield 28, 3) := by decide +kernel
theorem dX5_quotaOfRow_4 : decode cX5_quotaOfRow 4 = .ok (.aload_n 0, 1) := by decide +kernel
theorem dX5_quotaOfRow_5 : decode cX5_quotaOfRow 5 = .ok (.getfield 9, 3) := by decide +kernel
theorem dX5_quotaOfRow_8 : decode cX5_quotaOfRow 8 = .ok (.aload_n 0, 1) := by decide +kernel
theorem dX5_quotaOfRow_9 : decode cX5_quotaOfRow 9 = .ok (.getfield 31, 3) := by decide +kernel
theorem dX5_quotaOfRow_12 : decode cX5_quotaOfRow 12 = .ok (.invokestatic 52, 3) := by decide +kernel
theorem dX5_quotaOfRow_15 : decode cX5_quotaOfRow 15 = .ok (.iconst 0, 1) := by decide +kernel
theorem dX5_quotaOfRow_16 : decode cX5_quotaOfRow 16 = .ok (.istore_n 1, 1) := by decide +kernel
theorem dX5_quotaOfRow_17 : decode cX5_quotaOfRow 17 = .ok (.bipush 13, 2) := by decide +kernel
theorem dX5_quotaOfRow_19 : decode cX5_quotaOfRow 19 = .ok (.istore_n 2, 1) := by decide +kernel
theorem dX5_quotaOfRow_20 : decode cX5_quotaOfRow 20 = .ok (.iconst 1, 1) := by decide +kernel
theorem dX5_quotaOfRow_21 : decode cX5_quotaOfRow 21 = .ok (.istore_n 3, 1) := by decide +kernel
theorem dX5_quotaOfRow_22 : decode cX5_quotaOfRow 22 = .ok (.iload_n 3, 1) := by decide +kernel
theorem dX5_quotaOfRow_23 : decode cX5_quotaOfRow 23 = .ok (.aload_n 0, 1) := by decide +kernel
theorem dX5_quotaOfRow_24 : decode cX5_quotaOfRow 24 = .ok (.invokevirtual 64, 3) := by decide +kernel
theorem dX5_quotaOfRow_27 : decode cX5_quotaOfRow 27 = .ok (.if_icmp .gt 51, 3) := by decide +kernel
theorem dX5_quotaOfRow_30 : decode cX5_quotaOfRow 30 = .ok (.iload_n 3, 1) := by decide +kernel
theorem dX5_quotaOfRow_31 : decode cX5_quotaOfRow 31 = .ok (.aload_n 0, 1) := by decide +kernel
theorem dX5_quotaOfRow_32 : decode cX5_quotaOfRow 32 = .ok (.getfield 31, 3) := by decide +kernel
theorem dX5_quotaOfRow_35 : decode cX5_quotaOfRow 35 = .ok (.arraylength, 1) := by decide +kernel
theorem dX5_quotaOfRow_36 : decode cX5_quotaOfRow 36 = .ok (.if_icmp .ge 42, 3) := by decide +kernel
theorem dX5_quotaOfRow_39 : decode cX5_quotaOfRow 39 = .ok (.aload_n 0, 1) := by decide +kernel
theorem dX5_quotaOfRow_40 : decode cX5_quotaOfRow 40 = .ok (.iload_n 3, 1) := by decide +kernel
theorem dX5_quotaOfRow_41 : decode cX5_quotaOfRow 41 = .ok (.invokevirtual 60, 3) := by decide +kernel
theorem dX5_quotaOfRow_44 : decode cX5_quotaOfRow 44 = .ok (.ifCond .eq 17, 3) := by decide +kernel
theorem dX5_quotaOfRow_47 : decode cX5_quotaOfRow 47 = .ok (.iload_n 2, 1) := by decide +kernel
theorem dX5_quotaOfRow_48 : decode cX5_quotaOfRow 48 = .ok (.aload_n 0, 1) := by decide +kernel
theorem dX5_quotaOfRow_49 : decode cX5_quotaOfRow 49 = .ok (.getfield 31, 3) := by decide +kernel
theorem dX5_quotaOfRow_52 : decode cX5_quotaOfRow 52 = .ok (.iload_n 3, 1) := by decide +kernel
theorem dX5_quotaOfRow_53 : decode cX5_quotaOfRow 53 = .ok (.iaload, 1) := by decide +kernel
theorem dX5_quotaOfRow_54 : decode cX5_quotaOfRow 54 = .ok (.invokestatic 118, 3) := by decide +kernel
theorem dX5_quotaOfRow_57 : decode cX5_quotaOfRow 57 = .ok (.istore_n 2, 1) := by decide +kernel
theorem dX5_quotaOfRow_58 : decode cX5_quotaOfRow 58 = .ok (.goto 14, 3) := by decide +kernel
theorem dX5_quotaOfRow_61 : decode cX5_quotaOfRow 61 = .ok (.iload_n 1, 1) := by decide +kernel
theorem dX5_quotaOfRow_62 : decode cX5_quotaOfRow 62 = .ok (.aload_n 0, 1) := by decide +kernel
theorem dX5_quotaOfRow_63 : decode cX5_quotaOfRow 63 = .ok (.getfield 31, 3) := by decide +kernel
theorem dX5_quotaOfRow_66 : decode cX5_quotaOfRow 66 = .ok (.iload_n 3, 1) := by decide +kernel
theorem dX5_quotaOfRow_67 : decode cX5_quotaOfRow 67 = .ok (.iaload, 1) := by decide +kernel
theorem dX5_quotaOfRow_68 : decode cX5_quotaOfRow 68 = .ok (.invokestatic 86, 3) := by decide +kernel
theorem dX5_quotaOfRow_71 : decode cX5_quotaOfRow 71 = .ok (.istore_n 1, 1) := by decide +kernel
theorem dX5_quotaOfRow_72 : decode cX5_quotaOfRow 72 = .ok (.iinc 3 1, 3) := by decide +kernel
theorem dX5_quotaOfRow_75 : decode cX5_quotaOfRow 75 = .ok (.goto (-53), 3) := by decide +kernel
theorem dX5_quotaOfRow_78 : decode cX5_quotaOfRow 78 = .ok (.iload_n 1, 1) := by decide +kernel
theorem dX5_quotaOfRow_79 : decode cX5_quotaOfRow 79 = .ok (.iload_n 2, 1) := by decide +kernel
theorem dX5_quotaOfRow_80 : decode cX5_quotaOfRow 80 = .ok (.if_icmp .ge 9, 3) := by decide +kernel
theorem dX5_quotaOfRow_83 : decode cX5_quotaOfRow 83 = .ok (.iload_n 1, 1) := by decide +kernel
theorem dX5_quotaOfRow_84 : decode cX5_quotaOfRow 84 = .ok (.iconst 1, 1) := by decide +kernel
theorem dX5_quotaOfRow_85 : decode cX5_quotaOfRow 85 = .ok (.iadd, 1) := by decide +kernel
theorem dX5_quotaOfRow_86 : decode cX5_quotaOfRow 86 = .ok (.goto 4, 3) := by decide +kernel
theorem dX5_quotaOfRow_89 : decode cX5_quotaOfRow 89 = .ok (.iconst (-1), 1) := by decide +kernel
theorem dX5_quotaOfRow_90 : decode cX5_quotaOfRow 90 = .ok (.ireturn, 1) := by decide +kernel
theorem dX5_mixInto_0 : decode cX5_mixInto 0 = .ok (.lload_n 1, 1) := by decide +kernel
theorem dX5_mixInto_1 : decode cX5_mixInto 1 = .ok (.lstore_n 3, 1) := by decide +kernel
theorem dX5_mixInto_2 : decode cX5_mixInto 2 = .ok (.iconst 0, 1) := by decide +kernel
theorem dX5_mixInto_3 : decode cX5_mixInto 3 = .ok (.istore 5, 2) := by decide +kernel
theorem dX5_mixInto_5 : decode cX5_mixInto 5 = .ok (.iload 5, 2) := by decide +kernel
theorem dX5_mixInto_7 : decode cX5_mixInto 7 = .ok (.aload_n 0, 1) := by decide +kernel
theorem dX5_mixInto_8 : decode cX5_mixInto 8 = .ok (.getfield 9, 3) := by decide +kernel
theorem dX5_mixInto_11 : decode cX5_mixInto 11 = .ok (.if_icmp .ge 22, 3) := by decide +kernel
theorem dX5_mixInto_14 : decode cX5_mixInto 14 = .ok (.lload_n 3, 1) := by decide +kernel
theorem dX5_mixInto_15 : decode cX5_mixInto 15 = .ok (.aload_n 0, 1) := by decide +kernel
theorem dX5_mixInto_16 : decode cX5_mixInto 16 = .ok (.getfield 18, 3) := by decide +kernel
theorem dX5_mixInto_19 : decode cX5_mixInto 19 = .ok (.iload 5, 2) := by decide +kernel
theorem dX5_mixInto_21 : decode cX5_mixInto 21 = .ok (.iaload, 1) := by decide +kernel
theorem dX5_mixInto_22 : decode cX5_mixInto 22 = .ok (.i2l, 1) := by decide +kernel
theorem dX5_mixInto_23 : decode cX5_mixInto 23 = .ok (.invokestatic 121, 3) := by decide +kernel
theorem dX5_mixInto_26 : decode cX5_mixInto 26 = .ok (.lstore_n 3, 1) := by decide +kernel
theorem dX5_mixInto_27 : decode cX5_mixInto 27 = .ok (.iinc 5 1, 3) := by decide +kernel
theorem dX5_mixInto_30 : decode cX5_mixInto 30 = .ok (.goto (-25), 3) := by decide +kernel
theorem dX5_mixInto_33 : decode cX5_mixInto 33 = .ok (.lload_n 3, 1) := by decide +kernel
theorem dX5_mixInto_34 : decode cX5_mixInto 34 = .ok (.aload_n 0, 1) := by decide +kernel
theorem dX5_mixInto_35 : decode cX5_mixInto 35 = .ok (.getfield 15, 3) := by decide +kernel
theorem dX5_mixInto_38 : decode cX5_mixInto 38 = .ok (.i2l, 1) := by decide +kernel
theorem dX5_mixInto_39 : decode cX5_mixInto 39 = .ok (.invokestatic 121, 3) := by decide +kernel
theorem dX5_mixInto_42 : decode cX5_mixInto 42 = .ok (.lreturn, 1) := by decide +kernel
