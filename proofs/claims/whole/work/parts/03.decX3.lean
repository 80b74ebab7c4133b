theorem dX3_init_0 : decode cX3_init 0 = .ok (.aload_n 0, 1) := by decide +kernel
theorem dX3_init_1 : decode cX3_init 1 = .ok (.invokespecial 3, 3) := by decide +kernel
theorem dX3_init_4 : decode cX3_init 4 = .ok (.aload_n 0, 1) := by decide +kernel
theorem dX3_init_5 : decode cX3_init 5 = .ok (.iconst 2, 1) := by decide +kernel
theorem dX3_init_6 : decode cX3_init 6 = .ok (.iconst 4, 1) := by decide +kernel
theorem dX3_init_7 : decode cX3_init 7 = .ok (.multianewarray 9 2, 4) := by decide +kernel
theorem dX3_init_11 : decode cX3_init 11 = .ok (.putfield 11, 3) := by decide +kernel
theorem dX3_init_14 : decode cX3_init 14 = .ok (.aload_n 0, 1) := by decide +kernel
theorem dX3_init_15 : decode cX3_init 15 = .ok (.new 16, 3) := by decide +kernel
theorem dX3_init_18 : decode cX3_init 18 = .ok (.dup, 1) := by decide +kernel
theorem dX3_init_19 : decode cX3_init 19 = .ok (.invokespecial 18, 3) := by decide +kernel
theorem dX3_init_22 : decode cX3_init 22 = .ok (.putfield 19, 3) := by decide +kernel
theorem dX3_init_25 : decode cX3_init 25 = .ok (.aload_n 0, 1) := by decide +kernel
theorem dX3_init_26 : decode cX3_init 26 = .ok (.iconst 4, 1) := by decide +kernel
theorem dX3_init_27 : decode cX3_init 27 = .ok (.anewarray 23, 3) := by decide +kernel
theorem dX3_init_30 : decode cX3_init 30 = .ok (.dup, 1) := by decide +kernel
theorem dX3_init_31 : decode cX3_init 31 = .ok (.iconst 0, 1) := by decide +kernel
theorem dX3_init_32 : decode cX3_init 32 = .ok (.new 23, 3) := by decide +kernel
theorem dX3_init_35 : decode cX3_init 35 = .ok (.dup, 1) := by decide +kernel
theorem dX3_init_36 : decode cX3_init 36 = .ok (.invokespecial 25, 3) := by decide +kernel
theorem dX3_init_39 : decode cX3_init 39 = .ok (.aastore, 1) := by decide +kernel
theorem dX3_init_40 : decode cX3_init 40 = .ok (.dup, 1) := by decide +kernel
theorem dX3_init_41 : decode cX3_init 41 = .ok (.iconst 1, 1) := by decide +kernel
theorem dX3_init_42 : decode cX3_init 42 = .ok (.new 23, 3) := by decide +kernel
theorem dX3_init_45 : decode cX3_init 45 = .ok (.dup, 1) := by decide +kernel
theorem dX3_init_46 : decode cX3_init 46 = .ok (.invokespecial 25, 3) := by decide +kernel
theorem dX3_init_49 : decode cX3_init 49 = .ok (.aastore, 1) := by decide +kernel
theorem dX3_init_50 : decode cX3_init 50 = .ok (.dup, 1) := by decide +kernel
theorem dX3_init_51 : decode cX3_init 51 = .ok (.iconst 2, 1) := by decide +kernel
theorem dX3_init_52 : decode cX3_init 52 = .ok (.new 23, 3) := by decide +kernel
theorem dX3_init_55 : decode cX3_init 55 = .ok (.dup, 1) := by decide +kernel
theorem dX3_init_56 : decode cX3_init 56 = .ok (.invokespecial 25, 3) := by decide +kernel
theorem dX3_init_59 : decode cX3_init 59 = .ok (.aastore, 1) := by decide +kernel
theorem dX3_init_60 : decode cX3_init 60 = .ok (.dup, 1) := by decide +kernel
theorem dX3_init_61 : decode cX3_init 61 = .ok (.iconst 3, 1) := by decide +kernel
theorem dX3_init_62 : decode cX3_init 62 = .ok (.new 23, 3) := by decide +kernel
theorem dX3_init_65 : decode cX3_init 65 = .ok (.dup, 1) := by decide +kernel
theorem dX3_init_66 : decode cX3_init 66 = .ok (.invokespecial 25, 3) := by decide +kernel
theorem dX3_init_69 : decode cX3_init 69 = .ok (.aastore, 1) := by decide +kernel
theorem dX3_init_70 : decode cX3_init 70 = .ok (.putfield 26, 3) := by decide +kernel
theorem dX3_init_73 : decode cX3_init 73 = .ok (.aload_n 0, 1) := by decide +kernel
theorem dX3_init_74 : decode cX3_init 74 = .ok (.new 23, 3) := by decide +kernel
theorem dX3_init_77 : decode cX3_init 77 = .ok (.dup, 1) := by decide +kernel
theorem dX3_init_78 : decode cX3_init 78 = .ok (.invokespecial 25, 3) := by decide +kernel
theorem dX3_init_81 : decode cX3_init 81 = .ok (.putfield 30, 3) := by decide +kernel
theorem dX3_init_84 : decode cX3_init 84 = .ok (.aload_n 0, 1) := by decide +kernel
theorem dX3_init_85 : decode cX3_init 85 = .ok (.iconst 0, 1) := by decide +kernel
theorem dX3_init_86 : decode cX3_init 86 = .ok (.putfield 34, 3) := by decide +kernel
theorem dX3_init_89 : decode cX3_init 89 = .ok (.return_, 1) := by decide +kernel
theorem dX3_restart_0 : decode cX3_restart 0 = .ok (.iconst 0, 1) := by decide +kernel
theorem dX3_restart_1 : decode cX3_restart 1 = .ok (.istore_n 1, 1) := by decide +kernel
theorem dX3_restart_2 : decode cX3_restart 2 = .ok (.iload_n 1, 1) := by decide +kernel
theorem dX3_restart_3 : decode cX3_restart 3 = .ok (.iconst 4, 1) := by decide +kernel
theorem dX3_restart_4 : decode cX3_restart 4 = .ok (.if_icmp .ge 27, 3) := by decide +kernel
theorem dX3_restart_7 : decode cX3_restart 7 = .ok (.aload_n 0, 1) := by decide +kernel
theorem dX3_restart_8 : decode cX3_restart 8 = .ok (.getfield 11, 3) := by decide +kernel
theorem dX3_restart_11 : decode cX3_restart 11 = .ok (.iconst 0, 1) := by decide +kernel
theorem dX3_restart_12 : decode cX3_restart 12 = .ok (.aaload, 1) := by decide +kernel
theorem dX3_restart_13 : decode cX3_restart 13 = .ok (.iload_n 1, 1) := by decide +kernel
theorem dX3_restart_14 : decode cX3_restart 14 = .ok (.iconst 0, 1) := by decide +kernel
theorem dX3_restart_15 : decode cX3_restart 15 = .ok (.iastore, 1) := by decide +kernel
theorem dX3_restart_16 : decode cX3_restart 16 = .ok (.aload_n 0, 1) := by decide +kernel
theorem dX3_restart_17 : decode cX3_restart 17 = .ok (.getfield 11, 3) := by decide +kernel
theorem dX3_restart_20 : decode cX3_restart 20 = .ok (.iconst 1, 1) := by decide +kernel
theorem dX3_restart_21 : decode cX3_restart 21 = .ok (.aaload, 1) := by decide +kernel
theorem dX3_restart_22 : decode cX3_restart 22 = .ok (.iload_n 1, 1) := by decide +kernel
theorem dX3_restart_23 : decode cX3_restart 23 = .ok (.iconst 0, 1) := by decide +kernel
theorem dX3_restart_24 : decode cX3_restart 24 = .ok (.iastore, 1) := by decide +kernel
theorem dX3_restart_25 : decode cX3_restart 25 = .ok (.iinc 1 1, 3) := by decide +kernel
theorem dX3_restart_28 : decode cX3_restart 28 = .ok (.goto (-26), 3) := by decide +kernel
theorem dX3_restart_31 : decode cX3_restart 31 = .ok (.aload_n 0, 1) := by decide +kernel
theorem dX3_restart_32 : decode cX3_restart 32 = .ok (.invokevirtual 38, 3) := by decide +kernel
theorem dX3_restart_35 : decode cX3_restart 35 = .ok (.return_, 1) := by decide +kernel
theorem dX3_forgetCalm_0 : decode cX3_forgetCalm 0 = .ok (.aload_n 0, 1) := by decide +kernel
theorem dX3_forgetCalm_1 : decode cX3_forgetCalm 1 = .ok (.iconst 0, 1) := by decide +kernel
theorem dX3_forgetCalm_2 : decode cX3_forgetCalm 2 = .ok (.putfield 34, 3) := by decide +kernel
theorem dX3_forgetCalm_5 : decode cX3_forgetCalm 5 = .ok (.return_, 1) := by decide +kernel
theorem dX3_replaceGiven_0 : decode cX3_replaceGiven 0 = .ok (.aload_n 0, 1) := by decide +kernel
theorem dX3_replaceGiven_1 : decode cX3_replaceGiven 1 = .ok (.getfield 11, 3) := by decide +kernel
theorem dX3_replaceGiven_4 : decode cX3_replaceGiven 4 = .ok (.iload_n 1, 1) := by decide +kernel
theorem dX3_replaceGiven_5 : decode cX3_replaceGiven 5 = .ok (.aaload, 1) := by decide +kernel
theorem dX3_replaceGiven_6 : decode cX3_replaceGiven 6 = .ok (.iload_n 2, 1) := by decide +kernel
theorem dX3_replaceGiven_7 : decode cX3_replaceGiven 7 = .ok (.iaload, 1) := by decide +kernel
theorem dX3_replaceGiven_8 : decode cX3_replaceGiven 8 = .ok (.istore 4, 2) := by decide +kernel
theorem dX3_replaceGiven_10 : decode cX3_replaceGiven 10 = .ok (.aload_n 0, 1) := by decide +kernel
theorem dX3_replaceGiven_11 : decode cX3_replaceGiven 11 = .ok (.getfield 11, 3) := by decide +kernel
theorem dX3_replaceGiven_14 : decode cX3_replaceGiven 14 = .ok (.iload_n 1, 1) := by decide +kernel
theorem dX3_replaceGiven_15 : decode cX3_replaceGiven 15 = .ok (.aaload, 1) := by decide +kernel
theorem dX3_replaceGiven_16 : decode cX3_replaceGiven 16 = .ok (.iload_n 2, 1) := by decide +kernel
theorem dX3_replaceGiven_17 : decode cX3_replaceGiven 17 = .ok (.iload_n 3, 1) := by decide +kernel
theorem dX3_replaceGiven_18 : decode cX3_replaceGiven 18 = .ok (.iastore, 1) := by decide +kernel
theorem dX3_replaceGiven_19 : decode cX3_replaceGiven 19 = .ok (.iload 4, 2) := by decide +kernel
theorem dX3_replaceGiven_21 : decode cX3_replaceGiven 21 = .ok (.ireturn, 1) := by decide +kernel
theorem dX3_shareOf_0 : decode cX3_shareOf 0 = .ok (.iconst 0, 1) := by decide +kernel
theorem dX3_shareOf_1 : decode cX3_shareOf 1 = .ok (.istore_n 3, 1) := by decide +kernel
theorem dX3_shareOf_2 : decode cX3_shareOf 2 = .ok (.iconst 0, 1) := by decide +kernel
theorem dX3_shareOf_3 : decode cX3_shareOf 3 = .ok (.istore 4, 2) := by decide +kernel
theorem dX3_shareOf_5 : decode cX3_shareOf 5 = .ok (.iload 4, 2) := by decide +kernel
theorem dX3_shareOf_7 : decode cX3_shareOf 7 = .ok (.iconst 4, 1) := by decide +kernel
theorem dX3_shareOf_8 : decode cX3_shareOf 8 = .ok (.if_icmp .ge 30, 3) := by decide +kernel
theorem dX3_shareOf_11 : decode cX3_shareOf 11 = .ok (.iload_n 2, 1) := by decide +kernel
theorem dX3_shareOf_12 : decode cX3_shareOf 12 = .ok (.iload 4, 2) := by decide +kernel
theorem dX3_shareOf_14 : decode cX3_shareOf 14 = .ok (.invokestatic 41, 3) := by decide +kernel
theorem dX3_shareOf_17 : decode cX3_shareOf 17 = .ok (.ifCond .eq 15, 3) := by decide +kernel
theorem dX3_shareOf_20 : decode cX3_shareOf 20 = .ok (.iload_n 3, 1) := by decide +kernel
theorem dX3_shareOf_21 : decode cX3_shareOf 21 = .ok (.aload_n 0, 1) := by decide +kernel
theorem dX3_shareOf_22 : decode cX3_shareOf 22 = .ok (.getfield 11, 3) := by decide +kernel
theorem dX3_shareOf_25 : decode cX3_shareOf 25 = .ok (.iload_n 1, 1) := by decide +kernel
theorem dX3_shareOf_26 : decode cX3_shareOf 26 = .ok (.aaload, 1) := by decide +kernel
theorem dX3_shareOf_27 : decode cX3_shareOf 27 = .ok (.iload 4, 2) := by decide +kernel
theorem dX3_shareOf_29 : decode cX3_shareOf 29 = .ok (.iaload, 1) := by decide +kernel
theorem dX3_shareOf_30 : decode cX3_shareOf 30 = .ok (.iadd, 1) := by decide +kernel
theorem dX3_shareOf_31 : decode cX3_shareOf 31 = .ok (.istore_n 3, 1) := by decide +kernel
theorem dX3_shareOf_32 : decode cX3_shareOf 32 = .ok (.iinc 4 1, 3) := by decide +kernel
theorem dX3_shareOf_35 : decode cX3_shareOf 35 = .ok (.goto (-30), 3) := by decide +kernel
theorem dX3_shareOf_38 : decode cX3_shareOf 38 = .ok (.iload_n 3, 1) := by decide +kernel
theorem dX3_shareOf_39 : decode cX3_shareOf 39 = .ok (.ireturn, 1) := by decide +kernel
theorem dX3_complaintOf_0 : decode cX3_complaintOf 0 = .ok (.aload_n 1, 1) := by decide +kernel
theorem dX3_complaintOf_1 : decode cX3_complaintOf 1 = .ok (.getfield 45, 3) := by decide +kernel
theorem dX3_complaintOf_4 : decode cX3_complaintOf 4 = .ok (.iload_n 3, 1) := by decide +kernel
theorem dX3_complaintOf_5 : decode cX3_complaintOf 5 = .ok (.iaload, 1) := by decide +kernel
theorem dX3_complaintOf_6 : decode cX3_complaintOf 6 = .ok (.aload_n 0, 1) := by decide +kernel
theorem dX3_complaintOf_7 : decode cX3_complaintOf 7 = .ok (.iload_n 2, 1) := by decide +kernel
theorem dX3_complaintOf_8 : decode cX3_complaintOf 8 = .ok (.iload_n 3, 1) := by decide +kernel
theorem dX3_complaintOf_9 : decode cX3_complaintOf 9 = .ok (.invokevirtual 51, 3) := by decide +kernel
theorem dX3_complaintOf_12 : decode cX3_complaintOf 12 = .ok (.isub, 1) := by decide +kernel
theorem dX3_complaintOf_13 : decode cX3_complaintOf 13 = .ok (.ireturn, 1) := by decide +kernel
theorem dX3_surplusOver_0 : decode cX3_surplusOver 0 = .ok (.ldc 55, 2) := by decide +kernel
theorem dX3_surplusOver_2 : decode cX3_surplusOver 2 = .ok (.istore 5, 2) := by decide +kernel
theorem dX3_surplusOver_4 : decode cX3_surplusOver 4 = .ok (.iconst 1, 1) := by decide +kernel
theorem dX3_surplusOver_5 : decode cX3_surplusOver 5 = .ok (.istore 6, 2) := by decide +kernel
theorem dX3_surplusOver_7 : decode cX3_surplusOver 7 = .ok (.iload 6, 2) := by decide +kernel
theorem dX3_surplusOver_9 : decode cX3_surplusOver 9 = .ok (.aload_n 1, 1) := by decide +kernel
theorem dX3_surplusOver_10 : decode cX3_surplusOver 10 = .ok (.invokevirtual 56, 3) := by decide +kernel
theorem dX3_surplusOver_13 : decode cX3_surplusOver 13 = .ok (.if_icmp .gt 43, 3) := by decide +kernel
theorem dX3_surplusOver_16 : decode cX3_surplusOver 16 = .ok (.iload 6, 2) := by decide +kernel
theorem dX3_surplusOver_18 : decode cX3_surplusOver 18 = .ok (.iload_n 3, 1) := by decide +kernel
theorem dX3_surplusOver_19 : decode cX3_surplusOver 19 = .ok (.invokestatic 41, 3) := by decide +kernel
theorem dX3_surplusOver_22 : decode cX3_surplusOver 22 = .ok (.ifCond .eq 28, 3) := by decide +kernel
theorem dX3_surplusOver_25 : decode cX3_surplusOver 25 = .ok (.iload 6, 2) := by decide +kernel
theorem dX3_surplusOver_27 : decode cX3_surplusOver 27 = .ok (.iload 4, 2) := by decide +kernel
theorem dX3_surplusOver_29 : decode cX3_surplusOver 29 = .ok (.invokestatic 41, 3) := by decide +kernel
theorem dX3_surplusOver_32 : decode cX3_surplusOver 32 = .ok (.ifCond .ne 18, 3) := by decide +kernel
theorem dX3_surplusOver_35 : decode cX3_surplusOver 35 = .ok (.iload 5, 2) := by decide +kernel
theorem dX3_surplusOver_37 : decode cX3_surplusOver 37 = .ok (.aload_n 0, 1) := by decide +kernel
theorem dX3_surplusOver_38 : decode cX3_surplusOver 38 = .ok (.aload_n 1, 1) := by decide +kernel
theorem dX3_surplusOver_39 : decode cX3_surplusOver 39 = .ok (.iload_n 2, 1) := by decide +kernel
theorem dX3_surplusOver_40 : decode cX3_surplusOver 40 = .ok (.iload 6, 2) := by decide +kernel
theorem dX3_surplusOver_42 : decode cX3_surplusOver 42 = .ok (.invokevirtual 60, 3) := by decide +kernel
theorem dX3_surplusOver_45 : decode cX3_surplusOver 45 = .ok (.invokestatic 64, 3) := by decide +kernel
theorem dX3_surplusOver_48 : decode cX3_surplusOver 48 = .ok (.istore 5, 2) := by decide +kernel
theorem dX3_surplusOver_50 : decode cX3_surplusOver 50 = .ok (.iinc 6 1, 3) := by decide +kernel
theorem dX3_surplusOver_53 : decode cX3_surplusOver 53 = .ok (.goto (-46), 3) := by decide +kernel
theorem dX3_surplusOver_56 : decode cX3_surplusOver 56 = .ok (.iload 5, 2) := by decide +kernel
theorem dX3_surplusOver_58 : decode cX3_surplusOver 58 = .ok (.ireturn, 1) := by decide +kernel
theorem dX3_standsEven_0 : decode cX3_standsEven 0 = .ok (.aload_n 0, 1) := by decide +kernel
theorem dX3_standsEven_1 : decode cX3_standsEven 1 = .ok (.aload_n 1, 1) := by decide +kernel
theorem dX3_standsEven_2 : decode cX3_standsEven 2 = .ok (.iload_n 2, 1) := by decide +kernel
theorem dX3_standsEven_3 : decode cX3_standsEven 3 = .ok (.aload_n 1, 1) := by decide +kernel
theorem dX3_standsEven_4 : decode cX3_standsEven 4 = .ok (.invokevirtual 56, 3) := by decide +kernel
theorem dX3_standsEven_7 : decode cX3_standsEven 7 = .ok (.invokevirtual 60, 3) := by decide +kernel
theorem dX3_standsEven_10 : decode cX3_standsEven 10 = .ok (.ifCond .eq 5, 3) := by decide +kernel
theorem dX3_standsEven_13 : decode cX3_standsEven 13 = .ok (.iconst 0, 1) := by decide +kernel
theorem dX3_standsEven_14 : decode cX3_standsEven 14 = .ok (.ireturn, 1) := by decide +kernel
theorem dX3_standsEven_15 : decode cX3_standsEven 15 = .ok (.iconst 0, 1) := by decide +kernel
theorem dX3_standsEven_16 : decode cX3_standsEven 16 = .ok (.istore_n 3, 1) := by decide +kernel
theorem dX3_standsEven_17 : decode cX3_standsEven 17 = .ok (.iload_n 3, 1) := by decide +kernel
theorem dX3_standsEven_18 : decode cX3_standsEven 18 = .ok (.aload_n 1, 1) := by decide +kernel
theorem dX3_standsEven_19 : decode cX3_standsEven 19 = .ok (.getfield 69, 3) := by decide +kernel
theorem dX3_standsEven_22 : decode cX3_standsEven 22 = .ok (.if_icmp .ge 52, 3) := by decide +kernel
theorem dX3_standsEven_25 : decode cX3_standsEven 25 = .ok (.iload_n 3, 1) := by decide +kernel
theorem dX3_standsEven_26 : decode cX3_standsEven 26 = .ok (.iconst 1, 1) := by decide +kernel
theorem dX3_standsEven_27 : decode cX3_standsEven 27 = .ok (.iadd, 1) := by decide +kernel
theorem dX3_standsEven_28 : decode cX3_standsEven 28 = .ok (.istore 4, 2) := by decide +kernel
theorem dX3_standsEven_30 : decode cX3_standsEven 30 = .ok (.iload 4, 2) := by decide +kernel
theorem dX3_standsEven_32 : decode cX3_standsEven 32 = .ok (.aload_n 1, 1) := by decide +kernel
theorem dX3_standsEven_33 : decode cX3_standsEven 33 = .ok (.getfield 69, 3) := by decide +kernel
theorem dX3_standsEven_36 : decode cX3_standsEven 36 = .ok (.if_icmp .ge 32, 3) := by decide +kernel
theorem dX3_standsEven_39 : decode cX3_standsEven 39 = .ok (.aload_n 0, 1) := by decide +kernel
theorem dX3_standsEven_40 : decode cX3_standsEven 40 = .ok (.aload_n 1, 1) := by decide +kernel
theorem dX3_standsEven_41 : decode cX3_standsEven 41 = .ok (.iload_n 2, 1) := by decide +kernel
theorem dX3_standsEven_42 : decode cX3_standsEven 42 = .ok (.iload_n 3, 1) := by decide +kernel
theorem dX3_standsEven_43 : decode cX3_standsEven 43 = .ok (.iload 4, 2) := by decide +kernel
theorem dX3_standsEven_45 : decode cX3_standsEven 45 = .ok (.invokevirtual 73, 3) := by decide +kernel
theorem dX3_standsEven_48 : decode cX3_standsEven 48 = .ok (.aload_n 0, 1) := by decide +kernel
theorem dX3_standsEven_49 : decode cX3_standsEven 49 = .ok (.aload_n 1, 1) := by decide +kernel
theorem dX3_standsEven_50 : decode cX3_standsEven 50 = .ok (.iload_n 2, 1) := by decide +kernel
theorem dX3_standsEven_51 : decode cX3_standsEven 51 = .ok (.iload 4, 2) := by decide +kernel
theorem dX3_standsEven_53 : decode cX3_standsEven 53 = .ok (.iload_n 3, 1) := by decide +kernel
theorem dX3_standsEven_54 : decode cX3_standsEven 54 = .ok (.invokevirtual 73, 3) := by decide +kernel
theorem dX3_standsEven_57 : decode cX3_standsEven 57 = .ok (.if_icmp .eq 5, 3) := by decide +kernel
theorem dX3_standsEven_60 : decode cX3_standsEven 60 = .ok (.iconst 0, 1) := by decide +kernel
theorem dX3_standsEven_61 : decode cX3_standsEven 61 = .ok (.ireturn, 1) := by decide +kernel
theorem dX3_standsEven_62 : decode cX3_standsEven 62 = .ok (.iinc 4 1, 3) := by decide +kernel
theorem dX3_standsEven_65 : decode cX3_standsEven 65 = .ok (.goto (-35), 3) := by decide +kernel
theorem dX3_standsEven_68 : decode cX3_standsEven 68 = .ok (.iinc 3 1, 3) := by decide +kernel
theorem dX3_standsEven_71 : decode cX3_standsEven 71 = .ok (.goto (-54), 3) := by decide +kernel
theorem dX3_standsEven_74 : decode cX3_standsEven 74 = .ok (.iconst 1, 1) := by decide +kernel
theorem dX3_standsEven_75 : decode cX3_standsEven 75 = .ok (.ireturn, 1) := by decide +kernel
theorem dX3_firstBetterSet_0 : decode cX3_firstBetterSet 0 = .ok (.iconst 1, 1) := by decide +kernel
theorem dX3_firstBetterSet_1 : decode cX3_firstBetterSet 1 = .ok (.istore_n 3, 1) := by decide +kernel
theorem dX3_firstBetterSet_2 : decode cX3_firstBetterSet 2 = .ok (.iload_n 3, 1) := by decide +kernel
theorem dX3_firstBetterSet_3 : decode cX3_firstBetterSet 3 = .ok (.aload_n 1, 1) := by decide +kernel
theorem dX3_firstBetterSet_4 : decode cX3_firstBetterSet 4 = .ok (.invokevirtual 56, 3) := by decide +kernel
theorem dX3_firstBetterSet_7 : decode cX3_firstBetterSet 7 = .ok (.if_icmp .gt 34, 3) := by decide +kernel
theorem dX3_firstBetterSet_10 : decode cX3_firstBetterSet 10 = .ok (.aload_n 0, 1) := by decide +kernel
theorem dX3_firstBetterSet_11 : decode cX3_firstBetterSet 11 = .ok (.aload_n 1, 1) := by decide +kernel
theorem dX3_firstBetterSet_12 : decode cX3_firstBetterSet 12 = .ok (.iload_n 2, 1) := by decide +kernel
theorem dX3_firstBetterSet_13 : decode cX3_firstBetterSet 13 = .ok (.iload_n 3, 1) := by decide +kernel
theorem dX3_firstBetterSet_14 : decode cX3_firstBetterSet 14 = .ok (.invokevirtual 60, 3) := by decide +kernel
theorem dX3_firstBetterSet_17 : decode cX3_firstBetterSet 17 = .ok (.ifCond .lt 18, 3) := by decide +kernel
theorem dX3_firstBetterSet_20 : decode cX3_firstBetterSet 20 = .ok (.aload_n 0, 1) := by decide +kernel
theorem dX3_firstBetterSet_21 : decode cX3_firstBetterSet 21 = .ok (.aload_n 1, 1) := by decide +kernel
theorem dX3_firstBetterSet_22 : decode cX3_firstBetterSet 22 = .ok (.getfield 69, 3) := by decide +kernel
theorem dX3_firstBetterSet_25 : decode cX3_firstBetterSet 25 = .ok (.iload_n 2, 1) := by decide +kernel
theorem dX3_firstBetterSet_26 : decode cX3_firstBetterSet 26 = .ok (.iload_n 3, 1) := by decide +kernel
theorem dX3_firstBetterSet_27 : decode cX3_firstBetterSet 27 = .ok (.invokevirtual 77, 3) := by decide +kernel
theorem dX3_firstBetterSet_30 : decode cX3_firstBetterSet 30 = .ok (.ifCond .eq 5, 3) := by decide +kernel
theorem dX3_firstBetterSet_33 : decode cX3_firstBetterSet 33 = .ok (.iload_n 3, 1) := by decide +kernel
theorem dX3_firstBetterSet_34 : decode cX3_firstBetterSet 34 = .ok (.ireturn, 1) := by decide +kernel
theorem dX3_firstBetterSet_35 : decode cX3_firstBetterSet 35 = .ok (.iinc 3 1, 3) := by decide +kernel
theorem dX3_firstBetterSet_38 : decode cX3_firstBetterSet 38 = .ok (.goto (-36), 3) := by decide +kernel
theorem dX3_firstBetterSet_41 : decode cX3_firstBetterSet 41 = .ok (.iconst (-1), 1) := by decide +kernel
theorem dX3_firstBetterSet_42 : decode cX3_firstBetterSet 42 = .ok (.ireturn, 1) := by decide +kernel
theorem dX3_allHaveMore_0 : decode cX3_allHaveMore 0 = .ok (.iconst 0, 1) := by decide +kernel
theorem dX3_allHaveMore_1 : decode cX3_allHaveMore 1 = .ok (.istore 4, 2) := by decide +kernel
theorem dX3_allHaveMore_3 : decode cX3_allHaveMore 3 = .ok (.iload 4, 2) := by decide +kernel
theorem dX3_allHaveMore_5 : decode cX3_allHaveMore 5 = .ok (.iload_n 1, 1) := by decide +kernel
theorem dX3_allHaveMore_6 : decode cX3_allHaveMore 6 = .ok (.if_icmp .ge 43, 3) := by decide +kernel
theorem dX3_allHaveMore_9 : decode cX3_allHaveMore 9 = .ok (.iload_n 3, 1) := by decide +kernel
theorem dX3_allHaveMore_10 : decode cX3_allHaveMore 10 = .ok (.iload 4, 2) := by decide +kernel
theorem dX3_allHaveMore_12 : decode cX3_allHaveMore 12 = .ok (.invokestatic 41, 3) := by decide +kernel
theorem dX3_allHaveMore_15 : decode cX3_allHaveMore 15 = .ok (.ifCond .eq 28, 3) := by decide +kernel
theorem dX3_allHaveMore_18 : decode cX3_allHaveMore 18 = .ok (.aload_n 0, 1) := by decide +kernel
theorem dX3_allHaveMore_19 : decode cX3_allHaveMore 19 = .ok (.getfield 11, 3) := by decide +kernel
theorem dX3_allHaveMore_22 : decode cX3_allHaveMore 22 = .ok (.iload_n 2, 1) := by decide +kernel
theorem dX3_allHaveMore_23 : decode cX3_allHaveMore 23 = .ok (.aaload, 1) := by decide +kernel
theorem dX3_allHaveMore_24 : decode cX3_allHaveMore 24 = .ok (.iload 4, 2) := by decide +kernel
theorem dX3_allHaveMore_26 : decode cX3_allHaveMore 26 = .ok (.iaload, 1) := by decide +kernel
theorem dX3_allHaveMore_27 : decode cX3_allHaveMore 27 = .ok (.aload_n 0, 1) := by decide +kernel
theorem dX3_allHaveMore_28 : decode cX3_allHaveMore 28 = .ok (.getfield 11, 3) := by decide +kernel
theorem dX3_allHaveMore_31 : decode cX3_allHaveMore 31 = .ok (.iconst 1, 1) := by decide +kernel
theorem dX3_allHaveMore_32 : decode cX3_allHaveMore 32 = .ok (.iload_n 2, 1) := by decide +kernel
theorem dX3_allHaveMore_33 : decode cX3_allHaveMore 33 = .ok (.isub, 1) := by decide +kernel
theorem dX3_allHaveMore_34 : decode cX3_allHaveMore 34 = .ok (.aaload, 1) := by decide +kernel
theorem dX3_allHaveMore_35 : decode cX3_allHaveMore 35 = .ok (.iload 4, 2) := by decide +kernel
theorem dX3_allHaveMore_37 : decode cX3_allHaveMore 37 = .ok (.iaload, 1) := by decide +kernel
theorem dX3_allHaveMore_38 : decode cX3_allHaveMore 38 = .ok (.if_icmp .gt 5, 3) := by decide +kernel
theorem dX3_allHaveMore_41 : decode cX3_allHaveMore 41 = .ok (.iconst 0, 1) := by decide +kernel
theorem dX3_allHaveMore_42 : decode cX3_allHaveMore 42 = .ok (.ireturn, 1) := by decide +kernel
theorem dX3_allHaveMore_43 : decode cX3_allHaveMore 43 = .ok (.iinc 4 1, 3) := by decide +kernel
theorem dX3_allHaveMore_46 : decode cX3_allHaveMore 46 = .ok (.goto (-43), 3) := by decide +kernel
theorem dX3_allHaveMore_49 : decode cX3_allHaveMore 49 = .ok (.iconst 1, 1) := by decide +kernel
theorem dX3_allHaveMore_50 : decode cX3_allHaveMore 50 = .ok (.ireturn, 1) := by decide +kernel
theorem dX3_layLeastPay_0 : decode cX3_layLeastPay 0 = .ok (.aload_n 1, 1) := by decide +kernel
theorem dX3_layLeastPay_1 : decode cX3_layLeastPay 1 = .ok (.getfield 69, 3) := by decide +kernel
theorem dX3_layLeastPay_4 : decode cX3_layLeastPay 4 = .ok (.istore_n 2, 1) := by decide +kernel
theorem dX3_layLeastPay_5 : decode cX3_layLeastPay 5 = .ok (.aload_n 0, 1) := by decide +kernel
theorem dX3_layLeastPay_6 : decode cX3_layLeastPay 6 = .ok (.getfield 19, 3) := by decide +kernel
theorem dX3_layLeastPay_9 : decode cX3_layLeastPay 9 = .ok (.iload_n 2, 1) := by decide +kernel
theorem dX3_layLeastPay_10 : decode cX3_layLeastPay 10 = .ok (.invokevirtual 81, 3) := by decide +kernel
theorem dX3_layLeastPay_13 : decode cX3_layLeastPay 13 = .ok (.iconst 0, 1) := by decide +kernel
theorem dX3_layLeastPay_14 : decode cX3_layLeastPay 14 = .ok (.istore_n 3, 1) := by decide +kernel
theorem dX3_layLeastPay_15 : decode cX3_layLeastPay 15 = .ok (.iload_n 3, 1) := by decide +kernel
theorem dX3_layLeastPay_16 : decode cX3_layLeastPay 16 = .ok (.iload_n 2, 1) := by decide +kernel
theorem dX3_layLeastPay_17 : decode cX3_layLeastPay 17 = .ok (.if_icmp .ge 19, 3) := by decide +kernel
theorem dX3_layLeastPay_20 : decode cX3_layLeastPay 20 = .ok (.aload_n 0, 1) := by decide +kernel
theorem dX3_layLeastPay_21 : decode cX3_layLeastPay 21 = .ok (.iload_n 2, 1) := by decide +kernel
theorem dX3_layLeastPay_22 : decode cX3_layLeastPay 22 = .ok (.iconst 0, 1) := by decide +kernel
theorem dX3_layLeastPay_23 : decode cX3_layLeastPay 23 = .ok (.iconst 1, 1) := by decide +kernel
theorem dX3_layLeastPay_24 : decode cX3_layLeastPay 24 = .ok (.iload_n 3, 1) := by decide +kernel
theorem dX3_layLeastPay_25 : decode cX3_layLeastPay 25 = .ok (.ishl, 1) := by decide +kernel
theorem dX3_layLeastPay_26 : decode cX3_layLeastPay 26 = .ok (.iconst 0, 1) := by decide +kernel
theorem dX3_layLeastPay_27 : decode cX3_layLeastPay 27 = .ok (.invokevirtual 85, 3) := by decide +kernel
theorem dX3_layLeastPay_30 : decode cX3_layLeastPay 30 = .ok (.iinc 3 1, 3) := by decide +kernel
theorem dX3_layLeastPay_33 : decode cX3_layLeastPay 33 = .ok (.goto (-18), 3) := by decide +kernel
theorem dX3_layLeastPay_36 : decode cX3_layLeastPay 36 = .ok (.aload_n 0, 1) := by decide +kernel
theorem dX3_layLeastPay_37 : decode cX3_layLeastPay 37 = .ok (.iload_n 2, 1) := by decide +kernel
theorem dX3_layLeastPay_38 : decode cX3_layLeastPay 38 = .ok (.iconst 0, 1) := by decide +kernel
theorem dX3_layLeastPay_39 : decode cX3_layLeastPay 39 = .ok (.aload_n 1, 1) := by decide +kernel
theorem dX3_layLeastPay_40 : decode cX3_layLeastPay 40 = .ok (.invokevirtual 56, 3) := by decide +kernel
theorem dX3_layLeastPay_43 : decode cX3_layLeastPay 43 = .ok (.iconst 0, 1) := by decide +kernel
theorem dX3_layLeastPay_44 : decode cX3_layLeastPay 44 = .ok (.invokevirtual 85, 3) := by decide +kernel
theorem dX3_layLeastPay_47 : decode cX3_layLeastPay 47 = .ok (.iconst 1, 1) := by decide +kernel
theorem dX3_layLeastPay_48 : decode cX3_layLeastPay 48 = .ok (.istore_n 3, 1) := by decide +kernel
theorem dX3_layLeastPay_49 : decode cX3_layLeastPay 49 = .ok (.iload_n 3, 1) := by decide +kernel
theorem dX3_layLeastPay_50 : decode cX3_layLeastPay 50 = .ok (.aload_n 1, 1) := by decide +kernel
theorem dX3_layLeastPay_51 : decode cX3_layLeastPay 51 = .ok (.invokevirtual 56, 3) := by decide +kernel
theorem dX3_layLeastPay_54 : decode cX3_layLeastPay 54 = .ok (.if_icmp .gt 22, 3) := by decide +kernel
theorem dX3_layLeastPay_57 : decode cX3_layLeastPay 57 = .ok (.aload_n 0, 1) := by decide +kernel
theorem dX3_layLeastPay_58 : decode cX3_layLeastPay 58 = .ok (.iload_n 2, 1) := by decide +kernel
theorem dX3_layLeastPay_59 : decode cX3_layLeastPay 59 = .ok (.iload_n 3, 1) := by decide +kernel
theorem dX3_layLeastPay_60 : decode cX3_layLeastPay 60 = .ok (.iload_n 3, 1) := by decide +kernel
theorem dX3_layLeastPay_61 : decode cX3_layLeastPay 61 = .ok (.aload_n 1, 1) := by decide +kernel
theorem dX3_layLeastPay_62 : decode cX3_layLeastPay 62 = .ok (.getfield 45, 3) := by decide +kernel
theorem dX3_layLeastPay_65 : decode cX3_layLeastPay 65 = .ok (.iload_n 3, 1) := by decide +kernel
theorem dX3_layLeastPay_66 : decode cX3_layLeastPay 66 = .ok (.iaload, 1) := by decide +kernel
theorem dX3_layLeastPay_67 : decode cX3_layLeastPay 67 = .ok (.invokevirtual 85, 3) := by decide +kernel
theorem dX3_layLeastPay_70 : decode cX3_layLeastPay 70 = .ok (.iinc 3 1, 3) := by decide +kernel
theorem dX3_layLeastPay_73 : decode cX3_layLeastPay 73 = .ok (.goto (-24), 3) := by decide +kernel
theorem dX3_layLeastPay_76 : decode cX3_layLeastPay 76 = .ok (.aload_n 0, 1) := by decide +kernel
theorem dX3_layLeastPay_77 : decode cX3_layLeastPay 77 = .ok (.getfield 19, 3) := by decide +kernel
theorem dX3_layLeastPay_80 : decode cX3_layLeastPay 80 = .ok (.invokevirtual 89, 3) := by decide +kernel
theorem dX3_layLeastPay_83 : decode cX3_layLeastPay 83 = .ok (.aload_n 0, 1) := by decide +kernel
theorem dX3_layLeastPay_84 : decode cX3_layLeastPay 84 = .ok (.getfield 19, 3) := by decide +kernel
theorem dX3_layLeastPay_87 : decode cX3_layLeastPay 87 = .ok (.iload_n 2, 1) := by decide +kernel
theorem dX3_layLeastPay_88 : decode cX3_layLeastPay 88 = .ok (.iconst (-1), 1) := by decide +kernel
theorem dX3_layLeastPay_89 : decode cX3_layLeastPay 89 = .ok (.invokevirtual 92, 3) := by decide +kernel
theorem dX3_layLeastPay_92 : decode cX3_layLeastPay 92 = .ok (.return_, 1) := by decide +kernel
theorem dX3_isWhole_0 : decode cX3_isWhole 0 = .ok (.aload_n 1, 1) := by decide +kernel
theorem dX3_isWhole_1 : decode cX3_isWhole 1 = .ok (.getfield 69, 3) := by decide +kernel
theorem dX3_isWhole_4 : decode cX3_isWhole 4 = .ok (.istore_n 2, 1) := by decide +kernel
theorem dX3_isWhole_5 : decode cX3_isWhole 5 = .ok (.aload_n 0, 1) := by decide +kernel
theorem dX3_isWhole_6 : decode cX3_isWhole 6 = .ok (.getfield 19, 3) := by decide +kernel
theorem dX3_isWhole_9 : decode cX3_isWhole 9 = .ok (.iload_n 2, 1) := by decide +kernel
theorem dX3_isWhole_10 : decode cX3_isWhole 10 = .ok (.invokevirtual 96, 3) := by decide +kernel
theorem dX3_isWhole_13 : decode cX3_isWhole 13 = .ok (.aload_n 0, 1) := by decide +kernel
theorem dX3_isWhole_14 : decode cX3_isWhole 14 = .ok (.getfield 19, 3) := by decide +kernel
theorem dX3_isWhole_17 : decode cX3_isWhole 17 = .ok (.iload_n 2, 1) := by decide +kernel
theorem dX3_isWhole_18 : decode cX3_isWhole 18 = .ok (.invokevirtual 100, 3) := by decide +kernel
theorem dX3_isWhole_21 : decode cX3_isWhole 21 = .ok (.aload_n 1, 1) := by decide +kernel
theorem dX3_isWhole_22 : decode cX3_isWhole 22 = .ok (.getfield 45, 3) := by decide +kernel
theorem dX3_isWhole_25 : decode cX3_isWhole 25 = .ok (.aload_n 1, 1) := by decide +kernel
theorem dX3_isWhole_26 : decode cX3_isWhole 26 = .ok (.invokevirtual 56, 3) := by decide +kernel
theorem dX3_isWhole_29 : decode cX3_isWhole 29 = .ok (.iaload, 1) := by decide +kernel
theorem dX3_isWhole_30 : decode cX3_isWhole 30 = .ok (.i2l, 1) := by decide +kernel
theorem dX3_isWhole_31 : decode cX3_isWhole 31 = .ok (.lmul, 1) := by decide +kernel
theorem dX3_isWhole_32 : decode cX3_isWhole 32 = .ok (.lcmp, 1) := by decide +kernel
theorem dX3_isWhole_33 : decode cX3_isWhole 33 = .ok (.ifCond .ne 7, 3) := by decide +kernel
theorem dX3_isWhole_36 : decode cX3_isWhole 36 = .ok (.iconst 1, 1) := by decide +kernel
theorem dX3_isWhole_37 : decode cX3_isWhole 37 = .ok (.goto 4, 3) := by decide +kernel
theorem dX3_isWhole_40 : decode cX3_isWhole 40 = .ok (.iconst 0, 1) := by decide +kernel
theorem dX3_isWhole_41 : decode cX3_isWhole 41 = .ok (.ireturn, 1) := by decide +kernel
theorem dX3_driveSide_0 : decode cX3_driveSide 0 = .ok (.aload_n 0, 1) := by decide +kernel
theorem dX3_driveSide_1 : decode cX3_driveSide 1 = .ok (.getfield 19, 3) := by decide +kernel
theorem dX3_driveSide_4 : decode cX3_driveSide 4 = .ok (.iload_n 1, 1) := by decide +kernel
theorem dX3_driveSide_5 : decode cX3_driveSide 5 = .ok (.invokevirtual 103, 3) := by decide +kernel
theorem dX3_driveSide_8 : decode cX3_driveSide 8 = .ok (.aload_n 0, 1) := by decide +kernel
theorem dX3_driveSide_9 : decode cX3_driveSide 9 = .ok (.getfield 19, 3) := by decide +kernel
theorem dX3_driveSide_12 : decode cX3_driveSide 12 = .ok (.iload_n 2, 1) := by decide +kernel
theorem dX3_driveSide_13 : decode cX3_driveSide 13 = .ok (.iload_n 3, 1) := by decide +kernel
theorem dX3_driveSide_14 : decode cX3_driveSide 14 = .ok (.invokevirtual 92, 3) := by decide +kernel
theorem dX3_driveSide_17 : decode cX3_driveSide 17 = .ok (.return_, 1) := by decide +kernel
theorem dX3_tellRow_0 : decode cX3_tellRow 0 = .ok (.aload_n 2, 1) := by decide +kernel
theorem dX3_tellRow_1 : decode cX3_tellRow 1 = .ok (.aload_n 0, 1) := by decide +kernel
theorem dX3_tellRow_2 : decode cX3_tellRow 2 = .ok (.getfield 19, 3) := by decide +kernel
theorem dX3_tellRow_5 : decode cX3_tellRow 5 = .ok (.iload_n 1, 1) := by decide +kernel
theorem dX3_tellRow_6 : decode cX3_tellRow 6 = .ok (.invokevirtual 96, 3) := by decide +kernel
theorem dX3_tellRow_9 : decode cX3_tellRow 9 = .ok (.aload_n 0, 1) := by decide +kernel
theorem dX3_tellRow_10 : decode cX3_tellRow 10 = .ok (.getfield 19, 3) := by decide +kernel
theorem dX3_tellRow_13 : decode cX3_tellRow 13 = .ok (.iload_n 1, 1) := by decide +kernel
theorem dX3_tellRow_14 : decode cX3_tellRow 14 = .ok (.invokevirtual 100, 3) := by decide +kernel
theorem dX3_tellRow_17 : decode cX3_tellRow 17 = .ok (.invokevirtual 106, 3) := by decide +kernel
theorem dX3_tellRow_20 : decode cX3_tellRow 20 = .ok (.return_, 1) := by decide +kernel
theorem dX3_addHaving_0 : decode cX3_addHaving 0 = .ok (.aload_n 0, 1) := by decide +kernel
theorem dX3_addHaving_1 : decode cX3_addHaving 1 = .ok (.getfield 19, 3) := by decide +kernel
theorem dX3_addHaving_4 : decode cX3_addHaving 4 = .ok (.iload_n 2, 1) := by decide +kernel
theorem dX3_addHaving_5 : decode cX3_addHaving 5 = .ok (.sipush 1000, 3) := by decide +kernel
theorem dX3_addHaving_8 : decode cX3_addHaving 8 = .ok (.iload_n 3, 1) := by decide +kernel
theorem dX3_addHaving_9 : decode cX3_addHaving 9 = .ok (.invokestatic 110, 3) := by decide +kernel
theorem dX3_addHaving_12 : decode cX3_addHaving 12 = .ok (.imul, 1) := by decide +kernel
theorem dX3_addHaving_13 : decode cX3_addHaving 13 = .ok (.iload 4, 2) := by decide +kernel
theorem dX3_addHaving_15 : decode cX3_addHaving 15 = .ok (.isub, 1) := by decide +kernel
theorem dX3_addHaving_16 : decode cX3_addHaving 16 = .ok (.i2l, 1) := by decide +kernel
theorem dX3_addHaving_17 : decode cX3_addHaving 17 = .ok (.invokevirtual 116, 3) := by decide +kernel
theorem dX3_addHaving_20 : decode cX3_addHaving 20 = .ok (.istore 5, 2) := by decide +kernel
theorem dX3_addHaving_22 : decode cX3_addHaving 22 = .ok (.iconst 0, 1) := by decide +kernel
theorem dX3_addHaving_23 : decode cX3_addHaving 23 = .ok (.istore 6, 2) := by decide +kernel
theorem dX3_addHaving_25 : decode cX3_addHaving 25 = .ok (.iload 6, 2) := by decide +kernel
theorem dX3_addHaving_27 : decode cX3_addHaving 27 = .ok (.iload_n 1, 1) := by decide +kernel
theorem dX3_addHaving_28 : decode cX3_addHaving 28 = .ok (.if_icmp .ge 36, 3) := by decide +kernel
theorem dX3_addHaving_31 : decode cX3_addHaving 31 = .ok (.aload_n 0, 1) := by decide +kernel
theorem dX3_addHaving_32 : decode cX3_addHaving 32 = .ok (.getfield 19, 3) := by decide +kernel
theorem dX3_addHaving_35 : decode cX3_addHaving 35 = .ok (.iload 5, 2) := by decide +kernel
theorem dX3_addHaving_37 : decode cX3_addHaving 37 = .ok (.iload 6, 2) := by decide +kernel
theorem dX3_addHaving_39 : decode cX3_addHaving 39 = .ok (.iload_n 3, 1) := by decide +kernel
theorem dX3_addHaving_40 : decode cX3_addHaving 40 = .ok (.iload 6, 2) := by decide +kernel
theorem dX3_addHaving_42 : decode cX3_addHaving 42 = .ok (.invokestatic 41, 3) := by decide +kernel
theorem dX3_addHaving_45 : decode cX3_addHaving 45 = .ok (.ifCond .eq 9, 3) := by decide +kernel
theorem dX3_addHaving_48 : decode cX3_addHaving 48 = .ok (.ldc2_w 120, 3) := by decide +kernel
theorem dX3_addHaving_51 : decode cX3_addHaving 51 = .ok (.goto 4, 3) := by decide +kernel
theorem dX3_addHaving_54 : decode cX3_addHaving 54 = .ok (.lconst 0, 1) := by decide +kernel
theorem dX3_addHaving_55 : decode cX3_addHaving 55 = .ok (.invokevirtual 122, 3) := by decide +kernel
theorem dX3_addHaving_58 : decode cX3_addHaving 58 = .ok (.iinc 6 1, 3) := by decide +kernel
theorem dX3_addHaving_61 : decode cX3_addHaving 61 = .ok (.goto (-36), 3) := by decide +kernel
theorem dX3_addHaving_64 : decode cX3_addHaving 64 = .ok (.return_, 1) := by decide +kernel
theorem dX3_tellStrain_0 : decode cX3_tellStrain 0 = .ok (.aload_n 1, 1) := by decide +kernel
theorem dX3_tellStrain_1 : decode cX3_tellStrain 1 = .ok (.aload_n 0, 1) := by decide +kernel
theorem dX3_tellStrain_2 : decode cX3_tellStrain 2 = .ok (.getfield 30, 3) := by decide +kernel
theorem dX3_tellStrain_5 : decode cX3_tellStrain 5 = .ok (.getfield 126, 3) := by decide +kernel
theorem dX3_tellStrain_8 : decode cX3_tellStrain 8 = .ok (.aload_n 0, 1) := by decide +kernel
theorem dX3_tellStrain_9 : decode cX3_tellStrain 9 = .ok (.getfield 30, 3) := by decide +kernel
theorem dX3_tellStrain_12 : decode cX3_tellStrain 12 = .ok (.getfield 130, 3) := by decide +kernel
theorem dX3_tellStrain_15 : decode cX3_tellStrain 15 = .ok (.invokevirtual 106, 3) := by decide +kernel
theorem dX3_tellStrain_18 : decode cX3_tellStrain 18 = .ok (.return_, 1) := by decide +kernel
theorem dX3_tellCalm_0 : decode cX3_tellCalm 0 = .ok (.aload_n 2, 1) := by decide +kernel
theorem dX3_tellCalm_1 : decode cX3_tellCalm 1 = .ok (.aload_n 0, 1) := by decide +kernel
theorem dX3_tellCalm_2 : decode cX3_tellCalm 2 = .ok (.getfield 26, 3) := by decide +kernel
theorem dX3_tellCalm_5 : decode cX3_tellCalm 5 = .ok (.iload_n 1, 1) := by decide +kernel
theorem dX3_tellCalm_6 : decode cX3_tellCalm 6 = .ok (.aaload, 1) := by decide +kernel
theorem dX3_tellCalm_7 : decode cX3_tellCalm 7 = .ok (.getfield 126, 3) := by decide +kernel
theorem dX3_tellCalm_10 : decode cX3_tellCalm 10 = .ok (.aload_n 0, 1) := by decide +kernel
theorem dX3_tellCalm_11 : decode cX3_tellCalm 11 = .ok (.getfield 26, 3) := by decide +kernel
theorem dX3_tellCalm_14 : decode cX3_tellCalm 14 = .ok (.iload_n 1, 1) := by decide +kernel
theorem dX3_tellCalm_15 : decode cX3_tellCalm 15 = .ok (.aaload, 1) := by decide +kernel
theorem dX3_tellCalm_16 : decode cX3_tellCalm 16 = .ok (.getfield 130, 3) := by decide +kernel
theorem dX3_tellCalm_19 : decode cX3_tellCalm 19 = .ok (.invokevirtual 106, 3) := by decide +kernel
theorem dX3_tellCalm_22 : decode cX3_tellCalm 22 = .ok (.return_, 1) := by decide +kernel
theorem dX3_findCalm_0 : decode cX3_findCalm 0 = .ok (.aload_n 0, 1) := by decide +kernel
theorem dX3_findCalm_1 : decode cX3_findCalm 1 = .ok (.getfield 34, 3) := by decide +kernel
theorem dX3_findCalm_4 : decode cX3_findCalm 4 = .ok (.ifCond .eq 4, 3) := by decide +kernel
theorem dX3_findCalm_7 : decode cX3_findCalm 7 = .ok (.return_, 1) := by decide +kernel
theorem dX3_findCalm_8 : decode cX3_findCalm 8 = .ok (.aload_n 0, 1) := by decide +kernel
theorem dX3_findCalm_9 : decode cX3_findCalm 9 = .ok (.aload_n 1, 1) := by decide +kernel
theorem dX3_findCalm_10 : decode cX3_findCalm 10 = .ok (.invokevirtual 133, 3) := by decide +kernel
theorem dX3_findCalm_13 : decode cX3_findCalm 13 = .ok (.istore_n 2, 1) := by decide +kernel
theorem dX3_findCalm_14 : decode cX3_findCalm 14 = .ok (.aload_n 0, 1) := by decide +kernel
theorem dX3_findCalm_15 : decode cX3_findCalm 15 = .ok (.getfield 19, 3) := by decide +kernel
theorem dX3_findCalm_18 : decode cX3_findCalm 18 = .ok (.invokevirtual 89, 3) := by decide +kernel
theorem dX3_findCalm_21 : decode cX3_findCalm 21 = .ok (.iconst 1, 1) := by decide +kernel
theorem dX3_findCalm_22 : decode cX3_findCalm 22 = .ok (.istore_n 3, 1) := by decide +kernel
theorem dX3_findCalm_23 : decode cX3_findCalm 23 = .ok (.iconst 0, 1) := by decide +kernel
theorem dX3_findCalm_24 : decode cX3_findCalm 24 = .ok (.istore 4, 2) := by decide +kernel
theorem dX3_findCalm_26 : decode cX3_findCalm 26 = .ok (.iload 4, 2) := by decide +kernel
theorem dX3_findCalm_28 : decode cX3_findCalm 28 = .ok (.iconst 4, 1) := by decide +kernel
theorem dX3_findCalm_29 : decode cX3_findCalm 29 = .ok (.if_icmp .ge 102, 3) := by decide +kernel
theorem dX3_findCalm_32 : decode cX3_findCalm 32 = .ok (.aload_n 0, 1) := by decide +kernel
theorem dX3_findCalm_33 : decode cX3_findCalm 33 = .ok (.getfield 19, 3) := by decide +kernel
theorem dX3_findCalm_36 : decode cX3_findCalm 36 = .ok (.getfield 137, 3) := by decide +kernel
theorem dX3_findCalm_39 : decode cX3_findCalm 39 = .ok (.ifCond .le 92, 3) := by decide +kernel
theorem dX3_findCalm_42 : decode cX3_findCalm 42 = .ok (.aload_n 0, 1) := by decide +kernel
theorem dX3_findCalm_43 : decode cX3_findCalm 43 = .ok (.getfield 19, 3) := by decide +kernel
theorem dX3_findCalm_46 : decode cX3_findCalm 46 = .ok (.invokevirtual 140, 3) := by decide +kernel
theorem dX3_findCalm_49 : decode cX3_findCalm 49 = .ok (.aload_n 0, 1) := by decide +kernel
theorem dX3_findCalm_50 : decode cX3_findCalm 50 = .ok (.getfield 19, 3) := by decide +kernel
theorem dX3_findCalm_53 : decode cX3_findCalm 53 = .ok (.aload_n 0, 1) := by decide +kernel
theorem dX3_findCalm_54 : decode cX3_findCalm 54 = .ok (.getfield 19, 3) := by decide +kernel
theorem dX3_findCalm_57 : decode cX3_findCalm 57 = .ok (.invokevirtual 143, 3) := by decide +kernel
theorem dX3_findCalm_60 : decode cX3_findCalm 60 = .ok (.invokevirtual 146, 3) := by decide +kernel
theorem dX3_findCalm_63 : decode cX3_findCalm 63 = .ok (.istore 5, 2) := by decide +kernel
theorem dX3_findCalm_65 : decode cX3_findCalm 65 = .ok (.aload_n 0, 1) := by decide +kernel
theorem dX3_findCalm_66 : decode cX3_findCalm 66 = .ok (.getfield 19, 3) := by decide +kernel
theorem dX3_findCalm_69 : decode cX3_findCalm 69 = .ok (.iload 5, 2) := by decide +kernel
theorem dX3_findCalm_71 : decode cX3_findCalm 71 = .ok (.iconst 1, 1) := by decide +kernel
theorem dX3_findCalm_72 : decode cX3_findCalm 72 = .ok (.invokevirtual 92, 3) := by decide +kernel
theorem dX3_findCalm_75 : decode cX3_findCalm 75 = .ok (.iload_n 3, 1) := by decide +kernel
theorem dX3_findCalm_76 : decode cX3_findCalm 76 = .ok (.ifCond .eq 40, 3) := by decide +kernel
theorem dX3_findCalm_79 : decode cX3_findCalm 79 = .ok (.aload_n 0, 1) := by decide +kernel
theorem dX3_findCalm_80 : decode cX3_findCalm 80 = .ok (.getfield 19, 3) := by decide +kernel
theorem dX3_findCalm_83 : decode cX3_findCalm 83 = .ok (.iload 5, 2) := by decide +kernel
theorem dX3_findCalm_85 : decode cX3_findCalm 85 = .ok (.invokevirtual 100, 3) := by decide +kernel
theorem dX3_findCalm_88 : decode cX3_findCalm 88 = .ok (.lstore 6, 2) := by decide +kernel
theorem dX3_findCalm_90 : decode cX3_findCalm 90 = .ok (.aload_n 0, 1) := by decide +kernel
theorem dX3_findCalm_91 : decode cX3_findCalm 91 = .ok (.getfield 30, 3) := by decide +kernel
theorem dX3_findCalm_94 : decode cX3_findCalm 94 = .ok (.iload_n 2, 1) := by decide +kernel
theorem dX3_findCalm_95 : decode cX3_findCalm 95 = .ok (.i2l, 1) := by decide +kernel
theorem dX3_findCalm_96 : decode cX3_findCalm 96 = .ok (.lload 6, 2) := by decide +kernel
theorem dX3_findCalm_98 : decode cX3_findCalm 98 = .ok (.lmul, 1) := by decide +kernel
theorem dX3_findCalm_99 : decode cX3_findCalm 99 = .ok (.aload_n 0, 1) := by decide +kernel
theorem dX3_findCalm_100 : decode cX3_findCalm 100 = .ok (.getfield 19, 3) := by decide +kernel
theorem dX3_findCalm_103 : decode cX3_findCalm 103 = .ok (.iload 5, 2) := by decide +kernel
theorem dX3_findCalm_105 : decode cX3_findCalm 105 = .ok (.invokevirtual 96, 3) := by decide +kernel
theorem dX3_findCalm_108 : decode cX3_findCalm 108 = .ok (.lsub, 1) := by decide +kernel
theorem dX3_findCalm_109 : decode cX3_findCalm 109 = .ok (.lload 6, 2) := by decide +kernel
theorem dX3_findCalm_111 : decode cX3_findCalm 111 = .ok (.invokevirtual 106, 3) := by decide +kernel
theorem dX3_findCalm_114 : decode cX3_findCalm 114 = .ok (.iconst 0, 1) := by decide +kernel
theorem dX3_findCalm_115 : decode cX3_findCalm 115 = .ok (.istore_n 3, 1) := by decide +kernel
theorem dX3_findCalm_116 : decode cX3_findCalm 116 = .ok (.aload_n 0, 1) := by decide +kernel
theorem dX3_findCalm_117 : decode cX3_findCalm 117 = .ok (.getfield 19, 3) := by decide +kernel
theorem dX3_findCalm_120 : decode cX3_findCalm 120 = .ok (.iload 5, 2) := by decide +kernel
theorem dX3_findCalm_122 : decode cX3_findCalm 122 = .ok (.invokevirtual 103, 3) := by decide +kernel
theorem dX3_findCalm_125 : decode cX3_findCalm 125 = .ok (.iinc 4 1, 3) := by decide +kernel
theorem dX3_findCalm_128 : decode cX3_findCalm 128 = .ok (.goto (-102), 3) := by decide +kernel
theorem dX3_findCalm_131 : decode cX3_findCalm 131 = .ok (.iconst 0, 1) := by decide +kernel
theorem dX3_findCalm_132 : decode cX3_findCalm 132 = .ok (.istore 4, 2) := by decide +kernel
theorem dX3_findCalm_134 : decode cX3_findCalm 134 = .ok (.iload 4, 2) := by decide +kernel
theorem dX3_findCalm_136 : decode cX3_findCalm 136 = .ok (.aload_n 1, 1) := by decide +kernel
theorem dX3_findCalm_137 : decode cX3_findCalm 137 = .ok (.getfield 69, 3) := by decide +kernel
theorem dX3_findCalm_140 : decode cX3_findCalm 140 = .ok (.if_icmp .ge 37, 3) := by decide +kernel
theorem dX3_findCalm_143 : decode cX3_findCalm 143 = .ok (.aload_n 0, 1) := by decide +kernel
theorem dX3_findCalm_144 : decode cX3_findCalm 144 = .ok (.getfield 26, 3) := by decide +kernel
theorem dX3_findCalm_147 : decode cX3_findCalm 147 = .ok (.iload 4, 2) := by decide +kernel
theorem dX3_findCalm_149 : decode cX3_findCalm 149 = .ok (.aaload, 1) := by decide +kernel
theorem dX3_findCalm_150 : decode cX3_findCalm 150 = .ok (.aload_n 0, 1) := by decide +kernel
theorem dX3_findCalm_151 : decode cX3_findCalm 151 = .ok (.getfield 19, 3) := by decide +kernel
theorem dX3_findCalm_154 : decode cX3_findCalm 154 = .ok (.iload 4, 2) := by decide +kernel
theorem dX3_findCalm_156 : decode cX3_findCalm 156 = .ok (.invokevirtual 96, 3) := by decide +kernel
theorem dX3_findCalm_159 : decode cX3_findCalm 159 = .ok (.aload_n 0, 1) := by decide +kernel
theorem dX3_findCalm_160 : decode cX3_findCalm 160 = .ok (.getfield 19, 3) := by decide +kernel
theorem dX3_findCalm_163 : decode cX3_findCalm 163 = .ok (.iload 4, 2) := by decide +kernel
theorem dX3_findCalm_165 : decode cX3_findCalm 165 = .ok (.invokevirtual 100, 3) := by decide +kernel
theorem dX3_findCalm_168 : decode cX3_findCalm 168 = .ok (.invokevirtual 106, 3) := by decide +kernel
theorem dX3_findCalm_171 : decode cX3_findCalm 171 = .ok (.iinc 4 1, 3) := by decide +kernel
theorem dX3_findCalm_174 : decode cX3_findCalm 174 = .ok (.goto (-40), 3) := by decide +kernel
theorem dX3_findCalm_177 : decode cX3_findCalm 177 = .ok (.aload_n 0, 1) := by decide +kernel
theorem dX3_findCalm_178 : decode cX3_findCalm 178 = .ok (.iconst 1, 1) := by decide +kernel
theorem dX3_findCalm_179 : decode cX3_findCalm 179 = .ok (.putfield 34, 3) := by decide +kernel
theorem dX3_findCalm_182 : decode cX3_findCalm 182 = .ok (.return_, 1) := by decide +kernel
theorem dX3_layWhole_0 : decode cX3_layWhole 0 = .ok (.aload_n 1, 1) := by decide +kernel
theorem dX3_layWhole_1 : decode cX3_layWhole 1 = .ok (.getfield 69, 3) := by decide +kernel
theorem dX3_layWhole_4 : decode cX3_layWhole 4 = .ok (.istore_n 2, 1) := by decide +kernel
theorem dX3_layWhole_5 : decode cX3_layWhole 5 = .ok (.aload_n 0, 1) := by decide +kernel
theorem dX3_layWhole_6 : decode cX3_layWhole 6 = .ok (.aload_n 1, 1) := by decide +kernel
theorem dX3_layWhole_7 : decode cX3_layWhole 7 = .ok (.invokevirtual 149, 3) := by decide +kernel
theorem dX3_layWhole_10 : decode cX3_layWhole 10 = .ok (.istore_n 3, 1) := by decide +kernel
theorem dX3_layWhole_11 : decode cX3_layWhole 11 = .ok (.aload_n 0, 1) := by decide +kernel
theorem dX3_layWhole_12 : decode cX3_layWhole 12 = .ok (.getfield 19, 3) := by decide +kernel
theorem dX3_layWhole_15 : decode cX3_layWhole 15 = .ok (.iload_n 2, 1) := by decide +kernel
theorem dX3_layWhole_16 : decode cX3_layWhole 16 = .ok (.iconst 1, 1) := by decide +kernel
theorem dX3_layWhole_17 : decode cX3_layWhole 17 = .ok (.isub, 1) := by decide +kernel
theorem dX3_layWhole_18 : decode cX3_layWhole 18 = .ok (.invokevirtual 81, 3) := by decide +kernel
theorem dX3_layWhole_21 : decode cX3_layWhole 21 = .ok (.iconst 0, 1) := by decide +kernel
theorem dX3_layWhole_22 : decode cX3_layWhole 22 = .ok (.istore 4, 2) := by decide +kernel
theorem dX3_layWhole_24 : decode cX3_layWhole 24 = .ok (.iload 4, 2) := by decide +kernel
theorem dX3_layWhole_26 : decode cX3_layWhole 26 = .ok (.iload_n 2, 1) := by decide +kernel
theorem dX3_layWhole_27 : decode cX3_layWhole 27 = .ok (.if_icmp .ge 20, 3) := by decide +kernel
theorem dX3_layWhole_30 : decode cX3_layWhole 30 = .ok (.aload_n 0, 1) := by decide +kernel
theorem dX3_layWhole_31 : decode cX3_layWhole 31 = .ok (.aload_n 1, 1) := by decide +kernel
theorem dX3_layWhole_32 : decode cX3_layWhole 32 = .ok (.iconst 0, 1) := by decide +kernel
theorem dX3_layWhole_33 : decode cX3_layWhole 33 = .ok (.iconst 1, 1) := by decide +kernel
theorem dX3_layWhole_34 : decode cX3_layWhole 34 = .ok (.iload 4, 2) := by decide +kernel
theorem dX3_layWhole_36 : decode cX3_layWhole 36 = .ok (.ishl, 1) := by decide +kernel
theorem dX3_layWhole_37 : decode cX3_layWhole 37 = .ok (.iconst 0, 1) := by decide +kernel
theorem dX3_layWhole_38 : decode cX3_layWhole 38 = .ok (.invokevirtual 152, 3) := by decide +kernel
theorem dX3_layWhole_41 : decode cX3_layWhole 41 = .ok (.iinc 4 1, 3) := by decide +kernel
theorem dX3_layWhole_44 : decode cX3_layWhole 44 = .ok (.goto (-20), 3) := by decide +kernel
theorem dX3_layWhole_47 : decode cX3_layWhole 47 = .ok (.iconst 1, 1) := by decide +kernel
theorem dX3_layWhole_48 : decode cX3_layWhole 48 = .ok (.istore 4, 2) := by decide +kernel
theorem dX3_layWhole_50 : decode cX3_layWhole 50 = .ok (.iload 4, 2) := by decide +kernel
theorem dX3_layWhole_52 : decode cX3_layWhole 52 = .ok (.aload_n 1, 1) := by decide +kernel
theorem dX3_layWhole_53 : decode cX3_layWhole 53 = .ok (.invokevirtual 56, 3) := by decide +kernel
theorem dX3_layWhole_56 : decode cX3_layWhole 56 = .ok (.if_icmp .ge 27, 3) := by decide +kernel
theorem dX3_layWhole_59 : decode cX3_layWhole 59 = .ok (.aload_n 0, 1) := by decide +kernel
theorem dX3_layWhole_60 : decode cX3_layWhole 60 = .ok (.aload_n 1, 1) := by decide +kernel
theorem dX3_layWhole_61 : decode cX3_layWhole 61 = .ok (.iload 4, 2) := by decide +kernel
theorem dX3_layWhole_63 : decode cX3_layWhole 63 = .ok (.iload 4, 2) := by decide +kernel
theorem dX3_layWhole_65 : decode cX3_layWhole 65 = .ok (.aload_n 1, 1) := by decide +kernel
theorem dX3_layWhole_66 : decode cX3_layWhole 66 = .ok (.getfield 45, 3) := by decide +kernel
theorem dX3_layWhole_69 : decode cX3_layWhole 69 = .ok (.iload 4, 2) := by decide +kernel
theorem dX3_layWhole_71 : decode cX3_layWhole 71 = .ok (.iaload, 1) := by decide +kernel
theorem dX3_layWhole_72 : decode cX3_layWhole 72 = .ok (.iload_n 3, 1) := by decide +kernel
theorem dX3_layWhole_73 : decode cX3_layWhole 73 = .ok (.isub, 1) := by decide +kernel
theorem dX3_layWhole_74 : decode cX3_layWhole 74 = .ok (.invokevirtual 152, 3) := by decide +kernel
theorem dX3_layWhole_77 : decode cX3_layWhole 77 = .ok (.iinc 4 1, 3) := by decide +kernel
theorem dX3_layWhole_80 : decode cX3_layWhole 80 = .ok (.goto (-30), 3) := by decide +kernel
theorem dX3_layWhole_83 : decode cX3_layWhole 83 = .ok (.iload_n 3, 1) := by decide +kernel
theorem dX3_layWhole_84 : decode cX3_layWhole 84 = .ok (.ireturn, 1) := by decide +kernel
theorem dX3_greatestComplaintByLast_0 : decode cX3_greatestComplaintByLast 0 = .ok (.ldc 55, 2) := by decide +kernel
theorem dX3_greatestComplaintByLast_2 : decode cX3_greatestComplaintByLast 2 = .ok (.istore_n 2, 1) := by decide +kernel
theorem dX3_greatestComplaintByLast_3 : decode cX3_greatestComplaintByLast 3 = .ok (.iconst 1, 1) := by decide +kernel
theorem dX3_greatestComplaintByLast_4 : decode cX3_greatestComplaintByLast 4 = .ok (.istore_n 3, 1) := by decide +kernel
theorem dX3_greatestComplaintByLast_5 : decode cX3_greatestComplaintByLast 5 = .ok (.iload_n 3, 1) := by decide +kernel
theorem dX3_greatestComplaintByLast_6 : decode cX3_greatestComplaintByLast 6 = .ok (.aload_n 1, 1) := by decide +kernel
theorem dX3_greatestComplaintByLast_7 : decode cX3_greatestComplaintByLast 7 = .ok (.invokevirtual 56, 3) := by decide +kernel
theorem dX3_greatestComplaintByLast_10 : decode cX3_greatestComplaintByLast 10 = .ok (.if_icmp .ge 51, 3) := by decide +kernel
theorem dX3_greatestComplaintByLast_13 : decode cX3_greatestComplaintByLast 13 = .ok (.iload_n 3, 1) := by decide +kernel
theorem dX3_greatestComplaintByLast_14 : decode cX3_greatestComplaintByLast 14 = .ok (.aload_n 1, 1) := by decide +kernel
theorem dX3_greatestComplaintByLast_15 : decode cX3_greatestComplaintByLast 15 = .ok (.getfield 69, 3) := by decide +kernel
theorem dX3_greatestComplaintByLast_18 : decode cX3_greatestComplaintByLast 18 = .ok (.iconst 1, 1) := by decide +kernel
theorem dX3_greatestComplaintByLast_19 : decode cX3_greatestComplaintByLast 19 = .ok (.isub, 1) := by decide +kernel
theorem dX3_greatestComplaintByLast_20 : decode cX3_greatestComplaintByLast 20 = .ok (.invokestatic 41, 3) := by decide +kernel
theorem dX3_greatestComplaintByLast_23 : decode cX3_greatestComplaintByLast 23 = .ok (.ifCond .eq 15, 3) := by decide +kernel
theorem dX3_greatestComplaintByLast_26 : decode cX3_greatestComplaintByLast 26 = .ok (.aload_n 1, 1) := by decide +kernel
theorem dX3_greatestComplaintByLast_27 : decode cX3_greatestComplaintByLast 27 = .ok (.getfield 45, 3) := by decide +kernel
theorem dX3_greatestComplaintByLast_30 : decode cX3_greatestComplaintByLast 30 = .ok (.aload_n 1, 1) := by decide +kernel
theorem dX3_greatestComplaintByLast_31 : decode cX3_greatestComplaintByLast 31 = .ok (.invokevirtual 56, 3) := by decide +kernel
theorem dX3_greatestComplaintByLast_34 : decode cX3_greatestComplaintByLast 34 = .ok (.iaload, 1) := by decide +kernel
theorem dX3_greatestComplaintByLast_35 : decode cX3_greatestComplaintByLast 35 = .ok (.goto 4, 3) := by decide +kernel
theorem dX3_greatestComplaintByLast_38 : decode cX3_greatestComplaintByLast 38 = .ok (.iconst 0, 1) := by decide +kernel
theorem dX3_greatestComplaintByLast_39 : decode cX3_greatestComplaintByLast 39 = .ok (.istore 4, 2) := by decide +kernel
theorem dX3_greatestComplaintByLast_41 : decode cX3_greatestComplaintByLast 41 = .ok (.iload_n 2, 1) := by decide +kernel
theorem dX3_greatestComplaintByLast_42 : decode cX3_greatestComplaintByLast 42 = .ok (.aload_n 1, 1) := by decide +kernel
theorem dX3_greatestComplaintByLast_43 : decode cX3_greatestComplaintByLast 43 = .ok (.getfield 45, 3) := by decide +kernel
theorem dX3_greatestComplaintByLast_46 : decode cX3_greatestComplaintByLast 46 = .ok (.iload_n 3, 1) := by decide +kernel
theorem dX3_greatestComplaintByLast_47 : decode cX3_greatestComplaintByLast 47 = .ok (.iaload, 1) := by decide +kernel
theorem dX3_greatestComplaintByLast_48 : decode cX3_greatestComplaintByLast 48 = .ok (.iload 4, 2) := by decide +kernel
theorem dX3_greatestComplaintByLast_50 : decode cX3_greatestComplaintByLast 50 = .ok (.isub, 1) := by decide +kernel
theorem dX3_greatestComplaintByLast_51 : decode cX3_greatestComplaintByLast 51 = .ok (.invokestatic 64, 3) := by decide +kernel
theorem dX3_greatestComplaintByLast_54 : decode cX3_greatestComplaintByLast 54 = .ok (.istore_n 2, 1) := by decide +kernel
theorem dX3_greatestComplaintByLast_55 : decode cX3_greatestComplaintByLast 55 = .ok (.iinc 3 1, 3) := by decide +kernel
theorem dX3_greatestComplaintByLast_58 : decode cX3_greatestComplaintByLast 58 = .ok (.goto (-53), 3) := by decide +kernel
theorem dX3_greatestComplaintByLast_61 : decode cX3_greatestComplaintByLast 61 = .ok (.iload_n 2, 1) := by decide +kernel
theorem dX3_greatestComplaintByLast_62 : decode cX3_greatestComplaintByLast 62 = .ok (.ireturn, 1) := by decide +kernel
theorem dX3_addWholeHaving_0 : decode cX3_addWholeHaving 0 = .ok (.aload_n 1, 1) := by decide +kernel
theorem dX3_addWholeHaving_1 : decode cX3_addWholeHaving 1 = .ok (.getfield 69, 3) := by decide +kernel
theorem dX3_addWholeHaving_4 : decode cX3_addWholeHaving 4 = .ok (.iconst 1, 1) := by decide +kernel
theorem dX3_addWholeHaving_5 : decode cX3_addWholeHaving 5 = .ok (.isub, 1) := by decide +kernel
theorem dX3_addWholeHaving_6 : decode cX3_addWholeHaving 6 = .ok (.istore 5, 2) := by decide +kernel
theorem dX3_addWholeHaving_8 : decode cX3_addWholeHaving 8 = .ok (.iload_n 3, 1) := by decide +kernel
theorem dX3_addWholeHaving_9 : decode cX3_addWholeHaving 9 = .ok (.iload 5, 2) := by decide +kernel
theorem dX3_addWholeHaving_11 : decode cX3_addWholeHaving 11 = .ok (.invokestatic 41, 3) := by decide +kernel
theorem dX3_addWholeHaving_14 : decode cX3_addWholeHaving 14 = .ok (.ifCond .eq 15, 3) := by decide +kernel
theorem dX3_addWholeHaving_17 : decode cX3_addWholeHaving 17 = .ok (.aload_n 1, 1) := by decide +kernel
theorem dX3_addWholeHaving_18 : decode cX3_addWholeHaving 18 = .ok (.getfield 45, 3) := by decide +kernel
theorem dX3_addWholeHaving_21 : decode cX3_addWholeHaving 21 = .ok (.aload_n 1, 1) := by decide +kernel
theorem dX3_addWholeHaving_22 : decode cX3_addWholeHaving 22 = .ok (.invokevirtual 56, 3) := by decide +kernel
theorem dX3_addWholeHaving_25 : decode cX3_addWholeHaving 25 = .ok (.iaload, 1) := by decide +kernel
theorem dX3_addWholeHaving_26 : decode cX3_addWholeHaving 26 = .ok (.goto 4, 3) := by decide +kernel
theorem dX3_addWholeHaving_29 : decode cX3_addWholeHaving 29 = .ok (.iconst 0, 1) := by decide +kernel
theorem dX3_addWholeHaving_30 : decode cX3_addWholeHaving 30 = .ok (.istore 6, 2) := by decide +kernel
theorem dX3_addWholeHaving_32 : decode cX3_addWholeHaving 32 = .ok (.aload_n 0, 1) := by decide +kernel
theorem dX3_addWholeHaving_33 : decode cX3_addWholeHaving 33 = .ok (.getfield 19, 3) := by decide +kernel
theorem dX3_addWholeHaving_36 : decode cX3_addWholeHaving 36 = .ok (.iload_n 2, 1) := by decide +kernel
theorem dX3_addWholeHaving_37 : decode cX3_addWholeHaving 37 = .ok (.iload 6, 2) := by decide +kernel
theorem dX3_addWholeHaving_39 : decode cX3_addWholeHaving 39 = .ok (.iload 4, 2) := by decide +kernel
theorem dX3_addWholeHaving_41 : decode cX3_addWholeHaving 41 = .ok (.isub, 1) := by decide +kernel
theorem dX3_addWholeHaving_42 : decode cX3_addWholeHaving 42 = .ok (.i2l, 1) := by decide +kernel
theorem dX3_addWholeHaving_43 : decode cX3_addWholeHaving 43 = .ok (.invokevirtual 116, 3) := by decide +kernel
theorem dX3_addWholeHaving_46 : decode cX3_addWholeHaving 46 = .ok (.istore 7, 2) := by decide +kernel
theorem dX3_addWholeHaving_48 : decode cX3_addWholeHaving 48 = .ok (.iconst 0, 1) := by decide +kernel
theorem dX3_addWholeHaving_49 : decode cX3_addWholeHaving 49 = .ok (.istore 8, 2) := by decide +kernel
theorem dX3_addWholeHaving_51 : decode cX3_addWholeHaving 51 = .ok (.iload 8, 2) := by decide +kernel
theorem dX3_addWholeHaving_53 : decode cX3_addWholeHaving 53 = .ok (.iload 5, 2) := by decide +kernel
theorem dX3_addWholeHaving_55 : decode cX3_addWholeHaving 55 = .ok (.if_icmp .ge 58, 3) := by decide +kernel
theorem dX3_addWholeHaving_58 : decode cX3_addWholeHaving 58 = .ok (.iload_n 3, 1) := by decide +kernel
theorem dX3_addWholeHaving_59 : decode cX3_addWholeHaving 59 = .ok (.iload 8, 2) := by decide +kernel
theorem dX3_addWholeHaving_61 : decode cX3_addWholeHaving 61 = .ok (.invokestatic 41, 3) := by decide +kernel
theorem dX3_addWholeHaving_64 : decode cX3_addWholeHaving 64 = .ok (.ifCond .eq 7, 3) := by decide +kernel
theorem dX3_addWholeHaving_67 : decode cX3_addWholeHaving 67 = .ok (.iconst 1, 1) := by decide +kernel
theorem dX3_addWholeHaving_68 : decode cX3_addWholeHaving 68 = .ok (.goto 4, 3) := by decide +kernel
theorem dX3_addWholeHaving_71 : decode cX3_addWholeHaving 71 = .ok (.iconst 0, 1) := by decide +kernel
theorem dX3_addWholeHaving_72 : decode cX3_addWholeHaving 72 = .ok (.istore 9, 2) := by decide +kernel
theorem dX3_addWholeHaving_74 : decode cX3_addWholeHaving 74 = .ok (.iload_n 3, 1) := by decide +kernel
theorem dX3_addWholeHaving_75 : decode cX3_addWholeHaving 75 = .ok (.iload 5, 2) := by decide +kernel
theorem dX3_addWholeHaving_77 : decode cX3_addWholeHaving 77 = .ok (.invokestatic 41, 3) := by decide +kernel
theorem dX3_addWholeHaving_80 : decode cX3_addWholeHaving 80 = .ok (.ifCond .eq 7, 3) := by decide +kernel
theorem dX3_addWholeHaving_83 : decode cX3_addWholeHaving 83 = .ok (.iconst 1, 1) := by decide +kernel
theorem dX3_addWholeHaving_84 : decode cX3_addWholeHaving 84 = .ok (.goto 4, 3) := by decide +kernel
theorem dX3_addWholeHaving_87 : decode cX3_addWholeHaving 87 = .ok (.iconst 0, 1) := by decide +kernel
theorem dX3_addWholeHaving_88 : decode cX3_addWholeHaving 88 = .ok (.istore 10, 2) := by decide +kernel
theorem dX3_addWholeHaving_90 : decode cX3_addWholeHaving 90 = .ok (.aload_n 0, 1) := by decide +kernel
theorem dX3_addWholeHaving_91 : decode cX3_addWholeHaving 91 = .ok (.getfield 19, 3) := by decide +kernel
theorem dX3_addWholeHaving_94 : decode cX3_addWholeHaving 94 = .ok (.iload 7, 2) := by decide +kernel
theorem dX3_addWholeHaving_96 : decode cX3_addWholeHaving 96 = .ok (.iload 8, 2) := by decide +kernel
theorem dX3_addWholeHaving_98 : decode cX3_addWholeHaving 98 = .ok (.iload 9, 2) := by decide +kernel
theorem dX3_addWholeHaving_100 : decode cX3_addWholeHaving 100 = .ok (.iload 10, 2) := by decide +kernel
theorem dX3_addWholeHaving_102 : decode cX3_addWholeHaving 102 = .ok (.isub, 1) := by decide +kernel
theorem dX3_addWholeHaving_103 : decode cX3_addWholeHaving 103 = .ok (.i2l, 1) := by decide +kernel
theorem dX3_addWholeHaving_104 : decode cX3_addWholeHaving 104 = .ok (.invokevirtual 122, 3) := by decide +kernel
theorem dX3_addWholeHaving_107 : decode cX3_addWholeHaving 107 = .ok (.iinc 8 1, 3) := by decide +kernel
theorem dX3_addWholeHaving_110 : decode cX3_addWholeHaving 110 = .ok (.goto (-59), 3) := by decide +kernel
theorem dX3_addWholeHaving_113 : decode cX3_addWholeHaving 113 = .ok (.return_, 1) := by decide +kernel
theorem dX3_mixInto_0 : decode cX3_mixInto 0 = .ok (.lload_n 1, 1) := by decide +kernel
theorem dX3_mixInto_1 : decode cX3_mixInto 1 = .ok (.lstore 4, 2) := by decide +kernel
theorem dX3_mixInto_3 : decode cX3_mixInto 3 = .ok (.iconst 0, 1) := by decide +kernel
theorem dX3_mixInto_4 : decode cX3_mixInto 4 = .ok (.istore 6, 2) := by decide +kernel
theorem dX3_mixInto_6 : decode cX3_mixInto 6 = .ok (.iload 6, 2) := by decide +kernel
theorem dX3_mixInto_8 : decode cX3_mixInto 8 = .ok (.iconst 2, 1) := by decide +kernel
theorem dX3_mixInto_9 : decode cX3_mixInto 9 = .ok (.if_icmp .ge 42, 3) := by decide +kernel
theorem dX3_mixInto_12 : decode cX3_mixInto 12 = .ok (.iconst 0, 1) := by decide +kernel
theorem dX3_mixInto_13 : decode cX3_mixInto 13 = .ok (.istore 7, 2) := by decide +kernel
theorem dX3_mixInto_15 : decode cX3_mixInto 15 = .ok (.iload 7, 2) := by decide +kernel
theorem dX3_mixInto_17 : decode cX3_mixInto 17 = .ok (.iload_n 3, 1) := by decide +kernel
theorem dX3_mixInto_18 : decode cX3_mixInto 18 = .ok (.if_icmp .ge 27, 3) := by decide +kernel
theorem dX3_mixInto_21 : decode cX3_mixInto 21 = .ok (.lload 4, 2) := by decide +kernel
theorem dX3_mixInto_23 : decode cX3_mixInto 23 = .ok (.aload_n 0, 1) := by decide +kernel
theorem dX3_mixInto_24 : decode cX3_mixInto 24 = .ok (.getfield 11, 3) := by decide +kernel
theorem dX3_mixInto_27 : decode cX3_mixInto 27 = .ok (.iload 6, 2) := by decide +kernel
theorem dX3_mixInto_29 : decode cX3_mixInto 29 = .ok (.aaload, 1) := by decide +kernel
theorem dX3_mixInto_30 : decode cX3_mixInto 30 = .ok (.iload 7, 2) := by decide +kernel
theorem dX3_mixInto_32 : decode cX3_mixInto 32 = .ok (.iaload, 1) := by decide +kernel
theorem dX3_mixInto_33 : decode cX3_mixInto 33 = .ok (.i2l, 1) := by decide +kernel
theorem dX3_mixInto_34 : decode cX3_mixInto 34 = .ok (.invokestatic 156, 3) := by decide +kernel
theorem dX3_mixInto_37 : decode cX3_mixInto 37 = .ok (.lstore 4, 2) := by decide +kernel
theorem dX3_mixInto_39 : decode cX3_mixInto 39 = .ok (.iinc 7 1, 3) := by decide +kernel
theorem dX3_mixInto_42 : decode cX3_mixInto 42 = .ok (.goto (-27), 3) := by decide +kernel
theorem dX3_mixInto_45 : decode cX3_mixInto 45 = .ok (.iinc 6 1, 3) := by decide +kernel
theorem dX3_mixInto_48 : decode cX3_mixInto 48 = .ok (.goto (-42), 3) := by decide +kernel
theorem dX3_mixInto_51 : decode cX3_mixInto 51 = .ok (.lload 4, 2) := by decide +kernel
theorem dX3_mixInto_53 : decode cX3_mixInto 53 = .ok (.lreturn, 1) := by decide +kernel
