theorem dX1_init_0 : decode cX1_init 0 = .ok (.aload_n 0, 1) := by decide +kernel
theorem dX1_init_1 : decode cX1_init 1 = .ok (.invokespecial 3, 3) := by decide +kernel
theorem dX1_init_4 : decode cX1_init 4 = .ok (.aload_n 0, 1) := by decide +kernel
theorem dX1_init_5 : decode cX1_init 5 = .ok (.iconst 0, 1) := by decide +kernel
theorem dX1_init_6 : decode cX1_init 6 = .ok (.putfield 9, 3) := by decide +kernel
theorem dX1_init_9 : decode cX1_init 9 = .ok (.aload_n 0, 1) := by decide +kernel
theorem dX1_init_10 : decode cX1_init 10 = .ok (.iconst 0, 1) := by decide +kernel
theorem dX1_init_11 : decode cX1_init 11 = .ok (.putfield 15, 3) := by decide +kernel
theorem dX1_init_14 : decode cX1_init 14 = .ok (.aload_n 0, 1) := by decide +kernel
theorem dX1_init_15 : decode cX1_init 15 = .ok (.bipush 6, 2) := by decide +kernel
theorem dX1_init_17 : decode cX1_init 17 = .ok (.newarray .int, 2) := by decide +kernel
theorem dX1_init_19 : decode cX1_init 19 = .ok (.putfield 18, 3) := by decide +kernel
theorem dX1_init_22 : decode cX1_init 22 = .ok (.return_, 1) := by decide +kernel
theorem dX1_addClaim_0 : decode cX1_addClaim 0 = .ok (.aload_n 0, 1) := by decide +kernel
theorem dX1_addClaim_1 : decode cX1_addClaim 1 = .ok (.getfield 18, 3) := by decide +kernel
theorem dX1_addClaim_4 : decode cX1_addClaim 4 = .ok (.aload_n 0, 1) := by decide +kernel
theorem dX1_addClaim_5 : decode cX1_addClaim 5 = .ok (.getfield 9, 3) := by decide +kernel
theorem dX1_addClaim_8 : decode cX1_addClaim 8 = .ok (.iload_n 1, 1) := by decide +kernel
theorem dX1_addClaim_9 : decode cX1_addClaim 9 = .ok (.iastore, 1) := by decide +kernel
theorem dX1_addClaim_10 : decode cX1_addClaim 10 = .ok (.aload_n 0, 1) := by decide +kernel
theorem dX1_addClaim_11 : decode cX1_addClaim 11 = .ok (.dup, 1) := by decide +kernel
theorem dX1_addClaim_12 : decode cX1_addClaim 12 = .ok (.getfield 9, 3) := by decide +kernel
theorem dX1_addClaim_15 : decode cX1_addClaim 15 = .ok (.iconst 1, 1) := by decide +kernel
theorem dX1_addClaim_16 : decode cX1_addClaim 16 = .ok (.iadd, 1) := by decide +kernel
theorem dX1_addClaim_17 : decode cX1_addClaim 17 = .ok (.putfield 9, 3) := by decide +kernel
theorem dX1_addClaim_20 : decode cX1_addClaim 20 = .ok (.aload_n 0, 1) := by decide +kernel
theorem dX1_addClaim_21 : decode cX1_addClaim 21 = .ok (.getfield 9, 3) := by decide +kernel
theorem dX1_addClaim_24 : decode cX1_addClaim 24 = .ok (.iconst 1, 1) := by decide +kernel
theorem dX1_addClaim_25 : decode cX1_addClaim 25 = .ok (.isub, 1) := by decide +kernel
theorem dX1_addClaim_26 : decode cX1_addClaim 26 = .ok (.ireturn, 1) := by decide +kernel
theorem dX1_replaceEstate_0 : decode cX1_replaceEstate 0 = .ok (.aload_n 0, 1) := by decide +kernel
theorem dX1_replaceEstate_1 : decode cX1_replaceEstate 1 = .ok (.getfield 15, 3) := by decide +kernel
theorem dX1_replaceEstate_4 : decode cX1_replaceEstate 4 = .ok (.istore_n 2, 1) := by decide +kernel
theorem dX1_replaceEstate_5 : decode cX1_replaceEstate 5 = .ok (.aload_n 0, 1) := by decide +kernel
theorem dX1_replaceEstate_6 : decode cX1_replaceEstate 6 = .ok (.iload_n 1, 1) := by decide +kernel
theorem dX1_replaceEstate_7 : decode cX1_replaceEstate 7 = .ok (.putfield 15, 3) := by decide +kernel
theorem dX1_replaceEstate_10 : decode cX1_replaceEstate 10 = .ok (.iload_n 2, 1) := by decide +kernel
theorem dX1_replaceEstate_11 : decode cX1_replaceEstate 11 = .ok (.ireturn, 1) := by decide +kernel
theorem dX1_total_0 : decode cX1_total 0 = .ok (.iconst 0, 1) := by decide +kernel
theorem dX1_total_1 : decode cX1_total 1 = .ok (.istore_n 1, 1) := by decide +kernel
theorem dX1_total_2 : decode cX1_total 2 = .ok (.iconst 0, 1) := by decide +kernel
theorem dX1_total_3 : decode cX1_total 3 = .ok (.istore_n 2, 1) := by decide +kernel
theorem dX1_total_4 : decode cX1_total 4 = .ok (.iload_n 2, 1) := by decide +kernel
theorem dX1_total_5 : decode cX1_total 5 = .ok (.aload_n 0, 1) := by decide +kernel
theorem dX1_total_6 : decode cX1_total 6 = .ok (.getfield 9, 3) := by decide +kernel
theorem dX1_total_9 : decode cX1_total 9 = .ok (.if_icmp .ge 18, 3) := by decide +kernel
theorem dX1_total_12 : decode cX1_total 12 = .ok (.iload_n 1, 1) := by decide +kernel
theorem dX1_total_13 : decode cX1_total 13 = .ok (.aload_n 0, 1) := by decide +kernel
theorem dX1_total_14 : decode cX1_total 14 = .ok (.getfield 18, 3) := by decide +kernel
theorem dX1_total_17 : decode cX1_total 17 = .ok (.iload_n 2, 1) := by decide +kernel
theorem dX1_total_18 : decode cX1_total 18 = .ok (.iaload, 1) := by decide +kernel
theorem dX1_total_19 : decode cX1_total 19 = .ok (.iadd, 1) := by decide +kernel
theorem dX1_total_20 : decode cX1_total 20 = .ok (.istore_n 1, 1) := by decide +kernel
theorem dX1_total_21 : decode cX1_total 21 = .ok (.iinc 2 1, 3) := by decide +kernel
theorem dX1_total_24 : decode cX1_total 24 = .ok (.goto (-20), 3) := by decide +kernel
theorem dX1_total_27 : decode cX1_total 27 = .ok (.iload_n 1, 1) := by decide +kernel
theorem dX1_total_28 : decode cX1_total 28 = .ok (.ireturn, 1) := by decide +kernel
theorem dX1_tellAward_0 : decode cX1_tellAward 0 = .ok (.iload_n 2, 1) := by decide +kernel
theorem dX1_tellAward_1 : decode cX1_tellAward 1 = .ok (.tableswitch 101 0 3 #[31, 60, 73, 92], 31) := by decide +kernel
theorem dX1_tellAward_32 : decode cX1_tellAward 32 = .ok (.aload_n 3, 1) := by decide +kernel
theorem dX1_tellAward_33 : decode cX1_tellAward 33 = .ok (.aload_n 0, 1) := by decide +kernel
theorem dX1_tellAward_34 : decode cX1_tellAward 34 = .ok (.getfield 18, 3) := by decide +kernel
theorem dX1_tellAward_37 : decode cX1_tellAward 37 = .ok (.iload_n 1, 1) := by decide +kernel
theorem dX1_tellAward_38 : decode cX1_tellAward 38 = .ok (.iaload, 1) := by decide +kernel
theorem dX1_tellAward_39 : decode cX1_tellAward 39 = .ok (.i2l, 1) := by decide +kernel
theorem dX1_tellAward_40 : decode cX1_tellAward 40 = .ok (.aload_n 0, 1) := by decide +kernel
theorem dX1_tellAward_41 : decode cX1_tellAward 41 = .ok (.getfield 15, 3) := by decide +kernel
theorem dX1_tellAward_44 : decode cX1_tellAward 44 = .ok (.i2l, 1) := by decide +kernel
theorem dX1_tellAward_45 : decode cX1_tellAward 45 = .ok (.lmul, 1) := by decide +kernel
theorem dX1_tellAward_46 : decode cX1_tellAward 46 = .ok (.iconst 1, 1) := by decide +kernel
theorem dX1_tellAward_47 : decode cX1_tellAward 47 = .ok (.aload_n 0, 1) := by decide +kernel
theorem dX1_tellAward_48 : decode cX1_tellAward 48 = .ok (.invokevirtual 22, 3) := by decide +kernel
theorem dX1_tellAward_51 : decode cX1_tellAward 51 = .ok (.invokestatic 26, 3) := by decide +kernel
theorem dX1_tellAward_54 : decode cX1_tellAward 54 = .ok (.i2l, 1) := by decide +kernel
theorem dX1_tellAward_55 : decode cX1_tellAward 55 = .ok (.invokevirtual 32, 3) := by decide +kernel
theorem dX1_tellAward_58 : decode cX1_tellAward 58 = .ok (.goto 62, 3) := by decide +kernel
theorem dX1_tellAward_61 : decode cX1_tellAward 61 = .ok (.aload_n 0, 1) := by decide +kernel
theorem dX1_tellAward_62 : decode cX1_tellAward 62 = .ok (.iload_n 1, 1) := by decide +kernel
theorem dX1_tellAward_63 : decode cX1_tellAward 63 = .ok (.aload_n 0, 1) := by decide +kernel
theorem dX1_tellAward_64 : decode cX1_tellAward 64 = .ok (.getfield 15, 3) := by decide +kernel
theorem dX1_tellAward_67 : decode cX1_tellAward 67 = .ok (.aload_n 3, 1) := by decide +kernel
theorem dX1_tellAward_68 : decode cX1_tellAward 68 = .ok (.invokevirtual 38, 3) := by decide +kernel
theorem dX1_tellAward_71 : decode cX1_tellAward 71 = .ok (.goto 49, 3) := by decide +kernel
theorem dX1_tellAward_74 : decode cX1_tellAward 74 = .ok (.aload_n 0, 1) := by decide +kernel
theorem dX1_tellAward_75 : decode cX1_tellAward 75 = .ok (.iload_n 1, 1) := by decide +kernel
theorem dX1_tellAward_76 : decode cX1_tellAward 76 = .ok (.aload_n 0, 1) := by decide +kernel
theorem dX1_tellAward_77 : decode cX1_tellAward 77 = .ok (.invokevirtual 22, 3) := by decide +kernel
theorem dX1_tellAward_80 : decode cX1_tellAward 80 = .ok (.aload_n 0, 1) := by decide +kernel
theorem dX1_tellAward_81 : decode cX1_tellAward 81 = .ok (.getfield 15, 3) := by decide +kernel
theorem dX1_tellAward_84 : decode cX1_tellAward 84 = .ok (.isub, 1) := by decide +kernel
theorem dX1_tellAward_85 : decode cX1_tellAward 85 = .ok (.iconst 1, 1) := by decide +kernel
theorem dX1_tellAward_86 : decode cX1_tellAward 86 = .ok (.aload_n 3, 1) := by decide +kernel
theorem dX1_tellAward_87 : decode cX1_tellAward 87 = .ok (.invokevirtual 42, 3) := by decide +kernel
theorem dX1_tellAward_90 : decode cX1_tellAward 90 = .ok (.goto 30, 3) := by decide +kernel
theorem dX1_tellAward_93 : decode cX1_tellAward 93 = .ok (.aload_n 0, 1) := by decide +kernel
theorem dX1_tellAward_94 : decode cX1_tellAward 94 = .ok (.iload_n 1, 1) := by decide +kernel
theorem dX1_tellAward_95 : decode cX1_tellAward 95 = .ok (.aload_n 3, 1) := by decide +kernel
theorem dX1_tellAward_96 : decode cX1_tellAward 96 = .ok (.invokevirtual 46, 3) := by decide +kernel
theorem dX1_tellAward_99 : decode cX1_tellAward 99 = .ok (.goto 21, 3) := by decide +kernel
theorem dX1_tellAward_102 : decode cX1_tellAward 102 = .ok (.aload_n 3, 1) := by decide +kernel
theorem dX1_tellAward_103 : decode cX1_tellAward 103 = .ok (.aload_n 0, 1) := by decide +kernel
theorem dX1_tellAward_104 : decode cX1_tellAward 104 = .ok (.iload_n 1, 1) := by decide +kernel
theorem dX1_tellAward_105 : decode cX1_tellAward 105 = .ok (.invokevirtual 50, 3) := by decide +kernel
theorem dX1_tellAward_108 : decode cX1_tellAward 108 = .ok (.i2l, 1) := by decide +kernel
theorem dX1_tellAward_109 : decode cX1_tellAward 109 = .ok (.aload_n 0, 1) := by decide +kernel
theorem dX1_tellAward_110 : decode cX1_tellAward 110 = .ok (.getfield 9, 3) := by decide +kernel
theorem dX1_tellAward_113 : decode cX1_tellAward 113 = .ok (.invokestatic 54, 3) := by decide +kernel
theorem dX1_tellAward_116 : decode cX1_tellAward 116 = .ok (.i2l, 1) := by decide +kernel
theorem dX1_tellAward_117 : decode cX1_tellAward 117 = .ok (.invokevirtual 32, 3) := by decide +kernel
theorem dX1_tellAward_120 : decode cX1_tellAward 120 = .ok (.return_, 1) := by decide +kernel
theorem dX1_tellEven_0 : decode cX1_tellEven 0 = .ok (.aload_n 0, 1) := by decide +kernel
theorem dX1_tellEven_1 : decode cX1_tellEven 1 = .ok (.iload_n 2, 1) := by decide +kernel
theorem dX1_tellEven_2 : decode cX1_tellEven 2 = .ok (.invokevirtual 57, 3) := by decide +kernel
theorem dX1_tellEven_5 : decode cX1_tellEven 5 = .ok (.istore 4, 2) := by decide +kernel
theorem dX1_tellEven_7 : decode cX1_tellEven 7 = .ok (.aload_n 3, 1) := by decide +kernel
theorem dX1_tellEven_8 : decode cX1_tellEven 8 = .ok (.aload_n 0, 1) := by decide +kernel
theorem dX1_tellEven_9 : decode cX1_tellEven 9 = .ok (.iload_n 1, 1) := by decide +kernel
theorem dX1_tellEven_10 : decode cX1_tellEven 10 = .ok (.iload_n 2, 1) := by decide +kernel
theorem dX1_tellEven_11 : decode cX1_tellEven 11 = .ok (.iload 4, 2) := by decide +kernel
theorem dX1_tellEven_13 : decode cX1_tellEven 13 = .ok (.invokevirtual 60, 3) := by decide +kernel
theorem dX1_tellEven_16 : decode cX1_tellEven 16 = .ok (.i2l, 1) := by decide +kernel
theorem dX1_tellEven_17 : decode cX1_tellEven 17 = .ok (.iload 4, 2) := by decide +kernel
theorem dX1_tellEven_19 : decode cX1_tellEven 19 = .ok (.i2l, 1) := by decide +kernel
theorem dX1_tellEven_20 : decode cX1_tellEven 20 = .ok (.invokevirtual 32, 3) := by decide +kernel
theorem dX1_tellEven_23 : decode cX1_tellEven 23 = .ok (.return_, 1) := by decide +kernel
theorem dX1_tellLessEven_0 : decode cX1_tellLessEven 0 = .ok (.aload_n 0, 1) := by decide +kernel
theorem dX1_tellLessEven_1 : decode cX1_tellLessEven 1 = .ok (.iload_n 2, 1) := by decide +kernel
theorem dX1_tellLessEven_2 : decode cX1_tellLessEven 2 = .ok (.invokevirtual 57, 3) := by decide +kernel
theorem dX1_tellLessEven_5 : decode cX1_tellLessEven 5 = .ok (.istore 5, 2) := by decide +kernel
theorem dX1_tellLessEven_7 : decode cX1_tellLessEven 7 = .ok (.aload_n 0, 1) := by decide +kernel
theorem dX1_tellLessEven_8 : decode cX1_tellLessEven 8 = .ok (.getfield 18, 3) := by decide +kernel
theorem dX1_tellLessEven_11 : decode cX1_tellLessEven 11 = .ok (.iload_n 1, 1) := by decide +kernel
theorem dX1_tellLessEven_12 : decode cX1_tellLessEven 12 = .ok (.iaload, 1) := by decide +kernel
theorem dX1_tellLessEven_13 : decode cX1_tellLessEven 13 = .ok (.iload 5, 2) := by decide +kernel
theorem dX1_tellLessEven_15 : decode cX1_tellLessEven 15 = .ok (.imul, 1) := by decide +kernel
theorem dX1_tellLessEven_16 : decode cX1_tellLessEven 16 = .ok (.iload_n 3, 1) := by decide +kernel
theorem dX1_tellLessEven_17 : decode cX1_tellLessEven 17 = .ok (.imul, 1) := by decide +kernel
theorem dX1_tellLessEven_18 : decode cX1_tellLessEven 18 = .ok (.istore 6, 2) := by decide +kernel
theorem dX1_tellLessEven_20 : decode cX1_tellLessEven 20 = .ok (.aload 4, 2) := by decide +kernel
theorem dX1_tellLessEven_22 : decode cX1_tellLessEven 22 = .ok (.iload 6, 2) := by decide +kernel
theorem dX1_tellLessEven_24 : decode cX1_tellLessEven 24 = .ok (.aload_n 0, 1) := by decide +kernel
theorem dX1_tellLessEven_25 : decode cX1_tellLessEven 25 = .ok (.iload_n 1, 1) := by decide +kernel
theorem dX1_tellLessEven_26 : decode cX1_tellLessEven 26 = .ok (.iload_n 2, 1) := by decide +kernel
theorem dX1_tellLessEven_27 : decode cX1_tellLessEven 27 = .ok (.iload 5, 2) := by decide +kernel
theorem dX1_tellLessEven_29 : decode cX1_tellLessEven 29 = .ok (.invokevirtual 60, 3) := by decide +kernel
theorem dX1_tellLessEven_32 : decode cX1_tellLessEven 32 = .ok (.isub, 1) := by decide +kernel
theorem dX1_tellLessEven_33 : decode cX1_tellLessEven 33 = .ok (.i2l, 1) := by decide +kernel
theorem dX1_tellLessEven_34 : decode cX1_tellLessEven 34 = .ok (.iload 5, 2) := by decide +kernel
theorem dX1_tellLessEven_36 : decode cX1_tellLessEven 36 = .ok (.i2l, 1) := by decide +kernel
theorem dX1_tellLessEven_37 : decode cX1_tellLessEven 37 = .ok (.iload_n 3, 1) := by decide +kernel
theorem dX1_tellLessEven_38 : decode cX1_tellLessEven 38 = .ok (.i2l, 1) := by decide +kernel
theorem dX1_tellLessEven_39 : decode cX1_tellLessEven 39 = .ok (.lmul, 1) := by decide +kernel
theorem dX1_tellLessEven_40 : decode cX1_tellLessEven 40 = .ok (.invokevirtual 32, 3) := by decide +kernel
theorem dX1_tellLessEven_43 : decode cX1_tellLessEven 43 = .ok (.return_, 1) := by decide +kernel
theorem dX1_tellHalves_0 : decode cX1_tellHalves 0 = .ok (.iconst 2, 1) := by decide +kernel
theorem dX1_tellHalves_1 : decode cX1_tellHalves 1 = .ok (.aload_n 0, 1) := by decide +kernel
theorem dX1_tellHalves_2 : decode cX1_tellHalves 2 = .ok (.getfield 15, 3) := by decide +kernel
theorem dX1_tellHalves_5 : decode cX1_tellHalves 5 = .ok (.imul, 1) := by decide +kernel
theorem dX1_tellHalves_6 : decode cX1_tellHalves 6 = .ok (.aload_n 0, 1) := by decide +kernel
theorem dX1_tellHalves_7 : decode cX1_tellHalves 7 = .ok (.invokevirtual 22, 3) := by decide +kernel
theorem dX1_tellHalves_10 : decode cX1_tellHalves 10 = .ok (.if_icmp .le 22, 3) := by decide +kernel
theorem dX1_tellHalves_13 : decode cX1_tellHalves 13 = .ok (.aload_n 0, 1) := by decide +kernel
theorem dX1_tellHalves_14 : decode cX1_tellHalves 14 = .ok (.iload_n 1, 1) := by decide +kernel
theorem dX1_tellHalves_15 : decode cX1_tellHalves 15 = .ok (.iconst 2, 1) := by decide +kernel
theorem dX1_tellHalves_16 : decode cX1_tellHalves 16 = .ok (.aload_n 0, 1) := by decide +kernel
theorem dX1_tellHalves_17 : decode cX1_tellHalves 17 = .ok (.invokevirtual 22, 3) := by decide +kernel
theorem dX1_tellHalves_20 : decode cX1_tellHalves 20 = .ok (.aload_n 0, 1) := by decide +kernel
theorem dX1_tellHalves_21 : decode cX1_tellHalves 21 = .ok (.getfield 15, 3) := by decide +kernel
theorem dX1_tellHalves_24 : decode cX1_tellHalves 24 = .ok (.isub, 1) := by decide +kernel
theorem dX1_tellHalves_25 : decode cX1_tellHalves 25 = .ok (.imul, 1) := by decide +kernel
theorem dX1_tellHalves_26 : decode cX1_tellHalves 26 = .ok (.iconst 2, 1) := by decide +kernel
theorem dX1_tellHalves_27 : decode cX1_tellHalves 27 = .ok (.aload_n 2, 1) := by decide +kernel
theorem dX1_tellHalves_28 : decode cX1_tellHalves 28 = .ok (.invokevirtual 42, 3) := by decide +kernel
theorem dX1_tellHalves_31 : decode cX1_tellHalves 31 = .ok (.return_, 1) := by decide +kernel
theorem dX1_tellHalves_32 : decode cX1_tellHalves 32 = .ok (.aload_n 0, 1) := by decide +kernel
theorem dX1_tellHalves_33 : decode cX1_tellHalves 33 = .ok (.iconst 2, 1) := by decide +kernel
theorem dX1_tellHalves_34 : decode cX1_tellHalves 34 = .ok (.aload_n 0, 1) := by decide +kernel
theorem dX1_tellHalves_35 : decode cX1_tellHalves 35 = .ok (.getfield 15, 3) := by decide +kernel
theorem dX1_tellHalves_38 : decode cX1_tellHalves 38 = .ok (.imul, 1) := by decide +kernel
theorem dX1_tellHalves_39 : decode cX1_tellHalves 39 = .ok (.invokevirtual 57, 3) := by decide +kernel
theorem dX1_tellHalves_42 : decode cX1_tellHalves 42 = .ok (.istore_n 3, 1) := by decide +kernel
theorem dX1_tellHalves_43 : decode cX1_tellHalves 43 = .ok (.aload_n 2, 1) := by decide +kernel
theorem dX1_tellHalves_44 : decode cX1_tellHalves 44 = .ok (.aload_n 0, 1) := by decide +kernel
theorem dX1_tellHalves_45 : decode cX1_tellHalves 45 = .ok (.iload_n 1, 1) := by decide +kernel
theorem dX1_tellHalves_46 : decode cX1_tellHalves 46 = .ok (.iconst 2, 1) := by decide +kernel
theorem dX1_tellHalves_47 : decode cX1_tellHalves 47 = .ok (.aload_n 0, 1) := by decide +kernel
theorem dX1_tellHalves_48 : decode cX1_tellHalves 48 = .ok (.getfield 15, 3) := by decide +kernel
theorem dX1_tellHalves_51 : decode cX1_tellHalves 51 = .ok (.imul, 1) := by decide +kernel
theorem dX1_tellHalves_52 : decode cX1_tellHalves 52 = .ok (.iload_n 3, 1) := by decide +kernel
theorem dX1_tellHalves_53 : decode cX1_tellHalves 53 = .ok (.invokevirtual 60, 3) := by decide +kernel
theorem dX1_tellHalves_56 : decode cX1_tellHalves 56 = .ok (.i2l, 1) := by decide +kernel
theorem dX1_tellHalves_57 : decode cX1_tellHalves 57 = .ok (.ldc2_w 64, 3) := by decide +kernel
theorem dX1_tellHalves_60 : decode cX1_tellHalves 60 = .ok (.iload_n 3, 1) := by decide +kernel
theorem dX1_tellHalves_61 : decode cX1_tellHalves 61 = .ok (.i2l, 1) := by decide +kernel
theorem dX1_tellHalves_62 : decode cX1_tellHalves 62 = .ok (.lmul, 1) := by decide +kernel
theorem dX1_tellHalves_63 : decode cX1_tellHalves 63 = .ok (.invokevirtual 32, 3) := by decide +kernel
theorem dX1_tellHalves_66 : decode cX1_tellHalves 66 = .ok (.return_, 1) := by decide +kernel
theorem dX1_isMet_0 : decode cX1_isMet 0 = .ok (.iconst 0, 1) := by decide +kernel
theorem dX1_isMet_1 : decode cX1_isMet 1 = .ok (.istore_n 3, 1) := by decide +kernel
theorem dX1_isMet_2 : decode cX1_isMet 2 = .ok (.iconst 0, 1) := by decide +kernel
theorem dX1_isMet_3 : decode cX1_isMet 3 = .ok (.istore 4, 2) := by decide +kernel
theorem dX1_isMet_5 : decode cX1_isMet 5 = .ok (.iload 4, 2) := by decide +kernel
theorem dX1_isMet_7 : decode cX1_isMet 7 = .ok (.aload_n 0, 1) := by decide +kernel
theorem dX1_isMet_8 : decode cX1_isMet 8 = .ok (.getfield 9, 3) := by decide +kernel
theorem dX1_isMet_11 : decode cX1_isMet 11 = .ok (.if_icmp .ge 28, 3) := by decide +kernel
theorem dX1_isMet_14 : decode cX1_isMet 14 = .ok (.iload_n 3, 1) := by decide +kernel
theorem dX1_isMet_15 : decode cX1_isMet 15 = .ok (.aload_n 0, 1) := by decide +kernel
theorem dX1_isMet_16 : decode cX1_isMet 16 = .ok (.getfield 18, 3) := by decide +kernel
theorem dX1_isMet_19 : decode cX1_isMet 19 = .ok (.iload 4, 2) := by decide +kernel
theorem dX1_isMet_21 : decode cX1_isMet 21 = .ok (.iaload, 1) := by decide +kernel
theorem dX1_isMet_22 : decode cX1_isMet 22 = .ok (.aload_n 0, 1) := by decide +kernel
theorem dX1_isMet_23 : decode cX1_isMet 23 = .ok (.getfield 18, 3) := by decide +kernel
theorem dX1_isMet_26 : decode cX1_isMet 26 = .ok (.iload_n 1, 1) := by decide +kernel
theorem dX1_isMet_27 : decode cX1_isMet 27 = .ok (.iaload, 1) := by decide +kernel
theorem dX1_isMet_28 : decode cX1_isMet 28 = .ok (.invokestatic 66, 3) := by decide +kernel
theorem dX1_isMet_31 : decode cX1_isMet 31 = .ok (.iadd, 1) := by decide +kernel
theorem dX1_isMet_32 : decode cX1_isMet 32 = .ok (.istore_n 3, 1) := by decide +kernel
theorem dX1_isMet_33 : decode cX1_isMet 33 = .ok (.iinc 4 1, 3) := by decide +kernel
theorem dX1_isMet_36 : decode cX1_isMet 36 = .ok (.goto (-31), 3) := by decide +kernel
theorem dX1_isMet_39 : decode cX1_isMet 39 = .ok (.iload_n 3, 1) := by decide +kernel
theorem dX1_isMet_40 : decode cX1_isMet 40 = .ok (.iload_n 2, 1) := by decide +kernel
theorem dX1_isMet_41 : decode cX1_isMet 41 = .ok (.if_icmp .gt 7, 3) := by decide +kernel
theorem dX1_isMet_44 : decode cX1_isMet 44 = .ok (.iconst 1, 1) := by decide +kernel
theorem dX1_isMet_45 : decode cX1_isMet 45 = .ok (.goto 4, 3) := by decide +kernel
theorem dX1_isMet_48 : decode cX1_isMet 48 = .ok (.iconst 0, 1) := by decide +kernel
theorem dX1_isMet_49 : decode cX1_isMet 49 = .ok (.ireturn, 1) := by decide +kernel
theorem dX1_openBy_0 : decode cX1_openBy 0 = .ok (.iconst 0, 1) := by decide +kernel
theorem dX1_openBy_1 : decode cX1_openBy 1 = .ok (.istore_n 2, 1) := by decide +kernel
theorem dX1_openBy_2 : decode cX1_openBy 2 = .ok (.iconst 0, 1) := by decide +kernel
theorem dX1_openBy_3 : decode cX1_openBy 3 = .ok (.istore_n 3, 1) := by decide +kernel
theorem dX1_openBy_4 : decode cX1_openBy 4 = .ok (.iload_n 3, 1) := by decide +kernel
theorem dX1_openBy_5 : decode cX1_openBy 5 = .ok (.aload_n 0, 1) := by decide +kernel
theorem dX1_openBy_6 : decode cX1_openBy 6 = .ok (.getfield 9, 3) := by decide +kernel
theorem dX1_openBy_9 : decode cX1_openBy 9 = .ok (.if_icmp .ge 21, 3) := by decide +kernel
theorem dX1_openBy_12 : decode cX1_openBy 12 = .ok (.aload_n 0, 1) := by decide +kernel
theorem dX1_openBy_13 : decode cX1_openBy 13 = .ok (.iload_n 3, 1) := by decide +kernel
theorem dX1_openBy_14 : decode cX1_openBy 14 = .ok (.iload_n 1, 1) := by decide +kernel
theorem dX1_openBy_15 : decode cX1_openBy 15 = .ok (.invokevirtual 69, 3) := by decide +kernel
theorem dX1_openBy_18 : decode cX1_openBy 18 = .ok (.ifCond .ne 6, 3) := by decide +kernel
theorem dX1_openBy_21 : decode cX1_openBy 21 = .ok (.iinc 2 1, 3) := by decide +kernel
theorem dX1_openBy_24 : decode cX1_openBy 24 = .ok (.iinc 3 1, 3) := by decide +kernel
theorem dX1_openBy_27 : decode cX1_openBy 27 = .ok (.goto (-23), 3) := by decide +kernel
theorem dX1_openBy_30 : decode cX1_openBy 30 = .ok (.iconst 1, 1) := by decide +kernel
theorem dX1_openBy_31 : decode cX1_openBy 31 = .ok (.iload_n 2, 1) := by decide +kernel
theorem dX1_openBy_32 : decode cX1_openBy 32 = .ok (.invokestatic 26, 3) := by decide +kernel
theorem dX1_openBy_35 : decode cX1_openBy 35 = .ok (.ireturn, 1) := by decide +kernel
theorem dX1_evenTimesOpen_0 : decode cX1_evenTimesOpen 0 = .ok (.aload_n 0, 1) := by decide +kernel
theorem dX1_evenTimesOpen_1 : decode cX1_evenTimesOpen 1 = .ok (.iload_n 1, 1) := by decide +kernel
theorem dX1_evenTimesOpen_2 : decode cX1_evenTimesOpen 2 = .ok (.iload_n 2, 1) := by decide +kernel
theorem dX1_evenTimesOpen_3 : decode cX1_evenTimesOpen 3 = .ok (.invokevirtual 69, 3) := by decide +kernel
theorem dX1_evenTimesOpen_6 : decode cX1_evenTimesOpen 6 = .ok (.ifCond .eq 12, 3) := by decide +kernel
theorem dX1_evenTimesOpen_9 : decode cX1_evenTimesOpen 9 = .ok (.aload_n 0, 1) := by decide +kernel
theorem dX1_evenTimesOpen_10 : decode cX1_evenTimesOpen 10 = .ok (.getfield 18, 3) := by decide +kernel
theorem dX1_evenTimesOpen_13 : decode cX1_evenTimesOpen 13 = .ok (.iload_n 1, 1) := by decide +kernel
theorem dX1_evenTimesOpen_14 : decode cX1_evenTimesOpen 14 = .ok (.iaload, 1) := by decide +kernel
theorem dX1_evenTimesOpen_15 : decode cX1_evenTimesOpen 15 = .ok (.iload_n 3, 1) := by decide +kernel
theorem dX1_evenTimesOpen_16 : decode cX1_evenTimesOpen 16 = .ok (.imul, 1) := by decide +kernel
theorem dX1_evenTimesOpen_17 : decode cX1_evenTimesOpen 17 = .ok (.ireturn, 1) := by decide +kernel
theorem dX1_evenTimesOpen_18 : decode cX1_evenTimesOpen 18 = .ok (.iload_n 2, 1) := by decide +kernel
theorem dX1_evenTimesOpen_19 : decode cX1_evenTimesOpen 19 = .ok (.istore 4, 2) := by decide +kernel
theorem dX1_evenTimesOpen_21 : decode cX1_evenTimesOpen 21 = .ok (.iconst 0, 1) := by decide +kernel
theorem dX1_evenTimesOpen_22 : decode cX1_evenTimesOpen 22 = .ok (.istore 5, 2) := by decide +kernel
theorem dX1_evenTimesOpen_24 : decode cX1_evenTimesOpen 24 = .ok (.iload 5, 2) := by decide +kernel
theorem dX1_evenTimesOpen_26 : decode cX1_evenTimesOpen 26 = .ok (.aload_n 0, 1) := by decide +kernel
theorem dX1_evenTimesOpen_27 : decode cX1_evenTimesOpen 27 = .ok (.getfield 9, 3) := by decide +kernel
theorem dX1_evenTimesOpen_30 : decode cX1_evenTimesOpen 30 = .ok (.if_icmp .ge 31, 3) := by decide +kernel
theorem dX1_evenTimesOpen_33 : decode cX1_evenTimesOpen 33 = .ok (.aload_n 0, 1) := by decide +kernel
theorem dX1_evenTimesOpen_34 : decode cX1_evenTimesOpen 34 = .ok (.iload 5, 2) := by decide +kernel
theorem dX1_evenTimesOpen_36 : decode cX1_evenTimesOpen 36 = .ok (.iload_n 2, 1) := by decide +kernel
theorem dX1_evenTimesOpen_37 : decode cX1_evenTimesOpen 37 = .ok (.invokevirtual 69, 3) := by decide +kernel
theorem dX1_evenTimesOpen_40 : decode cX1_evenTimesOpen 40 = .ok (.ifCond .eq 15, 3) := by decide +kernel
theorem dX1_evenTimesOpen_43 : decode cX1_evenTimesOpen 43 = .ok (.iload 4, 2) := by decide +kernel
theorem dX1_evenTimesOpen_45 : decode cX1_evenTimesOpen 45 = .ok (.aload_n 0, 1) := by decide +kernel
theorem dX1_evenTimesOpen_46 : decode cX1_evenTimesOpen 46 = .ok (.getfield 18, 3) := by decide +kernel
theorem dX1_evenTimesOpen_49 : decode cX1_evenTimesOpen 49 = .ok (.iload 5, 2) := by decide +kernel
theorem dX1_evenTimesOpen_51 : decode cX1_evenTimesOpen 51 = .ok (.iaload, 1) := by decide +kernel
theorem dX1_evenTimesOpen_52 : decode cX1_evenTimesOpen 52 = .ok (.isub, 1) := by decide +kernel
theorem dX1_evenTimesOpen_53 : decode cX1_evenTimesOpen 53 = .ok (.istore 4, 2) := by decide +kernel
theorem dX1_evenTimesOpen_55 : decode cX1_evenTimesOpen 55 = .ok (.iinc 5 1, 3) := by decide +kernel
theorem dX1_evenTimesOpen_58 : decode cX1_evenTimesOpen 58 = .ok (.goto (-34), 3) := by decide +kernel
theorem dX1_evenTimesOpen_61 : decode cX1_evenTimesOpen 61 = .ok (.iload 4, 2) := by decide +kernel
theorem dX1_evenTimesOpen_63 : decode cX1_evenTimesOpen 63 = .ok (.ireturn, 1) := by decide +kernel
theorem dX1_takenInOrders_0 : decode cX1_takenInOrders 0 = .ok (.iconst 0, 1) := by decide +kernel
theorem dX1_takenInOrders_1 : decode cX1_takenInOrders 1 = .ok (.istore_n 2, 1) := by decide +kernel
theorem dX1_takenInOrders_2 : decode cX1_takenInOrders 2 = .ok (.iconst 0, 1) := by decide +kernel
theorem dX1_takenInOrders_3 : decode cX1_takenInOrders 3 = .ok (.istore_n 3, 1) := by decide +kernel
theorem dX1_takenInOrders_4 : decode cX1_takenInOrders 4 = .ok (.iload_n 3, 1) := by decide +kernel
theorem dX1_takenInOrders_5 : decode cX1_takenInOrders 5 = .ok (.iconst 1, 1) := by decide +kernel
theorem dX1_takenInOrders_6 : decode cX1_takenInOrders 6 = .ok (.aload_n 0, 1) := by decide +kernel
theorem dX1_takenInOrders_7 : decode cX1_takenInOrders 7 = .ok (.getfield 9, 3) := by decide +kernel
theorem dX1_takenInOrders_10 : decode cX1_takenInOrders 10 = .ok (.ishl, 1) := by decide +kernel
theorem dX1_takenInOrders_11 : decode cX1_takenInOrders 11 = .ok (.if_icmp .ge 59, 3) := by decide +kernel
theorem dX1_takenInOrders_14 : decode cX1_takenInOrders 14 = .ok (.iload_n 3, 1) := by decide +kernel
theorem dX1_takenInOrders_15 : decode cX1_takenInOrders 15 = .ok (.iload_n 1, 1) := by decide +kernel
theorem dX1_takenInOrders_16 : decode cX1_takenInOrders 16 = .ok (.invokestatic 73, 3) := by decide +kernel
theorem dX1_takenInOrders_19 : decode cX1_takenInOrders 19 = .ok (.ifCond .ne 45, 3) := by decide +kernel
theorem dX1_takenInOrders_22 : decode cX1_takenInOrders 22 = .ok (.iconst 0, 1) := by decide +kernel
theorem dX1_takenInOrders_23 : decode cX1_takenInOrders 23 = .ok (.aload_n 0, 1) := by decide +kernel
theorem dX1_takenInOrders_24 : decode cX1_takenInOrders 24 = .ok (.getfield 15, 3) := by decide +kernel
theorem dX1_takenInOrders_27 : decode cX1_takenInOrders 27 = .ok (.aload_n 0, 1) := by decide +kernel
theorem dX1_takenInOrders_28 : decode cX1_takenInOrders 28 = .ok (.iload_n 3, 1) := by decide +kernel
theorem dX1_takenInOrders_29 : decode cX1_takenInOrders 29 = .ok (.invokevirtual 76, 3) := by decide +kernel
theorem dX1_takenInOrders_32 : decode cX1_takenInOrders 32 = .ok (.isub, 1) := by decide +kernel
theorem dX1_takenInOrders_33 : decode cX1_takenInOrders 33 = .ok (.invokestatic 26, 3) := by decide +kernel
theorem dX1_takenInOrders_36 : decode cX1_takenInOrders 36 = .ok (.istore 4, 2) := by decide +kernel
theorem dX1_takenInOrders_38 : decode cX1_takenInOrders 38 = .ok (.iload_n 2, 1) := by decide +kernel
theorem dX1_takenInOrders_39 : decode cX1_takenInOrders 39 = .ok (.iload_n 3, 1) := by decide +kernel
theorem dX1_takenInOrders_40 : decode cX1_takenInOrders 40 = .ok (.invokestatic 79, 3) := by decide +kernel
theorem dX1_takenInOrders_43 : decode cX1_takenInOrders 43 = .ok (.aload_n 0, 1) := by decide +kernel
theorem dX1_takenInOrders_44 : decode cX1_takenInOrders 44 = .ok (.getfield 9, 3) := by decide +kernel
theorem dX1_takenInOrders_47 : decode cX1_takenInOrders 47 = .ok (.invokestatic 84, 3) := by decide +kernel
theorem dX1_takenInOrders_50 : decode cX1_takenInOrders 50 = .ok (.aload_n 0, 1) := by decide +kernel
theorem dX1_takenInOrders_51 : decode cX1_takenInOrders 51 = .ok (.getfield 18, 3) := by decide +kernel
theorem dX1_takenInOrders_54 : decode cX1_takenInOrders 54 = .ok (.iload_n 1, 1) := by decide +kernel
theorem dX1_takenInOrders_55 : decode cX1_takenInOrders 55 = .ok (.iaload, 1) := by decide +kernel
theorem dX1_takenInOrders_56 : decode cX1_takenInOrders 56 = .ok (.iload 4, 2) := by decide +kernel
theorem dX1_takenInOrders_58 : decode cX1_takenInOrders 58 = .ok (.invokestatic 66, 3) := by decide +kernel
theorem dX1_takenInOrders_61 : decode cX1_takenInOrders 61 = .ok (.imul, 1) := by decide +kernel
theorem dX1_takenInOrders_62 : decode cX1_takenInOrders 62 = .ok (.iadd, 1) := by decide +kernel
theorem dX1_takenInOrders_63 : decode cX1_takenInOrders 63 = .ok (.istore_n 2, 1) := by decide +kernel
theorem dX1_takenInOrders_64 : decode cX1_takenInOrders 64 = .ok (.iinc 3 1, 3) := by decide +kernel
theorem dX1_takenInOrders_67 : decode cX1_takenInOrders 67 = .ok (.goto (-63), 3) := by decide +kernel
theorem dX1_takenInOrders_70 : decode cX1_takenInOrders 70 = .ok (.iload_n 2, 1) := by decide +kernel
theorem dX1_takenInOrders_71 : decode cX1_takenInOrders 71 = .ok (.ireturn, 1) := by decide +kernel
theorem dX1_claimedBy_0 : decode cX1_claimedBy 0 = .ok (.iconst 0, 1) := by decide +kernel
theorem dX1_claimedBy_1 : decode cX1_claimedBy 1 = .ok (.istore_n 2, 1) := by decide +kernel
theorem dX1_claimedBy_2 : decode cX1_claimedBy 2 = .ok (.iconst 0, 1) := by decide +kernel
theorem dX1_claimedBy_3 : decode cX1_claimedBy 3 = .ok (.istore_n 3, 1) := by decide +kernel
theorem dX1_claimedBy_4 : decode cX1_claimedBy 4 = .ok (.iload_n 3, 1) := by decide +kernel
theorem dX1_claimedBy_5 : decode cX1_claimedBy 5 = .ok (.aload_n 0, 1) := by decide +kernel
theorem dX1_claimedBy_6 : decode cX1_claimedBy 6 = .ok (.getfield 9, 3) := by decide +kernel
theorem dX1_claimedBy_9 : decode cX1_claimedBy 9 = .ok (.if_icmp .ge 26, 3) := by decide +kernel
theorem dX1_claimedBy_12 : decode cX1_claimedBy 12 = .ok (.iload_n 1, 1) := by decide +kernel
theorem dX1_claimedBy_13 : decode cX1_claimedBy 13 = .ok (.iload_n 3, 1) := by decide +kernel
theorem dX1_claimedBy_14 : decode cX1_claimedBy 14 = .ok (.invokestatic 73, 3) := by decide +kernel
theorem dX1_claimedBy_17 : decode cX1_claimedBy 17 = .ok (.ifCond .eq 12, 3) := by decide +kernel
theorem dX1_claimedBy_20 : decode cX1_claimedBy 20 = .ok (.iload_n 2, 1) := by decide +kernel
theorem dX1_claimedBy_21 : decode cX1_claimedBy 21 = .ok (.aload_n 0, 1) := by decide +kernel
theorem dX1_claimedBy_22 : decode cX1_claimedBy 22 = .ok (.getfield 18, 3) := by decide +kernel
theorem dX1_claimedBy_25 : decode cX1_claimedBy 25 = .ok (.iload_n 3, 1) := by decide +kernel
theorem dX1_claimedBy_26 : decode cX1_claimedBy 26 = .ok (.iaload, 1) := by decide +kernel
theorem dX1_claimedBy_27 : decode cX1_claimedBy 27 = .ok (.iadd, 1) := by decide +kernel
theorem dX1_claimedBy_28 : decode cX1_claimedBy 28 = .ok (.istore_n 2, 1) := by decide +kernel
theorem dX1_claimedBy_29 : decode cX1_claimedBy 29 = .ok (.iinc 3 1, 3) := by decide +kernel
theorem dX1_claimedBy_32 : decode cX1_claimedBy 32 = .ok (.goto (-28), 3) := by decide +kernel
theorem dX1_claimedBy_35 : decode cX1_claimedBy 35 = .ok (.iload_n 2, 1) := by decide +kernel
theorem dX1_claimedBy_36 : decode cX1_claimedBy 36 = .ok (.ireturn, 1) := by decide +kernel
theorem dX1_mixInto_0 : decode cX1_mixInto 0 = .ok (.lload_n 1, 1) := by decide +kernel
theorem dX1_mixInto_1 : decode cX1_mixInto 1 = .ok (.lstore_n 3, 1) := by decide +kernel
theorem dX1_mixInto_2 : decode cX1_mixInto 2 = .ok (.iconst 0, 1) := by decide +kernel
theorem dX1_mixInto_3 : decode cX1_mixInto 3 = .ok (.istore 5, 2) := by decide +kernel
theorem dX1_mixInto_5 : decode cX1_mixInto 5 = .ok (.iload 5, 2) := by decide +kernel
theorem dX1_mixInto_7 : decode cX1_mixInto 7 = .ok (.aload_n 0, 1) := by decide +kernel
theorem dX1_mixInto_8 : decode cX1_mixInto 8 = .ok (.getfield 9, 3) := by decide +kernel
theorem dX1_mixInto_11 : decode cX1_mixInto 11 = .ok (.if_icmp .ge 22, 3) := by decide +kernel
theorem dX1_mixInto_14 : decode cX1_mixInto 14 = .ok (.lload_n 3, 1) := by decide +kernel
theorem dX1_mixInto_15 : decode cX1_mixInto 15 = .ok (.aload_n 0, 1) := by decide +kernel
theorem dX1_mixInto_16 : decode cX1_mixInto 16 = .ok (.getfield 18, 3) := by decide +kernel
theorem dX1_mixInto_19 : decode cX1_mixInto 19 = .ok (.iload 5, 2) := by decide +kernel
theorem dX1_mixInto_21 : decode cX1_mixInto 21 = .ok (.iaload, 1) := by decide +kernel
theorem dX1_mixInto_22 : decode cX1_mixInto 22 = .ok (.i2l, 1) := by decide +kernel
theorem dX1_mixInto_23 : decode cX1_mixInto 23 = .ok (.invokestatic 87, 3) := by decide +kernel
theorem dX1_mixInto_26 : decode cX1_mixInto 26 = .ok (.lstore_n 3, 1) := by decide +kernel
theorem dX1_mixInto_27 : decode cX1_mixInto 27 = .ok (.iinc 5 1, 3) := by decide +kernel
theorem dX1_mixInto_30 : decode cX1_mixInto 30 = .ok (.goto (-25), 3) := by decide +kernel
theorem dX1_mixInto_33 : decode cX1_mixInto 33 = .ok (.lload_n 3, 1) := by decide +kernel
theorem dX1_mixInto_34 : decode cX1_mixInto 34 = .ok (.aload_n 0, 1) := by decide +kernel
theorem dX1_mixInto_35 : decode cX1_mixInto 35 = .ok (.getfield 15, 3) := by decide +kernel
theorem dX1_mixInto_38 : decode cX1_mixInto 38 = .ok (.i2l, 1) := by decide +kernel
theorem dX1_mixInto_39 : decode cX1_mixInto 39 = .ok (.invokestatic 87, 3) := by decide +kernel
theorem dX1_mixInto_42 : decode cX1_mixInto 42 = .ok (.lreturn, 1) := by decide +kernel
