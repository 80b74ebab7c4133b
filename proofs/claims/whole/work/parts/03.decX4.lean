theorem dX4_init_0 : decode cX4_init 0 = .ok (.aload_n 0, 1) := by decide +kernel
theorem dX4_init_1 : decode cX4_init 1 = .ok (.invokespecial 3, 3) := by decide +kernel
theorem dX4_init_4 : decode cX4_init 4 = .ok (.aload_n 0, 1) := by decide +kernel
theorem dX4_init_5 : decode cX4_init 5 = .ok (.iconst 0, 1) := by decide +kernel
theorem dX4_init_6 : decode cX4_init 6 = .ok (.putfield 9, 3) := by decide +kernel
theorem dX4_init_9 : decode cX4_init 9 = .ok (.aload_n 0, 1) := by decide +kernel
theorem dX4_init_10 : decode cX4_init 10 = .ok (.iconst 0, 1) := by decide +kernel
theorem dX4_init_11 : decode cX4_init 11 = .ok (.putfield 15, 3) := by decide +kernel
theorem dX4_init_14 : decode cX4_init 14 = .ok (.aload_n 0, 1) := by decide +kernel
theorem dX4_init_15 : decode cX4_init 15 = .ok (.iconst 4, 1) := by decide +kernel
theorem dX4_init_16 : decode cX4_init 16 = .ok (.iconst 4, 1) := by decide +kernel
theorem dX4_init_17 : decode cX4_init 17 = .ok (.multianewarray 18 2, 4) := by decide +kernel
theorem dX4_init_21 : decode cX4_init 21 = .ok (.putfield 20, 3) := by decide +kernel
theorem dX4_init_24 : decode cX4_init 24 = .ok (.aload_n 0, 1) := by decide +kernel
theorem dX4_init_25 : decode cX4_init 25 = .ok (.iconst 4, 1) := by decide +kernel
theorem dX4_init_26 : decode cX4_init 26 = .ok (.newarray .int, 2) := by decide +kernel
theorem dX4_init_28 : decode cX4_init 28 = .ok (.putfield 23, 3) := by decide +kernel
theorem dX4_init_31 : decode cX4_init 31 = .ok (.aload_n 0, 1) := by decide +kernel
theorem dX4_init_32 : decode cX4_init 32 = .ok (.iconst 5, 1) := by decide +kernel
theorem dX4_init_33 : decode cX4_init 33 = .ok (.bipush 32, 2) := by decide +kernel
theorem dX4_init_35 : decode cX4_init 35 = .ok (.multianewarray 18 2, 4) := by decide +kernel
theorem dX4_init_39 : decode cX4_init 39 = .ok (.putfield 27, 3) := by decide +kernel
theorem dX4_init_42 : decode cX4_init 42 = .ok (.return_, 1) := by decide +kernel
theorem dX4_knowsBuyer_0 : decode cX4_knowsBuyer 0 = .ok (.iload_n 1, 1) := by decide +kernel
theorem dX4_knowsBuyer_1 : decode cX4_knowsBuyer 1 = .ok (.iconst 0, 1) := by decide +kernel
theorem dX4_knowsBuyer_2 : decode cX4_knowsBuyer 2 = .ok (.aload_n 0, 1) := by decide +kernel
theorem dX4_knowsBuyer_3 : decode cX4_knowsBuyer 3 = .ok (.getfield 9, 3) := by decide +kernel
theorem dX4_knowsBuyer_6 : decode cX4_knowsBuyer 6 = .ok (.iconst 1, 1) := by decide +kernel
theorem dX4_knowsBuyer_7 : decode cX4_knowsBuyer 7 = .ok (.isub, 1) := by decide +kernel
theorem dX4_knowsBuyer_8 : decode cX4_knowsBuyer 8 = .ok (.invokestatic 30, 3) := by decide +kernel
theorem dX4_knowsBuyer_11 : decode cX4_knowsBuyer 11 = .ok (.ireturn, 1) := by decide +kernel
theorem dX4_knowsSeller_0 : decode cX4_knowsSeller 0 = .ok (.iload_n 1, 1) := by decide +kernel
theorem dX4_knowsSeller_1 : decode cX4_knowsSeller 1 = .ok (.iconst 0, 1) := by decide +kernel
theorem dX4_knowsSeller_2 : decode cX4_knowsSeller 2 = .ok (.aload_n 0, 1) := by decide +kernel
theorem dX4_knowsSeller_3 : decode cX4_knowsSeller 3 = .ok (.getfield 15, 3) := by decide +kernel
theorem dX4_knowsSeller_6 : decode cX4_knowsSeller 6 = .ok (.iconst 1, 1) := by decide +kernel
theorem dX4_knowsSeller_7 : decode cX4_knowsSeller 7 = .ok (.isub, 1) := by decide +kernel
theorem dX4_knowsSeller_8 : decode cX4_knowsSeller 8 = .ok (.invokestatic 30, 3) := by decide +kernel
theorem dX4_knowsSeller_11 : decode cX4_knowsSeller 11 = .ok (.ireturn, 1) := by decide +kernel
theorem dX4_restart_0 : decode cX4_restart 0 = .ok (.aload_n 0, 1) := by decide +kernel
theorem dX4_restart_1 : decode cX4_restart 1 = .ok (.iload_n 1, 1) := by decide +kernel
theorem dX4_restart_2 : decode cX4_restart 2 = .ok (.putfield 9, 3) := by decide +kernel
theorem dX4_restart_5 : decode cX4_restart 5 = .ok (.aload_n 0, 1) := by decide +kernel
theorem dX4_restart_6 : decode cX4_restart 6 = .ok (.iload_n 2, 1) := by decide +kernel
theorem dX4_restart_7 : decode cX4_restart 7 = .ok (.putfield 15, 3) := by decide +kernel
theorem dX4_restart_10 : decode cX4_restart 10 = .ok (.iconst 0, 1) := by decide +kernel
theorem dX4_restart_11 : decode cX4_restart 11 = .ok (.istore_n 3, 1) := by decide +kernel
theorem dX4_restart_12 : decode cX4_restart 12 = .ok (.iload_n 3, 1) := by decide +kernel
theorem dX4_restart_13 : decode cX4_restart 13 = .ok (.iconst 4, 1) := by decide +kernel
theorem dX4_restart_14 : decode cX4_restart 14 = .ok (.if_icmp .ge 41, 3) := by decide +kernel
theorem dX4_restart_17 : decode cX4_restart 17 = .ok (.aload_n 0, 1) := by decide +kernel
theorem dX4_restart_18 : decode cX4_restart 18 = .ok (.getfield 23, 3) := by decide +kernel
theorem dX4_restart_21 : decode cX4_restart 21 = .ok (.iload_n 3, 1) := by decide +kernel
theorem dX4_restart_22 : decode cX4_restart 22 = .ok (.iconst 0, 1) := by decide +kernel
theorem dX4_restart_23 : decode cX4_restart 23 = .ok (.iastore, 1) := by decide +kernel
theorem dX4_restart_24 : decode cX4_restart 24 = .ok (.iconst 0, 1) := by decide +kernel
theorem dX4_restart_25 : decode cX4_restart 25 = .ok (.istore 4, 2) := by decide +kernel
theorem dX4_restart_27 : decode cX4_restart 27 = .ok (.iload 4, 2) := by decide +kernel
theorem dX4_restart_29 : decode cX4_restart 29 = .ok (.iconst 4, 1) := by decide +kernel
theorem dX4_restart_30 : decode cX4_restart 30 = .ok (.if_icmp .ge 19, 3) := by decide +kernel
theorem dX4_restart_33 : decode cX4_restart 33 = .ok (.aload_n 0, 1) := by decide +kernel
theorem dX4_restart_34 : decode cX4_restart 34 = .ok (.getfield 20, 3) := by decide +kernel
theorem dX4_restart_37 : decode cX4_restart 37 = .ok (.iload 4, 2) := by decide +kernel
theorem dX4_restart_39 : decode cX4_restart 39 = .ok (.aaload, 1) := by decide +kernel
theorem dX4_restart_40 : decode cX4_restart 40 = .ok (.iload_n 3, 1) := by decide +kernel
theorem dX4_restart_41 : decode cX4_restart 41 = .ok (.iconst 0, 1) := by decide +kernel
theorem dX4_restart_42 : decode cX4_restart 42 = .ok (.iastore, 1) := by decide +kernel
theorem dX4_restart_43 : decode cX4_restart 43 = .ok (.iinc 4 1, 3) := by decide +kernel
theorem dX4_restart_46 : decode cX4_restart 46 = .ok (.goto (-19), 3) := by decide +kernel
theorem dX4_restart_49 : decode cX4_restart 49 = .ok (.iinc 3 1, 3) := by decide +kernel
theorem dX4_restart_52 : decode cX4_restart 52 = .ok (.goto (-40), 3) := by decide +kernel
theorem dX4_restart_55 : decode cX4_restart 55 = .ok (.return_, 1) := by decide +kernel
theorem dX4_replaceGain_0 : decode cX4_replaceGain 0 = .ok (.aload_n 0, 1) := by decide +kernel
theorem dX4_replaceGain_1 : decode cX4_replaceGain 1 = .ok (.getfield 20, 3) := by decide +kernel
theorem dX4_replaceGain_4 : decode cX4_replaceGain 4 = .ok (.iload_n 1, 1) := by decide +kernel
theorem dX4_replaceGain_5 : decode cX4_replaceGain 5 = .ok (.aaload, 1) := by decide +kernel
theorem dX4_replaceGain_6 : decode cX4_replaceGain 6 = .ok (.iload_n 2, 1) := by decide +kernel
theorem dX4_replaceGain_7 : decode cX4_replaceGain 7 = .ok (.iaload, 1) := by decide +kernel
theorem dX4_replaceGain_8 : decode cX4_replaceGain 8 = .ok (.istore 4, 2) := by decide +kernel
theorem dX4_replaceGain_10 : decode cX4_replaceGain 10 = .ok (.aload_n 0, 1) := by decide +kernel
theorem dX4_replaceGain_11 : decode cX4_replaceGain 11 = .ok (.getfield 20, 3) := by decide +kernel
theorem dX4_replaceGain_14 : decode cX4_replaceGain 14 = .ok (.iload_n 1, 1) := by decide +kernel
theorem dX4_replaceGain_15 : decode cX4_replaceGain 15 = .ok (.aaload, 1) := by decide +kernel
theorem dX4_replaceGain_16 : decode cX4_replaceGain 16 = .ok (.iload_n 2, 1) := by decide +kernel
theorem dX4_replaceGain_17 : decode cX4_replaceGain 17 = .ok (.iload_n 3, 1) := by decide +kernel
theorem dX4_replaceGain_18 : decode cX4_replaceGain 18 = .ok (.iastore, 1) := by decide +kernel
theorem dX4_replaceGain_19 : decode cX4_replaceGain 19 = .ok (.iload 4, 2) := by decide +kernel
theorem dX4_replaceGain_21 : decode cX4_replaceGain 21 = .ok (.ireturn, 1) := by decide +kernel
theorem dX4_replacePrice_0 : decode cX4_replacePrice 0 = .ok (.aload_n 0, 1) := by decide +kernel
theorem dX4_replacePrice_1 : decode cX4_replacePrice 1 = .ok (.getfield 23, 3) := by decide +kernel
theorem dX4_replacePrice_4 : decode cX4_replacePrice 4 = .ok (.iload_n 1, 1) := by decide +kernel
theorem dX4_replacePrice_5 : decode cX4_replacePrice 5 = .ok (.iaload, 1) := by decide +kernel
theorem dX4_replacePrice_6 : decode cX4_replacePrice 6 = .ok (.istore_n 3, 1) := by decide +kernel
theorem dX4_replacePrice_7 : decode cX4_replacePrice 7 = .ok (.aload_n 0, 1) := by decide +kernel
theorem dX4_replacePrice_8 : decode cX4_replacePrice 8 = .ok (.getfield 23, 3) := by decide +kernel
theorem dX4_replacePrice_11 : decode cX4_replacePrice 11 = .ok (.iload_n 1, 1) := by decide +kernel
theorem dX4_replacePrice_12 : decode cX4_replacePrice 12 = .ok (.iload_n 2, 1) := by decide +kernel
theorem dX4_replacePrice_13 : decode cX4_replacePrice 13 = .ok (.iastore, 1) := by decide +kernel
theorem dX4_replacePrice_14 : decode cX4_replacePrice 14 = .ok (.iload_n 3, 1) := by decide +kernel
theorem dX4_replacePrice_15 : decode cX4_replacePrice 15 = .ok (.ireturn, 1) := by decide +kernel
theorem dX4_sellerOfThing_0 : decode cX4_sellerOfThing 0 = .ok (.iload_n 1, 1) := by decide +kernel
theorem dX4_sellerOfThing_1 : decode cX4_sellerOfThing 1 = .ok (.iconst 4, 1) := by decide +kernel
theorem dX4_sellerOfThing_2 : decode cX4_sellerOfThing 2 = .ok (.if_icmp .ge 7, 3) := by decide +kernel
theorem dX4_sellerOfThing_5 : decode cX4_sellerOfThing 5 = .ok (.iload_n 1, 1) := by decide +kernel
theorem dX4_sellerOfThing_6 : decode cX4_sellerOfThing 6 = .ok (.goto 4, 3) := by decide +kernel
theorem dX4_sellerOfThing_9 : decode cX4_sellerOfThing 9 = .ok (.iload_n 2, 1) := by decide +kernel
theorem dX4_sellerOfThing_10 : decode cX4_sellerOfThing 10 = .ok (.ireturn, 1) := by decide +kernel
theorem dX4_findRests_0 : decode cX4_findRests 0 = .ok (.iconst 0, 1) := by decide +kernel
theorem dX4_findRests_1 : decode cX4_findRests 1 = .ok (.istore_n 2, 1) := by decide +kernel
theorem dX4_findRests_2 : decode cX4_findRests 2 = .ok (.iload_n 2, 1) := by decide +kernel
theorem dX4_findRests_3 : decode cX4_findRests 3 = .ok (.bipush 32, 2) := by decide +kernel
theorem dX4_findRests_5 : decode cX4_findRests 5 = .ok (.if_icmp .ge 21, 3) := by decide +kernel
theorem dX4_findRests_8 : decode cX4_findRests 8 = .ok (.aload_n 0, 1) := by decide +kernel
theorem dX4_findRests_9 : decode cX4_findRests 9 = .ok (.getfield 27, 3) := by decide +kernel
theorem dX4_findRests_12 : decode cX4_findRests 12 = .ok (.aload_n 0, 1) := by decide +kernel
theorem dX4_findRests_13 : decode cX4_findRests 13 = .ok (.getfield 9, 3) := by decide +kernel
theorem dX4_findRests_16 : decode cX4_findRests 16 = .ok (.aaload, 1) := by decide +kernel
theorem dX4_findRests_17 : decode cX4_findRests 17 = .ok (.iload_n 2, 1) := by decide +kernel
theorem dX4_findRests_18 : decode cX4_findRests 18 = .ok (.iconst 0, 1) := by decide +kernel
theorem dX4_findRests_19 : decode cX4_findRests 19 = .ok (.iastore, 1) := by decide +kernel
theorem dX4_findRests_20 : decode cX4_findRests 20 = .ok (.iinc 2 1, 3) := by decide +kernel
theorem dX4_findRests_23 : decode cX4_findRests 23 = .ok (.goto (-21), 3) := by decide +kernel
theorem dX4_findRests_26 : decode cX4_findRests 26 = .ok (.aload_n 0, 1) := by decide +kernel
theorem dX4_findRests_27 : decode cX4_findRests 27 = .ok (.getfield 9, 3) := by decide +kernel
theorem dX4_findRests_30 : decode cX4_findRests 30 = .ok (.iconst 1, 1) := by decide +kernel
theorem dX4_findRests_31 : decode cX4_findRests 31 = .ok (.isub, 1) := by decide +kernel
theorem dX4_findRests_32 : decode cX4_findRests 32 = .ok (.istore_n 2, 1) := by decide +kernel
theorem dX4_findRests_33 : decode cX4_findRests 33 = .ok (.iload_n 2, 1) := by decide +kernel
theorem dX4_findRests_34 : decode cX4_findRests 34 = .ok (.ifCond .lt 38, 3) := by decide +kernel
theorem dX4_findRests_37 : decode cX4_findRests 37 = .ok (.iconst 0, 1) := by decide +kernel
theorem dX4_findRests_38 : decode cX4_findRests 38 = .ok (.istore_n 3, 1) := by decide +kernel
theorem dX4_findRests_39 : decode cX4_findRests 39 = .ok (.iload_n 3, 1) := by decide +kernel
theorem dX4_findRests_40 : decode cX4_findRests 40 = .ok (.bipush 32, 2) := by decide +kernel
theorem dX4_findRests_42 : decode cX4_findRests 42 = .ok (.if_icmp .ge 24, 3) := by decide +kernel
theorem dX4_findRests_45 : decode cX4_findRests 45 = .ok (.aload_n 0, 1) := by decide +kernel
theorem dX4_findRests_46 : decode cX4_findRests 46 = .ok (.getfield 27, 3) := by decide +kernel
theorem dX4_findRests_49 : decode cX4_findRests 49 = .ok (.iload_n 2, 1) := by decide +kernel
theorem dX4_findRests_50 : decode cX4_findRests 50 = .ok (.aaload, 1) := by decide +kernel
theorem dX4_findRests_51 : decode cX4_findRests 51 = .ok (.iload_n 3, 1) := by decide +kernel
theorem dX4_findRests_52 : decode cX4_findRests 52 = .ok (.aload_n 0, 1) := by decide +kernel
theorem dX4_findRests_53 : decode cX4_findRests 53 = .ok (.iload_n 2, 1) := by decide +kernel
theorem dX4_findRests_54 : decode cX4_findRests 54 = .ok (.iload_n 3, 1) := by decide +kernel
theorem dX4_findRests_55 : decode cX4_findRests 55 = .ok (.iload_n 1, 1) := by decide +kernel
theorem dX4_findRests_56 : decode cX4_findRests 56 = .ok (.invokevirtual 34, 3) := by decide +kernel
theorem dX4_findRests_59 : decode cX4_findRests 59 = .ok (.iastore, 1) := by decide +kernel
theorem dX4_findRests_60 : decode cX4_findRests 60 = .ok (.iinc 3 1, 3) := by decide +kernel
theorem dX4_findRests_63 : decode cX4_findRests 63 = .ok (.goto (-24), 3) := by decide +kernel
theorem dX4_findRests_66 : decode cX4_findRests 66 = .ok (.iinc 2 (-1), 3) := by decide +kernel
theorem dX4_findRests_69 : decode cX4_findRests 69 = .ok (.goto (-36), 3) := by decide +kernel
theorem dX4_findRests_72 : decode cX4_findRests 72 = .ok (.return_, 1) := by decide +kernel
theorem dX4_bestFrom_0 : decode cX4_bestFrom 0 = .ok (.aload_n 0, 1) := by decide +kernel
theorem dX4_bestFrom_1 : decode cX4_bestFrom 1 = .ok (.getfield 27, 3) := by decide +kernel
theorem dX4_bestFrom_4 : decode cX4_bestFrom 4 = .ok (.iload_n 1, 1) := by decide +kernel
theorem dX4_bestFrom_5 : decode cX4_bestFrom 5 = .ok (.iconst 1, 1) := by decide +kernel
theorem dX4_bestFrom_6 : decode cX4_bestFrom 6 = .ok (.iadd, 1) := by decide +kernel
theorem dX4_bestFrom_7 : decode cX4_bestFrom 7 = .ok (.aaload, 1) := by decide +kernel
theorem dX4_bestFrom_8 : decode cX4_bestFrom 8 = .ok (.iload_n 2, 1) := by decide +kernel
theorem dX4_bestFrom_9 : decode cX4_bestFrom 9 = .ok (.iaload, 1) := by decide +kernel
theorem dX4_bestFrom_10 : decode cX4_bestFrom 10 = .ok (.istore 4, 2) := by decide +kernel
theorem dX4_bestFrom_12 : decode cX4_bestFrom 12 = .ok (.iconst 0, 1) := by decide +kernel
theorem dX4_bestFrom_13 : decode cX4_bestFrom 13 = .ok (.istore 5, 2) := by decide +kernel
theorem dX4_bestFrom_15 : decode cX4_bestFrom 15 = .ok (.iload 5, 2) := by decide +kernel
theorem dX4_bestFrom_17 : decode cX4_bestFrom 17 = .ok (.iconst 5, 1) := by decide +kernel
theorem dX4_bestFrom_18 : decode cX4_bestFrom 18 = .ok (.if_icmp .ge 68, 3) := by decide +kernel
theorem dX4_bestFrom_21 : decode cX4_bestFrom 21 = .ok (.aload_n 0, 1) := by decide +kernel
theorem dX4_bestFrom_22 : decode cX4_bestFrom 22 = .ok (.iload 5, 2) := by decide +kernel
theorem dX4_bestFrom_24 : decode cX4_bestFrom 24 = .ok (.iload_n 3, 1) := by decide +kernel
theorem dX4_bestFrom_25 : decode cX4_bestFrom 25 = .ok (.invokevirtual 38, 3) := by decide +kernel
theorem dX4_bestFrom_28 : decode cX4_bestFrom 28 = .ok (.istore 6, 2) := by decide +kernel
theorem dX4_bestFrom_30 : decode cX4_bestFrom 30 = .ok (.aload_n 0, 1) := by decide +kernel
theorem dX4_bestFrom_31 : decode cX4_bestFrom 31 = .ok (.iload 6, 2) := by decide +kernel
theorem dX4_bestFrom_33 : decode cX4_bestFrom 33 = .ok (.invokevirtual 42, 3) := by decide +kernel
theorem dX4_bestFrom_36 : decode cX4_bestFrom 36 = .ok (.ifCond .eq 44, 3) := by decide +kernel
theorem dX4_bestFrom_39 : decode cX4_bestFrom 39 = .ok (.iload_n 2, 1) := by decide +kernel
theorem dX4_bestFrom_40 : decode cX4_bestFrom 40 = .ok (.iload 5, 2) := by decide +kernel
theorem dX4_bestFrom_42 : decode cX4_bestFrom 42 = .ok (.invokestatic 46, 3) := by decide +kernel
theorem dX4_bestFrom_45 : decode cX4_bestFrom 45 = .ok (.ifCond .ne 35, 3) := by decide +kernel
theorem dX4_bestFrom_48 : decode cX4_bestFrom 48 = .ok (.iload 4, 2) := by decide +kernel
theorem dX4_bestFrom_50 : decode cX4_bestFrom 50 = .ok (.aload_n 0, 1) := by decide +kernel
theorem dX4_bestFrom_51 : decode cX4_bestFrom 51 = .ok (.getfield 20, 3) := by decide +kernel
theorem dX4_bestFrom_54 : decode cX4_bestFrom 54 = .ok (.iload_n 1, 1) := by decide +kernel
theorem dX4_bestFrom_55 : decode cX4_bestFrom 55 = .ok (.aaload, 1) := by decide +kernel
theorem dX4_bestFrom_56 : decode cX4_bestFrom 56 = .ok (.iload 6, 2) := by decide +kernel
theorem dX4_bestFrom_58 : decode cX4_bestFrom 58 = .ok (.iaload, 1) := by decide +kernel
theorem dX4_bestFrom_59 : decode cX4_bestFrom 59 = .ok (.aload_n 0, 1) := by decide +kernel
theorem dX4_bestFrom_60 : decode cX4_bestFrom 60 = .ok (.getfield 27, 3) := by decide +kernel
theorem dX4_bestFrom_63 : decode cX4_bestFrom 63 = .ok (.iload_n 1, 1) := by decide +kernel
theorem dX4_bestFrom_64 : decode cX4_bestFrom 64 = .ok (.iconst 1, 1) := by decide +kernel
theorem dX4_bestFrom_65 : decode cX4_bestFrom 65 = .ok (.iadd, 1) := by decide +kernel
theorem dX4_bestFrom_66 : decode cX4_bestFrom 66 = .ok (.aaload, 1) := by decide +kernel
theorem dX4_bestFrom_67 : decode cX4_bestFrom 67 = .ok (.iload_n 2, 1) := by decide +kernel
theorem dX4_bestFrom_68 : decode cX4_bestFrom 68 = .ok (.iconst 1, 1) := by decide +kernel
theorem dX4_bestFrom_69 : decode cX4_bestFrom 69 = .ok (.iload 5, 2) := by decide +kernel
theorem dX4_bestFrom_71 : decode cX4_bestFrom 71 = .ok (.ishl, 1) := by decide +kernel
theorem dX4_bestFrom_72 : decode cX4_bestFrom 72 = .ok (.ior, 1) := by decide +kernel
theorem dX4_bestFrom_73 : decode cX4_bestFrom 73 = .ok (.iaload, 1) := by decide +kernel
theorem dX4_bestFrom_74 : decode cX4_bestFrom 74 = .ok (.iadd, 1) := by decide +kernel
theorem dX4_bestFrom_75 : decode cX4_bestFrom 75 = .ok (.invokestatic 50, 3) := by decide +kernel
theorem dX4_bestFrom_78 : decode cX4_bestFrom 78 = .ok (.istore 4, 2) := by decide +kernel
theorem dX4_bestFrom_80 : decode cX4_bestFrom 80 = .ok (.iinc 5 1, 3) := by decide +kernel
theorem dX4_bestFrom_83 : decode cX4_bestFrom 83 = .ok (.goto (-68), 3) := by decide +kernel
theorem dX4_bestFrom_86 : decode cX4_bestFrom 86 = .ok (.iload 4, 2) := by decide +kernel
theorem dX4_bestFrom_88 : decode cX4_bestFrom 88 = .ok (.ireturn, 1) := by decide +kernel
theorem dX4_greatestSum_0 : decode cX4_greatestSum 0 = .ok (.aload_n 0, 1) := by decide +kernel
theorem dX4_greatestSum_1 : decode cX4_greatestSum 1 = .ok (.iconst (-1), 1) := by decide +kernel
theorem dX4_greatestSum_2 : decode cX4_greatestSum 2 = .ok (.invokevirtual 55, 3) := by decide +kernel
theorem dX4_greatestSum_5 : decode cX4_greatestSum 5 = .ok (.aload_n 0, 1) := by decide +kernel
theorem dX4_greatestSum_6 : decode cX4_greatestSum 6 = .ok (.getfield 27, 3) := by decide +kernel
theorem dX4_greatestSum_9 : decode cX4_greatestSum 9 = .ok (.iconst 0, 1) := by decide +kernel
theorem dX4_greatestSum_10 : decode cX4_greatestSum 10 = .ok (.aaload, 1) := by decide +kernel
theorem dX4_greatestSum_11 : decode cX4_greatestSum 11 = .ok (.iconst 0, 1) := by decide +kernel
theorem dX4_greatestSum_12 : decode cX4_greatestSum 12 = .ok (.iaload, 1) := by decide +kernel
theorem dX4_greatestSum_13 : decode cX4_greatestSum 13 = .ok (.ireturn, 1) := by decide +kernel
theorem dX4_sellerOf_0 : decode cX4_sellerOf 0 = .ok (.aload_n 0, 1) := by decide +kernel
theorem dX4_sellerOf_1 : decode cX4_sellerOf 1 = .ok (.iconst (-1), 1) := by decide +kernel
theorem dX4_sellerOf_2 : decode cX4_sellerOf 2 = .ok (.invokevirtual 55, 3) := by decide +kernel
theorem dX4_sellerOf_5 : decode cX4_sellerOf 5 = .ok (.iconst 0, 1) := by decide +kernel
theorem dX4_sellerOf_6 : decode cX4_sellerOf 6 = .ok (.istore_n 2, 1) := by decide +kernel
theorem dX4_sellerOf_7 : decode cX4_sellerOf 7 = .ok (.iconst (-1), 1) := by decide +kernel
theorem dX4_sellerOf_8 : decode cX4_sellerOf 8 = .ok (.istore_n 3, 1) := by decide +kernel
theorem dX4_sellerOf_9 : decode cX4_sellerOf 9 = .ok (.iconst 0, 1) := by decide +kernel
theorem dX4_sellerOf_10 : decode cX4_sellerOf 10 = .ok (.istore 4, 2) := by decide +kernel
theorem dX4_sellerOf_12 : decode cX4_sellerOf 12 = .ok (.iload 4, 2) := by decide +kernel
theorem dX4_sellerOf_14 : decode cX4_sellerOf 14 = .ok (.iload_n 1, 1) := by decide +kernel
theorem dX4_sellerOf_15 : decode cX4_sellerOf 15 = .ok (.if_icmp .gt 41, 3) := by decide +kernel
theorem dX4_sellerOf_18 : decode cX4_sellerOf 18 = .ok (.iload 4, 2) := by decide +kernel
theorem dX4_sellerOf_20 : decode cX4_sellerOf 20 = .ok (.aload_n 0, 1) := by decide +kernel
theorem dX4_sellerOf_21 : decode cX4_sellerOf 21 = .ok (.getfield 9, 3) := by decide +kernel
theorem dX4_sellerOf_24 : decode cX4_sellerOf 24 = .ok (.if_icmp .ge 32, 3) := by decide +kernel
theorem dX4_sellerOf_27 : decode cX4_sellerOf 27 = .ok (.aload_n 0, 1) := by decide +kernel
theorem dX4_sellerOf_28 : decode cX4_sellerOf 28 = .ok (.iload 4, 2) := by decide +kernel
theorem dX4_sellerOf_30 : decode cX4_sellerOf 30 = .ok (.iload_n 2, 1) := by decide +kernel
theorem dX4_sellerOf_31 : decode cX4_sellerOf 31 = .ok (.invokevirtual 59, 3) := by decide +kernel
theorem dX4_sellerOf_34 : decode cX4_sellerOf 34 = .ok (.istore_n 3, 1) := by decide +kernel
theorem dX4_sellerOf_35 : decode cX4_sellerOf 35 = .ok (.iload_n 2, 1) := by decide +kernel
theorem dX4_sellerOf_36 : decode cX4_sellerOf 36 = .ok (.iload_n 3, 1) := by decide +kernel
theorem dX4_sellerOf_37 : decode cX4_sellerOf 37 = .ok (.iconst (-1), 1) := by decide +kernel
theorem dX4_sellerOf_38 : decode cX4_sellerOf 38 = .ok (.if_icmp .ne 7, 3) := by decide +kernel
theorem dX4_sellerOf_41 : decode cX4_sellerOf 41 = .ok (.iconst 0, 1) := by decide +kernel
theorem dX4_sellerOf_42 : decode cX4_sellerOf 42 = .ok (.goto 6, 3) := by decide +kernel
theorem dX4_sellerOf_45 : decode cX4_sellerOf 45 = .ok (.iconst 1, 1) := by decide +kernel
theorem dX4_sellerOf_46 : decode cX4_sellerOf 46 = .ok (.iload_n 3, 1) := by decide +kernel
theorem dX4_sellerOf_47 : decode cX4_sellerOf 47 = .ok (.ishl, 1) := by decide +kernel
theorem dX4_sellerOf_48 : decode cX4_sellerOf 48 = .ok (.ior, 1) := by decide +kernel
theorem dX4_sellerOf_49 : decode cX4_sellerOf 49 = .ok (.istore_n 2, 1) := by decide +kernel
theorem dX4_sellerOf_50 : decode cX4_sellerOf 50 = .ok (.iinc 4 1, 3) := by decide +kernel
theorem dX4_sellerOf_53 : decode cX4_sellerOf 53 = .ok (.goto (-41), 3) := by decide +kernel
theorem dX4_sellerOf_56 : decode cX4_sellerOf 56 = .ok (.iload_n 3, 1) := by decide +kernel
theorem dX4_sellerOf_57 : decode cX4_sellerOf 57 = .ok (.ireturn, 1) := by decide +kernel
theorem dX4_firstBest_0 : decode cX4_firstBest 0 = .ok (.aload_n 0, 1) := by decide +kernel
theorem dX4_firstBest_1 : decode cX4_firstBest 1 = .ok (.getfield 27, 3) := by decide +kernel
theorem dX4_firstBest_4 : decode cX4_firstBest 4 = .ok (.iload_n 1, 1) := by decide +kernel
theorem dX4_firstBest_5 : decode cX4_firstBest 5 = .ok (.iconst 1, 1) := by decide +kernel
theorem dX4_firstBest_6 : decode cX4_firstBest 6 = .ok (.iadd, 1) := by decide +kernel
theorem dX4_firstBest_7 : decode cX4_firstBest 7 = .ok (.aaload, 1) := by decide +kernel
theorem dX4_firstBest_8 : decode cX4_firstBest 8 = .ok (.iload_n 2, 1) := by decide +kernel
theorem dX4_firstBest_9 : decode cX4_firstBest 9 = .ok (.iaload, 1) := by decide +kernel
theorem dX4_firstBest_10 : decode cX4_firstBest 10 = .ok (.aload_n 0, 1) := by decide +kernel
theorem dX4_firstBest_11 : decode cX4_firstBest 11 = .ok (.getfield 27, 3) := by decide +kernel
theorem dX4_firstBest_14 : decode cX4_firstBest 14 = .ok (.iload_n 1, 1) := by decide +kernel
theorem dX4_firstBest_15 : decode cX4_firstBest 15 = .ok (.aaload, 1) := by decide +kernel
theorem dX4_firstBest_16 : decode cX4_firstBest 16 = .ok (.iload_n 2, 1) := by decide +kernel
theorem dX4_firstBest_17 : decode cX4_firstBest 17 = .ok (.iaload, 1) := by decide +kernel
theorem dX4_firstBest_18 : decode cX4_firstBest 18 = .ok (.if_icmp .ne 5, 3) := by decide +kernel
theorem dX4_firstBest_21 : decode cX4_firstBest 21 = .ok (.iconst (-1), 1) := by decide +kernel
theorem dX4_firstBest_22 : decode cX4_firstBest 22 = .ok (.ireturn, 1) := by decide +kernel
theorem dX4_firstBest_23 : decode cX4_firstBest 23 = .ok (.iconst 0, 1) := by decide +kernel
theorem dX4_firstBest_24 : decode cX4_firstBest 24 = .ok (.istore_n 3, 1) := by decide +kernel
theorem dX4_firstBest_25 : decode cX4_firstBest 25 = .ok (.iload_n 3, 1) := by decide +kernel
theorem dX4_firstBest_26 : decode cX4_firstBest 26 = .ok (.aload_n 0, 1) := by decide +kernel
theorem dX4_firstBest_27 : decode cX4_firstBest 27 = .ok (.getfield 15, 3) := by decide +kernel
theorem dX4_firstBest_30 : decode cX4_firstBest 30 = .ok (.if_icmp .ge 53, 3) := by decide +kernel
theorem dX4_firstBest_33 : decode cX4_firstBest 33 = .ok (.iload_n 2, 1) := by decide +kernel
theorem dX4_firstBest_34 : decode cX4_firstBest 34 = .ok (.iload_n 3, 1) := by decide +kernel
theorem dX4_firstBest_35 : decode cX4_firstBest 35 = .ok (.invokestatic 46, 3) := by decide +kernel
theorem dX4_firstBest_38 : decode cX4_firstBest 38 = .ok (.ifCond .ne 39, 3) := by decide +kernel
theorem dX4_firstBest_41 : decode cX4_firstBest 41 = .ok (.aload_n 0, 1) := by decide +kernel
theorem dX4_firstBest_42 : decode cX4_firstBest 42 = .ok (.getfield 20, 3) := by decide +kernel
theorem dX4_firstBest_45 : decode cX4_firstBest 45 = .ok (.iload_n 1, 1) := by decide +kernel
theorem dX4_firstBest_46 : decode cX4_firstBest 46 = .ok (.aaload, 1) := by decide +kernel
theorem dX4_firstBest_47 : decode cX4_firstBest 47 = .ok (.iload_n 3, 1) := by decide +kernel
theorem dX4_firstBest_48 : decode cX4_firstBest 48 = .ok (.iaload, 1) := by decide +kernel
theorem dX4_firstBest_49 : decode cX4_firstBest 49 = .ok (.aload_n 0, 1) := by decide +kernel
theorem dX4_firstBest_50 : decode cX4_firstBest 50 = .ok (.getfield 27, 3) := by decide +kernel
theorem dX4_firstBest_53 : decode cX4_firstBest 53 = .ok (.iload_n 1, 1) := by decide +kernel
theorem dX4_firstBest_54 : decode cX4_firstBest 54 = .ok (.iconst 1, 1) := by decide +kernel
theorem dX4_firstBest_55 : decode cX4_firstBest 55 = .ok (.iadd, 1) := by decide +kernel
theorem dX4_firstBest_56 : decode cX4_firstBest 56 = .ok (.aaload, 1) := by decide +kernel
theorem dX4_firstBest_57 : decode cX4_firstBest 57 = .ok (.iload_n 2, 1) := by decide +kernel
theorem dX4_firstBest_58 : decode cX4_firstBest 58 = .ok (.iconst 1, 1) := by decide +kernel
theorem dX4_firstBest_59 : decode cX4_firstBest 59 = .ok (.iload_n 3, 1) := by decide +kernel
theorem dX4_firstBest_60 : decode cX4_firstBest 60 = .ok (.ishl, 1) := by decide +kernel
theorem dX4_firstBest_61 : decode cX4_firstBest 61 = .ok (.ior, 1) := by decide +kernel
theorem dX4_firstBest_62 : decode cX4_firstBest 62 = .ok (.iaload, 1) := by decide +kernel
theorem dX4_firstBest_63 : decode cX4_firstBest 63 = .ok (.iadd, 1) := by decide +kernel
theorem dX4_firstBest_64 : decode cX4_firstBest 64 = .ok (.aload_n 0, 1) := by decide +kernel
theorem dX4_firstBest_65 : decode cX4_firstBest 65 = .ok (.getfield 27, 3) := by decide +kernel
theorem dX4_firstBest_68 : decode cX4_firstBest 68 = .ok (.iload_n 1, 1) := by decide +kernel
theorem dX4_firstBest_69 : decode cX4_firstBest 69 = .ok (.aaload, 1) := by decide +kernel
theorem dX4_firstBest_70 : decode cX4_firstBest 70 = .ok (.iload_n 2, 1) := by decide +kernel
theorem dX4_firstBest_71 : decode cX4_firstBest 71 = .ok (.iaload, 1) := by decide +kernel
theorem dX4_firstBest_72 : decode cX4_firstBest 72 = .ok (.if_icmp .ne 5, 3) := by decide +kernel
theorem dX4_firstBest_75 : decode cX4_firstBest 75 = .ok (.iload_n 3, 1) := by decide +kernel
theorem dX4_firstBest_76 : decode cX4_firstBest 76 = .ok (.ireturn, 1) := by decide +kernel
theorem dX4_firstBest_77 : decode cX4_firstBest 77 = .ok (.iinc 3 1, 3) := by decide +kernel
theorem dX4_firstBest_80 : decode cX4_firstBest 80 = .ok (.goto (-55), 3) := by decide +kernel
theorem dX4_firstBest_83 : decode cX4_firstBest 83 = .ok (.iconst (-1), 1) := by decide +kernel
theorem dX4_firstBest_84 : decode cX4_firstBest 84 = .ok (.ireturn, 1) := by decide +kernel
theorem dX4_cheapPrice_0 : decode cX4_cheapPrice 0 = .ok (.aload_n 0, 1) := by decide +kernel
theorem dX4_cheapPrice_1 : decode cX4_cheapPrice 1 = .ok (.invokevirtual 62, 3) := by decide +kernel
theorem dX4_cheapPrice_4 : decode cX4_cheapPrice 4 = .ok (.istore_n 2, 1) := by decide +kernel
theorem dX4_cheapPrice_5 : decode cX4_cheapPrice 5 = .ok (.aload_n 0, 1) := by decide +kernel
theorem dX4_cheapPrice_6 : decode cX4_cheapPrice 6 = .ok (.iload_n 1, 1) := by decide +kernel
theorem dX4_cheapPrice_7 : decode cX4_cheapPrice 7 = .ok (.invokevirtual 55, 3) := by decide +kernel
theorem dX4_cheapPrice_10 : decode cX4_cheapPrice 10 = .ok (.aload_n 0, 1) := by decide +kernel
theorem dX4_cheapPrice_11 : decode cX4_cheapPrice 11 = .ok (.getfield 27, 3) := by decide +kernel
theorem dX4_cheapPrice_14 : decode cX4_cheapPrice 14 = .ok (.iconst 0, 1) := by decide +kernel
theorem dX4_cheapPrice_15 : decode cX4_cheapPrice 15 = .ok (.aaload, 1) := by decide +kernel
theorem dX4_cheapPrice_16 : decode cX4_cheapPrice 16 = .ok (.iconst 0, 1) := by decide +kernel
theorem dX4_cheapPrice_17 : decode cX4_cheapPrice 17 = .ok (.iaload, 1) := by decide +kernel
theorem dX4_cheapPrice_18 : decode cX4_cheapPrice 18 = .ok (.iload_n 2, 1) := by decide +kernel
theorem dX4_cheapPrice_19 : decode cX4_cheapPrice 19 = .ok (.isub, 1) := by decide +kernel
theorem dX4_cheapPrice_20 : decode cX4_cheapPrice 20 = .ok (.ireturn, 1) := by decide +kernel
theorem dX4_dearPrice_0 : decode cX4_dearPrice 0 = .ok (.aload_n 0, 1) := by decide +kernel
theorem dX4_dearPrice_1 : decode cX4_dearPrice 1 = .ok (.invokevirtual 62, 3) := by decide +kernel
theorem dX4_dearPrice_4 : decode cX4_dearPrice 4 = .ok (.aload_n 0, 1) := by decide +kernel
theorem dX4_dearPrice_5 : decode cX4_dearPrice 5 = .ok (.getfield 27, 3) := by decide +kernel
theorem dX4_dearPrice_8 : decode cX4_dearPrice 8 = .ok (.iconst 0, 1) := by decide +kernel
theorem dX4_dearPrice_9 : decode cX4_dearPrice 9 = .ok (.aaload, 1) := by decide +kernel
theorem dX4_dearPrice_10 : decode cX4_dearPrice 10 = .ok (.iconst 1, 1) := by decide +kernel
theorem dX4_dearPrice_11 : decode cX4_dearPrice 11 = .ok (.iload_n 1, 1) := by decide +kernel
theorem dX4_dearPrice_12 : decode cX4_dearPrice 12 = .ok (.ishl, 1) := by decide +kernel
theorem dX4_dearPrice_13 : decode cX4_dearPrice 13 = .ok (.iaload, 1) := by decide +kernel
theorem dX4_dearPrice_14 : decode cX4_dearPrice 14 = .ok (.isub, 1) := by decide +kernel
theorem dX4_dearPrice_15 : decode cX4_dearPrice 15 = .ok (.ireturn, 1) := by decide +kernel
theorem dX4_pricesFit_0 : decode cX4_pricesFit 0 = .ok (.iconst 0, 1) := by decide +kernel
theorem dX4_pricesFit_1 : decode cX4_pricesFit 1 = .ok (.istore_n 1, 1) := by decide +kernel
theorem dX4_pricesFit_2 : decode cX4_pricesFit 2 = .ok (.iconst 0, 1) := by decide +kernel
theorem dX4_pricesFit_3 : decode cX4_pricesFit 3 = .ok (.istore_n 2, 1) := by decide +kernel
theorem dX4_pricesFit_4 : decode cX4_pricesFit 4 = .ok (.iload_n 2, 1) := by decide +kernel
theorem dX4_pricesFit_5 : decode cX4_pricesFit 5 = .ok (.aload_n 0, 1) := by decide +kernel
theorem dX4_pricesFit_6 : decode cX4_pricesFit 6 = .ok (.getfield 15, 3) := by decide +kernel
theorem dX4_pricesFit_9 : decode cX4_pricesFit 9 = .ok (.if_icmp .ge 18, 3) := by decide +kernel
theorem dX4_pricesFit_12 : decode cX4_pricesFit 12 = .ok (.iload_n 1, 1) := by decide +kernel
theorem dX4_pricesFit_13 : decode cX4_pricesFit 13 = .ok (.aload_n 0, 1) := by decide +kernel
theorem dX4_pricesFit_14 : decode cX4_pricesFit 14 = .ok (.getfield 23, 3) := by decide +kernel
theorem dX4_pricesFit_17 : decode cX4_pricesFit 17 = .ok (.iload_n 2, 1) := by decide +kernel
theorem dX4_pricesFit_18 : decode cX4_pricesFit 18 = .ok (.iaload, 1) := by decide +kernel
theorem dX4_pricesFit_19 : decode cX4_pricesFit 19 = .ok (.iadd, 1) := by decide +kernel
theorem dX4_pricesFit_20 : decode cX4_pricesFit 20 = .ok (.istore_n 1, 1) := by decide +kernel
theorem dX4_pricesFit_21 : decode cX4_pricesFit 21 = .ok (.iinc 2 1, 3) := by decide +kernel
theorem dX4_pricesFit_24 : decode cX4_pricesFit 24 = .ok (.goto (-20), 3) := by decide +kernel
theorem dX4_pricesFit_27 : decode cX4_pricesFit 27 = .ok (.iconst 0, 1) := by decide +kernel
theorem dX4_pricesFit_28 : decode cX4_pricesFit 28 = .ok (.istore_n 2, 1) := by decide +kernel
theorem dX4_pricesFit_29 : decode cX4_pricesFit 29 = .ok (.iload_n 2, 1) := by decide +kernel
theorem dX4_pricesFit_30 : decode cX4_pricesFit 30 = .ok (.aload_n 0, 1) := by decide +kernel
theorem dX4_pricesFit_31 : decode cX4_pricesFit 31 = .ok (.getfield 9, 3) := by decide +kernel
theorem dX4_pricesFit_34 : decode cX4_pricesFit 34 = .ok (.if_icmp .ge 17, 3) := by decide +kernel
theorem dX4_pricesFit_37 : decode cX4_pricesFit 37 = .ok (.iload_n 1, 1) := by decide +kernel
theorem dX4_pricesFit_38 : decode cX4_pricesFit 38 = .ok (.aload_n 0, 1) := by decide +kernel
theorem dX4_pricesFit_39 : decode cX4_pricesFit 39 = .ok (.iload_n 2, 1) := by decide +kernel
theorem dX4_pricesFit_40 : decode cX4_pricesFit 40 = .ok (.invokevirtual 66, 3) := by decide +kernel
theorem dX4_pricesFit_43 : decode cX4_pricesFit 43 = .ok (.iadd, 1) := by decide +kernel
theorem dX4_pricesFit_44 : decode cX4_pricesFit 44 = .ok (.istore_n 1, 1) := by decide +kernel
theorem dX4_pricesFit_45 : decode cX4_pricesFit 45 = .ok (.iinc 2 1, 3) := by decide +kernel
theorem dX4_pricesFit_48 : decode cX4_pricesFit 48 = .ok (.goto (-19), 3) := by decide +kernel
theorem dX4_pricesFit_51 : decode cX4_pricesFit 51 = .ok (.iload_n 1, 1) := by decide +kernel
theorem dX4_pricesFit_52 : decode cX4_pricesFit 52 = .ok (.aload_n 0, 1) := by decide +kernel
theorem dX4_pricesFit_53 : decode cX4_pricesFit 53 = .ok (.invokevirtual 62, 3) := by decide +kernel
theorem dX4_pricesFit_56 : decode cX4_pricesFit 56 = .ok (.if_icmp .ne 7, 3) := by decide +kernel
theorem dX4_pricesFit_59 : decode cX4_pricesFit 59 = .ok (.iconst 1, 1) := by decide +kernel
theorem dX4_pricesFit_60 : decode cX4_pricesFit 60 = .ok (.goto 4, 3) := by decide +kernel
theorem dX4_pricesFit_63 : decode cX4_pricesFit 63 = .ok (.iconst 0, 1) := by decide +kernel
theorem dX4_pricesFit_64 : decode cX4_pricesFit 64 = .ok (.ireturn, 1) := by decide +kernel
theorem dX4_greatestLessPrice_0 : decode cX4_greatestLessPrice 0 = .ok (.iconst 0, 1) := by decide +kernel
theorem dX4_greatestLessPrice_1 : decode cX4_greatestLessPrice 1 = .ok (.istore_n 2, 1) := by decide +kernel
theorem dX4_greatestLessPrice_2 : decode cX4_greatestLessPrice 2 = .ok (.iconst 0, 1) := by decide +kernel
theorem dX4_greatestLessPrice_3 : decode cX4_greatestLessPrice 3 = .ok (.istore_n 3, 1) := by decide +kernel
theorem dX4_greatestLessPrice_4 : decode cX4_greatestLessPrice 4 = .ok (.iload_n 3, 1) := by decide +kernel
theorem dX4_greatestLessPrice_5 : decode cX4_greatestLessPrice 5 = .ok (.aload_n 0, 1) := by decide +kernel
theorem dX4_greatestLessPrice_6 : decode cX4_greatestLessPrice 6 = .ok (.getfield 15, 3) := by decide +kernel
theorem dX4_greatestLessPrice_9 : decode cX4_greatestLessPrice 9 = .ok (.if_icmp .ge 29, 3) := by decide +kernel
theorem dX4_greatestLessPrice_12 : decode cX4_greatestLessPrice 12 = .ok (.iload_n 2, 1) := by decide +kernel
theorem dX4_greatestLessPrice_13 : decode cX4_greatestLessPrice 13 = .ok (.aload_n 0, 1) := by decide +kernel
theorem dX4_greatestLessPrice_14 : decode cX4_greatestLessPrice 14 = .ok (.getfield 20, 3) := by decide +kernel
theorem dX4_greatestLessPrice_17 : decode cX4_greatestLessPrice 17 = .ok (.iload_n 1, 1) := by decide +kernel
theorem dX4_greatestLessPrice_18 : decode cX4_greatestLessPrice 18 = .ok (.aaload, 1) := by decide +kernel
theorem dX4_greatestLessPrice_19 : decode cX4_greatestLessPrice 19 = .ok (.iload_n 3, 1) := by decide +kernel
theorem dX4_greatestLessPrice_20 : decode cX4_greatestLessPrice 20 = .ok (.iaload, 1) := by decide +kernel
theorem dX4_greatestLessPrice_21 : decode cX4_greatestLessPrice 21 = .ok (.aload_n 0, 1) := by decide +kernel
theorem dX4_greatestLessPrice_22 : decode cX4_greatestLessPrice 22 = .ok (.getfield 23, 3) := by decide +kernel
theorem dX4_greatestLessPrice_25 : decode cX4_greatestLessPrice 25 = .ok (.iload_n 3, 1) := by decide +kernel
theorem dX4_greatestLessPrice_26 : decode cX4_greatestLessPrice 26 = .ok (.iaload, 1) := by decide +kernel
theorem dX4_greatestLessPrice_27 : decode cX4_greatestLessPrice 27 = .ok (.isub, 1) := by decide +kernel
theorem dX4_greatestLessPrice_28 : decode cX4_greatestLessPrice 28 = .ok (.invokestatic 50, 3) := by decide +kernel
theorem dX4_greatestLessPrice_31 : decode cX4_greatestLessPrice 31 = .ok (.istore_n 2, 1) := by decide +kernel
theorem dX4_greatestLessPrice_32 : decode cX4_greatestLessPrice 32 = .ok (.iinc 3 1, 3) := by decide +kernel
theorem dX4_greatestLessPrice_35 : decode cX4_greatestLessPrice 35 = .ok (.goto (-31), 3) := by decide +kernel
theorem dX4_greatestLessPrice_38 : decode cX4_greatestLessPrice 38 = .ok (.iload_n 2, 1) := by decide +kernel
theorem dX4_greatestLessPrice_39 : decode cX4_greatestLessPrice 39 = .ok (.ireturn, 1) := by decide +kernel
theorem dX4_mixInto_0 : decode cX4_mixInto 0 = .ok (.lload_n 1, 1) := by decide +kernel
theorem dX4_mixInto_1 : decode cX4_mixInto 1 = .ok (.lstore_n 3, 1) := by decide +kernel
theorem dX4_mixInto_2 : decode cX4_mixInto 2 = .ok (.iconst 0, 1) := by decide +kernel
theorem dX4_mixInto_3 : decode cX4_mixInto 3 = .ok (.istore 5, 2) := by decide +kernel
theorem dX4_mixInto_5 : decode cX4_mixInto 5 = .ok (.iload 5, 2) := by decide +kernel
theorem dX4_mixInto_7 : decode cX4_mixInto 7 = .ok (.aload_n 0, 1) := by decide +kernel
theorem dX4_mixInto_8 : decode cX4_mixInto 8 = .ok (.getfield 9, 3) := by decide +kernel
theorem dX4_mixInto_11 : decode cX4_mixInto 11 = .ok (.if_icmp .ge 43, 3) := by decide +kernel
theorem dX4_mixInto_14 : decode cX4_mixInto 14 = .ok (.iconst 0, 1) := by decide +kernel
theorem dX4_mixInto_15 : decode cX4_mixInto 15 = .ok (.istore 6, 2) := by decide +kernel
theorem dX4_mixInto_17 : decode cX4_mixInto 17 = .ok (.iload 6, 2) := by decide +kernel
theorem dX4_mixInto_19 : decode cX4_mixInto 19 = .ok (.aload_n 0, 1) := by decide +kernel
theorem dX4_mixInto_20 : decode cX4_mixInto 20 = .ok (.getfield 15, 3) := by decide +kernel
theorem dX4_mixInto_23 : decode cX4_mixInto 23 = .ok (.if_icmp .ge 25, 3) := by decide +kernel
theorem dX4_mixInto_26 : decode cX4_mixInto 26 = .ok (.lload_n 3, 1) := by decide +kernel
theorem dX4_mixInto_27 : decode cX4_mixInto 27 = .ok (.aload_n 0, 1) := by decide +kernel
theorem dX4_mixInto_28 : decode cX4_mixInto 28 = .ok (.getfield 20, 3) := by decide +kernel
theorem dX4_mixInto_31 : decode cX4_mixInto 31 = .ok (.iload 5, 2) := by decide +kernel
theorem dX4_mixInto_33 : decode cX4_mixInto 33 = .ok (.aaload, 1) := by decide +kernel
theorem dX4_mixInto_34 : decode cX4_mixInto 34 = .ok (.iload 6, 2) := by decide +kernel
theorem dX4_mixInto_36 : decode cX4_mixInto 36 = .ok (.iaload, 1) := by decide +kernel
theorem dX4_mixInto_37 : decode cX4_mixInto 37 = .ok (.i2l, 1) := by decide +kernel
theorem dX4_mixInto_38 : decode cX4_mixInto 38 = .ok (.invokestatic 70, 3) := by decide +kernel
theorem dX4_mixInto_41 : decode cX4_mixInto 41 = .ok (.lstore_n 3, 1) := by decide +kernel
theorem dX4_mixInto_42 : decode cX4_mixInto 42 = .ok (.iinc 6 1, 3) := by decide +kernel
theorem dX4_mixInto_45 : decode cX4_mixInto 45 = .ok (.goto (-28), 3) := by decide +kernel
theorem dX4_mixInto_48 : decode cX4_mixInto 48 = .ok (.iinc 5 1, 3) := by decide +kernel
theorem dX4_mixInto_51 : decode cX4_mixInto 51 = .ok (.goto (-46), 3) := by decide +kernel
theorem dX4_mixInto_54 : decode cX4_mixInto 54 = .ok (.iconst 0, 1) := by decide +kernel
theorem dX4_mixInto_55 : decode cX4_mixInto 55 = .ok (.istore 5, 2) := by decide +kernel
theorem dX4_mixInto_57 : decode cX4_mixInto 57 = .ok (.iload 5, 2) := by decide +kernel
theorem dX4_mixInto_59 : decode cX4_mixInto 59 = .ok (.aload_n 0, 1) := by decide +kernel
theorem dX4_mixInto_60 : decode cX4_mixInto 60 = .ok (.getfield 15, 3) := by decide +kernel
theorem dX4_mixInto_63 : decode cX4_mixInto 63 = .ok (.if_icmp .ge 22, 3) := by decide +kernel
theorem dX4_mixInto_66 : decode cX4_mixInto 66 = .ok (.lload_n 3, 1) := by decide +kernel
theorem dX4_mixInto_67 : decode cX4_mixInto 67 = .ok (.aload_n 0, 1) := by decide +kernel
theorem dX4_mixInto_68 : decode cX4_mixInto 68 = .ok (.getfield 23, 3) := by decide +kernel
theorem dX4_mixInto_71 : decode cX4_mixInto 71 = .ok (.iload 5, 2) := by decide +kernel
theorem dX4_mixInto_73 : decode cX4_mixInto 73 = .ok (.iaload, 1) := by decide +kernel
theorem dX4_mixInto_74 : decode cX4_mixInto 74 = .ok (.i2l, 1) := by decide +kernel
theorem dX4_mixInto_75 : decode cX4_mixInto 75 = .ok (.invokestatic 70, 3) := by decide +kernel
theorem dX4_mixInto_78 : decode cX4_mixInto 78 = .ok (.lstore_n 3, 1) := by decide +kernel
theorem dX4_mixInto_79 : decode cX4_mixInto 79 = .ok (.iinc 5 1, 3) := by decide +kernel
theorem dX4_mixInto_82 : decode cX4_mixInto 82 = .ok (.goto (-25), 3) := by decide +kernel
theorem dX4_mixInto_85 : decode cX4_mixInto 85 = .ok (.lload_n 3, 1) := by decide +kernel
theorem dX4_mixInto_86 : decode cX4_mixInto 86 = .ok (.lreturn, 1) := by decide +kernel
