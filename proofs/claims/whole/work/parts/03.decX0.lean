theorem dX0_init_0 : decode cX0_init 0 = .ok (.aload_n 0, 1) := by decide +kernel
theorem dX0_init_1 : decode cX0_init 1 = .ok (.invokespecial 3, 3) := by decide +kernel
theorem dX0_init_4 : decode cX0_init 4 = .ok (.aload_n 0, 1) := by decide +kernel
theorem dX0_init_5 : decode cX0_init 5 = .ok (.bipush 20, 2) := by decide +kernel
theorem dX0_init_7 : decode cX0_init 7 = .ok (.bipush 6, 2) := by decide +kernel
theorem dX0_init_9 : decode cX0_init 9 = .ok (.multianewarray 11 2, 4) := by decide +kernel
theorem dX0_init_13 : decode cX0_init 13 = .ok (.putfield 13, 3) := by decide +kernel
theorem dX0_init_16 : decode cX0_init 16 = .ok (.aload_n 0, 1) := by decide +kernel
theorem dX0_init_17 : decode cX0_init 17 = .ok (.bipush 20, 2) := by decide +kernel
theorem dX0_init_19 : decode cX0_init 19 = .ok (.newarray .int, 2) := by decide +kernel
theorem dX0_init_21 : decode cX0_init 21 = .ok (.putfield 16, 3) := by decide +kernel
theorem dX0_init_24 : decode cX0_init 24 = .ok (.aload_n 0, 1) := by decide +kernel
theorem dX0_init_25 : decode cX0_init 25 = .ok (.iconst 4, 1) := by decide +kernel
theorem dX0_init_26 : decode cX0_init 26 = .ok (.newarray .int, 2) := by decide +kernel
theorem dX0_init_28 : decode cX0_init 28 = .ok (.putfield 20, 3) := by decide +kernel
theorem dX0_init_31 : decode cX0_init 31 = .ok (.aload_n 0, 1) := by decide +kernel
theorem dX0_init_32 : decode cX0_init 32 = .ok (.iconst 0, 1) := by decide +kernel
theorem dX0_init_33 : decode cX0_init 33 = .ok (.putfield 23, 3) := by decide +kernel
theorem dX0_init_36 : decode cX0_init 36 = .ok (.aload_n 0, 1) := by decide +kernel
theorem dX0_init_37 : decode cX0_init 37 = .ok (.iconst 0, 1) := by decide +kernel
theorem dX0_init_38 : decode cX0_init 38 = .ok (.putfield 27, 3) := by decide +kernel
theorem dX0_init_41 : decode cX0_init 41 = .ok (.return_, 1) := by decide +kernel
theorem dX0_restart_0 : decode cX0_restart 0 = .ok (.aload_n 0, 1) := by decide +kernel
theorem dX0_restart_1 : decode cX0_restart 1 = .ok (.iconst 0, 1) := by decide +kernel
theorem dX0_restart_2 : decode cX0_restart 2 = .ok (.putfield 23, 3) := by decide +kernel
theorem dX0_restart_5 : decode cX0_restart 5 = .ok (.aload_n 0, 1) := by decide +kernel
theorem dX0_restart_6 : decode cX0_restart 6 = .ok (.iload_n 1, 1) := by decide +kernel
theorem dX0_restart_7 : decode cX0_restart 7 = .ok (.iconst 4, 1) := by decide +kernel
theorem dX0_restart_8 : decode cX0_restart 8 = .ok (.invokestatic 30, 3) := by decide +kernel
theorem dX0_restart_11 : decode cX0_restart 11 = .ok (.putfield 27, 3) := by decide +kernel
theorem dX0_restart_14 : decode cX0_restart 14 = .ok (.iconst 0, 1) := by decide +kernel
theorem dX0_restart_15 : decode cX0_restart 15 = .ok (.istore_n 2, 1) := by decide +kernel
theorem dX0_restart_16 : decode cX0_restart 16 = .ok (.iload_n 2, 1) := by decide +kernel
theorem dX0_restart_17 : decode cX0_restart 17 = .ok (.iconst 4, 1) := by decide +kernel
theorem dX0_restart_18 : decode cX0_restart 18 = .ok (.if_icmp .ge 16, 3) := by decide +kernel
theorem dX0_restart_21 : decode cX0_restart 21 = .ok (.aload_n 0, 1) := by decide +kernel
theorem dX0_restart_22 : decode cX0_restart 22 = .ok (.getfield 20, 3) := by decide +kernel
theorem dX0_restart_25 : decode cX0_restart 25 = .ok (.iload_n 2, 1) := by decide +kernel
theorem dX0_restart_26 : decode cX0_restart 26 = .ok (.iconst 0, 1) := by decide +kernel
theorem dX0_restart_27 : decode cX0_restart 27 = .ok (.iastore, 1) := by decide +kernel
theorem dX0_restart_28 : decode cX0_restart 28 = .ok (.iinc 2 1, 3) := by decide +kernel
theorem dX0_restart_31 : decode cX0_restart 31 = .ok (.goto (-15), 3) := by decide +kernel
theorem dX0_restart_34 : decode cX0_restart 34 = .ok (.return_, 1) := by decide +kernel
theorem dX0_addRow_0 : decode cX0_addRow 0 = .ok (.aload_n 0, 1) := by decide +kernel
theorem dX0_addRow_1 : decode cX0_addRow 1 = .ok (.getfield 23, 3) := by decide +kernel
theorem dX0_addRow_4 : decode cX0_addRow 4 = .ok (.bipush 20, 2) := by decide +kernel
theorem dX0_addRow_6 : decode cX0_addRow 6 = .ok (.if_icmp .lt 5, 3) := by decide +kernel
theorem dX0_addRow_9 : decode cX0_addRow 9 = .ok (.iconst (-1), 1) := by decide +kernel
theorem dX0_addRow_10 : decode cX0_addRow 10 = .ok (.ireturn, 1) := by decide +kernel
theorem dX0_addRow_11 : decode cX0_addRow 11 = .ok (.aload_n 0, 1) := by decide +kernel
theorem dX0_addRow_12 : decode cX0_addRow 12 = .ok (.getfield 13, 3) := by decide +kernel
theorem dX0_addRow_15 : decode cX0_addRow 15 = .ok (.aload_n 0, 1) := by decide +kernel
theorem dX0_addRow_16 : decode cX0_addRow 16 = .ok (.getfield 23, 3) := by decide +kernel
theorem dX0_addRow_19 : decode cX0_addRow 19 = .ok (.aaload, 1) := by decide +kernel
theorem dX0_addRow_20 : decode cX0_addRow 20 = .ok (.astore 4, 2) := by decide +kernel
theorem dX0_addRow_22 : decode cX0_addRow 22 = .ok (.iconst 0, 1) := by decide +kernel
theorem dX0_addRow_23 : decode cX0_addRow 23 = .ok (.istore 5, 2) := by decide +kernel
theorem dX0_addRow_25 : decode cX0_addRow 25 = .ok (.iload 5, 2) := by decide +kernel
theorem dX0_addRow_27 : decode cX0_addRow 27 = .ok (.aload 4, 2) := by decide +kernel
theorem dX0_addRow_29 : decode cX0_addRow 29 = .ok (.arraylength, 1) := by decide +kernel
theorem dX0_addRow_30 : decode cX0_addRow 30 = .ok (.if_icmp .ge 15, 3) := by decide +kernel
theorem dX0_addRow_33 : decode cX0_addRow 33 = .ok (.aload 4, 2) := by decide +kernel
theorem dX0_addRow_35 : decode cX0_addRow 35 = .ok (.iload 5, 2) := by decide +kernel
theorem dX0_addRow_37 : decode cX0_addRow 37 = .ok (.lconst 0, 1) := by decide +kernel
theorem dX0_addRow_38 : decode cX0_addRow 38 = .ok (.lastore, 1) := by decide +kernel
theorem dX0_addRow_39 : decode cX0_addRow 39 = .ok (.iinc 5 1, 3) := by decide +kernel
theorem dX0_addRow_42 : decode cX0_addRow 42 = .ok (.goto (-17), 3) := by decide +kernel
theorem dX0_addRow_45 : decode cX0_addRow 45 = .ok (.aload 4, 2) := by decide +kernel
theorem dX0_addRow_47 : decode cX0_addRow 47 = .ok (.iconst 0, 1) := by decide +kernel
theorem dX0_addRow_48 : decode cX0_addRow 48 = .ok (.lconst 1, 1) := by decide +kernel
theorem dX0_addRow_49 : decode cX0_addRow 49 = .ok (.lastore, 1) := by decide +kernel
theorem dX0_addRow_50 : decode cX0_addRow 50 = .ok (.aload 4, 2) := by decide +kernel
theorem dX0_addRow_52 : decode cX0_addRow 52 = .ok (.iconst 1, 1) := by decide +kernel
theorem dX0_addRow_53 : decode cX0_addRow 53 = .ok (.lload_n 2, 1) := by decide +kernel
theorem dX0_addRow_54 : decode cX0_addRow 54 = .ok (.lastore, 1) := by decide +kernel
theorem dX0_addRow_55 : decode cX0_addRow 55 = .ok (.aload_n 0, 1) := by decide +kernel
theorem dX0_addRow_56 : decode cX0_addRow 56 = .ok (.getfield 16, 3) := by decide +kernel
theorem dX0_addRow_59 : decode cX0_addRow 59 = .ok (.aload_n 0, 1) := by decide +kernel
theorem dX0_addRow_60 : decode cX0_addRow 60 = .ok (.getfield 23, 3) := by decide +kernel
theorem dX0_addRow_63 : decode cX0_addRow 63 = .ok (.iload_n 1, 1) := by decide +kernel
theorem dX0_addRow_64 : decode cX0_addRow 64 = .ok (.iastore, 1) := by decide +kernel
theorem dX0_addRow_65 : decode cX0_addRow 65 = .ok (.aload_n 0, 1) := by decide +kernel
theorem dX0_addRow_66 : decode cX0_addRow 66 = .ok (.dup, 1) := by decide +kernel
theorem dX0_addRow_67 : decode cX0_addRow 67 = .ok (.getfield 23, 3) := by decide +kernel
theorem dX0_addRow_70 : decode cX0_addRow 70 = .ok (.iconst 1, 1) := by decide +kernel
theorem dX0_addRow_71 : decode cX0_addRow 71 = .ok (.iadd, 1) := by decide +kernel
theorem dX0_addRow_72 : decode cX0_addRow 72 = .ok (.putfield 23, 3) := by decide +kernel
theorem dX0_addRow_75 : decode cX0_addRow 75 = .ok (.aload_n 0, 1) := by decide +kernel
theorem dX0_addRow_76 : decode cX0_addRow 76 = .ok (.getfield 23, 3) := by decide +kernel
theorem dX0_addRow_79 : decode cX0_addRow 79 = .ok (.iconst 1, 1) := by decide +kernel
theorem dX0_addRow_80 : decode cX0_addRow 80 = .ok (.isub, 1) := by decide +kernel
theorem dX0_addRow_81 : decode cX0_addRow 81 = .ok (.ireturn, 1) := by decide +kernel
theorem dX0_putFactor_0 : decode cX0_putFactor 0 = .ok (.iload_n 1, 1) := by decide +kernel
theorem dX0_putFactor_1 : decode cX0_putFactor 1 = .ok (.ifCond .lt 34, 3) := by decide +kernel
theorem dX0_putFactor_4 : decode cX0_putFactor 4 = .ok (.iload_n 1, 1) := by decide +kernel
theorem dX0_putFactor_5 : decode cX0_putFactor 5 = .ok (.aload_n 0, 1) := by decide +kernel
theorem dX0_putFactor_6 : decode cX0_putFactor 6 = .ok (.getfield 23, 3) := by decide +kernel
theorem dX0_putFactor_9 : decode cX0_putFactor 9 = .ok (.if_icmp .ge 26, 3) := by decide +kernel
theorem dX0_putFactor_12 : decode cX0_putFactor 12 = .ok (.iload_n 2, 1) := by decide +kernel
theorem dX0_putFactor_13 : decode cX0_putFactor 13 = .ok (.ifCond .lt 22, 3) := by decide +kernel
theorem dX0_putFactor_16 : decode cX0_putFactor 16 = .ok (.iload_n 2, 1) := by decide +kernel
theorem dX0_putFactor_17 : decode cX0_putFactor 17 = .ok (.aload_n 0, 1) := by decide +kernel
theorem dX0_putFactor_18 : decode cX0_putFactor 18 = .ok (.getfield 27, 3) := by decide +kernel
theorem dX0_putFactor_21 : decode cX0_putFactor 21 = .ok (.if_icmp .ge 14, 3) := by decide +kernel
theorem dX0_putFactor_24 : decode cX0_putFactor 24 = .ok (.aload_n 0, 1) := by decide +kernel
theorem dX0_putFactor_25 : decode cX0_putFactor 25 = .ok (.getfield 13, 3) := by decide +kernel
theorem dX0_putFactor_28 : decode cX0_putFactor 28 = .ok (.iload_n 1, 1) := by decide +kernel
theorem dX0_putFactor_29 : decode cX0_putFactor 29 = .ok (.aaload, 1) := by decide +kernel
theorem dX0_putFactor_30 : decode cX0_putFactor 30 = .ok (.iconst 2, 1) := by decide +kernel
theorem dX0_putFactor_31 : decode cX0_putFactor 31 = .ok (.iload_n 2, 1) := by decide +kernel
theorem dX0_putFactor_32 : decode cX0_putFactor 32 = .ok (.iadd, 1) := by decide +kernel
theorem dX0_putFactor_33 : decode cX0_putFactor 33 = .ok (.lload_n 3, 1) := by decide +kernel
theorem dX0_putFactor_34 : decode cX0_putFactor 34 = .ok (.lastore, 1) := by decide +kernel
theorem dX0_putFactor_35 : decode cX0_putFactor 35 = .ok (.return_, 1) := by decide +kernel
theorem dX0_factorOf_0 : decode cX0_factorOf 0 = .ok (.iload_n 1, 1) := by decide +kernel
theorem dX0_factorOf_1 : decode cX0_factorOf 1 = .ok (.ifCond .lt 23, 3) := by decide +kernel
theorem dX0_factorOf_4 : decode cX0_factorOf 4 = .ok (.iload_n 1, 1) := by decide +kernel
theorem dX0_factorOf_5 : decode cX0_factorOf 5 = .ok (.aload_n 0, 1) := by decide +kernel
theorem dX0_factorOf_6 : decode cX0_factorOf 6 = .ok (.getfield 23, 3) := by decide +kernel
theorem dX0_factorOf_9 : decode cX0_factorOf 9 = .ok (.if_icmp .ge 15, 3) := by decide +kernel
theorem dX0_factorOf_12 : decode cX0_factorOf 12 = .ok (.iload_n 2, 1) := by decide +kernel
theorem dX0_factorOf_13 : decode cX0_factorOf 13 = .ok (.ifCond .lt 11, 3) := by decide +kernel
theorem dX0_factorOf_16 : decode cX0_factorOf 16 = .ok (.iload_n 2, 1) := by decide +kernel
theorem dX0_factorOf_17 : decode cX0_factorOf 17 = .ok (.aload_n 0, 1) := by decide +kernel
theorem dX0_factorOf_18 : decode cX0_factorOf 18 = .ok (.getfield 27, 3) := by decide +kernel
theorem dX0_factorOf_21 : decode cX0_factorOf 21 = .ok (.if_icmp .lt 5, 3) := by decide +kernel
theorem dX0_factorOf_24 : decode cX0_factorOf 24 = .ok (.lconst 0, 1) := by decide +kernel
theorem dX0_factorOf_25 : decode cX0_factorOf 25 = .ok (.lreturn, 1) := by decide +kernel
theorem dX0_factorOf_26 : decode cX0_factorOf 26 = .ok (.aload_n 0, 1) := by decide +kernel
theorem dX0_factorOf_27 : decode cX0_factorOf 27 = .ok (.getfield 13, 3) := by decide +kernel
theorem dX0_factorOf_30 : decode cX0_factorOf 30 = .ok (.iload_n 1, 1) := by decide +kernel
theorem dX0_factorOf_31 : decode cX0_factorOf 31 = .ok (.aaload, 1) := by decide +kernel
theorem dX0_factorOf_32 : decode cX0_factorOf 32 = .ok (.iconst 2, 1) := by decide +kernel
theorem dX0_factorOf_33 : decode cX0_factorOf 33 = .ok (.iload_n 2, 1) := by decide +kernel
theorem dX0_factorOf_34 : decode cX0_factorOf 34 = .ok (.iadd, 1) := by decide +kernel
theorem dX0_factorOf_35 : decode cX0_factorOf 35 = .ok (.laload, 1) := by decide +kernel
theorem dX0_factorOf_36 : decode cX0_factorOf 36 = .ok (.lreturn, 1) := by decide +kernel
theorem dX0_constantOf_0 : decode cX0_constantOf 0 = .ok (.iload_n 1, 1) := by decide +kernel
theorem dX0_constantOf_1 : decode cX0_constantOf 1 = .ok (.ifCond .lt 22, 3) := by decide +kernel
theorem dX0_constantOf_4 : decode cX0_constantOf 4 = .ok (.iload_n 1, 1) := by decide +kernel
theorem dX0_constantOf_5 : decode cX0_constantOf 5 = .ok (.aload_n 0, 1) := by decide +kernel
theorem dX0_constantOf_6 : decode cX0_constantOf 6 = .ok (.getfield 23, 3) := by decide +kernel
theorem dX0_constantOf_9 : decode cX0_constantOf 9 = .ok (.if_icmp .ge 14, 3) := by decide +kernel
theorem dX0_constantOf_12 : decode cX0_constantOf 12 = .ok (.aload_n 0, 1) := by decide +kernel
theorem dX0_constantOf_13 : decode cX0_constantOf 13 = .ok (.getfield 13, 3) := by decide +kernel
theorem dX0_constantOf_16 : decode cX0_constantOf 16 = .ok (.iload_n 1, 1) := by decide +kernel
theorem dX0_constantOf_17 : decode cX0_constantOf 17 = .ok (.aaload, 1) := by decide +kernel
theorem dX0_constantOf_18 : decode cX0_constantOf 18 = .ok (.iconst 1, 1) := by decide +kernel
theorem dX0_constantOf_19 : decode cX0_constantOf 19 = .ok (.laload, 1) := by decide +kernel
theorem dX0_constantOf_20 : decode cX0_constantOf 20 = .ok (.goto 4, 3) := by decide +kernel
theorem dX0_constantOf_23 : decode cX0_constantOf 23 = .ok (.lconst 0, 1) := by decide +kernel
theorem dX0_constantOf_24 : decode cX0_constantOf 24 = .ok (.lreturn, 1) := by decide +kernel
theorem dX0_belowOf_0 : decode cX0_belowOf 0 = .ok (.iload_n 1, 1) := by decide +kernel
theorem dX0_belowOf_1 : decode cX0_belowOf 1 = .ok (.ifCond .lt 22, 3) := by decide +kernel
theorem dX0_belowOf_4 : decode cX0_belowOf 4 = .ok (.iload_n 1, 1) := by decide +kernel
theorem dX0_belowOf_5 : decode cX0_belowOf 5 = .ok (.aload_n 0, 1) := by decide +kernel
theorem dX0_belowOf_6 : decode cX0_belowOf 6 = .ok (.getfield 23, 3) := by decide +kernel
theorem dX0_belowOf_9 : decode cX0_belowOf 9 = .ok (.if_icmp .ge 14, 3) := by decide +kernel
theorem dX0_belowOf_12 : decode cX0_belowOf 12 = .ok (.aload_n 0, 1) := by decide +kernel
theorem dX0_belowOf_13 : decode cX0_belowOf 13 = .ok (.getfield 13, 3) := by decide +kernel
theorem dX0_belowOf_16 : decode cX0_belowOf 16 = .ok (.iload_n 1, 1) := by decide +kernel
theorem dX0_belowOf_17 : decode cX0_belowOf 17 = .ok (.aaload, 1) := by decide +kernel
theorem dX0_belowOf_18 : decode cX0_belowOf 18 = .ok (.iconst 0, 1) := by decide +kernel
theorem dX0_belowOf_19 : decode cX0_belowOf 19 = .ok (.laload, 1) := by decide +kernel
theorem dX0_belowOf_20 : decode cX0_belowOf 20 = .ok (.goto 4, 3) := by decide +kernel
theorem dX0_belowOf_23 : decode cX0_belowOf 23 = .ok (.lconst 1, 1) := by decide +kernel
theorem dX0_belowOf_24 : decode cX0_belowOf 24 = .ok (.lreturn, 1) := by decide +kernel
theorem dX0_enterAll_0 : decode cX0_enterAll 0 = .ok (.iconst 0, 1) := by decide +kernel
theorem dX0_enterAll_1 : decode cX0_enterAll 1 = .ok (.istore_n 1, 1) := by decide +kernel
theorem dX0_enterAll_2 : decode cX0_enterAll 2 = .ok (.iload_n 1, 1) := by decide +kernel
theorem dX0_enterAll_3 : decode cX0_enterAll 3 = .ok (.aload_n 0, 1) := by decide +kernel
theorem dX0_enterAll_4 : decode cX0_enterAll 4 = .ok (.getfield 27, 3) := by decide +kernel
theorem dX0_enterAll_7 : decode cX0_enterAll 7 = .ok (.if_icmp .ge 15, 3) := by decide +kernel
theorem dX0_enterAll_10 : decode cX0_enterAll 10 = .ok (.aload_n 0, 1) := by decide +kernel
theorem dX0_enterAll_11 : decode cX0_enterAll 11 = .ok (.iload_n 1, 1) := by decide +kernel
theorem dX0_enterAll_12 : decode cX0_enterAll 12 = .ok (.invokevirtual 36, 3) := by decide +kernel
theorem dX0_enterAll_15 : decode cX0_enterAll 15 = .ok (.pop, 1) := by decide +kernel
theorem dX0_enterAll_16 : decode cX0_enterAll 16 = .ok (.iinc 1 1, 3) := by decide +kernel
theorem dX0_enterAll_19 : decode cX0_enterAll 19 = .ok (.goto (-17), 3) := by decide +kernel
theorem dX0_enterAll_22 : decode cX0_enterAll 22 = .ok (.return_, 1) := by decide +kernel
theorem dX0_enter_0 : decode cX0_enter 0 = .ok (.aload_n 0, 1) := by decide +kernel
theorem dX0_enter_1 : decode cX0_enter 1 = .ok (.iload_n 1, 1) := by decide +kernel
theorem dX0_enter_2 : decode cX0_enter 2 = .ok (.invokevirtual 40, 3) := by decide +kernel
theorem dX0_enter_5 : decode cX0_enter 5 = .ok (.istore_n 2, 1) := by decide +kernel
theorem dX0_enter_6 : decode cX0_enter 6 = .ok (.iload_n 2, 1) := by decide +kernel
theorem dX0_enter_7 : decode cX0_enter 7 = .ok (.iconst (-1), 1) := by decide +kernel
theorem dX0_enter_8 : decode cX0_enter 8 = .ok (.if_icmp .eq 9, 3) := by decide +kernel
theorem dX0_enter_11 : decode cX0_enter 11 = .ok (.aload_n 0, 1) := by decide +kernel
theorem dX0_enter_12 : decode cX0_enter 12 = .ok (.iload_n 2, 1) := by decide +kernel
theorem dX0_enter_13 : decode cX0_enter 13 = .ok (.iload_n 1, 1) := by decide +kernel
theorem dX0_enter_14 : decode cX0_enter 14 = .ok (.invokevirtual 43, 3) := by decide +kernel
theorem dX0_enter_17 : decode cX0_enter 17 = .ok (.iload_n 2, 1) := by decide +kernel
theorem dX0_enter_18 : decode cX0_enter 18 = .ok (.ireturn, 1) := by decide +kernel
theorem dX0_drive_0 : decode cX0_drive 0 = .ok (.iconst 0, 1) := by decide +kernel
theorem dX0_drive_1 : decode cX0_drive 1 = .ok (.istore_n 3, 1) := by decide +kernel
theorem dX0_drive_2 : decode cX0_drive 2 = .ok (.iload_n 3, 1) := by decide +kernel
theorem dX0_drive_3 : decode cX0_drive 3 = .ok (.ldc 47, 2) := by decide +kernel
theorem dX0_drive_5 : decode cX0_drive 5 = .ok (.if_icmp .ge 34, 3) := by decide +kernel
theorem dX0_drive_8 : decode cX0_drive 8 = .ok (.aload_n 0, 1) := by decide +kernel
theorem dX0_drive_9 : decode cX0_drive 9 = .ok (.iload_n 1, 1) := by decide +kernel
theorem dX0_drive_10 : decode cX0_drive 10 = .ok (.iload_n 2, 1) := by decide +kernel
theorem dX0_drive_11 : decode cX0_drive 11 = .ok (.invokevirtual 48, 3) := by decide +kernel
theorem dX0_drive_14 : decode cX0_drive 14 = .ok (.istore 4, 2) := by decide +kernel
theorem dX0_drive_16 : decode cX0_drive 16 = .ok (.iload 4, 2) := by decide +kernel
theorem dX0_drive_18 : decode cX0_drive 18 = .ok (.iconst (-1), 1) := by decide +kernel
theorem dX0_drive_19 : decode cX0_drive 19 = .ok (.if_icmp .eq 13, 3) := by decide +kernel
theorem dX0_drive_22 : decode cX0_drive 22 = .ok (.aload_n 0, 1) := by decide +kernel
theorem dX0_drive_23 : decode cX0_drive 23 = .ok (.iload 4, 2) := by decide +kernel
theorem dX0_drive_25 : decode cX0_drive 25 = .ok (.invokevirtual 36, 3) := by decide +kernel
theorem dX0_drive_28 : decode cX0_drive 28 = .ok (.iconst (-1), 1) := by decide +kernel
theorem dX0_drive_29 : decode cX0_drive 29 = .ok (.if_icmp .ne 4, 3) := by decide +kernel
theorem dX0_drive_32 : decode cX0_drive 32 = .ok (.return_, 1) := by decide +kernel
theorem dX0_drive_33 : decode cX0_drive 33 = .ok (.iinc 3 1, 3) := by decide +kernel
theorem dX0_drive_36 : decode cX0_drive 36 = .ok (.goto (-34), 3) := by decide +kernel
theorem dX0_drive_39 : decode cX0_drive 39 = .ok (.return_, 1) := by decide +kernel
theorem dX0_firstDriving_0 : decode cX0_firstDriving 0 = .ok (.iconst (-1), 1) := by decide +kernel
theorem dX0_firstDriving_1 : decode cX0_firstDriving 1 = .ok (.istore_n 3, 1) := by decide +kernel
theorem dX0_firstDriving_2 : decode cX0_firstDriving 2 = .ok (.iconst 0, 1) := by decide +kernel
theorem dX0_firstDriving_3 : decode cX0_firstDriving 3 = .ok (.istore 4, 2) := by decide +kernel
theorem dX0_firstDriving_5 : decode cX0_firstDriving 5 = .ok (.iload 4, 2) := by decide +kernel
theorem dX0_firstDriving_7 : decode cX0_firstDriving 7 = .ok (.aload_n 0, 1) := by decide +kernel
theorem dX0_firstDriving_8 : decode cX0_firstDriving 8 = .ok (.getfield 27, 3) := by decide +kernel
theorem dX0_firstDriving_11 : decode cX0_firstDriving 11 = .ok (.if_icmp .ge 48, 3) := by decide +kernel
theorem dX0_firstDriving_14 : decode cX0_firstDriving 14 = .ok (.iload_n 2, 1) := by decide +kernel
theorem dX0_firstDriving_15 : decode cX0_firstDriving 15 = .ok (.i2l, 1) := by decide +kernel
theorem dX0_firstDriving_16 : decode cX0_firstDriving 16 = .ok (.aload_n 0, 1) := by decide +kernel
theorem dX0_firstDriving_17 : decode cX0_firstDriving 17 = .ok (.iload_n 1, 1) := by decide +kernel
theorem dX0_firstDriving_18 : decode cX0_firstDriving 18 = .ok (.iload 4, 2) := by decide +kernel
theorem dX0_firstDriving_20 : decode cX0_firstDriving 20 = .ok (.invokevirtual 51, 3) := by decide +kernel
theorem dX0_firstDriving_23 : decode cX0_firstDriving 23 = .ok (.lmul, 1) := by decide +kernel
theorem dX0_firstDriving_24 : decode cX0_firstDriving 24 = .ok (.lconst 0, 1) := by decide +kernel
theorem dX0_firstDriving_25 : decode cX0_firstDriving 25 = .ok (.lcmp, 1) := by decide +kernel
theorem dX0_firstDriving_26 : decode cX0_firstDriving 26 = .ok (.ifCond .le 27, 3) := by decide +kernel
theorem dX0_firstDriving_29 : decode cX0_firstDriving 29 = .ok (.iload_n 3, 1) := by decide +kernel
theorem dX0_firstDriving_30 : decode cX0_firstDriving 30 = .ok (.iconst (-1), 1) := by decide +kernel
theorem dX0_firstDriving_31 : decode cX0_firstDriving 31 = .ok (.if_icmp .eq 19, 3) := by decide +kernel
theorem dX0_firstDriving_34 : decode cX0_firstDriving 34 = .ok (.aload_n 0, 1) := by decide +kernel
theorem dX0_firstDriving_35 : decode cX0_firstDriving 35 = .ok (.getfield 20, 3) := by decide +kernel
theorem dX0_firstDriving_38 : decode cX0_firstDriving 38 = .ok (.iload 4, 2) := by decide +kernel
theorem dX0_firstDriving_40 : decode cX0_firstDriving 40 = .ok (.iaload, 1) := by decide +kernel
theorem dX0_firstDriving_41 : decode cX0_firstDriving 41 = .ok (.aload_n 0, 1) := by decide +kernel
theorem dX0_firstDriving_42 : decode cX0_firstDriving 42 = .ok (.getfield 20, 3) := by decide +kernel
theorem dX0_firstDriving_45 : decode cX0_firstDriving 45 = .ok (.iload_n 3, 1) := by decide +kernel
theorem dX0_firstDriving_46 : decode cX0_firstDriving 46 = .ok (.iaload, 1) := by decide +kernel
theorem dX0_firstDriving_47 : decode cX0_firstDriving 47 = .ok (.if_icmp .ge 6, 3) := by decide +kernel
theorem dX0_firstDriving_50 : decode cX0_firstDriving 50 = .ok (.iload 4, 2) := by decide +kernel
theorem dX0_firstDriving_52 : decode cX0_firstDriving 52 = .ok (.istore_n 3, 1) := by decide +kernel
theorem dX0_firstDriving_53 : decode cX0_firstDriving 53 = .ok (.iinc 4 1, 3) := by decide +kernel
theorem dX0_firstDriving_56 : decode cX0_firstDriving 56 = .ok (.goto (-51), 3) := by decide +kernel
theorem dX0_firstDriving_59 : decode cX0_firstDriving 59 = .ok (.iload_n 3, 1) := by decide +kernel
theorem dX0_firstDriving_60 : decode cX0_firstDriving 60 = .ok (.ireturn, 1) := by decide +kernel
theorem dX0_firstStopping_0 : decode cX0_firstStopping 0 = .ok (.iconst (-1), 1) := by decide +kernel
theorem dX0_firstStopping_1 : decode cX0_firstStopping 1 = .ok (.istore_n 2, 1) := by decide +kernel
theorem dX0_firstStopping_2 : decode cX0_firstStopping 2 = .ok (.iconst 0, 1) := by decide +kernel
theorem dX0_firstStopping_3 : decode cX0_firstStopping 3 = .ok (.istore_n 3, 1) := by decide +kernel
theorem dX0_firstStopping_4 : decode cX0_firstStopping 4 = .ok (.iload_n 3, 1) := by decide +kernel
theorem dX0_firstStopping_5 : decode cX0_firstStopping 5 = .ok (.aload_n 0, 1) := by decide +kernel
theorem dX0_firstStopping_6 : decode cX0_firstStopping 6 = .ok (.getfield 23, 3) := by decide +kernel
theorem dX0_firstStopping_9 : decode cX0_firstStopping 9 = .ok (.if_icmp .ge 46, 3) := by decide +kernel
theorem dX0_firstStopping_12 : decode cX0_firstStopping 12 = .ok (.aload_n 0, 1) := by decide +kernel
theorem dX0_firstStopping_13 : decode cX0_firstStopping 13 = .ok (.getfield 16, 3) := by decide +kernel
theorem dX0_firstStopping_16 : decode cX0_firstStopping 16 = .ok (.iload_n 3, 1) := by decide +kernel
theorem dX0_firstStopping_17 : decode cX0_firstStopping 17 = .ok (.iaload, 1) := by decide +kernel
theorem dX0_firstStopping_18 : decode cX0_firstStopping 18 = .ok (.ifCond .le 31, 3) := by decide +kernel
theorem dX0_firstStopping_21 : decode cX0_firstStopping 21 = .ok (.aload_n 0, 1) := by decide +kernel
theorem dX0_firstStopping_22 : decode cX0_firstStopping 22 = .ok (.iload_n 3, 1) := by decide +kernel
theorem dX0_firstStopping_23 : decode cX0_firstStopping 23 = .ok (.iload_n 1, 1) := by decide +kernel
theorem dX0_firstStopping_24 : decode cX0_firstStopping 24 = .ok (.invokevirtual 51, 3) := by decide +kernel
theorem dX0_firstStopping_27 : decode cX0_firstStopping 27 = .ok (.lconst 0, 1) := by decide +kernel
theorem dX0_firstStopping_28 : decode cX0_firstStopping 28 = .ok (.lcmp, 1) := by decide +kernel
theorem dX0_firstStopping_29 : decode cX0_firstStopping 29 = .ok (.ifCond .ge 20, 3) := by decide +kernel
theorem dX0_firstStopping_32 : decode cX0_firstStopping 32 = .ok (.iload_n 2, 1) := by decide +kernel
theorem dX0_firstStopping_33 : decode cX0_firstStopping 33 = .ok (.iconst (-1), 1) := by decide +kernel
theorem dX0_firstStopping_34 : decode cX0_firstStopping 34 = .ok (.if_icmp .eq 13, 3) := by decide +kernel
theorem dX0_firstStopping_37 : decode cX0_firstStopping 37 = .ok (.aload_n 0, 1) := by decide +kernel
theorem dX0_firstStopping_38 : decode cX0_firstStopping 38 = .ok (.iload_n 3, 1) := by decide +kernel
theorem dX0_firstStopping_39 : decode cX0_firstStopping 39 = .ok (.iload_n 2, 1) := by decide +kernel
theorem dX0_firstStopping_40 : decode cX0_firstStopping 40 = .ok (.iload_n 1, 1) := by decide +kernel
theorem dX0_firstStopping_41 : decode cX0_firstStopping 41 = .ok (.invokevirtual 55, 3) := by decide +kernel
theorem dX0_firstStopping_44 : decode cX0_firstStopping 44 = .ok (.ifCond .eq 5, 3) := by decide +kernel
theorem dX0_firstStopping_47 : decode cX0_firstStopping 47 = .ok (.iload_n 3, 1) := by decide +kernel
theorem dX0_firstStopping_48 : decode cX0_firstStopping 48 = .ok (.istore_n 2, 1) := by decide +kernel
theorem dX0_firstStopping_49 : decode cX0_firstStopping 49 = .ok (.iinc 3 1, 3) := by decide +kernel
theorem dX0_firstStopping_52 : decode cX0_firstStopping 52 = .ok (.goto (-48), 3) := by decide +kernel
theorem dX0_firstStopping_55 : decode cX0_firstStopping 55 = .ok (.iload_n 2, 1) := by decide +kernel
theorem dX0_firstStopping_56 : decode cX0_firstStopping 56 = .ok (.ireturn, 1) := by decide +kernel
theorem dX0_stopsAhead_0 : decode cX0_stopsAhead 0 = .ok (.aload_n 0, 1) := by decide +kernel
theorem dX0_stopsAhead_1 : decode cX0_stopsAhead 1 = .ok (.iload_n 1, 1) := by decide +kernel
theorem dX0_stopsAhead_2 : decode cX0_stopsAhead 2 = .ok (.invokevirtual 59, 3) := by decide +kernel
theorem dX0_stopsAhead_5 : decode cX0_stopsAhead 5 = .ok (.aload_n 0, 1) := by decide +kernel
theorem dX0_stopsAhead_6 : decode cX0_stopsAhead 6 = .ok (.iload_n 2, 1) := by decide +kernel
theorem dX0_stopsAhead_7 : decode cX0_stopsAhead 7 = .ok (.iload_n 3, 1) := by decide +kernel
theorem dX0_stopsAhead_8 : decode cX0_stopsAhead 8 = .ok (.invokevirtual 51, 3) := by decide +kernel
theorem dX0_stopsAhead_11 : decode cX0_stopsAhead 11 = .ok (.lneg, 1) := by decide +kernel
theorem dX0_stopsAhead_12 : decode cX0_stopsAhead 12 = .ok (.lmul, 1) := by decide +kernel
theorem dX0_stopsAhead_13 : decode cX0_stopsAhead 13 = .ok (.lstore 4, 2) := by decide +kernel
theorem dX0_stopsAhead_15 : decode cX0_stopsAhead 15 = .ok (.aload_n 0, 1) := by decide +kernel
theorem dX0_stopsAhead_16 : decode cX0_stopsAhead 16 = .ok (.iload_n 2, 1) := by decide +kernel
theorem dX0_stopsAhead_17 : decode cX0_stopsAhead 17 = .ok (.invokevirtual 59, 3) := by decide +kernel
theorem dX0_stopsAhead_20 : decode cX0_stopsAhead 20 = .ok (.aload_n 0, 1) := by decide +kernel
theorem dX0_stopsAhead_21 : decode cX0_stopsAhead 21 = .ok (.iload_n 1, 1) := by decide +kernel
theorem dX0_stopsAhead_22 : decode cX0_stopsAhead 22 = .ok (.iload_n 3, 1) := by decide +kernel
theorem dX0_stopsAhead_23 : decode cX0_stopsAhead 23 = .ok (.invokevirtual 51, 3) := by decide +kernel
theorem dX0_stopsAhead_26 : decode cX0_stopsAhead 26 = .ok (.lneg, 1) := by decide +kernel
theorem dX0_stopsAhead_27 : decode cX0_stopsAhead 27 = .ok (.lmul, 1) := by decide +kernel
theorem dX0_stopsAhead_28 : decode cX0_stopsAhead 28 = .ok (.lstore 6, 2) := by decide +kernel
theorem dX0_stopsAhead_30 : decode cX0_stopsAhead 30 = .ok (.lload 4, 2) := by decide +kernel
theorem dX0_stopsAhead_32 : decode cX0_stopsAhead 32 = .ok (.lload 6, 2) := by decide +kernel
theorem dX0_stopsAhead_34 : decode cX0_stopsAhead 34 = .ok (.lcmp, 1) := by decide +kernel
theorem dX0_stopsAhead_35 : decode cX0_stopsAhead 35 = .ok (.ifCond .lt 26, 3) := by decide +kernel
theorem dX0_stopsAhead_38 : decode cX0_stopsAhead 38 = .ok (.lload 4, 2) := by decide +kernel
theorem dX0_stopsAhead_40 : decode cX0_stopsAhead 40 = .ok (.lload 6, 2) := by decide +kernel
theorem dX0_stopsAhead_42 : decode cX0_stopsAhead 42 = .ok (.lcmp, 1) := by decide +kernel
theorem dX0_stopsAhead_43 : decode cX0_stopsAhead 43 = .ok (.ifCond .ne 22, 3) := by decide +kernel
theorem dX0_stopsAhead_46 : decode cX0_stopsAhead 46 = .ok (.aload_n 0, 1) := by decide +kernel
theorem dX0_stopsAhead_47 : decode cX0_stopsAhead 47 = .ok (.getfield 16, 3) := by decide +kernel
theorem dX0_stopsAhead_50 : decode cX0_stopsAhead 50 = .ok (.iload_n 1, 1) := by decide +kernel
theorem dX0_stopsAhead_51 : decode cX0_stopsAhead 51 = .ok (.iaload, 1) := by decide +kernel
theorem dX0_stopsAhead_52 : decode cX0_stopsAhead 52 = .ok (.aload_n 0, 1) := by decide +kernel
theorem dX0_stopsAhead_53 : decode cX0_stopsAhead 53 = .ok (.getfield 16, 3) := by decide +kernel
theorem dX0_stopsAhead_56 : decode cX0_stopsAhead 56 = .ok (.iload_n 2, 1) := by decide +kernel
theorem dX0_stopsAhead_57 : decode cX0_stopsAhead 57 = .ok (.iaload, 1) := by decide +kernel
theorem dX0_stopsAhead_58 : decode cX0_stopsAhead 58 = .ok (.if_icmp .ge 7, 3) := by decide +kernel
theorem dX0_stopsAhead_61 : decode cX0_stopsAhead 61 = .ok (.iconst 1, 1) := by decide +kernel
theorem dX0_stopsAhead_62 : decode cX0_stopsAhead 62 = .ok (.goto 4, 3) := by decide +kernel
theorem dX0_stopsAhead_65 : decode cX0_stopsAhead 65 = .ok (.iconst 0, 1) := by decide +kernel
theorem dX0_stopsAhead_66 : decode cX0_stopsAhead 66 = .ok (.ireturn, 1) := by decide +kernel
theorem dX0_exchange_0 : decode cX0_exchange 0 = .ok (.aload_n 0, 1) := by decide +kernel
theorem dX0_exchange_1 : decode cX0_exchange 1 = .ok (.iload_n 1, 1) := by decide +kernel
theorem dX0_exchange_2 : decode cX0_exchange 2 = .ok (.iload_n 2, 1) := by decide +kernel
theorem dX0_exchange_3 : decode cX0_exchange 3 = .ok (.invokevirtual 51, 3) := by decide +kernel
theorem dX0_exchange_6 : decode cX0_exchange 6 = .ok (.lconst 0, 1) := by decide +kernel
theorem dX0_exchange_7 : decode cX0_exchange 7 = .ok (.lcmp, 1) := by decide +kernel
theorem dX0_exchange_8 : decode cX0_exchange 8 = .ok (.ifCond .lt 4, 3) := by decide +kernel
theorem dX0_exchange_11 : decode cX0_exchange 11 = .ok (.return_, 1) := by decide +kernel
theorem dX0_exchange_12 : decode cX0_exchange 12 = .ok (.aload_n 0, 1) := by decide +kernel
theorem dX0_exchange_13 : decode cX0_exchange 13 = .ok (.aload_n 0, 1) := by decide +kernel
theorem dX0_exchange_14 : decode cX0_exchange 14 = .ok (.getfield 13, 3) := by decide +kernel
theorem dX0_exchange_17 : decode cX0_exchange 17 = .ok (.iload_n 1, 1) := by decide +kernel
theorem dX0_exchange_18 : decode cX0_exchange 18 = .ok (.aaload, 1) := by decide +kernel
theorem dX0_exchange_19 : decode cX0_exchange 19 = .ok (.iconst 2, 1) := by decide +kernel
theorem dX0_exchange_20 : decode cX0_exchange 20 = .ok (.iload_n 2, 1) := by decide +kernel
theorem dX0_exchange_21 : decode cX0_exchange 21 = .ok (.iadd, 1) := by decide +kernel
theorem dX0_exchange_22 : decode cX0_exchange 22 = .ok (.invokevirtual 63, 3) := by decide +kernel
theorem dX0_exchange_25 : decode cX0_exchange 25 = .ok (.aload_n 0, 1) := by decide +kernel
theorem dX0_exchange_26 : decode cX0_exchange 26 = .ok (.aload_n 0, 1) := by decide +kernel
theorem dX0_exchange_27 : decode cX0_exchange 27 = .ok (.getfield 13, 3) := by decide +kernel
theorem dX0_exchange_30 : decode cX0_exchange 30 = .ok (.iload_n 1, 1) := by decide +kernel
theorem dX0_exchange_31 : decode cX0_exchange 31 = .ok (.aaload, 1) := by decide +kernel
theorem dX0_exchange_32 : decode cX0_exchange 32 = .ok (.invokevirtual 67, 3) := by decide +kernel
theorem dX0_exchange_35 : decode cX0_exchange 35 = .ok (.iconst 0, 1) := by decide +kernel
theorem dX0_exchange_36 : decode cX0_exchange 36 = .ok (.istore_n 3, 1) := by decide +kernel
theorem dX0_exchange_37 : decode cX0_exchange 37 = .ok (.iload_n 3, 1) := by decide +kernel
theorem dX0_exchange_38 : decode cX0_exchange 38 = .ok (.aload_n 0, 1) := by decide +kernel
theorem dX0_exchange_39 : decode cX0_exchange 39 = .ok (.getfield 23, 3) := by decide +kernel
theorem dX0_exchange_42 : decode cX0_exchange 42 = .ok (.if_icmp .ge 54, 3) := by decide +kernel
theorem dX0_exchange_45 : decode cX0_exchange 45 = .ok (.iload_n 3, 1) := by decide +kernel
theorem dX0_exchange_46 : decode cX0_exchange 46 = .ok (.iload_n 1, 1) := by decide +kernel
theorem dX0_exchange_47 : decode cX0_exchange 47 = .ok (.if_icmp .eq 43, 3) := by decide +kernel
theorem dX0_exchange_50 : decode cX0_exchange 50 = .ok (.aload_n 0, 1) := by decide +kernel
theorem dX0_exchange_51 : decode cX0_exchange 51 = .ok (.iload_n 3, 1) := by decide +kernel
theorem dX0_exchange_52 : decode cX0_exchange 52 = .ok (.iload_n 2, 1) := by decide +kernel
theorem dX0_exchange_53 : decode cX0_exchange 53 = .ok (.invokevirtual 51, 3) := by decide +kernel
theorem dX0_exchange_56 : decode cX0_exchange 56 = .ok (.lconst 0, 1) := by decide +kernel
theorem dX0_exchange_57 : decode cX0_exchange 57 = .ok (.lcmp, 1) := by decide +kernel
theorem dX0_exchange_58 : decode cX0_exchange 58 = .ok (.ifCond .eq 32, 3) := by decide +kernel
theorem dX0_exchange_61 : decode cX0_exchange 61 = .ok (.aload_n 0, 1) := by decide +kernel
theorem dX0_exchange_62 : decode cX0_exchange 62 = .ok (.aload_n 0, 1) := by decide +kernel
theorem dX0_exchange_63 : decode cX0_exchange 63 = .ok (.getfield 13, 3) := by decide +kernel
theorem dX0_exchange_66 : decode cX0_exchange 66 = .ok (.iload_n 3, 1) := by decide +kernel
theorem dX0_exchange_67 : decode cX0_exchange 67 = .ok (.aaload, 1) := by decide +kernel
theorem dX0_exchange_68 : decode cX0_exchange 68 = .ok (.aload_n 0, 1) := by decide +kernel
theorem dX0_exchange_69 : decode cX0_exchange 69 = .ok (.getfield 13, 3) := by decide +kernel
theorem dX0_exchange_72 : decode cX0_exchange 72 = .ok (.iload_n 1, 1) := by decide +kernel
theorem dX0_exchange_73 : decode cX0_exchange 73 = .ok (.aaload, 1) := by decide +kernel
theorem dX0_exchange_74 : decode cX0_exchange 74 = .ok (.iconst 2, 1) := by decide +kernel
theorem dX0_exchange_75 : decode cX0_exchange 75 = .ok (.iload_n 2, 1) := by decide +kernel
theorem dX0_exchange_76 : decode cX0_exchange 76 = .ok (.iadd, 1) := by decide +kernel
theorem dX0_exchange_77 : decode cX0_exchange 77 = .ok (.invokevirtual 71, 3) := by decide +kernel
theorem dX0_exchange_80 : decode cX0_exchange 80 = .ok (.aload_n 0, 1) := by decide +kernel
theorem dX0_exchange_81 : decode cX0_exchange 81 = .ok (.aload_n 0, 1) := by decide +kernel
theorem dX0_exchange_82 : decode cX0_exchange 82 = .ok (.getfield 13, 3) := by decide +kernel
theorem dX0_exchange_85 : decode cX0_exchange 85 = .ok (.iload_n 3, 1) := by decide +kernel
theorem dX0_exchange_86 : decode cX0_exchange 86 = .ok (.aaload, 1) := by decide +kernel
theorem dX0_exchange_87 : decode cX0_exchange 87 = .ok (.invokevirtual 67, 3) := by decide +kernel
theorem dX0_exchange_90 : decode cX0_exchange 90 = .ok (.iinc 3 1, 3) := by decide +kernel
theorem dX0_exchange_93 : decode cX0_exchange 93 = .ok (.goto (-56), 3) := by decide +kernel
theorem dX0_exchange_96 : decode cX0_exchange 96 = .ok (.aload_n 0, 1) := by decide +kernel
theorem dX0_exchange_97 : decode cX0_exchange 97 = .ok (.getfield 16, 3) := by decide +kernel
theorem dX0_exchange_100 : decode cX0_exchange 100 = .ok (.iload_n 1, 1) := by decide +kernel
theorem dX0_exchange_101 : decode cX0_exchange 101 = .ok (.iaload, 1) := by decide +kernel
theorem dX0_exchange_102 : decode cX0_exchange 102 = .ok (.istore_n 3, 1) := by decide +kernel
theorem dX0_exchange_103 : decode cX0_exchange 103 = .ok (.aload_n 0, 1) := by decide +kernel
theorem dX0_exchange_104 : decode cX0_exchange 104 = .ok (.getfield 16, 3) := by decide +kernel
theorem dX0_exchange_107 : decode cX0_exchange 107 = .ok (.iload_n 1, 1) := by decide +kernel
theorem dX0_exchange_108 : decode cX0_exchange 108 = .ok (.aload_n 0, 1) := by decide +kernel
theorem dX0_exchange_109 : decode cX0_exchange 109 = .ok (.getfield 20, 3) := by decide +kernel
theorem dX0_exchange_112 : decode cX0_exchange 112 = .ok (.iload_n 2, 1) := by decide +kernel
theorem dX0_exchange_113 : decode cX0_exchange 113 = .ok (.iaload, 1) := by decide +kernel
theorem dX0_exchange_114 : decode cX0_exchange 114 = .ok (.iastore, 1) := by decide +kernel
theorem dX0_exchange_115 : decode cX0_exchange 115 = .ok (.aload_n 0, 1) := by decide +kernel
theorem dX0_exchange_116 : decode cX0_exchange 116 = .ok (.getfield 20, 3) := by decide +kernel
theorem dX0_exchange_119 : decode cX0_exchange 119 = .ok (.iload_n 2, 1) := by decide +kernel
theorem dX0_exchange_120 : decode cX0_exchange 120 = .ok (.iload_n 3, 1) := by decide +kernel
theorem dX0_exchange_121 : decode cX0_exchange 121 = .ok (.iastore, 1) := by decide +kernel
theorem dX0_exchange_122 : decode cX0_exchange 122 = .ok (.return_, 1) := by decide +kernel
theorem dX0_turnRow_0 : decode cX0_turnRow 0 = .ok (.aload_n 1, 1) := by decide +kernel
theorem dX0_turnRow_1 : decode cX0_turnRow 1 = .ok (.iconst 0, 1) := by decide +kernel
theorem dX0_turnRow_2 : decode cX0_turnRow 2 = .ok (.laload, 1) := by decide +kernel
theorem dX0_turnRow_3 : decode cX0_turnRow 3 = .ok (.lstore_n 3, 1) := by decide +kernel
theorem dX0_turnRow_4 : decode cX0_turnRow 4 = .ok (.aload_n 1, 1) := by decide +kernel
theorem dX0_turnRow_5 : decode cX0_turnRow 5 = .ok (.iconst 0, 1) := by decide +kernel
theorem dX0_turnRow_6 : decode cX0_turnRow 6 = .ok (.aload_n 1, 1) := by decide +kernel
theorem dX0_turnRow_7 : decode cX0_turnRow 7 = .ok (.iload_n 2, 1) := by decide +kernel
theorem dX0_turnRow_8 : decode cX0_turnRow 8 = .ok (.laload, 1) := by decide +kernel
theorem dX0_turnRow_9 : decode cX0_turnRow 9 = .ok (.lneg, 1) := by decide +kernel
theorem dX0_turnRow_10 : decode cX0_turnRow 10 = .ok (.lastore, 1) := by decide +kernel
theorem dX0_turnRow_11 : decode cX0_turnRow 11 = .ok (.aload_n 1, 1) := by decide +kernel
theorem dX0_turnRow_12 : decode cX0_turnRow 12 = .ok (.iload_n 2, 1) := by decide +kernel
theorem dX0_turnRow_13 : decode cX0_turnRow 13 = .ok (.lload_n 3, 1) := by decide +kernel
theorem dX0_turnRow_14 : decode cX0_turnRow 14 = .ok (.lneg, 1) := by decide +kernel
theorem dX0_turnRow_15 : decode cX0_turnRow 15 = .ok (.lastore, 1) := by decide +kernel
theorem dX0_turnRow_16 : decode cX0_turnRow 16 = .ok (.return_, 1) := by decide +kernel
theorem dX0_replaceColumn_0 : decode cX0_replaceColumn 0 = .ok (.aload_n 1, 1) := by decide +kernel
theorem dX0_replaceColumn_1 : decode cX0_replaceColumn 1 = .ok (.iload_n 3, 1) := by decide +kernel
theorem dX0_replaceColumn_2 : decode cX0_replaceColumn 2 = .ok (.laload, 1) := by decide +kernel
theorem dX0_replaceColumn_3 : decode cX0_replaceColumn 3 = .ok (.lstore 4, 2) := by decide +kernel
theorem dX0_replaceColumn_5 : decode cX0_replaceColumn 5 = .ok (.aload_n 1, 1) := by decide +kernel
theorem dX0_replaceColumn_6 : decode cX0_replaceColumn 6 = .ok (.iload_n 3, 1) := by decide +kernel
theorem dX0_replaceColumn_7 : decode cX0_replaceColumn 7 = .ok (.lconst 0, 1) := by decide +kernel
theorem dX0_replaceColumn_8 : decode cX0_replaceColumn 8 = .ok (.lastore, 1) := by decide +kernel
theorem dX0_replaceColumn_9 : decode cX0_replaceColumn 9 = .ok (.aload_n 1, 1) := by decide +kernel
theorem dX0_replaceColumn_10 : decode cX0_replaceColumn 10 = .ok (.iconst 0, 1) := by decide +kernel
theorem dX0_replaceColumn_11 : decode cX0_replaceColumn 11 = .ok (.dup2, 1) := by decide +kernel
theorem dX0_replaceColumn_12 : decode cX0_replaceColumn 12 = .ok (.laload, 1) := by decide +kernel
theorem dX0_replaceColumn_13 : decode cX0_replaceColumn 13 = .ok (.aload_n 2, 1) := by decide +kernel
theorem dX0_replaceColumn_14 : decode cX0_replaceColumn 14 = .ok (.iconst 0, 1) := by decide +kernel
theorem dX0_replaceColumn_15 : decode cX0_replaceColumn 15 = .ok (.laload, 1) := by decide +kernel
theorem dX0_replaceColumn_16 : decode cX0_replaceColumn 16 = .ok (.lmul, 1) := by decide +kernel
theorem dX0_replaceColumn_17 : decode cX0_replaceColumn 17 = .ok (.lastore, 1) := by decide +kernel
theorem dX0_replaceColumn_18 : decode cX0_replaceColumn 18 = .ok (.iconst 1, 1) := by decide +kernel
theorem dX0_replaceColumn_19 : decode cX0_replaceColumn 19 = .ok (.istore 6, 2) := by decide +kernel
theorem dX0_replaceColumn_21 : decode cX0_replaceColumn 21 = .ok (.iload 6, 2) := by decide +kernel
theorem dX0_replaceColumn_23 : decode cX0_replaceColumn 23 = .ok (.iconst 2, 1) := by decide +kernel
theorem dX0_replaceColumn_24 : decode cX0_replaceColumn 24 = .ok (.aload_n 0, 1) := by decide +kernel
theorem dX0_replaceColumn_25 : decode cX0_replaceColumn 25 = .ok (.getfield 27, 3) := by decide +kernel
theorem dX0_replaceColumn_28 : decode cX0_replaceColumn 28 = .ok (.iadd, 1) := by decide +kernel
theorem dX0_replaceColumn_29 : decode cX0_replaceColumn 29 = .ok (.if_icmp .ge 29, 3) := by decide +kernel
theorem dX0_replaceColumn_32 : decode cX0_replaceColumn 32 = .ok (.aload_n 1, 1) := by decide +kernel
theorem dX0_replaceColumn_33 : decode cX0_replaceColumn 33 = .ok (.iload 6, 2) := by decide +kernel
theorem dX0_replaceColumn_35 : decode cX0_replaceColumn 35 = .ok (.aload_n 1, 1) := by decide +kernel
theorem dX0_replaceColumn_36 : decode cX0_replaceColumn 36 = .ok (.iload 6, 2) := by decide +kernel
theorem dX0_replaceColumn_38 : decode cX0_replaceColumn 38 = .ok (.laload, 1) := by decide +kernel
theorem dX0_replaceColumn_39 : decode cX0_replaceColumn 39 = .ok (.aload_n 2, 1) := by decide +kernel
theorem dX0_replaceColumn_40 : decode cX0_replaceColumn 40 = .ok (.iconst 0, 1) := by decide +kernel
theorem dX0_replaceColumn_41 : decode cX0_replaceColumn 41 = .ok (.laload, 1) := by decide +kernel
theorem dX0_replaceColumn_42 : decode cX0_replaceColumn 42 = .ok (.lmul, 1) := by decide +kernel
theorem dX0_replaceColumn_43 : decode cX0_replaceColumn 43 = .ok (.lload 4, 2) := by decide +kernel
theorem dX0_replaceColumn_45 : decode cX0_replaceColumn 45 = .ok (.aload_n 2, 1) := by decide +kernel
theorem dX0_replaceColumn_46 : decode cX0_replaceColumn 46 = .ok (.iload 6, 2) := by decide +kernel
theorem dX0_replaceColumn_48 : decode cX0_replaceColumn 48 = .ok (.laload, 1) := by decide +kernel
theorem dX0_replaceColumn_49 : decode cX0_replaceColumn 49 = .ok (.lmul, 1) := by decide +kernel
theorem dX0_replaceColumn_50 : decode cX0_replaceColumn 50 = .ok (.ladd, 1) := by decide +kernel
theorem dX0_replaceColumn_51 : decode cX0_replaceColumn 51 = .ok (.lastore, 1) := by decide +kernel
theorem dX0_replaceColumn_52 : decode cX0_replaceColumn 52 = .ok (.iinc 6 1, 3) := by decide +kernel
theorem dX0_replaceColumn_55 : decode cX0_replaceColumn 55 = .ok (.goto (-34), 3) := by decide +kernel
theorem dX0_replaceColumn_58 : decode cX0_replaceColumn 58 = .ok (.return_, 1) := by decide +kernel
theorem dX0_shorten_0 : decode cX0_shorten 0 = .ok (.aload_n 1, 1) := by decide +kernel
theorem dX0_shorten_1 : decode cX0_shorten 1 = .ok (.iconst 0, 1) := by decide +kernel
theorem dX0_shorten_2 : decode cX0_shorten 2 = .ok (.laload, 1) := by decide +kernel
theorem dX0_shorten_3 : decode cX0_shorten 3 = .ok (.lstore_n 2, 1) := by decide +kernel
theorem dX0_shorten_4 : decode cX0_shorten 4 = .ok (.iconst 1, 1) := by decide +kernel
theorem dX0_shorten_5 : decode cX0_shorten 5 = .ok (.istore 4, 2) := by decide +kernel
theorem dX0_shorten_7 : decode cX0_shorten 7 = .ok (.iload 4, 2) := by decide +kernel
theorem dX0_shorten_9 : decode cX0_shorten 9 = .ok (.iconst 2, 1) := by decide +kernel
theorem dX0_shorten_10 : decode cX0_shorten 10 = .ok (.aload_n 0, 1) := by decide +kernel
theorem dX0_shorten_11 : decode cX0_shorten 11 = .ok (.getfield 27, 3) := by decide +kernel
theorem dX0_shorten_14 : decode cX0_shorten 14 = .ok (.iadd, 1) := by decide +kernel
theorem dX0_shorten_15 : decode cX0_shorten 15 = .ok (.if_icmp .ge 24, 3) := by decide +kernel
theorem dX0_shorten_18 : decode cX0_shorten 18 = .ok (.lload_n 2, 1) := by decide +kernel
theorem dX0_shorten_19 : decode cX0_shorten 19 = .ok (.lconst 1, 1) := by decide +kernel
theorem dX0_shorten_20 : decode cX0_shorten 20 = .ok (.lcmp, 1) := by decide +kernel
theorem dX0_shorten_21 : decode cX0_shorten 21 = .ok (.ifCond .eq 18, 3) := by decide +kernel
theorem dX0_shorten_24 : decode cX0_shorten 24 = .ok (.lload_n 2, 1) := by decide +kernel
theorem dX0_shorten_25 : decode cX0_shorten 25 = .ok (.aload_n 1, 1) := by decide +kernel
theorem dX0_shorten_26 : decode cX0_shorten 26 = .ok (.iload 4, 2) := by decide +kernel
theorem dX0_shorten_28 : decode cX0_shorten 28 = .ok (.laload, 1) := by decide +kernel
theorem dX0_shorten_29 : decode cX0_shorten 29 = .ok (.invokestatic 75, 3) := by decide +kernel
theorem dX0_shorten_32 : decode cX0_shorten 32 = .ok (.lstore_n 2, 1) := by decide +kernel
theorem dX0_shorten_33 : decode cX0_shorten 33 = .ok (.iinc 4 1, 3) := by decide +kernel
theorem dX0_shorten_36 : decode cX0_shorten 36 = .ok (.goto (-29), 3) := by decide +kernel
theorem dX0_shorten_39 : decode cX0_shorten 39 = .ok (.lload_n 2, 1) := by decide +kernel
theorem dX0_shorten_40 : decode cX0_shorten 40 = .ok (.lconst 1, 1) := by decide +kernel
theorem dX0_shorten_41 : decode cX0_shorten 41 = .ok (.lcmp, 1) := by decide +kernel
theorem dX0_shorten_42 : decode cX0_shorten 42 = .ok (.ifCond .le 31, 3) := by decide +kernel
theorem dX0_shorten_45 : decode cX0_shorten 45 = .ok (.iconst 0, 1) := by decide +kernel
theorem dX0_shorten_46 : decode cX0_shorten 46 = .ok (.istore 4, 2) := by decide +kernel
theorem dX0_shorten_48 : decode cX0_shorten 48 = .ok (.iload 4, 2) := by decide +kernel
theorem dX0_shorten_50 : decode cX0_shorten 50 = .ok (.iconst 2, 1) := by decide +kernel
theorem dX0_shorten_51 : decode cX0_shorten 51 = .ok (.aload_n 0, 1) := by decide +kernel
theorem dX0_shorten_52 : decode cX0_shorten 52 = .ok (.getfield 27, 3) := by decide +kernel
theorem dX0_shorten_55 : decode cX0_shorten 55 = .ok (.iadd, 1) := by decide +kernel
theorem dX0_shorten_56 : decode cX0_shorten 56 = .ok (.if_icmp .ge 17, 3) := by decide +kernel
theorem dX0_shorten_59 : decode cX0_shorten 59 = .ok (.aload_n 1, 1) := by decide +kernel
theorem dX0_shorten_60 : decode cX0_shorten 60 = .ok (.iload 4, 2) := by decide +kernel
theorem dX0_shorten_62 : decode cX0_shorten 62 = .ok (.dup2, 1) := by decide +kernel
theorem dX0_shorten_63 : decode cX0_shorten 63 = .ok (.laload, 1) := by decide +kernel
theorem dX0_shorten_64 : decode cX0_shorten 64 = .ok (.lload_n 2, 1) := by decide +kernel
theorem dX0_shorten_65 : decode cX0_shorten 65 = .ok (.ldiv, 1) := by decide +kernel
theorem dX0_shorten_66 : decode cX0_shorten 66 = .ok (.lastore, 1) := by decide +kernel
theorem dX0_shorten_67 : decode cX0_shorten 67 = .ok (.iinc 4 1, 3) := by decide +kernel
theorem dX0_shorten_70 : decode cX0_shorten 70 = .ok (.goto (-22), 3) := by decide +kernel
theorem dX0_shorten_73 : decode cX0_shorten 73 = .ok (.return_, 1) := by decide +kernel
theorem dX0_freeze_0 : decode cX0_freeze 0 = .ok (.aload_n 0, 1) := by decide +kernel
theorem dX0_freeze_1 : decode cX0_freeze 1 = .ok (.getfield 27, 3) := by decide +kernel
theorem dX0_freeze_4 : decode cX0_freeze 4 = .ok (.iconst 1, 1) := by decide +kernel
theorem dX0_freeze_5 : decode cX0_freeze 5 = .ok (.isub, 1) := by decide +kernel
theorem dX0_freeze_6 : decode cX0_freeze 6 = .ok (.istore_n 2, 1) := by decide +kernel
theorem dX0_freeze_7 : decode cX0_freeze 7 = .ok (.iload_n 2, 1) := by decide +kernel
theorem dX0_freeze_8 : decode cX0_freeze 8 = .ok (.ifCond .lt 25, 3) := by decide +kernel
theorem dX0_freeze_11 : decode cX0_freeze 11 = .ok (.aload_n 0, 1) := by decide +kernel
theorem dX0_freeze_12 : decode cX0_freeze 12 = .ok (.iload_n 1, 1) := by decide +kernel
theorem dX0_freeze_13 : decode cX0_freeze 13 = .ok (.iload_n 2, 1) := by decide +kernel
theorem dX0_freeze_14 : decode cX0_freeze 14 = .ok (.invokevirtual 51, 3) := by decide +kernel
theorem dX0_freeze_17 : decode cX0_freeze 17 = .ok (.lconst 0, 1) := by decide +kernel
theorem dX0_freeze_18 : decode cX0_freeze 18 = .ok (.lcmp, 1) := by decide +kernel
theorem dX0_freeze_19 : decode cX0_freeze 19 = .ok (.ifCond .eq 8, 3) := by decide +kernel
theorem dX0_freeze_22 : decode cX0_freeze 22 = .ok (.aload_n 0, 1) := by decide +kernel
theorem dX0_freeze_23 : decode cX0_freeze 23 = .ok (.iload_n 2, 1) := by decide +kernel
theorem dX0_freeze_24 : decode cX0_freeze 24 = .ok (.invokevirtual 79, 3) := by decide +kernel
theorem dX0_freeze_27 : decode cX0_freeze 27 = .ok (.iinc 2 (-1), 3) := by decide +kernel
theorem dX0_freeze_30 : decode cX0_freeze 30 = .ok (.goto (-23), 3) := by decide +kernel
theorem dX0_freeze_33 : decode cX0_freeze 33 = .ok (.return_, 1) := by decide +kernel
theorem dX0_removeColumn_0 : decode cX0_removeColumn 0 = .ok (.iload_n 1, 1) := by decide +kernel
theorem dX0_removeColumn_1 : decode cX0_removeColumn 1 = .ok (.iconst 1, 1) := by decide +kernel
theorem dX0_removeColumn_2 : decode cX0_removeColumn 2 = .ok (.iadd, 1) := by decide +kernel
theorem dX0_removeColumn_3 : decode cX0_removeColumn 3 = .ok (.istore_n 2, 1) := by decide +kernel
theorem dX0_removeColumn_4 : decode cX0_removeColumn 4 = .ok (.iload_n 2, 1) := by decide +kernel
theorem dX0_removeColumn_5 : decode cX0_removeColumn 5 = .ok (.aload_n 0, 1) := by decide +kernel
theorem dX0_removeColumn_6 : decode cX0_removeColumn 6 = .ok (.getfield 27, 3) := by decide +kernel
theorem dX0_removeColumn_9 : decode cX0_removeColumn 9 = .ok (.if_icmp .ge 61, 3) := by decide +kernel
theorem dX0_removeColumn_12 : decode cX0_removeColumn 12 = .ok (.aload_n 0, 1) := by decide +kernel
theorem dX0_removeColumn_13 : decode cX0_removeColumn 13 = .ok (.getfield 20, 3) := by decide +kernel
theorem dX0_removeColumn_16 : decode cX0_removeColumn 16 = .ok (.iload_n 2, 1) := by decide +kernel
theorem dX0_removeColumn_17 : decode cX0_removeColumn 17 = .ok (.iconst 1, 1) := by decide +kernel
theorem dX0_removeColumn_18 : decode cX0_removeColumn 18 = .ok (.isub, 1) := by decide +kernel
theorem dX0_removeColumn_19 : decode cX0_removeColumn 19 = .ok (.aload_n 0, 1) := by decide +kernel
theorem dX0_removeColumn_20 : decode cX0_removeColumn 20 = .ok (.getfield 20, 3) := by decide +kernel
theorem dX0_removeColumn_23 : decode cX0_removeColumn 23 = .ok (.iload_n 2, 1) := by decide +kernel
theorem dX0_removeColumn_24 : decode cX0_removeColumn 24 = .ok (.iaload, 1) := by decide +kernel
theorem dX0_removeColumn_25 : decode cX0_removeColumn 25 = .ok (.iastore, 1) := by decide +kernel
theorem dX0_removeColumn_26 : decode cX0_removeColumn 26 = .ok (.iconst 0, 1) := by decide +kernel
theorem dX0_removeColumn_27 : decode cX0_removeColumn 27 = .ok (.istore_n 3, 1) := by decide +kernel
theorem dX0_removeColumn_28 : decode cX0_removeColumn 28 = .ok (.iload_n 3, 1) := by decide +kernel
theorem dX0_removeColumn_29 : decode cX0_removeColumn 29 = .ok (.aload_n 0, 1) := by decide +kernel
theorem dX0_removeColumn_30 : decode cX0_removeColumn 30 = .ok (.getfield 23, 3) := by decide +kernel
theorem dX0_removeColumn_33 : decode cX0_removeColumn 33 = .ok (.if_icmp .ge 31, 3) := by decide +kernel
theorem dX0_removeColumn_36 : decode cX0_removeColumn 36 = .ok (.aload_n 0, 1) := by decide +kernel
theorem dX0_removeColumn_37 : decode cX0_removeColumn 37 = .ok (.getfield 13, 3) := by decide +kernel
theorem dX0_removeColumn_40 : decode cX0_removeColumn 40 = .ok (.iload_n 3, 1) := by decide +kernel
theorem dX0_removeColumn_41 : decode cX0_removeColumn 41 = .ok (.aaload, 1) := by decide +kernel
theorem dX0_removeColumn_42 : decode cX0_removeColumn 42 = .ok (.iconst 2, 1) := by decide +kernel
theorem dX0_removeColumn_43 : decode cX0_removeColumn 43 = .ok (.iload_n 2, 1) := by decide +kernel
theorem dX0_removeColumn_44 : decode cX0_removeColumn 44 = .ok (.iadd, 1) := by decide +kernel
theorem dX0_removeColumn_45 : decode cX0_removeColumn 45 = .ok (.iconst 1, 1) := by decide +kernel
theorem dX0_removeColumn_46 : decode cX0_removeColumn 46 = .ok (.isub, 1) := by decide +kernel
theorem dX0_removeColumn_47 : decode cX0_removeColumn 47 = .ok (.aload_n 0, 1) := by decide +kernel
theorem dX0_removeColumn_48 : decode cX0_removeColumn 48 = .ok (.getfield 13, 3) := by decide +kernel
theorem dX0_removeColumn_51 : decode cX0_removeColumn 51 = .ok (.iload_n 3, 1) := by decide +kernel
theorem dX0_removeColumn_52 : decode cX0_removeColumn 52 = .ok (.aaload, 1) := by decide +kernel
theorem dX0_removeColumn_53 : decode cX0_removeColumn 53 = .ok (.iconst 2, 1) := by decide +kernel
theorem dX0_removeColumn_54 : decode cX0_removeColumn 54 = .ok (.iload_n 2, 1) := by decide +kernel
theorem dX0_removeColumn_55 : decode cX0_removeColumn 55 = .ok (.iadd, 1) := by decide +kernel
theorem dX0_removeColumn_56 : decode cX0_removeColumn 56 = .ok (.laload, 1) := by decide +kernel
theorem dX0_removeColumn_57 : decode cX0_removeColumn 57 = .ok (.lastore, 1) := by decide +kernel
theorem dX0_removeColumn_58 : decode cX0_removeColumn 58 = .ok (.iinc 3 1, 3) := by decide +kernel
theorem dX0_removeColumn_61 : decode cX0_removeColumn 61 = .ok (.goto (-33), 3) := by decide +kernel
theorem dX0_removeColumn_64 : decode cX0_removeColumn 64 = .ok (.iinc 2 1, 3) := by decide +kernel
theorem dX0_removeColumn_67 : decode cX0_removeColumn 67 = .ok (.goto (-63), 3) := by decide +kernel
theorem dX0_removeColumn_70 : decode cX0_removeColumn 70 = .ok (.aload_n 0, 1) := by decide +kernel
theorem dX0_removeColumn_71 : decode cX0_removeColumn 71 = .ok (.dup, 1) := by decide +kernel
theorem dX0_removeColumn_72 : decode cX0_removeColumn 72 = .ok (.getfield 27, 3) := by decide +kernel
theorem dX0_removeColumn_75 : decode cX0_removeColumn 75 = .ok (.iconst 1, 1) := by decide +kernel
theorem dX0_removeColumn_76 : decode cX0_removeColumn 76 = .ok (.isub, 1) := by decide +kernel
theorem dX0_removeColumn_77 : decode cX0_removeColumn 77 = .ok (.putfield 27, 3) := by decide +kernel
theorem dX0_removeColumn_80 : decode cX0_removeColumn 80 = .ok (.return_, 1) := by decide +kernel
theorem dX0_releaseFlatRows_0 : decode cX0_releaseFlatRows 0 = .ok (.iconst 0, 1) := by decide +kernel
theorem dX0_releaseFlatRows_1 : decode cX0_releaseFlatRows 1 = .ok (.istore_n 1, 1) := by decide +kernel
theorem dX0_releaseFlatRows_2 : decode cX0_releaseFlatRows 2 = .ok (.iload_n 1, 1) := by decide +kernel
theorem dX0_releaseFlatRows_3 : decode cX0_releaseFlatRows 3 = .ok (.aload_n 0, 1) := by decide +kernel
theorem dX0_releaseFlatRows_4 : decode cX0_releaseFlatRows 4 = .ok (.getfield 23, 3) := by decide +kernel
theorem dX0_releaseFlatRows_7 : decode cX0_releaseFlatRows 7 = .ok (.if_icmp .ge 59, 3) := by decide +kernel
theorem dX0_releaseFlatRows_10 : decode cX0_releaseFlatRows 10 = .ok (.iconst 1, 1) := by decide +kernel
theorem dX0_releaseFlatRows_11 : decode cX0_releaseFlatRows 11 = .ok (.istore_n 2, 1) := by decide +kernel
theorem dX0_releaseFlatRows_12 : decode cX0_releaseFlatRows 12 = .ok (.iconst 0, 1) := by decide +kernel
theorem dX0_releaseFlatRows_13 : decode cX0_releaseFlatRows 13 = .ok (.istore_n 3, 1) := by decide +kernel
theorem dX0_releaseFlatRows_14 : decode cX0_releaseFlatRows 14 = .ok (.iload_n 3, 1) := by decide +kernel
theorem dX0_releaseFlatRows_15 : decode cX0_releaseFlatRows 15 = .ok (.aload_n 0, 1) := by decide +kernel
theorem dX0_releaseFlatRows_16 : decode cX0_releaseFlatRows 16 = .ok (.getfield 27, 3) := by decide +kernel
theorem dX0_releaseFlatRows_19 : decode cX0_releaseFlatRows 19 = .ok (.if_icmp .ge 30, 3) := by decide +kernel
theorem dX0_releaseFlatRows_22 : decode cX0_releaseFlatRows 22 = .ok (.iload_n 2, 1) := by decide +kernel
theorem dX0_releaseFlatRows_23 : decode cX0_releaseFlatRows 23 = .ok (.ifCond .eq 18, 3) := by decide +kernel
theorem dX0_releaseFlatRows_26 : decode cX0_releaseFlatRows 26 = .ok (.aload_n 0, 1) := by decide +kernel
theorem dX0_releaseFlatRows_27 : decode cX0_releaseFlatRows 27 = .ok (.iload_n 1, 1) := by decide +kernel
theorem dX0_releaseFlatRows_28 : decode cX0_releaseFlatRows 28 = .ok (.iload_n 3, 1) := by decide +kernel
theorem dX0_releaseFlatRows_29 : decode cX0_releaseFlatRows 29 = .ok (.invokevirtual 51, 3) := by decide +kernel
theorem dX0_releaseFlatRows_32 : decode cX0_releaseFlatRows 32 = .ok (.lconst 0, 1) := by decide +kernel
theorem dX0_releaseFlatRows_33 : decode cX0_releaseFlatRows 33 = .ok (.lcmp, 1) := by decide +kernel
theorem dX0_releaseFlatRows_34 : decode cX0_releaseFlatRows 34 = .ok (.ifCond .ne 7, 3) := by decide +kernel
theorem dX0_releaseFlatRows_37 : decode cX0_releaseFlatRows 37 = .ok (.iconst 1, 1) := by decide +kernel
theorem dX0_releaseFlatRows_38 : decode cX0_releaseFlatRows 38 = .ok (.goto 4, 3) := by decide +kernel
theorem dX0_releaseFlatRows_41 : decode cX0_releaseFlatRows 41 = .ok (.iconst 0, 1) := by decide +kernel
theorem dX0_releaseFlatRows_42 : decode cX0_releaseFlatRows 42 = .ok (.istore_n 2, 1) := by decide +kernel
theorem dX0_releaseFlatRows_43 : decode cX0_releaseFlatRows 43 = .ok (.iinc 3 1, 3) := by decide +kernel
theorem dX0_releaseFlatRows_46 : decode cX0_releaseFlatRows 46 = .ok (.goto (-32), 3) := by decide +kernel
theorem dX0_releaseFlatRows_49 : decode cX0_releaseFlatRows 49 = .ok (.iload_n 2, 1) := by decide +kernel
theorem dX0_releaseFlatRows_50 : decode cX0_releaseFlatRows 50 = .ok (.ifCond .eq 10, 3) := by decide +kernel
theorem dX0_releaseFlatRows_53 : decode cX0_releaseFlatRows 53 = .ok (.aload_n 0, 1) := by decide +kernel
theorem dX0_releaseFlatRows_54 : decode cX0_releaseFlatRows 54 = .ok (.getfield 16, 3) := by decide +kernel
theorem dX0_releaseFlatRows_57 : decode cX0_releaseFlatRows 57 = .ok (.iload_n 1, 1) := by decide +kernel
theorem dX0_releaseFlatRows_58 : decode cX0_releaseFlatRows 58 = .ok (.iconst 0, 1) := by decide +kernel
theorem dX0_releaseFlatRows_59 : decode cX0_releaseFlatRows 59 = .ok (.iastore, 1) := by decide +kernel
theorem dX0_releaseFlatRows_60 : decode cX0_releaseFlatRows 60 = .ok (.iinc 1 1, 3) := by decide +kernel
theorem dX0_releaseFlatRows_63 : decode cX0_releaseFlatRows 63 = .ok (.goto (-61), 3) := by decide +kernel
theorem dX0_releaseFlatRows_66 : decode cX0_releaseFlatRows 66 = .ok (.return_, 1) := by decide +kernel
theorem dX0_addDrawingIn_0 : decode cX0_addDrawingIn 0 = .ok (.aload_n 0, 1) := by decide +kernel
theorem dX0_addDrawingIn_1 : decode cX0_addDrawingIn 1 = .ok (.getfield 27, 3) := by decide +kernel
theorem dX0_addDrawingIn_4 : decode cX0_addDrawingIn 4 = .ok (.iconst 4, 1) := by decide +kernel
theorem dX0_addDrawingIn_5 : decode cX0_addDrawingIn 5 = .ok (.if_icmp .lt 5, 3) := by decide +kernel
theorem dX0_addDrawingIn_8 : decode cX0_addDrawingIn 8 = .ok (.iconst (-1), 1) := by decide +kernel
theorem dX0_addDrawingIn_9 : decode cX0_addDrawingIn 9 = .ok (.ireturn, 1) := by decide +kernel
theorem dX0_addDrawingIn_10 : decode cX0_addDrawingIn 10 = .ok (.iconst 0, 1) := by decide +kernel
theorem dX0_addDrawingIn_11 : decode cX0_addDrawingIn 11 = .ok (.istore_n 1, 1) := by decide +kernel
theorem dX0_addDrawingIn_12 : decode cX0_addDrawingIn 12 = .ok (.iload_n 1, 1) := by decide +kernel
theorem dX0_addDrawingIn_13 : decode cX0_addDrawingIn 13 = .ok (.aload_n 0, 1) := by decide +kernel
theorem dX0_addDrawingIn_14 : decode cX0_addDrawingIn 14 = .ok (.getfield 23, 3) := by decide +kernel
theorem dX0_addDrawingIn_17 : decode cX0_addDrawingIn 17 = .ok (.if_icmp .ge 71, 3) := by decide +kernel
theorem dX0_addDrawingIn_20 : decode cX0_addDrawingIn 20 = .ok (.aload_n 0, 1) := by decide +kernel
theorem dX0_addDrawingIn_21 : decode cX0_addDrawingIn 21 = .ok (.getfield 16, 3) := by decide +kernel
theorem dX0_addDrawingIn_24 : decode cX0_addDrawingIn 24 = .ok (.iload_n 1, 1) := by decide +kernel
theorem dX0_addDrawingIn_25 : decode cX0_addDrawingIn 25 = .ok (.iaload, 1) := by decide +kernel
theorem dX0_addDrawingIn_26 : decode cX0_addDrawingIn 26 = .ok (.ifCond .le 12, 3) := by decide +kernel
theorem dX0_addDrawingIn_29 : decode cX0_addDrawingIn 29 = .ok (.aload_n 0, 1) := by decide +kernel
theorem dX0_addDrawingIn_30 : decode cX0_addDrawingIn 30 = .ok (.iload_n 1, 1) := by decide +kernel
theorem dX0_addDrawingIn_31 : decode cX0_addDrawingIn 31 = .ok (.invokevirtual 83, 3) := by decide +kernel
theorem dX0_addDrawingIn_34 : decode cX0_addDrawingIn 34 = .ok (.lneg, 1) := by decide +kernel
theorem dX0_addDrawingIn_35 : decode cX0_addDrawingIn 35 = .ok (.goto 4, 3) := by decide +kernel
theorem dX0_addDrawingIn_38 : decode cX0_addDrawingIn 38 = .ok (.lconst 0, 1) := by decide +kernel
theorem dX0_addDrawingIn_39 : decode cX0_addDrawingIn 39 = .ok (.lstore_n 2, 1) := by decide +kernel
theorem dX0_addDrawingIn_40 : decode cX0_addDrawingIn 40 = .ok (.iconst 0, 1) := by decide +kernel
theorem dX0_addDrawingIn_41 : decode cX0_addDrawingIn 41 = .ok (.istore 4, 2) := by decide +kernel
theorem dX0_addDrawingIn_43 : decode cX0_addDrawingIn 43 = .ok (.iload 4, 2) := by decide +kernel
theorem dX0_addDrawingIn_45 : decode cX0_addDrawingIn 45 = .ok (.aload_n 0, 1) := by decide +kernel
theorem dX0_addDrawingIn_46 : decode cX0_addDrawingIn 46 = .ok (.getfield 27, 3) := by decide +kernel
theorem dX0_addDrawingIn_49 : decode cX0_addDrawingIn 49 = .ok (.if_icmp .ge 19, 3) := by decide +kernel
theorem dX0_addDrawingIn_52 : decode cX0_addDrawingIn 52 = .ok (.lload_n 2, 1) := by decide +kernel
theorem dX0_addDrawingIn_53 : decode cX0_addDrawingIn 53 = .ok (.aload_n 0, 1) := by decide +kernel
theorem dX0_addDrawingIn_54 : decode cX0_addDrawingIn 54 = .ok (.iload_n 1, 1) := by decide +kernel
theorem dX0_addDrawingIn_55 : decode cX0_addDrawingIn 55 = .ok (.iload 4, 2) := by decide +kernel
theorem dX0_addDrawingIn_57 : decode cX0_addDrawingIn 57 = .ok (.invokevirtual 51, 3) := by decide +kernel
theorem dX0_addDrawingIn_60 : decode cX0_addDrawingIn 60 = .ok (.ladd, 1) := by decide +kernel
theorem dX0_addDrawingIn_61 : decode cX0_addDrawingIn 61 = .ok (.lstore_n 2, 1) := by decide +kernel
theorem dX0_addDrawingIn_62 : decode cX0_addDrawingIn 62 = .ok (.iinc 4 1, 3) := by decide +kernel
theorem dX0_addDrawingIn_65 : decode cX0_addDrawingIn 65 = .ok (.goto (-22), 3) := by decide +kernel
theorem dX0_addDrawingIn_68 : decode cX0_addDrawingIn 68 = .ok (.aload_n 0, 1) := by decide +kernel
theorem dX0_addDrawingIn_69 : decode cX0_addDrawingIn 69 = .ok (.getfield 13, 3) := by decide +kernel
theorem dX0_addDrawingIn_72 : decode cX0_addDrawingIn 72 = .ok (.iload_n 1, 1) := by decide +kernel
theorem dX0_addDrawingIn_73 : decode cX0_addDrawingIn 73 = .ok (.aaload, 1) := by decide +kernel
theorem dX0_addDrawingIn_74 : decode cX0_addDrawingIn 74 = .ok (.iconst 2, 1) := by decide +kernel
theorem dX0_addDrawingIn_75 : decode cX0_addDrawingIn 75 = .ok (.aload_n 0, 1) := by decide +kernel
theorem dX0_addDrawingIn_76 : decode cX0_addDrawingIn 76 = .ok (.getfield 27, 3) := by decide +kernel
theorem dX0_addDrawingIn_79 : decode cX0_addDrawingIn 79 = .ok (.iadd, 1) := by decide +kernel
theorem dX0_addDrawingIn_80 : decode cX0_addDrawingIn 80 = .ok (.lload_n 2, 1) := by decide +kernel
theorem dX0_addDrawingIn_81 : decode cX0_addDrawingIn 81 = .ok (.lastore, 1) := by decide +kernel
theorem dX0_addDrawingIn_82 : decode cX0_addDrawingIn 82 = .ok (.iinc 1 1, 3) := by decide +kernel
theorem dX0_addDrawingIn_85 : decode cX0_addDrawingIn 85 = .ok (.goto (-73), 3) := by decide +kernel
theorem dX0_addDrawingIn_88 : decode cX0_addDrawingIn 88 = .ok (.aload_n 0, 1) := by decide +kernel
theorem dX0_addDrawingIn_89 : decode cX0_addDrawingIn 89 = .ok (.getfield 20, 3) := by decide +kernel
theorem dX0_addDrawingIn_92 : decode cX0_addDrawingIn 92 = .ok (.aload_n 0, 1) := by decide +kernel
theorem dX0_addDrawingIn_93 : decode cX0_addDrawingIn 93 = .ok (.getfield 27, 3) := by decide +kernel
theorem dX0_addDrawingIn_96 : decode cX0_addDrawingIn 96 = .ok (.iconst 0, 1) := by decide +kernel
theorem dX0_addDrawingIn_97 : decode cX0_addDrawingIn 97 = .ok (.iastore, 1) := by decide +kernel
theorem dX0_addDrawingIn_98 : decode cX0_addDrawingIn 98 = .ok (.aload_n 0, 1) := by decide +kernel
theorem dX0_addDrawingIn_99 : decode cX0_addDrawingIn 99 = .ok (.dup, 1) := by decide +kernel
theorem dX0_addDrawingIn_100 : decode cX0_addDrawingIn 100 = .ok (.getfield 27, 3) := by decide +kernel
theorem dX0_addDrawingIn_103 : decode cX0_addDrawingIn 103 = .ok (.iconst 1, 1) := by decide +kernel
theorem dX0_addDrawingIn_104 : decode cX0_addDrawingIn 104 = .ok (.iadd, 1) := by decide +kernel
theorem dX0_addDrawingIn_105 : decode cX0_addDrawingIn 105 = .ok (.putfield 27, 3) := by decide +kernel
theorem dX0_addDrawingIn_108 : decode cX0_addDrawingIn 108 = .ok (.aload_n 0, 1) := by decide +kernel
theorem dX0_addDrawingIn_109 : decode cX0_addDrawingIn 109 = .ok (.getfield 27, 3) := by decide +kernel
theorem dX0_addDrawingIn_112 : decode cX0_addDrawingIn 112 = .ok (.iconst 1, 1) := by decide +kernel
theorem dX0_addDrawingIn_113 : decode cX0_addDrawingIn 113 = .ok (.isub, 1) := by decide +kernel
theorem dX0_addDrawingIn_114 : decode cX0_addDrawingIn 114 = .ok (.ireturn, 1) := by decide +kernel
