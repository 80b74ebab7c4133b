theorem dX8_init_0 : decode cX8_init 0 = .ok (.aload_n 0, 1) := by decide +kernel
theorem dX8_init_1 : decode cX8_init 1 = .ok (.invokespecial 1, 3) := by decide +kernel
theorem dX8_init_4 : decode cX8_init 4 = .ok (.aload_n 0, 1) := by decide +kernel
theorem dX8_init_5 : decode cX8_init 5 = .ok (.new 7, 3) := by decide +kernel
theorem dX8_init_8 : decode cX8_init 8 = .ok (.dup, 1) := by decide +kernel
theorem dX8_init_9 : decode cX8_init 9 = .ok (.invokespecial 9, 3) := by decide +kernel
theorem dX8_init_12 : decode cX8_init 12 = .ok (.putfield 10, 3) := by decide +kernel
theorem dX8_init_15 : decode cX8_init 15 = .ok (.aload_n 0, 1) := by decide +kernel
theorem dX8_init_16 : decode cX8_init 16 = .ok (.new 16, 3) := by decide +kernel
theorem dX8_init_19 : decode cX8_init 19 = .ok (.dup, 1) := by decide +kernel
theorem dX8_init_20 : decode cX8_init 20 = .ok (.invokespecial 18, 3) := by decide +kernel
theorem dX8_init_23 : decode cX8_init 23 = .ok (.putfield 19, 3) := by decide +kernel
theorem dX8_init_26 : decode cX8_init 26 = .ok (.aload_n 0, 1) := by decide +kernel
theorem dX8_init_27 : decode cX8_init 27 = .ok (.new 23, 3) := by decide +kernel
theorem dX8_init_30 : decode cX8_init 30 = .ok (.dup, 1) := by decide +kernel
theorem dX8_init_31 : decode cX8_init 31 = .ok (.invokespecial 25, 3) := by decide +kernel
theorem dX8_init_34 : decode cX8_init 34 = .ok (.putfield 26, 3) := by decide +kernel
theorem dX8_init_37 : decode cX8_init 37 = .ok (.aload_n 0, 1) := by decide +kernel
theorem dX8_init_38 : decode cX8_init 38 = .ok (.new 30, 3) := by decide +kernel
theorem dX8_init_41 : decode cX8_init 41 = .ok (.dup, 1) := by decide +kernel
theorem dX8_init_42 : decode cX8_init 42 = .ok (.invokespecial 32, 3) := by decide +kernel
theorem dX8_init_45 : decode cX8_init 45 = .ok (.putfield 33, 3) := by decide +kernel
theorem dX8_init_48 : decode cX8_init 48 = .ok (.aload_n 0, 1) := by decide +kernel
theorem dX8_init_49 : decode cX8_init 49 = .ok (.new 37, 3) := by decide +kernel
theorem dX8_init_52 : decode cX8_init 52 = .ok (.dup, 1) := by decide +kernel
theorem dX8_init_53 : decode cX8_init 53 = .ok (.invokespecial 39, 3) := by decide +kernel
theorem dX8_init_56 : decode cX8_init 56 = .ok (.putfield 40, 3) := by decide +kernel
theorem dX8_init_59 : decode cX8_init 59 = .ok (.aload_n 0, 1) := by decide +kernel
theorem dX8_init_60 : decode cX8_init 60 = .ok (.new 44, 3) := by decide +kernel
theorem dX8_init_63 : decode cX8_init 63 = .ok (.dup, 1) := by decide +kernel
theorem dX8_init_64 : decode cX8_init 64 = .ok (.invokespecial 46, 3) := by decide +kernel
theorem dX8_init_67 : decode cX8_init 67 = .ok (.putfield 47, 3) := by decide +kernel
theorem dX8_init_70 : decode cX8_init 70 = .ok (.aload_n 0, 1) := by decide +kernel
theorem dX8_init_71 : decode cX8_init 71 = .ok (.new 51, 3) := by decide +kernel
theorem dX8_init_74 : decode cX8_init 74 = .ok (.dup, 1) := by decide +kernel
theorem dX8_init_75 : decode cX8_init 75 = .ok (.invokespecial 53, 3) := by decide +kernel
theorem dX8_init_78 : decode cX8_init 78 = .ok (.putfield 54, 3) := by decide +kernel
theorem dX8_init_81 : decode cX8_init 81 = .ok (.return_, 1) := by decide +kernel
theorem dX8_sides_0 : decode cX8_sides 0 = .ok (.iload_n 1, 1) := by decide +kernel
theorem dX8_sides_1 : decode cX8_sides 1 = .ok (.iconst 1, 1) := by decide +kernel
theorem dX8_sides_2 : decode cX8_sides 2 = .ok (.iconst 4, 1) := by decide +kernel
theorem dX8_sides_3 : decode cX8_sides 3 = .ok (.invokestatic 58, 3) := by decide +kernel
theorem dX8_sides_6 : decode cX8_sides 6 = .ok (.ifCond .ne 6, 3) := by decide +kernel
theorem dX8_sides_9 : decode cX8_sides 9 = .ok (.bipush (-2), 2) := by decide +kernel
theorem dX8_sides_11 : decode cX8_sides 11 = .ok (.ireturn, 1) := by decide +kernel
theorem dX8_sides_12 : decode cX8_sides 12 = .ok (.aload_n 0, 1) := by decide +kernel
theorem dX8_sides_13 : decode cX8_sides 13 = .ok (.getfield 19, 3) := by decide +kernel
theorem dX8_sides_16 : decode cX8_sides 16 = .ok (.iload_n 1, 1) := by decide +kernel
theorem dX8_sides_17 : decode cX8_sides 17 = .ok (.invokevirtual 62, 3) := by decide +kernel
theorem dX8_sides_20 : decode cX8_sides 20 = .ok (.aload_n 0, 1) := by decide +kernel
theorem dX8_sides_21 : decode cX8_sides 21 = .ok (.getfield 26, 3) := by decide +kernel
theorem dX8_sides_24 : decode cX8_sides 24 = .ok (.invokevirtual 66, 3) := by decide +kernel
theorem dX8_sides_27 : decode cX8_sides 27 = .ok (.iconst 1, 1) := by decide +kernel
theorem dX8_sides_28 : decode cX8_sides 28 = .ok (.ireturn, 1) := by decide +kernel
theorem dX8_worth_0 : decode cX8_worth 0 = .ok (.aload_n 0, 1) := by decide +kernel
theorem dX8_worth_1 : decode cX8_worth 1 = .ok (.getfield 19, 3) := by decide +kernel
theorem dX8_worth_4 : decode cX8_worth 4 = .ok (.iload_n 1, 1) := by decide +kernel
theorem dX8_worth_5 : decode cX8_worth 5 = .ok (.invokevirtual 68, 3) := by decide +kernel
theorem dX8_worth_8 : decode cX8_worth 8 = .ok (.ifCond .eq 16, 3) := by decide +kernel
theorem dX8_worth_11 : decode cX8_worth 11 = .ok (.iload_n 2, 1) := by decide +kernel
theorem dX8_worth_12 : decode cX8_worth 12 = .ok (.sipush (-1000), 3) := by decide +kernel
theorem dX8_worth_15 : decode cX8_worth 15 = .ok (.sipush 1000, 3) := by decide +kernel
theorem dX8_worth_18 : decode cX8_worth 18 = .ok (.invokestatic 58, 3) := by decide +kernel
theorem dX8_worth_21 : decode cX8_worth 21 = .ok (.ifCond .ne 6, 3) := by decide +kernel
theorem dX8_worth_24 : decode cX8_worth 24 = .ok (.ldc 72, 2) := by decide +kernel
theorem dX8_worth_26 : decode cX8_worth 26 = .ok (.ireturn, 1) := by decide +kernel
theorem dX8_worth_27 : decode cX8_worth 27 = .ok (.aload_n 0, 1) := by decide +kernel
theorem dX8_worth_28 : decode cX8_worth 28 = .ok (.getfield 26, 3) := by decide +kernel
theorem dX8_worth_31 : decode cX8_worth 31 = .ok (.invokevirtual 73, 3) := by decide +kernel
theorem dX8_worth_34 : decode cX8_worth 34 = .ok (.aload_n 0, 1) := by decide +kernel
theorem dX8_worth_35 : decode cX8_worth 35 = .ok (.getfield 19, 3) := by decide +kernel
theorem dX8_worth_38 : decode cX8_worth 38 = .ok (.iload_n 1, 1) := by decide +kernel
theorem dX8_worth_39 : decode cX8_worth 39 = .ok (.iload_n 2, 1) := by decide +kernel
theorem dX8_worth_40 : decode cX8_worth 40 = .ok (.invokevirtual 76, 3) := by decide +kernel
theorem dX8_worth_43 : decode cX8_worth 43 = .ok (.ireturn, 1) := by decide +kernel
theorem dX8_dividend_0 : decode cX8_dividend 0 = .ok (.aload_n 0, 1) := by decide +kernel
theorem dX8_dividend_1 : decode cX8_dividend 1 = .ok (.getfield 19, 3) := by decide +kernel
theorem dX8_dividend_4 : decode cX8_dividend 4 = .ok (.iload_n 1, 1) := by decide +kernel
theorem dX8_dividend_5 : decode cX8_dividend 5 = .ok (.invokevirtual 68, 3) := by decide +kernel
theorem dX8_dividend_8 : decode cX8_dividend 8 = .ok (.ifCond .eq 14, 3) := by decide +kernel
theorem dX8_dividend_11 : decode cX8_dividend 11 = .ok (.aload_n 0, 1) := by decide +kernel
theorem dX8_dividend_12 : decode cX8_dividend 12 = .ok (.getfield 19, 3) := by decide +kernel
theorem dX8_dividend_15 : decode cX8_dividend 15 = .ok (.iload_n 1, 1) := by decide +kernel
theorem dX8_dividend_16 : decode cX8_dividend 16 = .ok (.invokevirtual 80, 3) := by decide +kernel
theorem dX8_dividend_19 : decode cX8_dividend 19 = .ok (.goto 5, 3) := by decide +kernel
theorem dX8_dividend_22 : decode cX8_dividend 22 = .ok (.ldc 72, 2) := by decide +kernel
theorem dX8_dividend_24 : decode cX8_dividend 24 = .ok (.ireturn, 1) := by decide +kernel
theorem dX8_margin_0 : decode cX8_margin 0 = .ok (.aload_n 0, 1) := by decide +kernel
theorem dX8_margin_1 : decode cX8_margin 1 = .ok (.getfield 19, 3) := by decide +kernel
theorem dX8_margin_4 : decode cX8_margin 4 = .ok (.iload_n 2, 1) := by decide +kernel
theorem dX8_margin_5 : decode cX8_margin 5 = .ok (.invokevirtual 84, 3) := by decide +kernel
theorem dX8_margin_8 : decode cX8_margin 8 = .ok (.ifCond .eq 14, 3) := by decide +kernel
theorem dX8_margin_11 : decode cX8_margin 11 = .ok (.aload_n 0, 1) := by decide +kernel
theorem dX8_margin_12 : decode cX8_margin 12 = .ok (.getfield 19, 3) := by decide +kernel
theorem dX8_margin_15 : decode cX8_margin 15 = .ok (.iload_n 1, 1) := by decide +kernel
theorem dX8_margin_16 : decode cX8_margin 16 = .ok (.invokevirtual 87, 3) := by decide +kernel
theorem dX8_margin_19 : decode cX8_margin 19 = .ok (.ifCond .ne 6, 3) := by decide +kernel
theorem dX8_margin_22 : decode cX8_margin 22 = .ok (.ldc 72, 2) := by decide +kernel
theorem dX8_margin_24 : decode cX8_margin 24 = .ok (.ireturn, 1) := by decide +kernel
theorem dX8_margin_25 : decode cX8_margin 25 = .ok (.aload_n 0, 1) := by decide +kernel
theorem dX8_margin_26 : decode cX8_margin 26 = .ok (.getfield 19, 3) := by decide +kernel
theorem dX8_margin_29 : decode cX8_margin 29 = .ok (.iload_n 1, 1) := by decide +kernel
theorem dX8_margin_30 : decode cX8_margin 30 = .ok (.iload_n 2, 1) := by decide +kernel
theorem dX8_margin_31 : decode cX8_margin 31 = .ok (.invokevirtual 90, 3) := by decide +kernel
theorem dX8_margin_34 : decode cX8_margin 34 = .ok (.ireturn, 1) := by decide +kernel
theorem dX8_value_0 : decode cX8_value 0 = .ok (.aload_n 0, 1) := by decide +kernel
theorem dX8_value_1 : decode cX8_value 1 = .ok (.getfield 19, 3) := by decide +kernel
theorem dX8_value_4 : decode cX8_value 4 = .ok (.iload_n 1, 1) := by decide +kernel
theorem dX8_value_5 : decode cX8_value 5 = .ok (.invokevirtual 84, 3) := by decide +kernel
theorem dX8_value_8 : decode cX8_value 8 = .ok (.ifCond .eq 12, 3) := by decide +kernel
theorem dX8_value_11 : decode cX8_value 11 = .ok (.iload_n 2, 1) := by decide +kernel
theorem dX8_value_12 : decode cX8_value 12 = .ok (.iconst 0, 1) := by decide +kernel
theorem dX8_value_13 : decode cX8_value 13 = .ok (.iconst 1, 1) := by decide +kernel
theorem dX8_value_14 : decode cX8_value 14 = .ok (.invokestatic 58, 3) := by decide +kernel
theorem dX8_value_17 : decode cX8_value 17 = .ok (.ifCond .ne 6, 3) := by decide +kernel
theorem dX8_value_20 : decode cX8_value 20 = .ok (.bipush (-2), 2) := by decide +kernel
theorem dX8_value_22 : decode cX8_value 22 = .ok (.ireturn, 1) := by decide +kernel
theorem dX8_value_23 : decode cX8_value 23 = .ok (.iload_n 2, 1) := by decide +kernel
theorem dX8_value_24 : decode cX8_value 24 = .ok (.ifCond .ne 33, 3) := by decide +kernel
theorem dX8_value_27 : decode cX8_value 27 = .ok (.aload_n 0, 1) := by decide +kernel
theorem dX8_value_28 : decode cX8_value 28 = .ok (.getfield 10, 3) := by decide +kernel
theorem dX8_value_31 : decode cX8_value 31 = .ok (.aload_n 0, 1) := by decide +kernel
theorem dX8_value_32 : decode cX8_value 32 = .ok (.getfield 19, 3) := by decide +kernel
theorem dX8_value_35 : decode cX8_value 35 = .ok (.iload_n 1, 1) := by decide +kernel
theorem dX8_value_36 : decode cX8_value 36 = .ok (.invokevirtual 93, 3) := by decide +kernel
theorem dX8_value_39 : decode cX8_value 39 = .ok (.i2l, 1) := by decide +kernel
theorem dX8_value_40 : decode cX8_value 40 = .ok (.aload_n 0, 1) := by decide +kernel
theorem dX8_value_41 : decode cX8_value 41 = .ok (.getfield 19, 3) := by decide +kernel
theorem dX8_value_44 : decode cX8_value 44 = .ok (.getfield 96, 3) := by decide +kernel
theorem dX8_value_47 : decode cX8_value 47 = .ok (.invokestatic 100, 3) := by decide +kernel
theorem dX8_value_50 : decode cX8_value 50 = .ok (.i2l, 1) := by decide +kernel
theorem dX8_value_51 : decode cX8_value 51 = .ok (.invokevirtual 103, 3) := by decide +kernel
theorem dX8_value_54 : decode cX8_value 54 = .ok (.goto 30, 3) := by decide +kernel
theorem dX8_value_57 : decode cX8_value 57 = .ok (.aload_n 0, 1) := by decide +kernel
theorem dX8_value_58 : decode cX8_value 58 = .ok (.getfield 10, 3) := by decide +kernel
theorem dX8_value_61 : decode cX8_value 61 = .ok (.aload_n 0, 1) := by decide +kernel
theorem dX8_value_62 : decode cX8_value 62 = .ok (.getfield 19, 3) := by decide +kernel
theorem dX8_value_65 : decode cX8_value 65 = .ok (.iload_n 1, 1) := by decide +kernel
theorem dX8_value_66 : decode cX8_value 66 = .ok (.invokevirtual 107, 3) := by decide +kernel
theorem dX8_value_69 : decode cX8_value 69 = .ok (.i2l, 1) := by decide +kernel
theorem dX8_value_70 : decode cX8_value 70 = .ok (.lconst 1, 1) := by decide +kernel
theorem dX8_value_71 : decode cX8_value 71 = .ok (.aload_n 0, 1) := by decide +kernel
theorem dX8_value_72 : decode cX8_value 72 = .ok (.getfield 19, 3) := by decide +kernel
theorem dX8_value_75 : decode cX8_value 75 = .ok (.getfield 96, 3) := by decide +kernel
theorem dX8_value_78 : decode cX8_value 78 = .ok (.iconst 1, 1) := by decide +kernel
theorem dX8_value_79 : decode cX8_value 79 = .ok (.isub, 1) := by decide +kernel
theorem dX8_value_80 : decode cX8_value 80 = .ok (.lshl, 1) := by decide +kernel
theorem dX8_value_81 : decode cX8_value 81 = .ok (.invokevirtual 103, 3) := by decide +kernel
theorem dX8_value_84 : decode cX8_value 84 = .ok (.iconst 1, 1) := by decide +kernel
theorem dX8_value_85 : decode cX8_value 85 = .ok (.ireturn, 1) := by decide +kernel
theorem dX8_fails_0 : decode cX8_fails 0 = .ok (.iload_n 1, 1) := by decide +kernel
theorem dX8_fails_1 : decode cX8_fails 1 = .ok (.iconst 0, 1) := by decide +kernel
theorem dX8_fails_2 : decode cX8_fails 2 = .ok (.iconst 1, 1) := by decide +kernel
theorem dX8_fails_3 : decode cX8_fails 3 = .ok (.invokestatic 58, 3) := by decide +kernel
theorem dX8_fails_6 : decode cX8_fails 6 = .ok (.ifCond .ne 6, 3) := by decide +kernel
theorem dX8_fails_9 : decode cX8_fails 9 = .ok (.bipush (-2), 2) := by decide +kernel
theorem dX8_fails_11 : decode cX8_fails 11 = .ok (.ireturn, 1) := by decide +kernel
theorem dX8_fails_12 : decode cX8_fails 12 = .ok (.iload_n 1, 1) := by decide +kernel
theorem dX8_fails_13 : decode cX8_fails 13 = .ok (.ifCond .ne 13, 3) := by decide +kernel
theorem dX8_fails_16 : decode cX8_fails 16 = .ok (.aload_n 0, 1) := by decide +kernel
theorem dX8_fails_17 : decode cX8_fails 17 = .ok (.getfield 19, 3) := by decide +kernel
theorem dX8_fails_20 : decode cX8_fails 20 = .ok (.invokevirtual 110, 3) := by decide +kernel
theorem dX8_fails_23 : decode cX8_fails 23 = .ok (.goto 10, 3) := by decide +kernel
theorem dX8_fails_26 : decode cX8_fails 26 = .ok (.aload_n 0, 1) := by decide +kernel
theorem dX8_fails_27 : decode cX8_fails 27 = .ok (.getfield 19, 3) := by decide +kernel
theorem dX8_fails_30 : decode cX8_fails 30 = .ok (.invokevirtual 114, 3) := by decide +kernel
theorem dX8_fails_33 : decode cX8_fails 33 = .ok (.ireturn, 1) := by decide +kernel
theorem dX8_parting_0 : decode cX8_parting 0 = .ok (.iload_n 1, 1) := by decide +kernel
theorem dX8_parting_1 : decode cX8_parting 1 = .ok (.iconst (-1), 1) := by decide +kernel
theorem dX8_parting_2 : decode cX8_parting 2 = .ok (.if_icmp .eq 17, 3) := by decide +kernel
theorem dX8_parting_5 : decode cX8_parting 5 = .ok (.aload_n 0, 1) := by decide +kernel
theorem dX8_parting_6 : decode cX8_parting 6 = .ok (.getfield 19, 3) := by decide +kernel
theorem dX8_parting_9 : decode cX8_parting 9 = .ok (.iload_n 1, 1) := by decide +kernel
theorem dX8_parting_10 : decode cX8_parting 10 = .ok (.invokevirtual 84, 3) := by decide +kernel
theorem dX8_parting_13 : decode cX8_parting 13 = .ok (.ifCond .ne 6, 3) := by decide +kernel
theorem dX8_parting_16 : decode cX8_parting 16 = .ok (.ldc 72, 2) := by decide +kernel
theorem dX8_parting_18 : decode cX8_parting 18 = .ok (.ireturn, 1) := by decide +kernel
theorem dX8_parting_19 : decode cX8_parting 19 = .ok (.aload_n 0, 1) := by decide +kernel
theorem dX8_parting_20 : decode cX8_parting 20 = .ok (.getfield 19, 3) := by decide +kernel
theorem dX8_parting_23 : decode cX8_parting 23 = .ok (.invokevirtual 117, 3) := by decide +kernel
theorem dX8_parting_26 : decode cX8_parting 26 = .ok (.istore_n 2, 1) := by decide +kernel
theorem dX8_parting_27 : decode cX8_parting 27 = .ok (.iload_n 1, 1) := by decide +kernel
theorem dX8_parting_28 : decode cX8_parting 28 = .ok (.iconst (-1), 1) := by decide +kernel
theorem dX8_parting_29 : decode cX8_parting 29 = .ok (.if_icmp .ne 14, 3) := by decide +kernel
theorem dX8_parting_32 : decode cX8_parting 32 = .ok (.aload_n 0, 1) := by decide +kernel
theorem dX8_parting_33 : decode cX8_parting 33 = .ok (.getfield 19, 3) := by decide +kernel
theorem dX8_parting_36 : decode cX8_parting 36 = .ok (.iload_n 2, 1) := by decide +kernel
theorem dX8_parting_37 : decode cX8_parting 37 = .ok (.invokevirtual 120, 3) := by decide +kernel
theorem dX8_parting_40 : decode cX8_parting 40 = .ok (.goto 12, 3) := by decide +kernel
theorem dX8_parting_43 : decode cX8_parting 43 = .ok (.aload_n 0, 1) := by decide +kernel
theorem dX8_parting_44 : decode cX8_parting 44 = .ok (.getfield 19, 3) := by decide +kernel
theorem dX8_parting_47 : decode cX8_parting 47 = .ok (.iload_n 2, 1) := by decide +kernel
theorem dX8_parting_48 : decode cX8_parting 48 = .ok (.iload_n 1, 1) := by decide +kernel
theorem dX8_parting_49 : decode cX8_parting 49 = .ok (.invokevirtual 123, 3) := by decide +kernel
theorem dX8_parting_52 : decode cX8_parting 52 = .ok (.ireturn, 1) := by decide +kernel
theorem dX8_part_0 : decode cX8_part 0 = .ok (.iload_n 1, 1) := by decide +kernel
theorem dX8_part_1 : decode cX8_part 1 = .ok (.iconst 0, 1) := by decide +kernel
theorem dX8_part_2 : decode cX8_part 2 = .ok (.iconst 1, 1) := by decide +kernel
theorem dX8_part_3 : decode cX8_part 3 = .ok (.invokestatic 58, 3) := by decide +kernel
theorem dX8_part_6 : decode cX8_part 6 = .ok (.ifCond .ne 7, 3) := by decide +kernel
theorem dX8_part_9 : decode cX8_part 9 = .ok (.ldc2_w 126, 3) := by decide +kernel
theorem dX8_part_12 : decode cX8_part 12 = .ok (.lreturn, 1) := by decide +kernel
theorem dX8_part_13 : decode cX8_part 13 = .ok (.iload_n 1, 1) := by decide +kernel
theorem dX8_part_14 : decode cX8_part 14 = .ok (.ifCond .ne 13, 3) := by decide +kernel
theorem dX8_part_17 : decode cX8_part 17 = .ok (.aload_n 0, 1) := by decide +kernel
theorem dX8_part_18 : decode cX8_part 18 = .ok (.getfield 10, 3) := by decide +kernel
theorem dX8_part_21 : decode cX8_part 21 = .ok (.getfield 128, 3) := by decide +kernel
theorem dX8_part_24 : decode cX8_part 24 = .ok (.goto 10, 3) := by decide +kernel
theorem dX8_part_27 : decode cX8_part 27 = .ok (.aload_n 0, 1) := by decide +kernel
theorem dX8_part_28 : decode cX8_part 28 = .ok (.getfield 10, 3) := by decide +kernel
theorem dX8_part_31 : decode cX8_part 31 = .ok (.getfield 132, 3) := by decide +kernel
theorem dX8_part_34 : decode cX8_part 34 = .ok (.lreturn, 1) := by decide +kernel
theorem dX8_least_0 : decode cX8_least 0 = .ok (.iload_n 1, 1) := by decide +kernel
theorem dX8_least_1 : decode cX8_least 1 = .ok (.iconst 0, 1) := by decide +kernel
theorem dX8_least_2 : decode cX8_least 2 = .ok (.iconst 1, 1) := by decide +kernel
theorem dX8_least_3 : decode cX8_least 3 = .ok (.invokestatic 58, 3) := by decide +kernel
theorem dX8_least_6 : decode cX8_least 6 = .ok (.ifCond .ne 6, 3) := by decide +kernel
theorem dX8_least_9 : decode cX8_least 9 = .ok (.bipush (-2), 2) := by decide +kernel
theorem dX8_least_11 : decode cX8_least 11 = .ok (.ireturn, 1) := by decide +kernel
theorem dX8_least_12 : decode cX8_least 12 = .ok (.iload_n 1, 1) := by decide +kernel
theorem dX8_least_13 : decode cX8_least 13 = .ok (.ifCond .ne 34, 3) := by decide +kernel
theorem dX8_least_16 : decode cX8_least 16 = .ok (.aload_n 0, 1) := by decide +kernel
theorem dX8_least_17 : decode cX8_least 17 = .ok (.getfield 26, 3) := by decide +kernel
theorem dX8_least_20 : decode cX8_least 20 = .ok (.aload_n 0, 1) := by decide +kernel
theorem dX8_least_21 : decode cX8_least 21 = .ok (.getfield 19, 3) := by decide +kernel
theorem dX8_least_24 : decode cX8_least 24 = .ok (.invokevirtual 135, 3) := by decide +kernel
theorem dX8_least_27 : decode cX8_least 27 = .ok (.aload_n 0, 1) := by decide +kernel
theorem dX8_least_28 : decode cX8_least 28 = .ok (.getfield 26, 3) := by decide +kernel
theorem dX8_least_31 : decode cX8_least 31 = .ok (.aload_n 0, 1) := by decide +kernel
theorem dX8_least_32 : decode cX8_least 32 = .ok (.getfield 19, 3) := by decide +kernel
theorem dX8_least_35 : decode cX8_least 35 = .ok (.getfield 96, 3) := by decide +kernel
theorem dX8_least_38 : decode cX8_least 38 = .ok (.aload_n 0, 1) := by decide +kernel
theorem dX8_least_39 : decode cX8_least 39 = .ok (.getfield 10, 3) := by decide +kernel
theorem dX8_least_42 : decode cX8_least 42 = .ok (.invokevirtual 139, 3) := by decide +kernel
theorem dX8_least_45 : decode cX8_least 45 = .ok (.iconst 1, 1) := by decide +kernel
theorem dX8_least_46 : decode cX8_least 46 = .ok (.ireturn, 1) := by decide +kernel
theorem dX8_least_47 : decode cX8_least 47 = .ok (.aload_n 0, 1) := by decide +kernel
theorem dX8_least_48 : decode cX8_least 48 = .ok (.getfield 19, 3) := by decide +kernel
theorem dX8_least_51 : decode cX8_least 51 = .ok (.getfield 96, 3) := by decide +kernel
theorem dX8_least_54 : decode cX8_least 54 = .ok (.iconst 1, 1) := by decide +kernel
theorem dX8_least_55 : decode cX8_least 55 = .ok (.if_icmp .ne 5, 3) := by decide +kernel
theorem dX8_least_58 : decode cX8_least 58 = .ok (.iconst 0, 1) := by decide +kernel
theorem dX8_least_59 : decode cX8_least 59 = .ok (.ireturn, 1) := by decide +kernel
theorem dX8_least_60 : decode cX8_least 60 = .ok (.aload_n 0, 1) := by decide +kernel
theorem dX8_least_61 : decode cX8_least 61 = .ok (.getfield 26, 3) := by decide +kernel
theorem dX8_least_64 : decode cX8_least 64 = .ok (.aload_n 0, 1) := by decide +kernel
theorem dX8_least_65 : decode cX8_least 65 = .ok (.getfield 19, 3) := by decide +kernel
theorem dX8_least_68 : decode cX8_least 68 = .ok (.invokevirtual 143, 3) := by decide +kernel
theorem dX8_least_71 : decode cX8_least 71 = .ok (.aload_n 0, 1) := by decide +kernel
theorem dX8_least_72 : decode cX8_least 72 = .ok (.getfield 26, 3) := by decide +kernel
theorem dX8_least_75 : decode cX8_least 75 = .ok (.aload_n 0, 1) := by decide +kernel
theorem dX8_least_76 : decode cX8_least 76 = .ok (.getfield 10, 3) := by decide +kernel
theorem dX8_least_79 : decode cX8_least 79 = .ok (.invokevirtual 146, 3) := by decide +kernel
theorem dX8_least_82 : decode cX8_least 82 = .ok (.iconst 1, 1) := by decide +kernel
theorem dX8_least_83 : decode cX8_least 83 = .ok (.ireturn, 1) := by decide +kernel
theorem dX8_core_0 : decode cX8_core 0 = .ok (.aload_n 0, 1) := by decide +kernel
theorem dX8_core_1 : decode cX8_core 1 = .ok (.getfield 26, 3) := by decide +kernel
theorem dX8_core_4 : decode cX8_core 4 = .ok (.aload_n 0, 1) := by decide +kernel
theorem dX8_core_5 : decode cX8_core 5 = .ok (.getfield 19, 3) := by decide +kernel
theorem dX8_core_8 : decode cX8_core 8 = .ok (.invokevirtual 135, 3) := by decide +kernel
theorem dX8_core_11 : decode cX8_core 11 = .ok (.aload_n 0, 1) := by decide +kernel
theorem dX8_core_12 : decode cX8_core 12 = .ok (.getfield 26, 3) := by decide +kernel
theorem dX8_core_15 : decode cX8_core 15 = .ok (.aload_n 0, 1) := by decide +kernel
theorem dX8_core_16 : decode cX8_core 16 = .ok (.getfield 19, 3) := by decide +kernel
theorem dX8_core_19 : decode cX8_core 19 = .ok (.invokevirtual 150, 3) := by decide +kernel
theorem dX8_core_22 : decode cX8_core 22 = .ok (.ifCond .eq 7, 3) := by decide +kernel
theorem dX8_core_25 : decode cX8_core 25 = .ok (.iconst 1, 1) := by decide +kernel
theorem dX8_core_26 : decode cX8_core 26 = .ok (.goto 4, 3) := by decide +kernel
theorem dX8_core_29 : decode cX8_core 29 = .ok (.iconst 0, 1) := by decide +kernel
theorem dX8_core_30 : decode cX8_core 30 = .ok (.ireturn, 1) := by decide +kernel
theorem dX8_end_0 : decode cX8_end 0 = .ok (.aload_n 0, 1) := by decide +kernel
theorem dX8_end_1 : decode cX8_end 1 = .ok (.getfield 19, 3) := by decide +kernel
theorem dX8_end_4 : decode cX8_end 4 = .ok (.iload_n 1, 1) := by decide +kernel
theorem dX8_end_5 : decode cX8_end 5 = .ok (.invokevirtual 84, 3) := by decide +kernel
theorem dX8_end_8 : decode cX8_end 8 = .ok (.ifCond .eq 12, 3) := by decide +kernel
theorem dX8_end_11 : decode cX8_end 11 = .ok (.iload_n 2, 1) := by decide +kernel
theorem dX8_end_12 : decode cX8_end 12 = .ok (.iconst 0, 1) := by decide +kernel
theorem dX8_end_13 : decode cX8_end 13 = .ok (.iconst 1, 1) := by decide +kernel
theorem dX8_end_14 : decode cX8_end 14 = .ok (.invokestatic 58, 3) := by decide +kernel
theorem dX8_end_17 : decode cX8_end 17 = .ok (.ifCond .ne 6, 3) := by decide +kernel
theorem dX8_end_20 : decode cX8_end 20 = .ok (.bipush (-2), 2) := by decide +kernel
theorem dX8_end_22 : decode cX8_end 22 = .ok (.ireturn, 1) := by decide +kernel
theorem dX8_end_23 : decode cX8_end 23 = .ok (.aload_n 0, 1) := by decide +kernel
theorem dX8_end_24 : decode cX8_end 24 = .ok (.getfield 26, 3) := by decide +kernel
theorem dX8_end_27 : decode cX8_end 27 = .ok (.aload_n 0, 1) := by decide +kernel
theorem dX8_end_28 : decode cX8_end 28 = .ok (.getfield 19, 3) := by decide +kernel
theorem dX8_end_31 : decode cX8_end 31 = .ok (.invokevirtual 135, 3) := by decide +kernel
theorem dX8_end_34 : decode cX8_end 34 = .ok (.aload_n 0, 1) := by decide +kernel
theorem dX8_end_35 : decode cX8_end 35 = .ok (.getfield 26, 3) := by decide +kernel
theorem dX8_end_38 : decode cX8_end 38 = .ok (.aload_n 0, 1) := by decide +kernel
theorem dX8_end_39 : decode cX8_end 39 = .ok (.getfield 19, 3) := by decide +kernel
theorem dX8_end_42 : decode cX8_end 42 = .ok (.invokevirtual 150, 3) := by decide +kernel
theorem dX8_end_45 : decode cX8_end 45 = .ok (.ifCond .ne 5, 3) := by decide +kernel
theorem dX8_end_48 : decode cX8_end 48 = .ok (.iconst 0, 1) := by decide +kernel
theorem dX8_end_49 : decode cX8_end 49 = .ok (.ireturn, 1) := by decide +kernel
theorem dX8_end_50 : decode cX8_end 50 = .ok (.aload_n 0, 1) := by decide +kernel
theorem dX8_end_51 : decode cX8_end 51 = .ok (.getfield 26, 3) := by decide +kernel
theorem dX8_end_54 : decode cX8_end 54 = .ok (.aload_n 0, 1) := by decide +kernel
theorem dX8_end_55 : decode cX8_end 55 = .ok (.getfield 19, 3) := by decide +kernel
theorem dX8_end_58 : decode cX8_end 58 = .ok (.getfield 96, 3) := by decide +kernel
theorem dX8_end_61 : decode cX8_end 61 = .ok (.iload_n 1, 1) := by decide +kernel
theorem dX8_end_62 : decode cX8_end 62 = .ok (.iload_n 2, 1) := by decide +kernel
theorem dX8_end_63 : decode cX8_end 63 = .ok (.ifCond .ne 7, 3) := by decide +kernel
theorem dX8_end_66 : decode cX8_end 66 = .ok (.iconst (-1), 1) := by decide +kernel
theorem dX8_end_67 : decode cX8_end 67 = .ok (.goto 4, 3) := by decide +kernel
theorem dX8_end_70 : decode cX8_end 70 = .ok (.iconst 1, 1) := by decide +kernel
theorem dX8_end_71 : decode cX8_end 71 = .ok (.invokevirtual 154, 3) := by decide +kernel
theorem dX8_end_74 : decode cX8_end 74 = .ok (.aload_n 0, 1) := by decide +kernel
theorem dX8_end_75 : decode cX8_end 75 = .ok (.getfield 26, 3) := by decide +kernel
theorem dX8_end_78 : decode cX8_end 78 = .ok (.iload_n 1, 1) := by decide +kernel
theorem dX8_end_79 : decode cX8_end 79 = .ok (.aload_n 0, 1) := by decide +kernel
theorem dX8_end_80 : decode cX8_end 80 = .ok (.getfield 10, 3) := by decide +kernel
theorem dX8_end_83 : decode cX8_end 83 = .ok (.invokevirtual 139, 3) := by decide +kernel
theorem dX8_end_86 : decode cX8_end 86 = .ok (.iconst 1, 1) := by decide +kernel
theorem dX8_end_87 : decode cX8_end 87 = .ok (.ireturn, 1) := by decide +kernel
theorem dX8_calm_0 : decode cX8_calm 0 = .ok (.aload_n 0, 1) := by decide +kernel
theorem dX8_calm_1 : decode cX8_calm 1 = .ok (.getfield 19, 3) := by decide +kernel
theorem dX8_calm_4 : decode cX8_calm 4 = .ok (.iload_n 1, 1) := by decide +kernel
theorem dX8_calm_5 : decode cX8_calm 5 = .ok (.invokevirtual 84, 3) := by decide +kernel
theorem dX8_calm_8 : decode cX8_calm 8 = .ok (.ifCond .ne 6, 3) := by decide +kernel
theorem dX8_calm_11 : decode cX8_calm 11 = .ok (.bipush (-2), 2) := by decide +kernel
theorem dX8_calm_13 : decode cX8_calm 13 = .ok (.ireturn, 1) := by decide +kernel
theorem dX8_calm_14 : decode cX8_calm 14 = .ok (.aload_n 0, 1) := by decide +kernel
theorem dX8_calm_15 : decode cX8_calm 15 = .ok (.getfield 26, 3) := by decide +kernel
theorem dX8_calm_18 : decode cX8_calm 18 = .ok (.aload_n 0, 1) := by decide +kernel
theorem dX8_calm_19 : decode cX8_calm 19 = .ok (.getfield 19, 3) := by decide +kernel
theorem dX8_calm_22 : decode cX8_calm 22 = .ok (.invokevirtual 143, 3) := by decide +kernel
theorem dX8_calm_25 : decode cX8_calm 25 = .ok (.aload_n 0, 1) := by decide +kernel
theorem dX8_calm_26 : decode cX8_calm 26 = .ok (.getfield 26, 3) := by decide +kernel
theorem dX8_calm_29 : decode cX8_calm 29 = .ok (.iload_n 1, 1) := by decide +kernel
theorem dX8_calm_30 : decode cX8_calm 30 = .ok (.aload_n 0, 1) := by decide +kernel
theorem dX8_calm_31 : decode cX8_calm 31 = .ok (.getfield 10, 3) := by decide +kernel
theorem dX8_calm_34 : decode cX8_calm 34 = .ok (.invokevirtual 158, 3) := by decide +kernel
theorem dX8_calm_37 : decode cX8_calm 37 = .ok (.iconst 1, 1) := by decide +kernel
theorem dX8_calm_38 : decode cX8_calm 38 = .ok (.ireturn, 1) := by decide +kernel
theorem dX8_give_0 : decode cX8_give 0 = .ok (.iload_n 1, 1) := by decide +kernel
theorem dX8_give_1 : decode cX8_give 1 = .ok (.iconst 0, 1) := by decide +kernel
theorem dX8_give_2 : decode cX8_give 2 = .ok (.iconst 1, 1) := by decide +kernel
theorem dX8_give_3 : decode cX8_give 3 = .ok (.invokestatic 58, 3) := by decide +kernel
theorem dX8_give_6 : decode cX8_give 6 = .ok (.ifCond .eq 27, 3) := by decide +kernel
theorem dX8_give_9 : decode cX8_give 9 = .ok (.aload_n 0, 1) := by decide +kernel
theorem dX8_give_10 : decode cX8_give 10 = .ok (.getfield 19, 3) := by decide +kernel
theorem dX8_give_13 : decode cX8_give 13 = .ok (.iload_n 2, 1) := by decide +kernel
theorem dX8_give_14 : decode cX8_give 14 = .ok (.invokevirtual 84, 3) := by decide +kernel
theorem dX8_give_17 : decode cX8_give 17 = .ok (.ifCond .eq 16, 3) := by decide +kernel
theorem dX8_give_20 : decode cX8_give 20 = .ok (.iload_n 3, 1) := by decide +kernel
theorem dX8_give_21 : decode cX8_give 21 = .ok (.sipush (-10000), 3) := by decide +kernel
theorem dX8_give_24 : decode cX8_give 24 = .ok (.sipush 10000, 3) := by decide +kernel
theorem dX8_give_27 : decode cX8_give 27 = .ok (.invokestatic 58, 3) := by decide +kernel
theorem dX8_give_30 : decode cX8_give 30 = .ok (.ifCond .ne 6, 3) := by decide +kernel
theorem dX8_give_33 : decode cX8_give 33 = .ok (.ldc 72, 2) := by decide +kernel
theorem dX8_give_35 : decode cX8_give 35 = .ok (.ireturn, 1) := by decide +kernel
theorem dX8_give_36 : decode cX8_give 36 = .ok (.aload_n 0, 1) := by decide +kernel
theorem dX8_give_37 : decode cX8_give 37 = .ok (.getfield 26, 3) := by decide +kernel
theorem dX8_give_40 : decode cX8_give 40 = .ok (.iload_n 1, 1) := by decide +kernel
theorem dX8_give_41 : decode cX8_give 41 = .ok (.iload_n 2, 1) := by decide +kernel
theorem dX8_give_42 : decode cX8_give 42 = .ok (.iload_n 3, 1) := by decide +kernel
theorem dX8_give_43 : decode cX8_give 43 = .ok (.invokevirtual 161, 3) := by decide +kernel
theorem dX8_give_46 : decode cX8_give 46 = .ok (.ireturn, 1) := by decide +kernel
theorem dX8_complaint_0 : decode cX8_complaint 0 = .ok (.iload_n 1, 1) := by decide +kernel
theorem dX8_complaint_1 : decode cX8_complaint 1 = .ok (.iconst 0, 1) := by decide +kernel
theorem dX8_complaint_2 : decode cX8_complaint 2 = .ok (.iconst 1, 1) := by decide +kernel
theorem dX8_complaint_3 : decode cX8_complaint 3 = .ok (.invokestatic 58, 3) := by decide +kernel
theorem dX8_complaint_6 : decode cX8_complaint 6 = .ok (.ifCond .eq 14, 3) := by decide +kernel
theorem dX8_complaint_9 : decode cX8_complaint 9 = .ok (.aload_n 0, 1) := by decide +kernel
theorem dX8_complaint_10 : decode cX8_complaint 10 = .ok (.getfield 19, 3) := by decide +kernel
theorem dX8_complaint_13 : decode cX8_complaint 13 = .ok (.iload_n 2, 1) := by decide +kernel
theorem dX8_complaint_14 : decode cX8_complaint 14 = .ok (.invokevirtual 68, 3) := by decide +kernel
theorem dX8_complaint_17 : decode cX8_complaint 17 = .ok (.ifCond .ne 6, 3) := by decide +kernel
theorem dX8_complaint_20 : decode cX8_complaint 20 = .ok (.ldc 165, 2) := by decide +kernel
theorem dX8_complaint_22 : decode cX8_complaint 22 = .ok (.ireturn, 1) := by decide +kernel
theorem dX8_complaint_23 : decode cX8_complaint 23 = .ok (.aload_n 0, 1) := by decide +kernel
theorem dX8_complaint_24 : decode cX8_complaint 24 = .ok (.getfield 26, 3) := by decide +kernel
theorem dX8_complaint_27 : decode cX8_complaint 27 = .ok (.aload_n 0, 1) := by decide +kernel
theorem dX8_complaint_28 : decode cX8_complaint 28 = .ok (.getfield 19, 3) := by decide +kernel
theorem dX8_complaint_31 : decode cX8_complaint 31 = .ok (.iload_n 1, 1) := by decide +kernel
theorem dX8_complaint_32 : decode cX8_complaint 32 = .ok (.iload_n 2, 1) := by decide +kernel
theorem dX8_complaint_33 : decode cX8_complaint 33 = .ok (.invokevirtual 166, 3) := by decide +kernel
theorem dX8_complaint_36 : decode cX8_complaint 36 = .ok (.ireturn, 1) := by decide +kernel
theorem dX8_surplus_0 : decode cX8_surplus 0 = .ok (.iload_n 1, 1) := by decide +kernel
theorem dX8_surplus_1 : decode cX8_surplus 1 = .ok (.iconst 0, 1) := by decide +kernel
theorem dX8_surplus_2 : decode cX8_surplus 2 = .ok (.iconst 1, 1) := by decide +kernel
theorem dX8_surplus_3 : decode cX8_surplus 3 = .ok (.invokestatic 58, 3) := by decide +kernel
theorem dX8_surplus_6 : decode cX8_surplus 6 = .ok (.ifCond .eq 30, 3) := by decide +kernel
theorem dX8_surplus_9 : decode cX8_surplus 9 = .ok (.aload_n 0, 1) := by decide +kernel
theorem dX8_surplus_10 : decode cX8_surplus 10 = .ok (.getfield 19, 3) := by decide +kernel
theorem dX8_surplus_13 : decode cX8_surplus 13 = .ok (.iload_n 2, 1) := by decide +kernel
theorem dX8_surplus_14 : decode cX8_surplus 14 = .ok (.invokevirtual 84, 3) := by decide +kernel
theorem dX8_surplus_17 : decode cX8_surplus 17 = .ok (.ifCond .eq 19, 3) := by decide +kernel
theorem dX8_surplus_20 : decode cX8_surplus 20 = .ok (.aload_n 0, 1) := by decide +kernel
theorem dX8_surplus_21 : decode cX8_surplus 21 = .ok (.getfield 19, 3) := by decide +kernel
theorem dX8_surplus_24 : decode cX8_surplus 24 = .ok (.iload_n 3, 1) := by decide +kernel
theorem dX8_surplus_25 : decode cX8_surplus 25 = .ok (.invokevirtual 84, 3) := by decide +kernel
theorem dX8_surplus_28 : decode cX8_surplus 28 = .ok (.ifCond .eq 8, 3) := by decide +kernel
theorem dX8_surplus_31 : decode cX8_surplus 31 = .ok (.iload_n 2, 1) := by decide +kernel
theorem dX8_surplus_32 : decode cX8_surplus 32 = .ok (.iload_n 3, 1) := by decide +kernel
theorem dX8_surplus_33 : decode cX8_surplus 33 = .ok (.if_icmp .ne 6, 3) := by decide +kernel
theorem dX8_surplus_36 : decode cX8_surplus 36 = .ok (.ldc 165, 2) := by decide +kernel
theorem dX8_surplus_38 : decode cX8_surplus 38 = .ok (.ireturn, 1) := by decide +kernel
theorem dX8_surplus_39 : decode cX8_surplus 39 = .ok (.aload_n 0, 1) := by decide +kernel
theorem dX8_surplus_40 : decode cX8_surplus 40 = .ok (.getfield 26, 3) := by decide +kernel
theorem dX8_surplus_43 : decode cX8_surplus 43 = .ok (.aload_n 0, 1) := by decide +kernel
theorem dX8_surplus_44 : decode cX8_surplus 44 = .ok (.getfield 19, 3) := by decide +kernel
theorem dX8_surplus_47 : decode cX8_surplus 47 = .ok (.iload_n 1, 1) := by decide +kernel
theorem dX8_surplus_48 : decode cX8_surplus 48 = .ok (.iload_n 2, 1) := by decide +kernel
theorem dX8_surplus_49 : decode cX8_surplus 49 = .ok (.iload_n 3, 1) := by decide +kernel
theorem dX8_surplus_50 : decode cX8_surplus 50 = .ok (.invokevirtual 170, 3) := by decide +kernel
theorem dX8_surplus_53 : decode cX8_surplus 53 = .ok (.ireturn, 1) := by decide +kernel
theorem dX8_even_0 : decode cX8_even 0 = .ok (.iload_n 1, 1) := by decide +kernel
theorem dX8_even_1 : decode cX8_even 1 = .ok (.iconst 0, 1) := by decide +kernel
theorem dX8_even_2 : decode cX8_even 2 = .ok (.iconst 1, 1) := by decide +kernel
theorem dX8_even_3 : decode cX8_even 3 = .ok (.invokestatic 58, 3) := by decide +kernel
theorem dX8_even_6 : decode cX8_even 6 = .ok (.ifCond .ne 6, 3) := by decide +kernel
theorem dX8_even_9 : decode cX8_even 9 = .ok (.bipush (-2), 2) := by decide +kernel
theorem dX8_even_11 : decode cX8_even 11 = .ok (.ireturn, 1) := by decide +kernel
theorem dX8_even_12 : decode cX8_even 12 = .ok (.aload_n 0, 1) := by decide +kernel
theorem dX8_even_13 : decode cX8_even 13 = .ok (.getfield 26, 3) := by decide +kernel
theorem dX8_even_16 : decode cX8_even 16 = .ok (.aload_n 0, 1) := by decide +kernel
theorem dX8_even_17 : decode cX8_even 17 = .ok (.getfield 19, 3) := by decide +kernel
theorem dX8_even_20 : decode cX8_even 20 = .ok (.iload_n 1, 1) := by decide +kernel
theorem dX8_even_21 : decode cX8_even 21 = .ok (.invokevirtual 174, 3) := by decide +kernel
theorem dX8_even_24 : decode cX8_even 24 = .ok (.ifCond .eq 7, 3) := by decide +kernel
theorem dX8_even_27 : decode cX8_even 27 = .ok (.iconst 1, 1) := by decide +kernel
theorem dX8_even_28 : decode cX8_even 28 = .ok (.goto 4, 3) := by decide +kernel
theorem dX8_even_31 : decode cX8_even 31 = .ok (.iconst 0, 1) := by decide +kernel
theorem dX8_even_32 : decode cX8_even 32 = .ok (.ireturn, 1) := by decide +kernel
theorem dX8_better_0 : decode cX8_better 0 = .ok (.iload_n 1, 1) := by decide +kernel
theorem dX8_better_1 : decode cX8_better 1 = .ok (.iconst 0, 1) := by decide +kernel
theorem dX8_better_2 : decode cX8_better 2 = .ok (.iconst 1, 1) := by decide +kernel
theorem dX8_better_3 : decode cX8_better 3 = .ok (.invokestatic 58, 3) := by decide +kernel
theorem dX8_better_6 : decode cX8_better 6 = .ok (.ifCond .eq 18, 3) := by decide +kernel
theorem dX8_better_9 : decode cX8_better 9 = .ok (.aload_n 0, 1) := by decide +kernel
theorem dX8_better_10 : decode cX8_better 10 = .ok (.getfield 26, 3) := by decide +kernel
theorem dX8_better_13 : decode cX8_better 13 = .ok (.aload_n 0, 1) := by decide +kernel
theorem dX8_better_14 : decode cX8_better 14 = .ok (.getfield 19, 3) := by decide +kernel
theorem dX8_better_17 : decode cX8_better 17 = .ok (.iload_n 1, 1) := by decide +kernel
theorem dX8_better_18 : decode cX8_better 18 = .ok (.invokevirtual 178, 3) := by decide +kernel
theorem dX8_better_21 : decode cX8_better 21 = .ok (.goto 5, 3) := by decide +kernel
theorem dX8_better_24 : decode cX8_better 24 = .ok (.bipush (-2), 2) := by decide +kernel
theorem dX8_better_26 : decode cX8_better 26 = .ok (.ireturn, 1) := by decide +kernel
theorem dX8_voter_0 : decode cX8_voter 0 = .ok (.iload_n 1, 1) := by decide +kernel
theorem dX8_voter_1 : decode cX8_voter 1 = .ok (.iconst 0, 1) := by decide +kernel
theorem dX8_voter_2 : decode cX8_voter 2 = .ok (.bipush 50, 2) := by decide +kernel
theorem dX8_voter_4 : decode cX8_voter 4 = .ok (.invokestatic 58, 3) := by decide +kernel
theorem dX8_voter_7 : decode cX8_voter 7 = .ok (.ifCond .ne 6, 3) := by decide +kernel
theorem dX8_voter_10 : decode cX8_voter 10 = .ok (.bipush (-2), 2) := by decide +kernel
theorem dX8_voter_12 : decode cX8_voter 12 = .ok (.ireturn, 1) := by decide +kernel
theorem dX8_voter_13 : decode cX8_voter 13 = .ok (.aload_n 0, 1) := by decide +kernel
theorem dX8_voter_14 : decode cX8_voter 14 = .ok (.getfield 33, 3) := by decide +kernel
theorem dX8_voter_17 : decode cX8_voter 17 = .ok (.getfield 182, 3) := by decide +kernel
theorem dX8_voter_20 : decode cX8_voter 20 = .ok (.bipush 8, 2) := by decide +kernel
theorem dX8_voter_22 : decode cX8_voter 22 = .ok (.if_icmp .ge 14, 3) := by decide +kernel
theorem dX8_voter_25 : decode cX8_voter 25 = .ok (.aload_n 0, 1) := by decide +kernel
theorem dX8_voter_26 : decode cX8_voter 26 = .ok (.getfield 33, 3) := by decide +kernel
theorem dX8_voter_29 : decode cX8_voter 29 = .ok (.iload_n 1, 1) := by decide +kernel
theorem dX8_voter_30 : decode cX8_voter 30 = .ok (.invokevirtual 183, 3) := by decide +kernel
theorem dX8_voter_33 : decode cX8_voter 33 = .ok (.goto 5, 3) := by decide +kernel
theorem dX8_voter_36 : decode cX8_voter 36 = .ok (.bipush (-4), 2) := by decide +kernel
theorem dX8_voter_38 : decode cX8_voter 38 = .ok (.ireturn, 1) := by decide +kernel
theorem dX8_weight_0 : decode cX8_weight 0 = .ok (.aload_n 0, 1) := by decide +kernel
theorem dX8_weight_1 : decode cX8_weight 1 = .ok (.getfield 33, 3) := by decide +kernel
theorem dX8_weight_4 : decode cX8_weight 4 = .ok (.iload_n 1, 1) := by decide +kernel
theorem dX8_weight_5 : decode cX8_weight 5 = .ok (.invokevirtual 186, 3) := by decide +kernel
theorem dX8_weight_8 : decode cX8_weight 8 = .ok (.ifCond .eq 13, 3) := by decide +kernel
theorem dX8_weight_11 : decode cX8_weight 11 = .ok (.iload_n 2, 1) := by decide +kernel
theorem dX8_weight_12 : decode cX8_weight 12 = .ok (.iconst 0, 1) := by decide +kernel
theorem dX8_weight_13 : decode cX8_weight 13 = .ok (.bipush 50, 2) := by decide +kernel
theorem dX8_weight_15 : decode cX8_weight 15 = .ok (.invokestatic 58, 3) := by decide +kernel
theorem dX8_weight_18 : decode cX8_weight 18 = .ok (.ifCond .ne 6, 3) := by decide +kernel
theorem dX8_weight_21 : decode cX8_weight 21 = .ok (.bipush (-2), 2) := by decide +kernel
theorem dX8_weight_23 : decode cX8_weight 23 = .ok (.ireturn, 1) := by decide +kernel
theorem dX8_weight_24 : decode cX8_weight 24 = .ok (.aload_n 0, 1) := by decide +kernel
theorem dX8_weight_25 : decode cX8_weight 25 = .ok (.getfield 33, 3) := by decide +kernel
theorem dX8_weight_28 : decode cX8_weight 28 = .ok (.iload_n 1, 1) := by decide +kernel
theorem dX8_weight_29 : decode cX8_weight 29 = .ok (.iload_n 2, 1) := by decide +kernel
theorem dX8_weight_30 : decode cX8_weight 30 = .ok (.invokevirtual 189, 3) := by decide +kernel
theorem dX8_weight_33 : decode cX8_weight 33 = .ok (.ireturn, 1) := by decide +kernel
theorem dX8_quota_0 : decode cX8_quota 0 = .ok (.iload_n 1, 1) := by decide +kernel
theorem dX8_quota_1 : decode cX8_quota 1 = .ok (.iconst 1, 1) := by decide +kernel
theorem dX8_quota_2 : decode cX8_quota 2 = .ok (.sipush 400, 3) := by decide +kernel
theorem dX8_quota_5 : decode cX8_quota 5 = .ok (.invokestatic 58, 3) := by decide +kernel
theorem dX8_quota_8 : decode cX8_quota 8 = .ok (.ifCond .eq 14, 3) := by decide +kernel
theorem dX8_quota_11 : decode cX8_quota 11 = .ok (.aload_n 0, 1) := by decide +kernel
theorem dX8_quota_12 : decode cX8_quota 12 = .ok (.getfield 33, 3) := by decide +kernel
theorem dX8_quota_15 : decode cX8_quota 15 = .ok (.iload_n 1, 1) := by decide +kernel
theorem dX8_quota_16 : decode cX8_quota 16 = .ok (.invokevirtual 192, 3) := by decide +kernel
theorem dX8_quota_19 : decode cX8_quota 19 = .ok (.goto 5, 3) := by decide +kernel
theorem dX8_quota_22 : decode cX8_quota 22 = .ok (.bipush (-2), 2) := by decide +kernel
theorem dX8_quota_24 : decode cX8_quota 24 = .ok (.ireturn, 1) := by decide +kernel
theorem dX8_wins_0 : decode cX8_wins 0 = .ok (.iload_n 1, 1) := by decide +kernel
theorem dX8_wins_1 : decode cX8_wins 1 = .ok (.iconst 0, 1) := by decide +kernel
theorem dX8_wins_2 : decode cX8_wins 2 = .ok (.aload_n 0, 1) := by decide +kernel
theorem dX8_wins_3 : decode cX8_wins 3 = .ok (.getfield 33, 3) := by decide +kernel
theorem dX8_wins_6 : decode cX8_wins 6 = .ok (.invokevirtual 195, 3) := by decide +kernel
theorem dX8_wins_9 : decode cX8_wins 9 = .ok (.invokestatic 58, 3) := by decide +kernel
theorem dX8_wins_12 : decode cX8_wins 12 = .ok (.ifCond .ne 6, 3) := by decide +kernel
theorem dX8_wins_15 : decode cX8_wins 15 = .ok (.bipush (-2), 2) := by decide +kernel
theorem dX8_wins_17 : decode cX8_wins 17 = .ok (.ireturn, 1) := by decide +kernel
theorem dX8_wins_18 : decode cX8_wins 18 = .ok (.aload_n 0, 1) := by decide +kernel
theorem dX8_wins_19 : decode cX8_wins 19 = .ok (.getfield 33, 3) := by decide +kernel
theorem dX8_wins_22 : decode cX8_wins 22 = .ok (.iload_n 1, 1) := by decide +kernel
theorem dX8_wins_23 : decode cX8_wins 23 = .ok (.invokevirtual 198, 3) := by decide +kernel
theorem dX8_wins_26 : decode cX8_wins 26 = .ok (.ifCond .eq 7, 3) := by decide +kernel
theorem dX8_wins_29 : decode cX8_wins 29 = .ok (.iconst 1, 1) := by decide +kernel
theorem dX8_wins_30 : decode cX8_wins 30 = .ok (.goto 4, 3) := by decide +kernel
theorem dX8_wins_33 : decode cX8_wins 33 = .ok (.iconst 0, 1) := by decide +kernel
theorem dX8_wins_34 : decode cX8_wins 34 = .ok (.ireturn, 1) := by decide +kernel
theorem dX8_minimal_0 : decode cX8_minimal 0 = .ok (.iload_n 1, 1) := by decide +kernel
theorem dX8_minimal_1 : decode cX8_minimal 1 = .ok (.iconst (-1), 1) := by decide +kernel
theorem dX8_minimal_2 : decode cX8_minimal 2 = .ok (.if_icmp .ge 6, 3) := by decide +kernel
theorem dX8_minimal_5 : decode cX8_minimal 5 = .ok (.bipush (-2), 2) := by decide +kernel
theorem dX8_minimal_7 : decode cX8_minimal 7 = .ok (.ireturn, 1) := by decide +kernel
theorem dX8_minimal_8 : decode cX8_minimal 8 = .ok (.iload_n 1, 1) := by decide +kernel
theorem dX8_minimal_9 : decode cX8_minimal 9 = .ok (.iconst (-1), 1) := by decide +kernel
theorem dX8_minimal_10 : decode cX8_minimal 10 = .ok (.if_icmp .ne 13, 3) := by decide +kernel
theorem dX8_minimal_13 : decode cX8_minimal 13 = .ok (.aload_n 0, 1) := by decide +kernel
theorem dX8_minimal_14 : decode cX8_minimal 14 = .ok (.getfield 33, 3) := by decide +kernel
theorem dX8_minimal_17 : decode cX8_minimal 17 = .ok (.invokevirtual 201, 3) := by decide +kernel
theorem dX8_minimal_20 : decode cX8_minimal 20 = .ok (.goto 11, 3) := by decide +kernel
theorem dX8_minimal_23 : decode cX8_minimal 23 = .ok (.aload_n 0, 1) := by decide +kernel
theorem dX8_minimal_24 : decode cX8_minimal 24 = .ok (.getfield 33, 3) := by decide +kernel
theorem dX8_minimal_27 : decode cX8_minimal 27 = .ok (.iload_n 1, 1) := by decide +kernel
theorem dX8_minimal_28 : decode cX8_minimal 28 = .ok (.invokevirtual 204, 3) := by decide +kernel
theorem dX8_minimal_31 : decode cX8_minimal 31 = .ok (.ireturn, 1) := by decide +kernel
theorem dX8_power_0 : decode cX8_power 0 = .ok (.aload_n 0, 1) := by decide +kernel
theorem dX8_power_1 : decode cX8_power 1 = .ok (.getfield 33, 3) := by decide +kernel
theorem dX8_power_4 : decode cX8_power 4 = .ok (.iload_n 1, 1) := by decide +kernel
theorem dX8_power_5 : decode cX8_power 5 = .ok (.invokevirtual 186, 3) := by decide +kernel
theorem dX8_power_8 : decode cX8_power 8 = .ok (.ifCond .ne 6, 3) := by decide +kernel
theorem dX8_power_11 : decode cX8_power 11 = .ok (.bipush (-2), 2) := by decide +kernel
theorem dX8_power_13 : decode cX8_power 13 = .ok (.ireturn, 1) := by decide +kernel
theorem dX8_power_14 : decode cX8_power 14 = .ok (.iload_n 2, 1) := by decide +kernel
theorem dX8_power_15 : decode cX8_power 15 = .ok (.tableswitch 81 0 3 #[29, 38, 47, 64], 29) := by decide +kernel
theorem dX8_power_44 : decode cX8_power 44 = .ok (.aload_n 0, 1) := by decide +kernel
theorem dX8_power_45 : decode cX8_power 45 = .ok (.getfield 33, 3) := by decide +kernel
theorem dX8_power_48 : decode cX8_power 48 = .ok (.iload_n 1, 1) := by decide +kernel
theorem dX8_power_49 : decode cX8_power 49 = .ok (.invokevirtual 207, 3) := by decide +kernel
theorem dX8_power_52 : decode cX8_power 52 = .ok (.ireturn, 1) := by decide +kernel
theorem dX8_power_53 : decode cX8_power 53 = .ok (.aload_n 0, 1) := by decide +kernel
theorem dX8_power_54 : decode cX8_power 54 = .ok (.getfield 33, 3) := by decide +kernel
theorem dX8_power_57 : decode cX8_power 57 = .ok (.iload_n 1, 1) := by decide +kernel
theorem dX8_power_58 : decode cX8_power 58 = .ok (.invokevirtual 210, 3) := by decide +kernel
theorem dX8_power_61 : decode cX8_power 61 = .ok (.ireturn, 1) := by decide +kernel
theorem dX8_power_62 : decode cX8_power 62 = .ok (.aload_n 0, 1) := by decide +kernel
theorem dX8_power_63 : decode cX8_power 63 = .ok (.getfield 33, 3) := by decide +kernel
theorem dX8_power_66 : decode cX8_power 66 = .ok (.iload_n 1, 1) := by decide +kernel
theorem dX8_power_67 : decode cX8_power 67 = .ok (.invokevirtual 213, 3) := by decide +kernel
theorem dX8_power_70 : decode cX8_power 70 = .ok (.ifCond .eq 7, 3) := by decide +kernel
theorem dX8_power_73 : decode cX8_power 73 = .ok (.iconst 1, 1) := by decide +kernel
theorem dX8_power_74 : decode cX8_power 74 = .ok (.goto 4, 3) := by decide +kernel
theorem dX8_power_77 : decode cX8_power 77 = .ok (.iconst 0, 1) := by decide +kernel
theorem dX8_power_78 : decode cX8_power 78 = .ok (.ireturn, 1) := by decide +kernel
theorem dX8_power_79 : decode cX8_power 79 = .ok (.aload_n 0, 1) := by decide +kernel
theorem dX8_power_80 : decode cX8_power 80 = .ok (.getfield 33, 3) := by decide +kernel
theorem dX8_power_83 : decode cX8_power 83 = .ok (.iload_n 1, 1) := by decide +kernel
theorem dX8_power_84 : decode cX8_power 84 = .ok (.invokevirtual 216, 3) := by decide +kernel
theorem dX8_power_87 : decode cX8_power 87 = .ok (.ifCond .eq 7, 3) := by decide +kernel
theorem dX8_power_90 : decode cX8_power 90 = .ok (.iconst 1, 1) := by decide +kernel
theorem dX8_power_91 : decode cX8_power 91 = .ok (.goto 4, 3) := by decide +kernel
theorem dX8_power_94 : decode cX8_power 94 = .ok (.iconst 0, 1) := by decide +kernel
theorem dX8_power_95 : decode cX8_power 95 = .ok (.ireturn, 1) := by decide +kernel
theorem dX8_power_96 : decode cX8_power 96 = .ok (.bipush (-2), 2) := by decide +kernel
theorem dX8_power_98 : decode cX8_power 98 = .ok (.ireturn, 1) := by decide +kernel
theorem dX8_deegan_0 : decode cX8_deegan 0 = .ok (.aload_n 0, 1) := by decide +kernel
theorem dX8_deegan_1 : decode cX8_deegan 1 = .ok (.getfield 33, 3) := by decide +kernel
theorem dX8_deegan_4 : decode cX8_deegan 4 = .ok (.iload_n 1, 1) := by decide +kernel
theorem dX8_deegan_5 : decode cX8_deegan 5 = .ok (.invokevirtual 186, 3) := by decide +kernel
theorem dX8_deegan_8 : decode cX8_deegan 8 = .ok (.ifCond .ne 6, 3) := by decide +kernel
theorem dX8_deegan_11 : decode cX8_deegan 11 = .ok (.bipush (-2), 2) := by decide +kernel
theorem dX8_deegan_13 : decode cX8_deegan 13 = .ok (.ireturn, 1) := by decide +kernel
theorem dX8_deegan_14 : decode cX8_deegan 14 = .ok (.aload_n 0, 1) := by decide +kernel
theorem dX8_deegan_15 : decode cX8_deegan 15 = .ok (.getfield 33, 3) := by decide +kernel
theorem dX8_deegan_18 : decode cX8_deegan 18 = .ok (.invokevirtual 201, 3) := by decide +kernel
theorem dX8_deegan_21 : decode cX8_deegan 21 = .ok (.istore_n 2, 1) := by decide +kernel
theorem dX8_deegan_22 : decode cX8_deegan 22 = .ok (.iload_n 2, 1) := by decide +kernel
theorem dX8_deegan_23 : decode cX8_deegan 23 = .ok (.ifCond .ne 5, 3) := by decide +kernel
theorem dX8_deegan_26 : decode cX8_deegan 26 = .ok (.iconst 0, 1) := by decide +kernel
theorem dX8_deegan_27 : decode cX8_deegan 27 = .ok (.ireturn, 1) := by decide +kernel
theorem dX8_deegan_28 : decode cX8_deegan 28 = .ok (.aload_n 0, 1) := by decide +kernel
theorem dX8_deegan_29 : decode cX8_deegan 29 = .ok (.getfield 10, 3) := by decide +kernel
theorem dX8_deegan_32 : decode cX8_deegan 32 = .ok (.aload_n 0, 1) := by decide +kernel
theorem dX8_deegan_33 : decode cX8_deegan 33 = .ok (.getfield 33, 3) := by decide +kernel
theorem dX8_deegan_36 : decode cX8_deegan 36 = .ok (.iload_n 1, 1) := by decide +kernel
theorem dX8_deegan_37 : decode cX8_deegan 37 = .ok (.invokevirtual 219, 3) := by decide +kernel
theorem dX8_deegan_40 : decode cX8_deegan 40 = .ok (.i2l, 1) := by decide +kernel
theorem dX8_deegan_41 : decode cX8_deegan 41 = .ok (.ldc2_w 222, 3) := by decide +kernel
theorem dX8_deegan_44 : decode cX8_deegan 44 = .ok (.iload_n 2, 1) := by decide +kernel
theorem dX8_deegan_45 : decode cX8_deegan 45 = .ok (.i2l, 1) := by decide +kernel
theorem dX8_deegan_46 : decode cX8_deegan 46 = .ok (.lmul, 1) := by decide +kernel
theorem dX8_deegan_47 : decode cX8_deegan 47 = .ok (.invokevirtual 103, 3) := by decide +kernel
theorem dX8_deegan_50 : decode cX8_deegan 50 = .ok (.iconst 1, 1) := by decide +kernel
theorem dX8_deegan_51 : decode cX8_deegan 51 = .ok (.ireturn, 1) := by decide +kernel
theorem dX8_same_0 : decode cX8_same 0 = .ok (.iload_n 1, 1) := by decide +kernel
theorem dX8_same_1 : decode cX8_same 1 = .ok (.iconst (-1), 1) := by decide +kernel
theorem dX8_same_2 : decode cX8_same 2 = .ok (.if_icmp .eq 17, 3) := by decide +kernel
theorem dX8_same_5 : decode cX8_same 5 = .ok (.aload_n 0, 1) := by decide +kernel
theorem dX8_same_6 : decode cX8_same 6 = .ok (.getfield 33, 3) := by decide +kernel
theorem dX8_same_9 : decode cX8_same 9 = .ok (.iload_n 1, 1) := by decide +kernel
theorem dX8_same_10 : decode cX8_same 10 = .ok (.invokevirtual 186, 3) := by decide +kernel
theorem dX8_same_13 : decode cX8_same 13 = .ok (.ifCond .ne 6, 3) := by decide +kernel
theorem dX8_same_16 : decode cX8_same 16 = .ok (.bipush (-2), 2) := by decide +kernel
theorem dX8_same_18 : decode cX8_same 18 = .ok (.ireturn, 1) := by decide +kernel
theorem dX8_same_19 : decode cX8_same 19 = .ok (.aload_n 0, 1) := by decide +kernel
theorem dX8_same_20 : decode cX8_same 20 = .ok (.getfield 33, 3) := by decide +kernel
theorem dX8_same_23 : decode cX8_same 23 = .ok (.getfield 182, 3) := by decide +kernel
theorem dX8_same_26 : decode cX8_same 26 = .ok (.iconst 1, 1) := by decide +kernel
theorem dX8_same_27 : decode cX8_same 27 = .ok (.iconst 5, 1) := by decide +kernel
theorem dX8_same_28 : decode cX8_same 28 = .ok (.invokestatic 58, 3) := by decide +kernel
theorem dX8_same_31 : decode cX8_same 31 = .ok (.ifCond .ne 6, 3) := by decide +kernel
theorem dX8_same_34 : decode cX8_same 34 = .ok (.bipush (-3), 2) := by decide +kernel
theorem dX8_same_36 : decode cX8_same 36 = .ok (.ireturn, 1) := by decide +kernel
theorem dX8_same_37 : decode cX8_same 37 = .ok (.aload_n 0, 1) := by decide +kernel
theorem dX8_same_38 : decode cX8_same 38 = .ok (.getfield 33, 3) := by decide +kernel
theorem dX8_same_41 : decode cX8_same 41 = .ok (.iload_n 1, 1) := by decide +kernel
theorem dX8_same_42 : decode cX8_same 42 = .ok (.invokevirtual 224, 3) := by decide +kernel
theorem dX8_same_45 : decode cX8_same 45 = .ok (.ireturn, 1) := by decide +kernel
theorem dX8_claim_0 : decode cX8_claim 0 = .ok (.iload_n 1, 1) := by decide +kernel
theorem dX8_claim_1 : decode cX8_claim 1 = .ok (.iconst 0, 1) := by decide +kernel
theorem dX8_claim_2 : decode cX8_claim 2 = .ok (.sipush 1000, 3) := by decide +kernel
theorem dX8_claim_5 : decode cX8_claim 5 = .ok (.invokestatic 58, 3) := by decide +kernel
theorem dX8_claim_8 : decode cX8_claim 8 = .ok (.ifCond .ne 6, 3) := by decide +kernel
theorem dX8_claim_11 : decode cX8_claim 11 = .ok (.bipush (-2), 2) := by decide +kernel
theorem dX8_claim_13 : decode cX8_claim 13 = .ok (.ireturn, 1) := by decide +kernel
theorem dX8_claim_14 : decode cX8_claim 14 = .ok (.aload_n 0, 1) := by decide +kernel
theorem dX8_claim_15 : decode cX8_claim 15 = .ok (.getfield 40, 3) := by decide +kernel
theorem dX8_claim_18 : decode cX8_claim 18 = .ok (.getfield 227, 3) := by decide +kernel
theorem dX8_claim_21 : decode cX8_claim 21 = .ok (.bipush 6, 2) := by decide +kernel
theorem dX8_claim_23 : decode cX8_claim 23 = .ok (.if_icmp .ge 14, 3) := by decide +kernel
theorem dX8_claim_26 : decode cX8_claim 26 = .ok (.aload_n 0, 1) := by decide +kernel
theorem dX8_claim_27 : decode cX8_claim 27 = .ok (.getfield 40, 3) := by decide +kernel
theorem dX8_claim_30 : decode cX8_claim 30 = .ok (.iload_n 1, 1) := by decide +kernel
theorem dX8_claim_31 : decode cX8_claim 31 = .ok (.invokevirtual 228, 3) := by decide +kernel
theorem dX8_claim_34 : decode cX8_claim 34 = .ok (.goto 5, 3) := by decide +kernel
theorem dX8_claim_37 : decode cX8_claim 37 = .ok (.bipush (-4), 2) := by decide +kernel
theorem dX8_claim_39 : decode cX8_claim 39 = .ok (.ireturn, 1) := by decide +kernel
theorem dX8_estate_0 : decode cX8_estate 0 = .ok (.iload_n 1, 1) := by decide +kernel
theorem dX8_estate_1 : decode cX8_estate 1 = .ok (.iconst 0, 1) := by decide +kernel
theorem dX8_estate_2 : decode cX8_estate 2 = .ok (.sipush 6000, 3) := by decide +kernel
theorem dX8_estate_5 : decode cX8_estate 5 = .ok (.invokestatic 58, 3) := by decide +kernel
theorem dX8_estate_8 : decode cX8_estate 8 = .ok (.ifCond .eq 14, 3) := by decide +kernel
theorem dX8_estate_11 : decode cX8_estate 11 = .ok (.aload_n 0, 1) := by decide +kernel
theorem dX8_estate_12 : decode cX8_estate 12 = .ok (.getfield 40, 3) := by decide +kernel
theorem dX8_estate_15 : decode cX8_estate 15 = .ok (.iload_n 1, 1) := by decide +kernel
theorem dX8_estate_16 : decode cX8_estate 16 = .ok (.invokevirtual 231, 3) := by decide +kernel
theorem dX8_estate_19 : decode cX8_estate 19 = .ok (.goto 5, 3) := by decide +kernel
theorem dX8_estate_22 : decode cX8_estate 22 = .ok (.bipush (-2), 2) := by decide +kernel
theorem dX8_estate_24 : decode cX8_estate 24 = .ok (.ireturn, 1) := by decide +kernel
theorem dX8_award_0 : decode cX8_award 0 = .ok (.iload_n 1, 1) := by decide +kernel
theorem dX8_award_1 : decode cX8_award 1 = .ok (.iconst 0, 1) := by decide +kernel
theorem dX8_award_2 : decode cX8_award 2 = .ok (.aload_n 0, 1) := by decide +kernel
theorem dX8_award_3 : decode cX8_award 3 = .ok (.getfield 40, 3) := by decide +kernel
theorem dX8_award_6 : decode cX8_award 6 = .ok (.getfield 227, 3) := by decide +kernel
theorem dX8_award_9 : decode cX8_award 9 = .ok (.iconst 1, 1) := by decide +kernel
theorem dX8_award_10 : decode cX8_award 10 = .ok (.isub, 1) := by decide +kernel
theorem dX8_award_11 : decode cX8_award 11 = .ok (.invokestatic 58, 3) := by decide +kernel
theorem dX8_award_14 : decode cX8_award 14 = .ok (.ifCond .eq 12, 3) := by decide +kernel
theorem dX8_award_17 : decode cX8_award 17 = .ok (.iload_n 2, 1) := by decide +kernel
theorem dX8_award_18 : decode cX8_award 18 = .ok (.iconst 0, 1) := by decide +kernel
theorem dX8_award_19 : decode cX8_award 19 = .ok (.iconst 4, 1) := by decide +kernel
theorem dX8_award_20 : decode cX8_award 20 = .ok (.invokestatic 58, 3) := by decide +kernel
theorem dX8_award_23 : decode cX8_award 23 = .ok (.ifCond .ne 6, 3) := by decide +kernel
theorem dX8_award_26 : decode cX8_award 26 = .ok (.bipush (-2), 2) := by decide +kernel
theorem dX8_award_28 : decode cX8_award 28 = .ok (.ireturn, 1) := by decide +kernel
theorem dX8_award_29 : decode cX8_award 29 = .ok (.aload_n 0, 1) := by decide +kernel
theorem dX8_award_30 : decode cX8_award 30 = .ok (.getfield 40, 3) := by decide +kernel
theorem dX8_award_33 : decode cX8_award 33 = .ok (.getfield 234, 3) := by decide +kernel
theorem dX8_award_36 : decode cX8_award 36 = .ok (.aload_n 0, 1) := by decide +kernel
theorem dX8_award_37 : decode cX8_award 37 = .ok (.getfield 40, 3) := by decide +kernel
theorem dX8_award_40 : decode cX8_award 40 = .ok (.invokevirtual 237, 3) := by decide +kernel
theorem dX8_award_43 : decode cX8_award 43 = .ok (.if_icmp .le 6, 3) := by decide +kernel
theorem dX8_award_46 : decode cX8_award 46 = .ok (.bipush (-3), 2) := by decide +kernel
theorem dX8_award_48 : decode cX8_award 48 = .ok (.ireturn, 1) := by decide +kernel
theorem dX8_award_49 : decode cX8_award 49 = .ok (.aload_n 0, 1) := by decide +kernel
theorem dX8_award_50 : decode cX8_award 50 = .ok (.getfield 40, 3) := by decide +kernel
theorem dX8_award_53 : decode cX8_award 53 = .ok (.iload_n 1, 1) := by decide +kernel
theorem dX8_award_54 : decode cX8_award 54 = .ok (.iload_n 2, 1) := by decide +kernel
theorem dX8_award_55 : decode cX8_award 55 = .ok (.aload_n 0, 1) := by decide +kernel
theorem dX8_award_56 : decode cX8_award 56 = .ok (.getfield 10, 3) := by decide +kernel
theorem dX8_award_59 : decode cX8_award 59 = .ok (.invokevirtual 240, 3) := by decide +kernel
theorem dX8_award_62 : decode cX8_award 62 = .ok (.iconst 1, 1) := by decide +kernel
theorem dX8_award_63 : decode cX8_award 63 = .ok (.ireturn, 1) := by decide +kernel
theorem dX8_place_0 : decode cX8_place 0 = .ok (.aload_n 0, 1) := by decide +kernel
theorem dX8_place_1 : decode cX8_place 1 = .ok (.getfield 47, 3) := by decide +kernel
theorem dX8_place_4 : decode cX8_place 4 = .ok (.iload_n 1, 1) := by decide +kernel
theorem dX8_place_5 : decode cX8_place 5 = .ok (.invokevirtual 244, 3) := by decide +kernel
theorem dX8_place_8 : decode cX8_place 8 = .ok (.ifCond .eq 14, 3) := by decide +kernel
theorem dX8_place_11 : decode cX8_place 11 = .ok (.iload_n 2, 1) := by decide +kernel
theorem dX8_place_12 : decode cX8_place 12 = .ok (.iconst 0, 1) := by decide +kernel
theorem dX8_place_13 : decode cX8_place 13 = .ok (.sipush 1000, 3) := by decide +kernel
theorem dX8_place_16 : decode cX8_place 16 = .ok (.invokestatic 58, 3) := by decide +kernel
theorem dX8_place_19 : decode cX8_place 19 = .ok (.ifCond .ne 6, 3) := by decide +kernel
theorem dX8_place_22 : decode cX8_place 22 = .ok (.bipush (-2), 2) := by decide +kernel
theorem dX8_place_24 : decode cX8_place 24 = .ok (.ireturn, 1) := by decide +kernel
theorem dX8_place_25 : decode cX8_place 25 = .ok (.aload_n 0, 1) := by decide +kernel
theorem dX8_place_26 : decode cX8_place 26 = .ok (.getfield 47, 3) := by decide +kernel
theorem dX8_place_29 : decode cX8_place 29 = .ok (.getfield 247, 3) := by decide +kernel
theorem dX8_place_32 : decode cX8_place 32 = .ok (.bipush 10, 2) := by decide +kernel
theorem dX8_place_34 : decode cX8_place 34 = .ok (.if_icmp .ge 15, 3) := by decide +kernel
theorem dX8_place_37 : decode cX8_place 37 = .ok (.aload_n 0, 1) := by decide +kernel
theorem dX8_place_38 : decode cX8_place 38 = .ok (.getfield 47, 3) := by decide +kernel
theorem dX8_place_41 : decode cX8_place 41 = .ok (.iload_n 1, 1) := by decide +kernel
theorem dX8_place_42 : decode cX8_place 42 = .ok (.iload_n 2, 1) := by decide +kernel
theorem dX8_place_43 : decode cX8_place 43 = .ok (.invokevirtual 250, 3) := by decide +kernel
theorem dX8_place_46 : decode cX8_place 46 = .ok (.goto 5, 3) := by decide +kernel
theorem dX8_place_49 : decode cX8_place 49 = .ok (.bipush (-4), 2) := by decide +kernel
theorem dX8_place_51 : decode cX8_place 51 = .ok (.ireturn, 1) := by decide +kernel
theorem dX8_user_0 : decode cX8_user 0 = .ok (.aload_n 0, 1) := by decide +kernel
theorem dX8_user_1 : decode cX8_user 1 = .ok (.getfield 47, 3) := by decide +kernel
theorem dX8_user_4 : decode cX8_user 4 = .ok (.iload_n 1, 1) := by decide +kernel
theorem dX8_user_5 : decode cX8_user 5 = .ok (.invokevirtual 244, 3) := by decide +kernel
theorem dX8_user_8 : decode cX8_user 8 = .ok (.ifCond .ne 6, 3) := by decide +kernel
theorem dX8_user_11 : decode cX8_user 11 = .ok (.bipush (-2), 2) := by decide +kernel
theorem dX8_user_13 : decode cX8_user 13 = .ok (.ireturn, 1) := by decide +kernel
theorem dX8_user_14 : decode cX8_user 14 = .ok (.aload_n 0, 1) := by decide +kernel
theorem dX8_user_15 : decode cX8_user 15 = .ok (.getfield 47, 3) := by decide +kernel
theorem dX8_user_18 : decode cX8_user 18 = .ok (.getfield 253, 3) := by decide +kernel
theorem dX8_user_21 : decode cX8_user 21 = .ok (.bipush 8, 2) := by decide +kernel
theorem dX8_user_23 : decode cX8_user 23 = .ok (.if_icmp .ge 14, 3) := by decide +kernel
theorem dX8_user_26 : decode cX8_user 26 = .ok (.aload_n 0, 1) := by decide +kernel
theorem dX8_user_27 : decode cX8_user 27 = .ok (.getfield 47, 3) := by decide +kernel
theorem dX8_user_30 : decode cX8_user 30 = .ok (.iload_n 1, 1) := by decide +kernel
theorem dX8_user_31 : decode cX8_user 31 = .ok (.invokevirtual 256, 3) := by decide +kernel
theorem dX8_user_34 : decode cX8_user 34 = .ok (.goto 5, 3) := by decide +kernel
theorem dX8_user_37 : decode cX8_user 37 = .ok (.bipush (-4), 2) := by decide +kernel
theorem dX8_user_39 : decode cX8_user 39 = .ok (.ireturn, 1) := by decide +kernel
theorem dX8_alone_0 : decode cX8_alone 0 = .ok (.iload_n 1, 1) := by decide +kernel
theorem dX8_alone_1 : decode cX8_alone 1 = .ok (.iconst 0, 1) := by decide +kernel
theorem dX8_alone_2 : decode cX8_alone 2 = .ok (.aload_n 0, 1) := by decide +kernel
theorem dX8_alone_3 : decode cX8_alone 3 = .ok (.getfield 47, 3) := by decide +kernel
theorem dX8_alone_6 : decode cX8_alone 6 = .ok (.invokevirtual 259, 3) := by decide +kernel
theorem dX8_alone_9 : decode cX8_alone 9 = .ok (.invokestatic 58, 3) := by decide +kernel
theorem dX8_alone_12 : decode cX8_alone 12 = .ok (.ifCond .eq 14, 3) := by decide +kernel
theorem dX8_alone_15 : decode cX8_alone 15 = .ok (.aload_n 0, 1) := by decide +kernel
theorem dX8_alone_16 : decode cX8_alone 16 = .ok (.getfield 47, 3) := by decide +kernel
theorem dX8_alone_19 : decode cX8_alone 19 = .ok (.iload_n 1, 1) := by decide +kernel
theorem dX8_alone_20 : decode cX8_alone 20 = .ok (.invokevirtual 262, 3) := by decide +kernel
theorem dX8_alone_23 : decode cX8_alone 23 = .ok (.goto 5, 3) := by decide +kernel
theorem dX8_alone_26 : decode cX8_alone 26 = .ok (.bipush (-2), 2) := by decide +kernel
theorem dX8_alone_28 : decode cX8_alone 28 = .ok (.ireturn, 1) := by decide +kernel
theorem dX8_paid_0 : decode cX8_paid 0 = .ok (.aload_n 0, 1) := by decide +kernel
theorem dX8_paid_1 : decode cX8_paid 1 = .ok (.getfield 47, 3) := by decide +kernel
theorem dX8_paid_4 : decode cX8_paid 4 = .ok (.iload_n 1, 1) := by decide +kernel
theorem dX8_paid_5 : decode cX8_paid 5 = .ok (.invokevirtual 265, 3) := by decide +kernel
theorem dX8_paid_8 : decode cX8_paid 8 = .ok (.ifCond .ne 6, 3) := by decide +kernel
theorem dX8_paid_11 : decode cX8_paid 11 = .ok (.bipush (-2), 2) := by decide +kernel
theorem dX8_paid_13 : decode cX8_paid 13 = .ok (.ireturn, 1) := by decide +kernel
theorem dX8_paid_14 : decode cX8_paid 14 = .ok (.aload_n 0, 1) := by decide +kernel
theorem dX8_paid_15 : decode cX8_paid 15 = .ok (.getfield 10, 3) := by decide +kernel
theorem dX8_paid_18 : decode cX8_paid 18 = .ok (.aload_n 0, 1) := by decide +kernel
theorem dX8_paid_19 : decode cX8_paid 19 = .ok (.getfield 47, 3) := by decide +kernel
theorem dX8_paid_22 : decode cX8_paid 22 = .ok (.iload_n 1, 1) := by decide +kernel
theorem dX8_paid_23 : decode cX8_paid 23 = .ok (.invokevirtual 268, 3) := by decide +kernel
theorem dX8_paid_26 : decode cX8_paid 26 = .ok (.i2l, 1) := by decide +kernel
theorem dX8_paid_27 : decode cX8_paid 27 = .ok (.ldc2_w 222, 3) := by decide +kernel
theorem dX8_paid_30 : decode cX8_paid 30 = .ok (.invokevirtual 103, 3) := by decide +kernel
theorem dX8_paid_33 : decode cX8_paid 33 = .ok (.iconst 1, 1) := by decide +kernel
theorem dX8_paid_34 : decode cX8_paid 34 = .ok (.ireturn, 1) := by decide +kernel
theorem dX8_pay_0 : decode cX8_pay 0 = .ok (.aload_n 0, 1) := by decide +kernel
theorem dX8_pay_1 : decode cX8_pay 1 = .ok (.getfield 47, 3) := by decide +kernel
theorem dX8_pay_4 : decode cX8_pay 4 = .ok (.iload_n 1, 1) := by decide +kernel
theorem dX8_pay_5 : decode cX8_pay 5 = .ok (.invokevirtual 265, 3) := by decide +kernel
theorem dX8_pay_8 : decode cX8_pay 8 = .ok (.ifCond .eq 14, 3) := by decide +kernel
theorem dX8_pay_11 : decode cX8_pay 11 = .ok (.iload_n 2, 1) := by decide +kernel
theorem dX8_pay_12 : decode cX8_pay 12 = .ok (.iconst 0, 1) := by decide +kernel
theorem dX8_pay_13 : decode cX8_pay 13 = .ok (.sipush 10000, 3) := by decide +kernel
theorem dX8_pay_16 : decode cX8_pay 16 = .ok (.invokestatic 58, 3) := by decide +kernel
theorem dX8_pay_19 : decode cX8_pay 19 = .ok (.ifCond .ne 6, 3) := by decide +kernel
theorem dX8_pay_22 : decode cX8_pay 22 = .ok (.bipush (-2), 2) := by decide +kernel
theorem dX8_pay_24 : decode cX8_pay 24 = .ok (.ireturn, 1) := by decide +kernel
theorem dX8_pay_25 : decode cX8_pay 25 = .ok (.aload_n 0, 1) := by decide +kernel
theorem dX8_pay_26 : decode cX8_pay 26 = .ok (.getfield 47, 3) := by decide +kernel
theorem dX8_pay_29 : decode cX8_pay 29 = .ok (.iload_n 1, 1) := by decide +kernel
theorem dX8_pay_30 : decode cX8_pay 30 = .ok (.iload_n 2, 1) := by decide +kernel
theorem dX8_pay_31 : decode cX8_pay 31 = .ok (.invokevirtual 271, 3) := by decide +kernel
theorem dX8_pay_34 : decode cX8_pay 34 = .ok (.ireturn, 1) := by decide +kernel
theorem dX8_held_0 : decode cX8_held 0 = .ok (.aload_n 0, 1) := by decide +kernel
theorem dX8_held_1 : decode cX8_held 1 = .ok (.getfield 47, 3) := by decide +kernel
theorem dX8_held_4 : decode cX8_held 4 = .ok (.invokevirtual 274, 3) := by decide +kernel
theorem dX8_held_7 : decode cX8_held 7 = .ok (.ireturn, 1) := by decide +kernel
theorem dX8_market_0 : decode cX8_market 0 = .ok (.iload_n 1, 1) := by decide +kernel
theorem dX8_market_1 : decode cX8_market 1 = .ok (.iconst 0, 1) := by decide +kernel
theorem dX8_market_2 : decode cX8_market 2 = .ok (.iconst 4, 1) := by decide +kernel
theorem dX8_market_3 : decode cX8_market 3 = .ok (.invokestatic 58, 3) := by decide +kernel
theorem dX8_market_6 : decode cX8_market 6 = .ok (.ifCond .eq 12, 3) := by decide +kernel
theorem dX8_market_9 : decode cX8_market 9 = .ok (.iload_n 2, 1) := by decide +kernel
theorem dX8_market_10 : decode cX8_market 10 = .ok (.iconst 0, 1) := by decide +kernel
theorem dX8_market_11 : decode cX8_market 11 = .ok (.iconst 4, 1) := by decide +kernel
theorem dX8_market_12 : decode cX8_market 12 = .ok (.invokestatic 58, 3) := by decide +kernel
theorem dX8_market_15 : decode cX8_market 15 = .ok (.ifCond .ne 6, 3) := by decide +kernel
theorem dX8_market_18 : decode cX8_market 18 = .ok (.bipush (-2), 2) := by decide +kernel
theorem dX8_market_20 : decode cX8_market 20 = .ok (.ireturn, 1) := by decide +kernel
theorem dX8_market_21 : decode cX8_market 21 = .ok (.aload_n 0, 1) := by decide +kernel
theorem dX8_market_22 : decode cX8_market 22 = .ok (.getfield 54, 3) := by decide +kernel
theorem dX8_market_25 : decode cX8_market 25 = .ok (.iload_n 1, 1) := by decide +kernel
theorem dX8_market_26 : decode cX8_market 26 = .ok (.iload_n 2, 1) := by decide +kernel
theorem dX8_market_27 : decode cX8_market 27 = .ok (.invokevirtual 277, 3) := by decide +kernel
theorem dX8_market_30 : decode cX8_market 30 = .ok (.iconst 1, 1) := by decide +kernel
theorem dX8_market_31 : decode cX8_market 31 = .ok (.ireturn, 1) := by decide +kernel
theorem dX8_gain_0 : decode cX8_gain 0 = .ok (.aload_n 0, 1) := by decide +kernel
theorem dX8_gain_1 : decode cX8_gain 1 = .ok (.getfield 54, 3) := by decide +kernel
theorem dX8_gain_4 : decode cX8_gain 4 = .ok (.iload_n 1, 1) := by decide +kernel
theorem dX8_gain_5 : decode cX8_gain 5 = .ok (.invokevirtual 280, 3) := by decide +kernel
theorem dX8_gain_8 : decode cX8_gain 8 = .ok (.ifCond .eq 25, 3) := by decide +kernel
theorem dX8_gain_11 : decode cX8_gain 11 = .ok (.aload_n 0, 1) := by decide +kernel
theorem dX8_gain_12 : decode cX8_gain 12 = .ok (.getfield 54, 3) := by decide +kernel
theorem dX8_gain_15 : decode cX8_gain 15 = .ok (.iload_n 2, 1) := by decide +kernel
theorem dX8_gain_16 : decode cX8_gain 16 = .ok (.invokevirtual 283, 3) := by decide +kernel
theorem dX8_gain_19 : decode cX8_gain 19 = .ok (.ifCond .eq 14, 3) := by decide +kernel
theorem dX8_gain_22 : decode cX8_gain 22 = .ok (.iload_n 3, 1) := by decide +kernel
theorem dX8_gain_23 : decode cX8_gain 23 = .ok (.iconst 0, 1) := by decide +kernel
theorem dX8_gain_24 : decode cX8_gain 24 = .ok (.sipush 1000, 3) := by decide +kernel
theorem dX8_gain_27 : decode cX8_gain 27 = .ok (.invokestatic 58, 3) := by decide +kernel
theorem dX8_gain_30 : decode cX8_gain 30 = .ok (.ifCond .ne 6, 3) := by decide +kernel
theorem dX8_gain_33 : decode cX8_gain 33 = .ok (.bipush (-2), 2) := by decide +kernel
theorem dX8_gain_35 : decode cX8_gain 35 = .ok (.ireturn, 1) := by decide +kernel
theorem dX8_gain_36 : decode cX8_gain 36 = .ok (.aload_n 0, 1) := by decide +kernel
theorem dX8_gain_37 : decode cX8_gain 37 = .ok (.getfield 54, 3) := by decide +kernel
theorem dX8_gain_40 : decode cX8_gain 40 = .ok (.iload_n 1, 1) := by decide +kernel
theorem dX8_gain_41 : decode cX8_gain 41 = .ok (.iload_n 2, 1) := by decide +kernel
theorem dX8_gain_42 : decode cX8_gain 42 = .ok (.iload_n 3, 1) := by decide +kernel
theorem dX8_gain_43 : decode cX8_gain 43 = .ok (.invokevirtual 286, 3) := by decide +kernel
theorem dX8_gain_46 : decode cX8_gain 46 = .ok (.ireturn, 1) := by decide +kernel
theorem dX8_most_0 : decode cX8_most 0 = .ok (.iload_n 1, 1) := by decide +kernel
theorem dX8_most_1 : decode cX8_most 1 = .ok (.iconst (-1), 1) := by decide +kernel
theorem dX8_most_2 : decode cX8_most 2 = .ok (.if_icmp .eq 17, 3) := by decide +kernel
theorem dX8_most_5 : decode cX8_most 5 = .ok (.aload_n 0, 1) := by decide +kernel
theorem dX8_most_6 : decode cX8_most 6 = .ok (.getfield 54, 3) := by decide +kernel
theorem dX8_most_9 : decode cX8_most 9 = .ok (.iload_n 1, 1) := by decide +kernel
theorem dX8_most_10 : decode cX8_most 10 = .ok (.invokevirtual 280, 3) := by decide +kernel
theorem dX8_most_13 : decode cX8_most 13 = .ok (.ifCond .ne 6, 3) := by decide +kernel
theorem dX8_most_16 : decode cX8_most 16 = .ok (.bipush (-10), 2) := by decide +kernel
theorem dX8_most_18 : decode cX8_most 18 = .ok (.ireturn, 1) := by decide +kernel
theorem dX8_most_19 : decode cX8_most 19 = .ok (.iload_n 1, 1) := by decide +kernel
theorem dX8_most_20 : decode cX8_most 20 = .ok (.iconst (-1), 1) := by decide +kernel
theorem dX8_most_21 : decode cX8_most 21 = .ok (.if_icmp .ne 13, 3) := by decide +kernel
theorem dX8_most_24 : decode cX8_most 24 = .ok (.aload_n 0, 1) := by decide +kernel
theorem dX8_most_25 : decode cX8_most 25 = .ok (.getfield 54, 3) := by decide +kernel
theorem dX8_most_28 : decode cX8_most 28 = .ok (.invokevirtual 289, 3) := by decide +kernel
theorem dX8_most_31 : decode cX8_most 31 = .ok (.goto 11, 3) := by decide +kernel
theorem dX8_most_34 : decode cX8_most 34 = .ok (.aload_n 0, 1) := by decide +kernel
theorem dX8_most_35 : decode cX8_most 35 = .ok (.getfield 54, 3) := by decide +kernel
theorem dX8_most_38 : decode cX8_most 38 = .ok (.iload_n 1, 1) := by decide +kernel
theorem dX8_most_39 : decode cX8_most 39 = .ok (.invokevirtual 292, 3) := by decide +kernel
theorem dX8_most_42 : decode cX8_most 42 = .ok (.ireturn, 1) := by decide +kernel
theorem dX8_price_0 : decode cX8_price 0 = .ok (.aload_n 0, 1) := by decide +kernel
theorem dX8_price_1 : decode cX8_price 1 = .ok (.getfield 54, 3) := by decide +kernel
theorem dX8_price_4 : decode cX8_price 4 = .ok (.iload_n 1, 1) := by decide +kernel
theorem dX8_price_5 : decode cX8_price 5 = .ok (.invokevirtual 283, 3) := by decide +kernel
theorem dX8_price_8 : decode cX8_price 8 = .ok (.ifCond .eq 12, 3) := by decide +kernel
theorem dX8_price_11 : decode cX8_price 11 = .ok (.iload_n 2, 1) := by decide +kernel
theorem dX8_price_12 : decode cX8_price 12 = .ok (.iconst 0, 1) := by decide +kernel
theorem dX8_price_13 : decode cX8_price 13 = .ok (.iconst 1, 1) := by decide +kernel
theorem dX8_price_14 : decode cX8_price 14 = .ok (.invokestatic 58, 3) := by decide +kernel
theorem dX8_price_17 : decode cX8_price 17 = .ok (.ifCond .ne 6, 3) := by decide +kernel
theorem dX8_price_20 : decode cX8_price 20 = .ok (.bipush (-2), 2) := by decide +kernel
theorem dX8_price_22 : decode cX8_price 22 = .ok (.ireturn, 1) := by decide +kernel
theorem dX8_price_23 : decode cX8_price 23 = .ok (.iload_n 2, 1) := by decide +kernel
theorem dX8_price_24 : decode cX8_price 24 = .ok (.ifCond .ne 14, 3) := by decide +kernel
theorem dX8_price_27 : decode cX8_price 27 = .ok (.aload_n 0, 1) := by decide +kernel
theorem dX8_price_28 : decode cX8_price 28 = .ok (.getfield 54, 3) := by decide +kernel
theorem dX8_price_31 : decode cX8_price 31 = .ok (.iload_n 1, 1) := by decide +kernel
theorem dX8_price_32 : decode cX8_price 32 = .ok (.invokevirtual 295, 3) := by decide +kernel
theorem dX8_price_35 : decode cX8_price 35 = .ok (.goto 11, 3) := by decide +kernel
theorem dX8_price_38 : decode cX8_price 38 = .ok (.aload_n 0, 1) := by decide +kernel
theorem dX8_price_39 : decode cX8_price 39 = .ok (.getfield 54, 3) := by decide +kernel
theorem dX8_price_42 : decode cX8_price 42 = .ok (.iload_n 1, 1) := by decide +kernel
theorem dX8_price_43 : decode cX8_price 43 = .ok (.invokevirtual 298, 3) := by decide +kernel
theorem dX8_price_46 : decode cX8_price 46 = .ok (.ireturn, 1) := by decide +kernel
theorem dX8_tell_0 : decode cX8_tell 0 = .ok (.aload_n 0, 1) := by decide +kernel
theorem dX8_tell_1 : decode cX8_tell 1 = .ok (.getfield 54, 3) := by decide +kernel
theorem dX8_tell_4 : decode cX8_tell 4 = .ok (.iload_n 1, 1) := by decide +kernel
theorem dX8_tell_5 : decode cX8_tell 5 = .ok (.invokevirtual 283, 3) := by decide +kernel
theorem dX8_tell_8 : decode cX8_tell 8 = .ok (.ifCond .eq 14, 3) := by decide +kernel
theorem dX8_tell_11 : decode cX8_tell 11 = .ok (.iload_n 2, 1) := by decide +kernel
theorem dX8_tell_12 : decode cX8_tell 12 = .ok (.iconst 0, 1) := by decide +kernel
theorem dX8_tell_13 : decode cX8_tell 13 = .ok (.sipush 1000, 3) := by decide +kernel
theorem dX8_tell_16 : decode cX8_tell 16 = .ok (.invokestatic 58, 3) := by decide +kernel
theorem dX8_tell_19 : decode cX8_tell 19 = .ok (.ifCond .ne 6, 3) := by decide +kernel
theorem dX8_tell_22 : decode cX8_tell 22 = .ok (.bipush (-2), 2) := by decide +kernel
theorem dX8_tell_24 : decode cX8_tell 24 = .ok (.ireturn, 1) := by decide +kernel
theorem dX8_tell_25 : decode cX8_tell 25 = .ok (.aload_n 0, 1) := by decide +kernel
theorem dX8_tell_26 : decode cX8_tell 26 = .ok (.getfield 54, 3) := by decide +kernel
theorem dX8_tell_29 : decode cX8_tell 29 = .ok (.iload_n 1, 1) := by decide +kernel
theorem dX8_tell_30 : decode cX8_tell 30 = .ok (.iload_n 2, 1) := by decide +kernel
theorem dX8_tell_31 : decode cX8_tell 31 = .ok (.invokevirtual 301, 3) := by decide +kernel
theorem dX8_tell_34 : decode cX8_tell 34 = .ok (.ireturn, 1) := by decide +kernel
theorem dX8_clear_0 : decode cX8_clear 0 = .ok (.aload_n 0, 1) := by decide +kernel
theorem dX8_clear_1 : decode cX8_clear 1 = .ok (.getfield 54, 3) := by decide +kernel
theorem dX8_clear_4 : decode cX8_clear 4 = .ok (.invokevirtual 304, 3) := by decide +kernel
theorem dX8_clear_7 : decode cX8_clear 7 = .ok (.ifCond .eq 7, 3) := by decide +kernel
theorem dX8_clear_10 : decode cX8_clear 10 = .ok (.iconst 1, 1) := by decide +kernel
theorem dX8_clear_11 : decode cX8_clear 11 = .ok (.goto 4, 3) := by decide +kernel
theorem dX8_clear_14 : decode cX8_clear 14 = .ok (.iconst 0, 1) := by decide +kernel
theorem dX8_clear_15 : decode cX8_clear 15 = .ok (.ireturn, 1) := by decide +kernel
theorem dX8_count_0 : decode cX8_count 0 = .ok (.iload_n 1, 1) := by decide +kernel
theorem dX8_count_1 : decode cX8_count 1 = .ok (.tableswitch 99 0 6 #[43, 51, 59, 67, 75, 83, 91], 43) := by decide +kernel
theorem dX8_count_44 : decode cX8_count 44 = .ok (.aload_n 0, 1) := by decide +kernel
theorem dX8_count_45 : decode cX8_count 45 = .ok (.getfield 19, 3) := by decide +kernel
theorem dX8_count_48 : decode cX8_count 48 = .ok (.getfield 96, 3) := by decide +kernel
theorem dX8_count_51 : decode cX8_count 51 = .ok (.ireturn, 1) := by decide +kernel
theorem dX8_count_52 : decode cX8_count 52 = .ok (.aload_n 0, 1) := by decide +kernel
theorem dX8_count_53 : decode cX8_count 53 = .ok (.getfield 33, 3) := by decide +kernel
theorem dX8_count_56 : decode cX8_count 56 = .ok (.getfield 182, 3) := by decide +kernel
theorem dX8_count_59 : decode cX8_count 59 = .ok (.ireturn, 1) := by decide +kernel
theorem dX8_count_60 : decode cX8_count 60 = .ok (.aload_n 0, 1) := by decide +kernel
theorem dX8_count_61 : decode cX8_count 61 = .ok (.getfield 40, 3) := by decide +kernel
theorem dX8_count_64 : decode cX8_count 64 = .ok (.getfield 227, 3) := by decide +kernel
theorem dX8_count_67 : decode cX8_count 67 = .ok (.ireturn, 1) := by decide +kernel
theorem dX8_count_68 : decode cX8_count 68 = .ok (.aload_n 0, 1) := by decide +kernel
theorem dX8_count_69 : decode cX8_count 69 = .ok (.getfield 47, 3) := by decide +kernel
theorem dX8_count_72 : decode cX8_count 72 = .ok (.getfield 247, 3) := by decide +kernel
theorem dX8_count_75 : decode cX8_count 75 = .ok (.ireturn, 1) := by decide +kernel
theorem dX8_count_76 : decode cX8_count 76 = .ok (.aload_n 0, 1) := by decide +kernel
theorem dX8_count_77 : decode cX8_count 77 = .ok (.getfield 47, 3) := by decide +kernel
theorem dX8_count_80 : decode cX8_count 80 = .ok (.getfield 253, 3) := by decide +kernel
theorem dX8_count_83 : decode cX8_count 83 = .ok (.ireturn, 1) := by decide +kernel
theorem dX8_count_84 : decode cX8_count 84 = .ok (.aload_n 0, 1) := by decide +kernel
theorem dX8_count_85 : decode cX8_count 85 = .ok (.getfield 54, 3) := by decide +kernel
theorem dX8_count_88 : decode cX8_count 88 = .ok (.getfield 308, 3) := by decide +kernel
theorem dX8_count_91 : decode cX8_count 91 = .ok (.ireturn, 1) := by decide +kernel
theorem dX8_count_92 : decode cX8_count 92 = .ok (.aload_n 0, 1) := by decide +kernel
theorem dX8_count_93 : decode cX8_count 93 = .ok (.getfield 54, 3) := by decide +kernel
theorem dX8_count_96 : decode cX8_count 96 = .ok (.getfield 311, 3) := by decide +kernel
theorem dX8_count_99 : decode cX8_count 99 = .ok (.ireturn, 1) := by decide +kernel
theorem dX8_count_100 : decode cX8_count 100 = .ok (.bipush (-2), 2) := by decide +kernel
theorem dX8_count_102 : decode cX8_count 102 = .ok (.ireturn, 1) := by decide +kernel
theorem dX8_digest_0 : decode cX8_digest 0 = .ok (.ldc2_w 314, 3) := by decide +kernel
theorem dX8_digest_3 : decode cX8_digest 3 = .ok (.lstore_n 1, 1) := by decide +kernel
theorem dX8_digest_4 : decode cX8_digest 4 = .ok (.iconst 0, 1) := by decide +kernel
theorem dX8_digest_5 : decode cX8_digest 5 = .ok (.istore_n 3, 1) := by decide +kernel
theorem dX8_digest_6 : decode cX8_digest 6 = .ok (.iload_n 3, 1) := by decide +kernel
theorem dX8_digest_7 : decode cX8_digest 7 = .ok (.bipush 6, 2) := by decide +kernel
theorem dX8_digest_9 : decode cX8_digest 9 = .ok (.if_icmp .gt 20, 3) := by decide +kernel
theorem dX8_digest_12 : decode cX8_digest 12 = .ok (.lload_n 1, 1) := by decide +kernel
theorem dX8_digest_13 : decode cX8_digest 13 = .ok (.aload_n 0, 1) := by decide +kernel
theorem dX8_digest_14 : decode cX8_digest 14 = .ok (.iload_n 3, 1) := by decide +kernel
theorem dX8_digest_15 : decode cX8_digest 15 = .ok (.invokevirtual 316, 3) := by decide +kernel
theorem dX8_digest_18 : decode cX8_digest 18 = .ok (.i2l, 1) := by decide +kernel
theorem dX8_digest_19 : decode cX8_digest 19 = .ok (.invokestatic 319, 3) := by decide +kernel
theorem dX8_digest_22 : decode cX8_digest 22 = .ok (.lstore_n 1, 1) := by decide +kernel
theorem dX8_digest_23 : decode cX8_digest 23 = .ok (.iinc 3 1, 3) := by decide +kernel
theorem dX8_digest_26 : decode cX8_digest 26 = .ok (.goto (-20), 3) := by decide +kernel
theorem dX8_digest_29 : decode cX8_digest 29 = .ok (.aload_n 0, 1) := by decide +kernel
theorem dX8_digest_30 : decode cX8_digest 30 = .ok (.getfield 19, 3) := by decide +kernel
theorem dX8_digest_33 : decode cX8_digest 33 = .ok (.lload_n 1, 1) := by decide +kernel
theorem dX8_digest_34 : decode cX8_digest 34 = .ok (.invokevirtual 323, 3) := by decide +kernel
theorem dX8_digest_37 : decode cX8_digest 37 = .ok (.lstore_n 1, 1) := by decide +kernel
theorem dX8_digest_38 : decode cX8_digest 38 = .ok (.aload_n 0, 1) := by decide +kernel
theorem dX8_digest_39 : decode cX8_digest 39 = .ok (.getfield 26, 3) := by decide +kernel
theorem dX8_digest_42 : decode cX8_digest 42 = .ok (.lload_n 1, 1) := by decide +kernel
theorem dX8_digest_43 : decode cX8_digest 43 = .ok (.aload_n 0, 1) := by decide +kernel
theorem dX8_digest_44 : decode cX8_digest 44 = .ok (.getfield 19, 3) := by decide +kernel
theorem dX8_digest_47 : decode cX8_digest 47 = .ok (.getfield 96, 3) := by decide +kernel
theorem dX8_digest_50 : decode cX8_digest 50 = .ok (.invokevirtual 327, 3) := by decide +kernel
theorem dX8_digest_53 : decode cX8_digest 53 = .ok (.lstore_n 1, 1) := by decide +kernel
theorem dX8_digest_54 : decode cX8_digest 54 = .ok (.aload_n 0, 1) := by decide +kernel
theorem dX8_digest_55 : decode cX8_digest 55 = .ok (.getfield 33, 3) := by decide +kernel
theorem dX8_digest_58 : decode cX8_digest 58 = .ok (.lload_n 1, 1) := by decide +kernel
theorem dX8_digest_59 : decode cX8_digest 59 = .ok (.invokevirtual 330, 3) := by decide +kernel
theorem dX8_digest_62 : decode cX8_digest 62 = .ok (.lstore_n 1, 1) := by decide +kernel
theorem dX8_digest_63 : decode cX8_digest 63 = .ok (.aload_n 0, 1) := by decide +kernel
theorem dX8_digest_64 : decode cX8_digest 64 = .ok (.getfield 40, 3) := by decide +kernel
theorem dX8_digest_67 : decode cX8_digest 67 = .ok (.lload_n 1, 1) := by decide +kernel
theorem dX8_digest_68 : decode cX8_digest 68 = .ok (.invokevirtual 331, 3) := by decide +kernel
theorem dX8_digest_71 : decode cX8_digest 71 = .ok (.lstore_n 1, 1) := by decide +kernel
theorem dX8_digest_72 : decode cX8_digest 72 = .ok (.aload_n 0, 1) := by decide +kernel
theorem dX8_digest_73 : decode cX8_digest 73 = .ok (.getfield 47, 3) := by decide +kernel
theorem dX8_digest_76 : decode cX8_digest 76 = .ok (.lload_n 1, 1) := by decide +kernel
theorem dX8_digest_77 : decode cX8_digest 77 = .ok (.invokevirtual 332, 3) := by decide +kernel
theorem dX8_digest_80 : decode cX8_digest 80 = .ok (.lstore_n 1, 1) := by decide +kernel
theorem dX8_digest_81 : decode cX8_digest 81 = .ok (.aload_n 0, 1) := by decide +kernel
theorem dX8_digest_82 : decode cX8_digest 82 = .ok (.getfield 54, 3) := by decide +kernel
theorem dX8_digest_85 : decode cX8_digest 85 = .ok (.lload_n 1, 1) := by decide +kernel
theorem dX8_digest_86 : decode cX8_digest 86 = .ok (.invokevirtual 333, 3) := by decide +kernel
theorem dX8_digest_89 : decode cX8_digest 89 = .ok (.lstore_n 1, 1) := by decide +kernel
theorem dX8_digest_90 : decode cX8_digest 90 = .ok (.lload_n 1, 1) := by decide +kernel
theorem dX8_digest_91 : decode cX8_digest 91 = .ok (.aload_n 0, 1) := by decide +kernel
theorem dX8_digest_92 : decode cX8_digest 92 = .ok (.getfield 10, 3) := by decide +kernel
theorem dX8_digest_95 : decode cX8_digest 95 = .ok (.getfield 128, 3) := by decide +kernel
theorem dX8_digest_98 : decode cX8_digest 98 = .ok (.invokestatic 319, 3) := by decide +kernel
theorem dX8_digest_101 : decode cX8_digest 101 = .ok (.aload_n 0, 1) := by decide +kernel
theorem dX8_digest_102 : decode cX8_digest 102 = .ok (.getfield 10, 3) := by decide +kernel
theorem dX8_digest_105 : decode cX8_digest 105 = .ok (.getfield 132, 3) := by decide +kernel
theorem dX8_digest_108 : decode cX8_digest 108 = .ok (.invokestatic 319, 3) := by decide +kernel
theorem dX8_digest_111 : decode cX8_digest 111 = .ok (.lreturn, 1) := by decide +kernel
theorem dX8_mix_0 : decode cX8_mix 0 = .ok (.ldc2_w 334, 3) := by decide +kernel
theorem dX8_mix_3 : decode cX8_mix 3 = .ok (.lload_n 0, 1) := by decide +kernel
theorem dX8_mix_4 : decode cX8_mix 4 = .ok (.lmul, 1) := by decide +kernel
theorem dX8_mix_5 : decode cX8_mix 5 = .ok (.lload_n 2, 1) := by decide +kernel
theorem dX8_mix_6 : decode cX8_mix 6 = .ok (.ladd, 1) := by decide +kernel
theorem dX8_mix_7 : decode cX8_mix 7 = .ok (.lreturn, 1) := by decide +kernel
theorem dX8_within_0 : decode cX8_within 0 = .ok (.iload_n 0, 1) := by decide +kernel
theorem dX8_within_1 : decode cX8_within 1 = .ok (.iload_n 1, 1) := by decide +kernel
theorem dX8_within_2 : decode cX8_within 2 = .ok (.if_icmp .lt 12, 3) := by decide +kernel
theorem dX8_within_5 : decode cX8_within 5 = .ok (.iload_n 0, 1) := by decide +kernel
theorem dX8_within_6 : decode cX8_within 6 = .ok (.iload_n 2, 1) := by decide +kernel
theorem dX8_within_7 : decode cX8_within 7 = .ok (.if_icmp .gt 7, 3) := by decide +kernel
theorem dX8_within_10 : decode cX8_within 10 = .ok (.iconst 1, 1) := by decide +kernel
theorem dX8_within_11 : decode cX8_within 11 = .ok (.goto 4, 3) := by decide +kernel
theorem dX8_within_14 : decode cX8_within 14 = .ok (.iconst 0, 1) := by decide +kernel
theorem dX8_within_15 : decode cX8_within 15 = .ok (.ireturn, 1) := by decide +kernel
theorem dX8_has_0 : decode cX8_has 0 = .ok (.iload_n 0, 1) := by decide +kernel
theorem dX8_has_1 : decode cX8_has 1 = .ok (.iload_n 1, 1) := by decide +kernel
theorem dX8_has_2 : decode cX8_has 2 = .ok (.ishr, 1) := by decide +kernel
theorem dX8_has_3 : decode cX8_has 3 = .ok (.iconst 1, 1) := by decide +kernel
theorem dX8_has_4 : decode cX8_has 4 = .ok (.iand, 1) := by decide +kernel
theorem dX8_has_5 : decode cX8_has 5 = .ok (.iconst 1, 1) := by decide +kernel
theorem dX8_has_6 : decode cX8_has 6 = .ok (.if_icmp .ne 7, 3) := by decide +kernel
theorem dX8_has_9 : decode cX8_has 9 = .ok (.iconst 1, 1) := by decide +kernel
theorem dX8_has_10 : decode cX8_has 10 = .ok (.goto 4, 3) := by decide +kernel
theorem dX8_has_13 : decode cX8_has 13 = .ok (.iconst 0, 1) := by decide +kernel
theorem dX8_has_14 : decode cX8_has 14 = .ok (.ireturn, 1) := by decide +kernel
theorem dX8_commonFactor_0 : decode cX8_commonFactor 0 = .ok (.lload_n 0, 1) := by decide +kernel
theorem dX8_commonFactor_1 : decode cX8_commonFactor 1 = .ok (.lconst 0, 1) := by decide +kernel
theorem dX8_commonFactor_2 : decode cX8_commonFactor 2 = .ok (.lcmp, 1) := by decide +kernel
theorem dX8_commonFactor_3 : decode cX8_commonFactor 3 = .ok (.ifCond .ge 8, 3) := by decide +kernel
theorem dX8_commonFactor_6 : decode cX8_commonFactor 6 = .ok (.lload_n 0, 1) := by decide +kernel
theorem dX8_commonFactor_7 : decode cX8_commonFactor 7 = .ok (.lneg, 1) := by decide +kernel
theorem dX8_commonFactor_8 : decode cX8_commonFactor 8 = .ok (.goto 4, 3) := by decide +kernel
theorem dX8_commonFactor_11 : decode cX8_commonFactor 11 = .ok (.lload_n 0, 1) := by decide +kernel
theorem dX8_commonFactor_12 : decode cX8_commonFactor 12 = .ok (.lstore 4, 2) := by decide +kernel
theorem dX8_commonFactor_14 : decode cX8_commonFactor 14 = .ok (.lload_n 2, 1) := by decide +kernel
theorem dX8_commonFactor_15 : decode cX8_commonFactor 15 = .ok (.lconst 0, 1) := by decide +kernel
theorem dX8_commonFactor_16 : decode cX8_commonFactor 16 = .ok (.lcmp, 1) := by decide +kernel
theorem dX8_commonFactor_17 : decode cX8_commonFactor 17 = .ok (.ifCond .ge 8, 3) := by decide +kernel
theorem dX8_commonFactor_20 : decode cX8_commonFactor 20 = .ok (.lload_n 2, 1) := by decide +kernel
theorem dX8_commonFactor_21 : decode cX8_commonFactor 21 = .ok (.lneg, 1) := by decide +kernel
theorem dX8_commonFactor_22 : decode cX8_commonFactor 22 = .ok (.goto 4, 3) := by decide +kernel
theorem dX8_commonFactor_25 : decode cX8_commonFactor 25 = .ok (.lload_n 2, 1) := by decide +kernel
theorem dX8_commonFactor_26 : decode cX8_commonFactor 26 = .ok (.lstore 6, 2) := by decide +kernel
theorem dX8_commonFactor_28 : decode cX8_commonFactor 28 = .ok (.iconst 0, 1) := by decide +kernel
theorem dX8_commonFactor_29 : decode cX8_commonFactor 29 = .ok (.istore 8, 2) := by decide +kernel
theorem dX8_commonFactor_31 : decode cX8_commonFactor 31 = .ok (.iload 8, 2) := by decide +kernel
theorem dX8_commonFactor_33 : decode cX8_commonFactor 33 = .ok (.ldc_w 336, 3) := by decide +kernel
theorem dX8_commonFactor_36 : decode cX8_commonFactor 36 = .ok (.if_icmp .ge 31, 3) := by decide +kernel
theorem dX8_commonFactor_39 : decode cX8_commonFactor 39 = .ok (.lload 6, 2) := by decide +kernel
theorem dX8_commonFactor_41 : decode cX8_commonFactor 41 = .ok (.lconst 0, 1) := by decide +kernel
theorem dX8_commonFactor_42 : decode cX8_commonFactor 42 = .ok (.lcmp, 1) := by decide +kernel
theorem dX8_commonFactor_43 : decode cX8_commonFactor 43 = .ok (.ifCond .eq 24, 3) := by decide +kernel
theorem dX8_commonFactor_46 : decode cX8_commonFactor 46 = .ok (.lload 4, 2) := by decide +kernel
theorem dX8_commonFactor_48 : decode cX8_commonFactor 48 = .ok (.lload 6, 2) := by decide +kernel
theorem dX8_commonFactor_50 : decode cX8_commonFactor 50 = .ok (.lrem, 1) := by decide +kernel
theorem dX8_commonFactor_51 : decode cX8_commonFactor 51 = .ok (.lstore 9, 2) := by decide +kernel
theorem dX8_commonFactor_53 : decode cX8_commonFactor 53 = .ok (.lload 6, 2) := by decide +kernel
theorem dX8_commonFactor_55 : decode cX8_commonFactor 55 = .ok (.lstore 4, 2) := by decide +kernel
theorem dX8_commonFactor_57 : decode cX8_commonFactor 57 = .ok (.lload 9, 2) := by decide +kernel
theorem dX8_commonFactor_59 : decode cX8_commonFactor 59 = .ok (.lstore 6, 2) := by decide +kernel
theorem dX8_commonFactor_61 : decode cX8_commonFactor 61 = .ok (.iinc 8 1, 3) := by decide +kernel
theorem dX8_commonFactor_64 : decode cX8_commonFactor 64 = .ok (.goto (-33), 3) := by decide +kernel
theorem dX8_commonFactor_67 : decode cX8_commonFactor 67 = .ok (.lload 4, 2) := by decide +kernel
theorem dX8_commonFactor_69 : decode cX8_commonFactor 69 = .ok (.lreturn, 1) := by decide +kernel
theorem dX8_ordersOf_0 : decode cX8_ordersOf 0 = .ok (.iload_n 0, 1) := by decide +kernel
theorem dX8_ordersOf_1 : decode cX8_ordersOf 1 = .ok (.iconst 0, 1) := by decide +kernel
theorem dX8_ordersOf_2 : decode cX8_ordersOf 2 = .ok (.getstatic 337, 3) := by decide +kernel
theorem dX8_ordersOf_5 : decode cX8_ordersOf 5 = .ok (.arraylength, 1) := by decide +kernel
theorem dX8_ordersOf_6 : decode cX8_ordersOf 6 = .ok (.iconst 1, 1) := by decide +kernel
theorem dX8_ordersOf_7 : decode cX8_ordersOf 7 = .ok (.isub, 1) := by decide +kernel
theorem dX8_ordersOf_8 : decode cX8_ordersOf 8 = .ok (.invokestatic 58, 3) := by decide +kernel
theorem dX8_ordersOf_11 : decode cX8_ordersOf 11 = .ok (.ifCond .eq 11, 3) := by decide +kernel
theorem dX8_ordersOf_14 : decode cX8_ordersOf 14 = .ok (.getstatic 337, 3) := by decide +kernel
theorem dX8_ordersOf_17 : decode cX8_ordersOf 17 = .ok (.iload_n 0, 1) := by decide +kernel
theorem dX8_ordersOf_18 : decode cX8_ordersOf 18 = .ok (.iaload, 1) := by decide +kernel
theorem dX8_ordersOf_19 : decode cX8_ordersOf 19 = .ok (.goto 4, 3) := by decide +kernel
theorem dX8_ordersOf_22 : decode cX8_ordersOf 22 = .ok (.iconst 0, 1) := by decide +kernel
theorem dX8_ordersOf_23 : decode cX8_ordersOf 23 = .ok (.ireturn, 1) := by decide +kernel
theorem dX8_ordersBehind_0 : decode cX8_ordersBehind 0 = .ok (.iload_n 0, 1) := by decide +kernel
theorem dX8_ordersBehind_1 : decode cX8_ordersBehind 1 = .ok (.invokestatic 100, 3) := by decide +kernel
theorem dX8_ordersBehind_4 : decode cX8_ordersBehind 4 = .ok (.iload_n 1, 1) := by decide +kernel
theorem dX8_ordersBehind_5 : decode cX8_ordersBehind 5 = .ok (.iconst 1, 1) := by decide +kernel
theorem dX8_ordersBehind_6 : decode cX8_ordersBehind 6 = .ok (.isub, 1) := by decide +kernel
theorem dX8_ordersBehind_7 : decode cX8_ordersBehind 7 = .ok (.iload_n 0, 1) := by decide +kernel
theorem dX8_ordersBehind_8 : decode cX8_ordersBehind 8 = .ok (.isub, 1) := by decide +kernel
theorem dX8_ordersBehind_9 : decode cX8_ordersBehind 9 = .ok (.invokestatic 100, 3) := by decide +kernel
theorem dX8_ordersBehind_12 : decode cX8_ordersBehind 12 = .ok (.imul, 1) := by decide +kernel
theorem dX8_ordersBehind_13 : decode cX8_ordersBehind 13 = .ok (.ireturn, 1) := by decide +kernel
