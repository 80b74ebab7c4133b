theorem dX6_init_0 : decode cX6_init 0 = .ok (.aload_n 0, 1) := by decide +kernel
theorem dX6_init_1 : decode cX6_init 1 = .ok (.invokespecial 3, 3) := by decide +kernel
theorem dX6_init_4 : decode cX6_init 4 = .ok (.aload_n 0, 1) := by decide +kernel
theorem dX6_init_5 : decode cX6_init 5 = .ok (.iconst 1, 1) := by decide +kernel
theorem dX6_init_6 : decode cX6_init 6 = .ok (.putfield 9, 3) := by decide +kernel
theorem dX6_init_9 : decode cX6_init 9 = .ok (.aload_n 0, 1) := by decide +kernel
theorem dX6_init_10 : decode cX6_init 10 = .ok (.bipush 10, 2) := by decide +kernel
theorem dX6_init_12 : decode cX6_init 12 = .ok (.newarray .int, 2) := by decide +kernel
theorem dX6_init_14 : decode cX6_init 14 = .ok (.putfield 15, 3) := by decide +kernel
theorem dX6_init_17 : decode cX6_init 17 = .ok (.aload_n 0, 1) := by decide +kernel
theorem dX6_init_18 : decode cX6_init 18 = .ok (.bipush 10, 2) := by decide +kernel
theorem dX6_init_20 : decode cX6_init 20 = .ok (.newarray .int, 2) := by decide +kernel
theorem dX6_init_22 : decode cX6_init 22 = .ok (.putfield 19, 3) := by decide +kernel
theorem dX6_init_25 : decode cX6_init 25 = .ok (.aload_n 0, 1) := by decide +kernel
theorem dX6_init_26 : decode cX6_init 26 = .ok (.bipush 10, 2) := by decide +kernel
theorem dX6_init_28 : decode cX6_init 28 = .ok (.newarray .int, 2) := by decide +kernel
theorem dX6_init_30 : decode cX6_init 30 = .ok (.putfield 22, 3) := by decide +kernel
theorem dX6_init_33 : decode cX6_init 33 = .ok (.aload_n 0, 1) := by decide +kernel
theorem dX6_init_34 : decode cX6_init 34 = .ok (.iconst 0, 1) := by decide +kernel
theorem dX6_init_35 : decode cX6_init 35 = .ok (.putfield 25, 3) := by decide +kernel
theorem dX6_init_38 : decode cX6_init 38 = .ok (.aload_n 0, 1) := by decide +kernel
theorem dX6_init_39 : decode cX6_init 39 = .ok (.bipush 8, 2) := by decide +kernel
theorem dX6_init_41 : decode cX6_init 41 = .ok (.newarray .int, 2) := by decide +kernel
theorem dX6_init_43 : decode cX6_init 43 = .ok (.putfield 28, 3) := by decide +kernel
theorem dX6_init_46 : decode cX6_init 46 = .ok (.aload_n 0, 1) := by decide +kernel
theorem dX6_init_47 : decode cX6_init 47 = .ok (.bipush 8, 2) := by decide +kernel
theorem dX6_init_49 : decode cX6_init 49 = .ok (.newarray .int, 2) := by decide +kernel
theorem dX6_init_51 : decode cX6_init 51 = .ok (.putfield 31, 3) := by decide +kernel
theorem dX6_init_54 : decode cX6_init 54 = .ok (.return_, 1) := by decide +kernel
theorem dX6_knowsPlace_0 : decode cX6_knowsPlace 0 = .ok (.iload_n 1, 1) := by decide +kernel
theorem dX6_knowsPlace_1 : decode cX6_knowsPlace 1 = .ok (.iconst 0, 1) := by decide +kernel
theorem dX6_knowsPlace_2 : decode cX6_knowsPlace 2 = .ok (.aload_n 0, 1) := by decide +kernel
theorem dX6_knowsPlace_3 : decode cX6_knowsPlace 3 = .ok (.getfield 9, 3) := by decide +kernel
theorem dX6_knowsPlace_6 : decode cX6_knowsPlace 6 = .ok (.iconst 1, 1) := by decide +kernel
theorem dX6_knowsPlace_7 : decode cX6_knowsPlace 7 = .ok (.isub, 1) := by decide +kernel
theorem dX6_knowsPlace_8 : decode cX6_knowsPlace 8 = .ok (.invokestatic 34, 3) := by decide +kernel
theorem dX6_knowsPlace_11 : decode cX6_knowsPlace 11 = .ok (.ireturn, 1) := by decide +kernel
theorem dX6_knowsUser_0 : decode cX6_knowsUser 0 = .ok (.iload_n 1, 1) := by decide +kernel
theorem dX6_knowsUser_1 : decode cX6_knowsUser 1 = .ok (.iconst 0, 1) := by decide +kernel
theorem dX6_knowsUser_2 : decode cX6_knowsUser 2 = .ok (.aload_n 0, 1) := by decide +kernel
theorem dX6_knowsUser_3 : decode cX6_knowsUser 3 = .ok (.getfield 25, 3) := by decide +kernel
theorem dX6_knowsUser_6 : decode cX6_knowsUser 6 = .ok (.iconst 1, 1) := by decide +kernel
theorem dX6_knowsUser_7 : decode cX6_knowsUser 7 = .ok (.isub, 1) := by decide +kernel
theorem dX6_knowsUser_8 : decode cX6_knowsUser 8 = .ok (.invokestatic 34, 3) := by decide +kernel
theorem dX6_knowsUser_11 : decode cX6_knowsUser 11 = .ok (.ireturn, 1) := by decide +kernel
theorem dX6_allUsers_0 : decode cX6_allUsers 0 = .ok (.iconst 1, 1) := by decide +kernel
theorem dX6_allUsers_1 : decode cX6_allUsers 1 = .ok (.aload_n 0, 1) := by decide +kernel
theorem dX6_allUsers_2 : decode cX6_allUsers 2 = .ok (.getfield 25, 3) := by decide +kernel
theorem dX6_allUsers_5 : decode cX6_allUsers 5 = .ok (.ishl, 1) := by decide +kernel
theorem dX6_allUsers_6 : decode cX6_allUsers 6 = .ok (.iconst 1, 1) := by decide +kernel
theorem dX6_allUsers_7 : decode cX6_allUsers 7 = .ok (.isub, 1) := by decide +kernel
theorem dX6_allUsers_8 : decode cX6_allUsers 8 = .ok (.ireturn, 1) := by decide +kernel
theorem dX6_addPlace_0 : decode cX6_addPlace 0 = .ok (.aload_n 0, 1) := by decide +kernel
theorem dX6_addPlace_1 : decode cX6_addPlace 1 = .ok (.getfield 15, 3) := by decide +kernel
theorem dX6_addPlace_4 : decode cX6_addPlace 4 = .ok (.aload_n 0, 1) := by decide +kernel
theorem dX6_addPlace_5 : decode cX6_addPlace 5 = .ok (.getfield 9, 3) := by decide +kernel
theorem dX6_addPlace_8 : decode cX6_addPlace 8 = .ok (.iload_n 1, 1) := by decide +kernel
theorem dX6_addPlace_9 : decode cX6_addPlace 9 = .ok (.iastore, 1) := by decide +kernel
theorem dX6_addPlace_10 : decode cX6_addPlace 10 = .ok (.aload_n 0, 1) := by decide +kernel
theorem dX6_addPlace_11 : decode cX6_addPlace 11 = .ok (.getfield 19, 3) := by decide +kernel
theorem dX6_addPlace_14 : decode cX6_addPlace 14 = .ok (.aload_n 0, 1) := by decide +kernel
theorem dX6_addPlace_15 : decode cX6_addPlace 15 = .ok (.getfield 9, 3) := by decide +kernel
theorem dX6_addPlace_18 : decode cX6_addPlace 18 = .ok (.iload_n 2, 1) := by decide +kernel
theorem dX6_addPlace_19 : decode cX6_addPlace 19 = .ok (.iastore, 1) := by decide +kernel
theorem dX6_addPlace_20 : decode cX6_addPlace 20 = .ok (.aload_n 0, 1) := by decide +kernel
theorem dX6_addPlace_21 : decode cX6_addPlace 21 = .ok (.getfield 22, 3) := by decide +kernel
theorem dX6_addPlace_24 : decode cX6_addPlace 24 = .ok (.aload_n 0, 1) := by decide +kernel
theorem dX6_addPlace_25 : decode cX6_addPlace 25 = .ok (.getfield 9, 3) := by decide +kernel
theorem dX6_addPlace_28 : decode cX6_addPlace 28 = .ok (.aload_n 0, 1) := by decide +kernel
theorem dX6_addPlace_29 : decode cX6_addPlace 29 = .ok (.getfield 22, 3) := by decide +kernel
theorem dX6_addPlace_32 : decode cX6_addPlace 32 = .ok (.iload_n 1, 1) := by decide +kernel
theorem dX6_addPlace_33 : decode cX6_addPlace 33 = .ok (.iaload, 1) := by decide +kernel
theorem dX6_addPlace_34 : decode cX6_addPlace 34 = .ok (.iconst 1, 1) := by decide +kernel
theorem dX6_addPlace_35 : decode cX6_addPlace 35 = .ok (.aload_n 0, 1) := by decide +kernel
theorem dX6_addPlace_36 : decode cX6_addPlace 36 = .ok (.getfield 9, 3) := by decide +kernel
theorem dX6_addPlace_39 : decode cX6_addPlace 39 = .ok (.ishl, 1) := by decide +kernel
theorem dX6_addPlace_40 : decode cX6_addPlace 40 = .ok (.ior, 1) := by decide +kernel
theorem dX6_addPlace_41 : decode cX6_addPlace 41 = .ok (.iastore, 1) := by decide +kernel
theorem dX6_addPlace_42 : decode cX6_addPlace 42 = .ok (.aload_n 0, 1) := by decide +kernel
theorem dX6_addPlace_43 : decode cX6_addPlace 43 = .ok (.dup, 1) := by decide +kernel
theorem dX6_addPlace_44 : decode cX6_addPlace 44 = .ok (.getfield 9, 3) := by decide +kernel
theorem dX6_addPlace_47 : decode cX6_addPlace 47 = .ok (.iconst 1, 1) := by decide +kernel
theorem dX6_addPlace_48 : decode cX6_addPlace 48 = .ok (.iadd, 1) := by decide +kernel
theorem dX6_addPlace_49 : decode cX6_addPlace 49 = .ok (.putfield 9, 3) := by decide +kernel
theorem dX6_addPlace_52 : decode cX6_addPlace 52 = .ok (.aload_n 0, 1) := by decide +kernel
theorem dX6_addPlace_53 : decode cX6_addPlace 53 = .ok (.getfield 9, 3) := by decide +kernel
theorem dX6_addPlace_56 : decode cX6_addPlace 56 = .ok (.iconst 1, 1) := by decide +kernel
theorem dX6_addPlace_57 : decode cX6_addPlace 57 = .ok (.isub, 1) := by decide +kernel
theorem dX6_addPlace_58 : decode cX6_addPlace 58 = .ok (.ireturn, 1) := by decide +kernel
theorem dX6_addUser_0 : decode cX6_addUser 0 = .ok (.aload_n 0, 1) := by decide +kernel
theorem dX6_addUser_1 : decode cX6_addUser 1 = .ok (.getfield 28, 3) := by decide +kernel
theorem dX6_addUser_4 : decode cX6_addUser 4 = .ok (.aload_n 0, 1) := by decide +kernel
theorem dX6_addUser_5 : decode cX6_addUser 5 = .ok (.getfield 25, 3) := by decide +kernel
theorem dX6_addUser_8 : decode cX6_addUser 8 = .ok (.iload_n 1, 1) := by decide +kernel
theorem dX6_addUser_9 : decode cX6_addUser 9 = .ok (.iastore, 1) := by decide +kernel
theorem dX6_addUser_10 : decode cX6_addUser 10 = .ok (.aload_n 0, 1) := by decide +kernel
theorem dX6_addUser_11 : decode cX6_addUser 11 = .ok (.dup, 1) := by decide +kernel
theorem dX6_addUser_12 : decode cX6_addUser 12 = .ok (.getfield 25, 3) := by decide +kernel
theorem dX6_addUser_15 : decode cX6_addUser 15 = .ok (.iconst 1, 1) := by decide +kernel
theorem dX6_addUser_16 : decode cX6_addUser 16 = .ok (.iadd, 1) := by decide +kernel
theorem dX6_addUser_17 : decode cX6_addUser 17 = .ok (.putfield 25, 3) := by decide +kernel
theorem dX6_addUser_20 : decode cX6_addUser 20 = .ok (.aload_n 0, 1) := by decide +kernel
theorem dX6_addUser_21 : decode cX6_addUser 21 = .ok (.getfield 25, 3) := by decide +kernel
theorem dX6_addUser_24 : decode cX6_addUser 24 = .ok (.iconst 1, 1) := by decide +kernel
theorem dX6_addUser_25 : decode cX6_addUser 25 = .ok (.isub, 1) := by decide +kernel
theorem dX6_addUser_26 : decode cX6_addUser 26 = .ok (.ireturn, 1) := by decide +kernel
theorem dX6_replacePay_0 : decode cX6_replacePay 0 = .ok (.aload_n 0, 1) := by decide +kernel
theorem dX6_replacePay_1 : decode cX6_replacePay 1 = .ok (.getfield 31, 3) := by decide +kernel
theorem dX6_replacePay_4 : decode cX6_replacePay 4 = .ok (.iload_n 1, 1) := by decide +kernel
theorem dX6_replacePay_5 : decode cX6_replacePay 5 = .ok (.iaload, 1) := by decide +kernel
theorem dX6_replacePay_6 : decode cX6_replacePay 6 = .ok (.istore_n 3, 1) := by decide +kernel
theorem dX6_replacePay_7 : decode cX6_replacePay 7 = .ok (.aload_n 0, 1) := by decide +kernel
theorem dX6_replacePay_8 : decode cX6_replacePay 8 = .ok (.getfield 31, 3) := by decide +kernel
theorem dX6_replacePay_11 : decode cX6_replacePay 11 = .ok (.iload_n 1, 1) := by decide +kernel
theorem dX6_replacePay_12 : decode cX6_replacePay 12 = .ok (.iload_n 2, 1) := by decide +kernel
theorem dX6_replacePay_13 : decode cX6_replacePay 13 = .ok (.iastore, 1) := by decide +kernel
theorem dX6_replacePay_14 : decode cX6_replacePay 14 = .ok (.iload_n 3, 1) := by decide +kernel
theorem dX6_replacePay_15 : decode cX6_replacePay 15 = .ok (.ireturn, 1) := by decide +kernel
theorem dX6_waysOfUser_0 : decode cX6_waysOfUser 0 = .ok (.aload_n 0, 1) := by decide +kernel
theorem dX6_waysOfUser_1 : decode cX6_waysOfUser 1 = .ok (.getfield 28, 3) := by decide +kernel
theorem dX6_waysOfUser_4 : decode cX6_waysOfUser 4 = .ok (.iload_n 1, 1) := by decide +kernel
theorem dX6_waysOfUser_5 : decode cX6_waysOfUser 5 = .ok (.iaload, 1) := by decide +kernel
theorem dX6_waysOfUser_6 : decode cX6_waysOfUser 6 = .ok (.istore_n 2, 1) := by decide +kernel
theorem dX6_waysOfUser_7 : decode cX6_waysOfUser 7 = .ok (.aload_n 0, 1) := by decide +kernel
theorem dX6_waysOfUser_8 : decode cX6_waysOfUser 8 = .ok (.iload_n 2, 1) := by decide +kernel
theorem dX6_waysOfUser_9 : decode cX6_waysOfUser 9 = .ok (.invokevirtual 38, 3) := by decide +kernel
theorem dX6_waysOfUser_12 : decode cX6_waysOfUser 12 = .ok (.ifCond .eq 12, 3) := by decide +kernel
theorem dX6_waysOfUser_15 : decode cX6_waysOfUser 15 = .ok (.aload_n 0, 1) := by decide +kernel
theorem dX6_waysOfUser_16 : decode cX6_waysOfUser 16 = .ok (.getfield 22, 3) := by decide +kernel
theorem dX6_waysOfUser_19 : decode cX6_waysOfUser 19 = .ok (.iload_n 2, 1) := by decide +kernel
theorem dX6_waysOfUser_20 : decode cX6_waysOfUser 20 = .ok (.iaload, 1) := by decide +kernel
theorem dX6_waysOfUser_21 : decode cX6_waysOfUser 21 = .ok (.goto 4, 3) := by decide +kernel
theorem dX6_waysOfUser_24 : decode cX6_waysOfUser 24 = .ok (.iconst 0, 1) := by decide +kernel
theorem dX6_waysOfUser_25 : decode cX6_waysOfUser 25 = .ok (.ireturn, 1) := by decide +kernel
theorem dX6_costOf_0 : decode cX6_costOf 0 = .ok (.iconst 0, 1) := by decide +kernel
theorem dX6_costOf_1 : decode cX6_costOf 1 = .ok (.istore_n 2, 1) := by decide +kernel
theorem dX6_costOf_2 : decode cX6_costOf 2 = .ok (.iconst 0, 1) := by decide +kernel
theorem dX6_costOf_3 : decode cX6_costOf 3 = .ok (.istore_n 3, 1) := by decide +kernel
theorem dX6_costOf_4 : decode cX6_costOf 4 = .ok (.iload_n 3, 1) := by decide +kernel
theorem dX6_costOf_5 : decode cX6_costOf 5 = .ok (.aload_n 0, 1) := by decide +kernel
theorem dX6_costOf_6 : decode cX6_costOf 6 = .ok (.getfield 25, 3) := by decide +kernel
theorem dX6_costOf_9 : decode cX6_costOf 9 = .ok (.if_icmp .ge 25, 3) := by decide +kernel
theorem dX6_costOf_12 : decode cX6_costOf 12 = .ok (.iload_n 1, 1) := by decide +kernel
theorem dX6_costOf_13 : decode cX6_costOf 13 = .ok (.iload_n 3, 1) := by decide +kernel
theorem dX6_costOf_14 : decode cX6_costOf 14 = .ok (.invokestatic 42, 3) := by decide +kernel
theorem dX6_costOf_17 : decode cX6_costOf 17 = .ok (.ifCond .eq 11, 3) := by decide +kernel
theorem dX6_costOf_20 : decode cX6_costOf 20 = .ok (.iload_n 2, 1) := by decide +kernel
theorem dX6_costOf_21 : decode cX6_costOf 21 = .ok (.aload_n 0, 1) := by decide +kernel
theorem dX6_costOf_22 : decode cX6_costOf 22 = .ok (.iload_n 3, 1) := by decide +kernel
theorem dX6_costOf_23 : decode cX6_costOf 23 = .ok (.invokevirtual 46, 3) := by decide +kernel
theorem dX6_costOf_26 : decode cX6_costOf 26 = .ok (.ior, 1) := by decide +kernel
theorem dX6_costOf_27 : decode cX6_costOf 27 = .ok (.istore_n 2, 1) := by decide +kernel
theorem dX6_costOf_28 : decode cX6_costOf 28 = .ok (.iinc 3 1, 3) := by decide +kernel
theorem dX6_costOf_31 : decode cX6_costOf 31 = .ok (.goto (-27), 3) := by decide +kernel
theorem dX6_costOf_34 : decode cX6_costOf 34 = .ok (.iconst 0, 1) := by decide +kernel
theorem dX6_costOf_35 : decode cX6_costOf 35 = .ok (.istore_n 3, 1) := by decide +kernel
theorem dX6_costOf_36 : decode cX6_costOf 36 = .ok (.iconst 1, 1) := by decide +kernel
theorem dX6_costOf_37 : decode cX6_costOf 37 = .ok (.istore 4, 2) := by decide +kernel
theorem dX6_costOf_39 : decode cX6_costOf 39 = .ok (.iload 4, 2) := by decide +kernel
theorem dX6_costOf_41 : decode cX6_costOf 41 = .ok (.aload_n 0, 1) := by decide +kernel
theorem dX6_costOf_42 : decode cX6_costOf 42 = .ok (.getfield 9, 3) := by decide +kernel
theorem dX6_costOf_45 : decode cX6_costOf 45 = .ok (.if_icmp .ge 28, 3) := by decide +kernel
theorem dX6_costOf_48 : decode cX6_costOf 48 = .ok (.iload_n 2, 1) := by decide +kernel
theorem dX6_costOf_49 : decode cX6_costOf 49 = .ok (.iload 4, 2) := by decide +kernel
theorem dX6_costOf_51 : decode cX6_costOf 51 = .ok (.invokestatic 42, 3) := by decide +kernel
theorem dX6_costOf_54 : decode cX6_costOf 54 = .ok (.ifCond .eq 13, 3) := by decide +kernel
theorem dX6_costOf_57 : decode cX6_costOf 57 = .ok (.iload_n 3, 1) := by decide +kernel
theorem dX6_costOf_58 : decode cX6_costOf 58 = .ok (.aload_n 0, 1) := by decide +kernel
theorem dX6_costOf_59 : decode cX6_costOf 59 = .ok (.getfield 19, 3) := by decide +kernel
theorem dX6_costOf_62 : decode cX6_costOf 62 = .ok (.iload 4, 2) := by decide +kernel
theorem dX6_costOf_64 : decode cX6_costOf 64 = .ok (.iaload, 1) := by decide +kernel
theorem dX6_costOf_65 : decode cX6_costOf 65 = .ok (.iadd, 1) := by decide +kernel
theorem dX6_costOf_66 : decode cX6_costOf 66 = .ok (.istore_n 3, 1) := by decide +kernel
theorem dX6_costOf_67 : decode cX6_costOf 67 = .ok (.iinc 4 1, 3) := by decide +kernel
theorem dX6_costOf_70 : decode cX6_costOf 70 = .ok (.goto (-31), 3) := by decide +kernel
theorem dX6_costOf_73 : decode cX6_costOf 73 = .ok (.iload_n 3, 1) := by decide +kernel
theorem dX6_costOf_74 : decode cX6_costOf 74 = .ok (.ireturn, 1) := by decide +kernel
theorem dX6_usersOfWay_0 : decode cX6_usersOfWay 0 = .ok (.iconst 0, 1) := by decide +kernel
theorem dX6_usersOfWay_1 : decode cX6_usersOfWay 1 = .ok (.istore_n 2, 1) := by decide +kernel
theorem dX6_usersOfWay_2 : decode cX6_usersOfWay 2 = .ok (.iconst 0, 1) := by decide +kernel
theorem dX6_usersOfWay_3 : decode cX6_usersOfWay 3 = .ok (.istore_n 3, 1) := by decide +kernel
theorem dX6_usersOfWay_4 : decode cX6_usersOfWay 4 = .ok (.iload_n 3, 1) := by decide +kernel
theorem dX6_usersOfWay_5 : decode cX6_usersOfWay 5 = .ok (.aload_n 0, 1) := by decide +kernel
theorem dX6_usersOfWay_6 : decode cX6_usersOfWay 6 = .ok (.getfield 25, 3) := by decide +kernel
theorem dX6_usersOfWay_9 : decode cX6_usersOfWay 9 = .ok (.if_icmp .ge 24, 3) := by decide +kernel
theorem dX6_usersOfWay_12 : decode cX6_usersOfWay 12 = .ok (.aload_n 0, 1) := by decide +kernel
theorem dX6_usersOfWay_13 : decode cX6_usersOfWay 13 = .ok (.iload_n 3, 1) := by decide +kernel
theorem dX6_usersOfWay_14 : decode cX6_usersOfWay 14 = .ok (.invokevirtual 46, 3) := by decide +kernel
theorem dX6_usersOfWay_17 : decode cX6_usersOfWay 17 = .ok (.iload_n 1, 1) := by decide +kernel
theorem dX6_usersOfWay_18 : decode cX6_usersOfWay 18 = .ok (.invokestatic 42, 3) := by decide +kernel
theorem dX6_usersOfWay_21 : decode cX6_usersOfWay 21 = .ok (.ifCond .eq 6, 3) := by decide +kernel
theorem dX6_usersOfWay_24 : decode cX6_usersOfWay 24 = .ok (.iinc 2 1, 3) := by decide +kernel
theorem dX6_usersOfWay_27 : decode cX6_usersOfWay 27 = .ok (.iinc 3 1, 3) := by decide +kernel
theorem dX6_usersOfWay_30 : decode cX6_usersOfWay 30 = .ok (.goto (-26), 3) := by decide +kernel
theorem dX6_usersOfWay_33 : decode cX6_usersOfWay 33 = .ok (.iload_n 2, 1) := by decide +kernel
theorem dX6_usersOfWay_34 : decode cX6_usersOfWay 34 = .ok (.ireturn, 1) := by decide +kernel
theorem dX6_partsOfWays_0 : decode cX6_partsOfWays 0 = .ok (.iconst 0, 1) := by decide +kernel
theorem dX6_partsOfWays_1 : decode cX6_partsOfWays 1 = .ok (.istore_n 2, 1) := by decide +kernel
theorem dX6_partsOfWays_2 : decode cX6_partsOfWays 2 = .ok (.iconst 1, 1) := by decide +kernel
theorem dX6_partsOfWays_3 : decode cX6_partsOfWays 3 = .ok (.istore_n 3, 1) := by decide +kernel
theorem dX6_partsOfWays_4 : decode cX6_partsOfWays 4 = .ok (.iload_n 3, 1) := by decide +kernel
theorem dX6_partsOfWays_5 : decode cX6_partsOfWays 5 = .ok (.aload_n 0, 1) := by decide +kernel
theorem dX6_partsOfWays_6 : decode cX6_partsOfWays 6 = .ok (.getfield 9, 3) := by decide +kernel
theorem dX6_partsOfWays_9 : decode cX6_partsOfWays 9 = .ok (.if_icmp .ge 44, 3) := by decide +kernel
theorem dX6_partsOfWays_12 : decode cX6_partsOfWays 12 = .ok (.aload_n 0, 1) := by decide +kernel
theorem dX6_partsOfWays_13 : decode cX6_partsOfWays 13 = .ok (.iload_n 1, 1) := by decide +kernel
theorem dX6_partsOfWays_14 : decode cX6_partsOfWays 14 = .ok (.invokevirtual 46, 3) := by decide +kernel
theorem dX6_partsOfWays_17 : decode cX6_partsOfWays 17 = .ok (.iload_n 3, 1) := by decide +kernel
theorem dX6_partsOfWays_18 : decode cX6_partsOfWays 18 = .ok (.invokestatic 42, 3) := by decide +kernel
theorem dX6_partsOfWays_21 : decode cX6_partsOfWays 21 = .ok (.ifCond .eq 26, 3) := by decide +kernel
theorem dX6_partsOfWays_24 : decode cX6_partsOfWays 24 = .ok (.iload_n 2, 1) := by decide +kernel
theorem dX6_partsOfWays_25 : decode cX6_partsOfWays 25 = .ok (.aload_n 0, 1) := by decide +kernel
theorem dX6_partsOfWays_26 : decode cX6_partsOfWays 26 = .ok (.getfield 19, 3) := by decide +kernel
theorem dX6_partsOfWays_29 : decode cX6_partsOfWays 29 = .ok (.iload_n 3, 1) := by decide +kernel
theorem dX6_partsOfWays_30 : decode cX6_partsOfWays 30 = .ok (.iaload, 1) := by decide +kernel
theorem dX6_partsOfWays_31 : decode cX6_partsOfWays 31 = .ok (.sipush 840, 3) := by decide +kernel
theorem dX6_partsOfWays_34 : decode cX6_partsOfWays 34 = .ok (.iconst 1, 1) := by decide +kernel
theorem dX6_partsOfWays_35 : decode cX6_partsOfWays 35 = .ok (.aload_n 0, 1) := by decide +kernel
theorem dX6_partsOfWays_36 : decode cX6_partsOfWays 36 = .ok (.iload_n 3, 1) := by decide +kernel
theorem dX6_partsOfWays_37 : decode cX6_partsOfWays 37 = .ok (.invokevirtual 50, 3) := by decide +kernel
theorem dX6_partsOfWays_40 : decode cX6_partsOfWays 40 = .ok (.invokestatic 53, 3) := by decide +kernel
theorem dX6_partsOfWays_43 : decode cX6_partsOfWays 43 = .ok (.idiv, 1) := by decide +kernel
theorem dX6_partsOfWays_44 : decode cX6_partsOfWays 44 = .ok (.imul, 1) := by decide +kernel
theorem dX6_partsOfWays_45 : decode cX6_partsOfWays 45 = .ok (.iadd, 1) := by decide +kernel
theorem dX6_partsOfWays_46 : decode cX6_partsOfWays 46 = .ok (.istore_n 2, 1) := by decide +kernel
theorem dX6_partsOfWays_47 : decode cX6_partsOfWays 47 = .ok (.iinc 3 1, 3) := by decide +kernel
theorem dX6_partsOfWays_50 : decode cX6_partsOfWays 50 = .ok (.goto (-46), 3) := by decide +kernel
theorem dX6_partsOfWays_53 : decode cX6_partsOfWays 53 = .ok (.iload_n 2, 1) := by decide +kernel
theorem dX6_partsOfWays_54 : decode cX6_partsOfWays 54 = .ok (.ireturn, 1) := by decide +kernel
theorem dX6_firstOverpaying_0 : decode cX6_firstOverpaying 0 = .ok (.iconst 1, 1) := by decide +kernel
theorem dX6_firstOverpaying_1 : decode cX6_firstOverpaying 1 = .ok (.istore_n 1, 1) := by decide +kernel
theorem dX6_firstOverpaying_2 : decode cX6_firstOverpaying 2 = .ok (.iload_n 1, 1) := by decide +kernel
theorem dX6_firstOverpaying_3 : decode cX6_firstOverpaying 3 = .ok (.aload_n 0, 1) := by decide +kernel
theorem dX6_firstOverpaying_4 : decode cX6_firstOverpaying 4 = .ok (.invokevirtual 59, 3) := by decide +kernel
theorem dX6_firstOverpaying_7 : decode cX6_firstOverpaying 7 = .ok (.if_icmp .gt 24, 3) := by decide +kernel
theorem dX6_firstOverpaying_10 : decode cX6_firstOverpaying 10 = .ok (.aload_n 0, 1) := by decide +kernel
theorem dX6_firstOverpaying_11 : decode cX6_firstOverpaying 11 = .ok (.iload_n 1, 1) := by decide +kernel
theorem dX6_firstOverpaying_12 : decode cX6_firstOverpaying 12 = .ok (.invokevirtual 63, 3) := by decide +kernel
theorem dX6_firstOverpaying_15 : decode cX6_firstOverpaying 15 = .ok (.aload_n 0, 1) := by decide +kernel
theorem dX6_firstOverpaying_16 : decode cX6_firstOverpaying 16 = .ok (.iload_n 1, 1) := by decide +kernel
theorem dX6_firstOverpaying_17 : decode cX6_firstOverpaying 17 = .ok (.invokevirtual 66, 3) := by decide +kernel
theorem dX6_firstOverpaying_20 : decode cX6_firstOverpaying 20 = .ok (.if_icmp .le 5, 3) := by decide +kernel
theorem dX6_firstOverpaying_23 : decode cX6_firstOverpaying 23 = .ok (.iload_n 1, 1) := by decide +kernel
theorem dX6_firstOverpaying_24 : decode cX6_firstOverpaying 24 = .ok (.ireturn, 1) := by decide +kernel
theorem dX6_firstOverpaying_25 : decode cX6_firstOverpaying 25 = .ok (.iinc 1 1, 3) := by decide +kernel
theorem dX6_firstOverpaying_28 : decode cX6_firstOverpaying 28 = .ok (.goto (-26), 3) := by decide +kernel
theorem dX6_firstOverpaying_31 : decode cX6_firstOverpaying 31 = .ok (.iconst (-1), 1) := by decide +kernel
theorem dX6_firstOverpaying_32 : decode cX6_firstOverpaying 32 = .ok (.ireturn, 1) := by decide +kernel
theorem dX6_paysOf_0 : decode cX6_paysOf 0 = .ok (.iconst 0, 1) := by decide +kernel
theorem dX6_paysOf_1 : decode cX6_paysOf 1 = .ok (.istore_n 2, 1) := by decide +kernel
theorem dX6_paysOf_2 : decode cX6_paysOf 2 = .ok (.iconst 0, 1) := by decide +kernel
theorem dX6_paysOf_3 : decode cX6_paysOf 3 = .ok (.istore_n 3, 1) := by decide +kernel
theorem dX6_paysOf_4 : decode cX6_paysOf 4 = .ok (.iload_n 3, 1) := by decide +kernel
theorem dX6_paysOf_5 : decode cX6_paysOf 5 = .ok (.aload_n 0, 1) := by decide +kernel
theorem dX6_paysOf_6 : decode cX6_paysOf 6 = .ok (.getfield 25, 3) := by decide +kernel
theorem dX6_paysOf_9 : decode cX6_paysOf 9 = .ok (.if_icmp .ge 26, 3) := by decide +kernel
theorem dX6_paysOf_12 : decode cX6_paysOf 12 = .ok (.iload_n 1, 1) := by decide +kernel
theorem dX6_paysOf_13 : decode cX6_paysOf 13 = .ok (.iload_n 3, 1) := by decide +kernel
theorem dX6_paysOf_14 : decode cX6_paysOf 14 = .ok (.invokestatic 42, 3) := by decide +kernel
theorem dX6_paysOf_17 : decode cX6_paysOf 17 = .ok (.ifCond .eq 12, 3) := by decide +kernel
theorem dX6_paysOf_20 : decode cX6_paysOf 20 = .ok (.iload_n 2, 1) := by decide +kernel
theorem dX6_paysOf_21 : decode cX6_paysOf 21 = .ok (.aload_n 0, 1) := by decide +kernel
theorem dX6_paysOf_22 : decode cX6_paysOf 22 = .ok (.getfield 31, 3) := by decide +kernel
theorem dX6_paysOf_25 : decode cX6_paysOf 25 = .ok (.iload_n 3, 1) := by decide +kernel
theorem dX6_paysOf_26 : decode cX6_paysOf 26 = .ok (.iaload, 1) := by decide +kernel
theorem dX6_paysOf_27 : decode cX6_paysOf 27 = .ok (.iadd, 1) := by decide +kernel
theorem dX6_paysOf_28 : decode cX6_paysOf 28 = .ok (.istore_n 2, 1) := by decide +kernel
theorem dX6_paysOf_29 : decode cX6_paysOf 29 = .ok (.iinc 3 1, 3) := by decide +kernel
theorem dX6_paysOf_32 : decode cX6_paysOf 32 = .ok (.goto (-28), 3) := by decide +kernel
theorem dX6_paysOf_35 : decode cX6_paysOf 35 = .ok (.iload_n 2, 1) := by decide +kernel
theorem dX6_paysOf_36 : decode cX6_paysOf 36 = .ok (.ireturn, 1) := by decide +kernel
theorem dX6_mixInto_0 : decode cX6_mixInto 0 = .ok (.lload_n 1, 1) := by decide +kernel
theorem dX6_mixInto_1 : decode cX6_mixInto 1 = .ok (.lstore_n 3, 1) := by decide +kernel
theorem dX6_mixInto_2 : decode cX6_mixInto 2 = .ok (.iconst 1, 1) := by decide +kernel
theorem dX6_mixInto_3 : decode cX6_mixInto 3 = .ok (.istore 5, 2) := by decide +kernel
theorem dX6_mixInto_5 : decode cX6_mixInto 5 = .ok (.iload 5, 2) := by decide +kernel
theorem dX6_mixInto_7 : decode cX6_mixInto 7 = .ok (.aload_n 0, 1) := by decide +kernel
theorem dX6_mixInto_8 : decode cX6_mixInto 8 = .ok (.getfield 9, 3) := by decide +kernel
theorem dX6_mixInto_11 : decode cX6_mixInto 11 = .ok (.if_icmp .ge 33, 3) := by decide +kernel
theorem dX6_mixInto_14 : decode cX6_mixInto 14 = .ok (.lload_n 3, 1) := by decide +kernel
theorem dX6_mixInto_15 : decode cX6_mixInto 15 = .ok (.aload_n 0, 1) := by decide +kernel
theorem dX6_mixInto_16 : decode cX6_mixInto 16 = .ok (.getfield 15, 3) := by decide +kernel
theorem dX6_mixInto_19 : decode cX6_mixInto 19 = .ok (.iload 5, 2) := by decide +kernel
theorem dX6_mixInto_21 : decode cX6_mixInto 21 = .ok (.iaload, 1) := by decide +kernel
theorem dX6_mixInto_22 : decode cX6_mixInto 22 = .ok (.i2l, 1) := by decide +kernel
theorem dX6_mixInto_23 : decode cX6_mixInto 23 = .ok (.invokestatic 69, 3) := by decide +kernel
theorem dX6_mixInto_26 : decode cX6_mixInto 26 = .ok (.aload_n 0, 1) := by decide +kernel
theorem dX6_mixInto_27 : decode cX6_mixInto 27 = .ok (.getfield 19, 3) := by decide +kernel
theorem dX6_mixInto_30 : decode cX6_mixInto 30 = .ok (.iload 5, 2) := by decide +kernel
theorem dX6_mixInto_32 : decode cX6_mixInto 32 = .ok (.iaload, 1) := by decide +kernel
theorem dX6_mixInto_33 : decode cX6_mixInto 33 = .ok (.i2l, 1) := by decide +kernel
theorem dX6_mixInto_34 : decode cX6_mixInto 34 = .ok (.invokestatic 69, 3) := by decide +kernel
theorem dX6_mixInto_37 : decode cX6_mixInto 37 = .ok (.lstore_n 3, 1) := by decide +kernel
theorem dX6_mixInto_38 : decode cX6_mixInto 38 = .ok (.iinc 5 1, 3) := by decide +kernel
theorem dX6_mixInto_41 : decode cX6_mixInto 41 = .ok (.goto (-36), 3) := by decide +kernel
theorem dX6_mixInto_44 : decode cX6_mixInto 44 = .ok (.iconst 0, 1) := by decide +kernel
theorem dX6_mixInto_45 : decode cX6_mixInto 45 = .ok (.istore 5, 2) := by decide +kernel
theorem dX6_mixInto_47 : decode cX6_mixInto 47 = .ok (.iload 5, 2) := by decide +kernel
theorem dX6_mixInto_49 : decode cX6_mixInto 49 = .ok (.aload_n 0, 1) := by decide +kernel
theorem dX6_mixInto_50 : decode cX6_mixInto 50 = .ok (.getfield 25, 3) := by decide +kernel
theorem dX6_mixInto_53 : decode cX6_mixInto 53 = .ok (.if_icmp .ge 33, 3) := by decide +kernel
theorem dX6_mixInto_56 : decode cX6_mixInto 56 = .ok (.lload_n 3, 1) := by decide +kernel
theorem dX6_mixInto_57 : decode cX6_mixInto 57 = .ok (.aload_n 0, 1) := by decide +kernel
theorem dX6_mixInto_58 : decode cX6_mixInto 58 = .ok (.getfield 28, 3) := by decide +kernel
theorem dX6_mixInto_61 : decode cX6_mixInto 61 = .ok (.iload 5, 2) := by decide +kernel
theorem dX6_mixInto_63 : decode cX6_mixInto 63 = .ok (.iaload, 1) := by decide +kernel
theorem dX6_mixInto_64 : decode cX6_mixInto 64 = .ok (.i2l, 1) := by decide +kernel
theorem dX6_mixInto_65 : decode cX6_mixInto 65 = .ok (.invokestatic 69, 3) := by decide +kernel
theorem dX6_mixInto_68 : decode cX6_mixInto 68 = .ok (.aload_n 0, 1) := by decide +kernel
theorem dX6_mixInto_69 : decode cX6_mixInto 69 = .ok (.getfield 31, 3) := by decide +kernel
theorem dX6_mixInto_72 : decode cX6_mixInto 72 = .ok (.iload 5, 2) := by decide +kernel
theorem dX6_mixInto_74 : decode cX6_mixInto 74 = .ok (.iaload, 1) := by decide +kernel
theorem dX6_mixInto_75 : decode cX6_mixInto 75 = .ok (.i2l, 1) := by decide +kernel
theorem dX6_mixInto_76 : decode cX6_mixInto 76 = .ok (.invokestatic 69, 3) := by decide +kernel
theorem dX6_mixInto_79 : decode cX6_mixInto 79 = .ok (.lstore_n 3, 1) := by decide +kernel
theorem dX6_mixInto_80 : decode cX6_mixInto 80 = .ok (.iinc 5 1, 3) := by decide +kernel
theorem dX6_mixInto_83 : decode cX6_mixInto 83 = .ok (.goto (-36), 3) := by decide +kernel
theorem dX6_mixInto_86 : decode cX6_mixInto 86 = .ok (.lload_n 3, 1) := by decide +kernel
theorem dX6_mixInto_87 : decode cX6_mixInto 87 = .ok (.lreturn, 1) := by decide +kernel
