theorem dX9_init_0 : decode cX9_init 0 = .ok (.aload_n 0, 1) := by decide +kernel
theorem dX9_init_1 : decode cX9_init 1 = .ok (.invokespecial 1, 3) := by decide +kernel
theorem dX9_init_4 : decode cX9_init 4 = .ok (.aload_n 0, 1) := by decide +kernel
theorem dX9_init_5 : decode cX9_init 5 = .ok (.iconst 3, 1) := by decide +kernel
theorem dX9_init_6 : decode cX9_init 6 = .ok (.putfield 7, 3) := by decide +kernel
theorem dX9_init_9 : decode cX9_init 9 = .ok (.aload_n 0, 1) := by decide +kernel
theorem dX9_init_10 : decode cX9_init 10 = .ok (.bipush 16, 2) := by decide +kernel
theorem dX9_init_12 : decode cX9_init 12 = .ok (.newarray .int, 2) := by decide +kernel
theorem dX9_init_14 : decode cX9_init 14 = .ok (.putfield 13, 3) := by decide +kernel
theorem dX9_init_17 : decode cX9_init 17 = .ok (.aload_n 0, 1) := by decide +kernel
theorem dX9_init_18 : decode cX9_init 18 = .ok (.bipush 8, 2) := by decide +kernel
theorem dX9_init_20 : decode cX9_init 20 = .ok (.newarray .int, 2) := by decide +kernel
theorem dX9_init_22 : decode cX9_init 22 = .ok (.putfield 17, 3) := by decide +kernel
theorem dX9_init_25 : decode cX9_init 25 = .ok (.aload_n 0, 1) := by decide +kernel
theorem dX9_init_26 : decode cX9_init 26 = .ok (.lconst 1, 1) := by decide +kernel
theorem dX9_init_27 : decode cX9_init 27 = .ok (.putfield 20, 3) := by decide +kernel
theorem dX9_init_30 : decode cX9_init 30 = .ok (.aload_n 0, 1) := by decide +kernel
theorem dX9_init_31 : decode cX9_init 31 = .ok (.bipush 8, 2) := by decide +kernel
theorem dX9_init_33 : decode cX9_init 33 = .ok (.newarray .int, 2) := by decide +kernel
theorem dX9_init_35 : decode cX9_init 35 = .ok (.putfield 24, 3) := by decide +kernel
theorem dX9_init_38 : decode cX9_init 38 = .ok (.aload_n 0, 1) := by decide +kernel
theorem dX9_init_39 : decode cX9_init 39 = .ok (.iconst 1, 1) := by decide +kernel
theorem dX9_init_40 : decode cX9_init 40 = .ok (.putfield 27, 3) := by decide +kernel
theorem dX9_init_43 : decode cX9_init 43 = .ok (.aload_n 0, 1) := by decide +kernel
theorem dX9_init_44 : decode cX9_init 44 = .ok (.bipush 6, 2) := by decide +kernel
theorem dX9_init_46 : decode cX9_init 46 = .ok (.newarray .int, 2) := by decide +kernel
theorem dX9_init_48 : decode cX9_init 48 = .ok (.putfield 30, 3) := by decide +kernel
theorem dX9_init_51 : decode cX9_init 51 = .ok (.aload_n 0, 1) := by decide +kernel
theorem dX9_init_52 : decode cX9_init 52 = .ok (.iconst 1, 1) := by decide +kernel
theorem dX9_init_53 : decode cX9_init 53 = .ok (.putfield 33, 3) := by decide +kernel
theorem dX9_init_56 : decode cX9_init 56 = .ok (.aload_n 0, 1) := by decide +kernel
theorem dX9_init_57 : decode cX9_init 57 = .ok (.bipush 10, 2) := by decide +kernel
theorem dX9_init_59 : decode cX9_init 59 = .ok (.newarray .int, 2) := by decide +kernel
theorem dX9_init_61 : decode cX9_init 61 = .ok (.putfield 36, 3) := by decide +kernel
theorem dX9_init_64 : decode cX9_init 64 = .ok (.aload_n 0, 1) := by decide +kernel
theorem dX9_init_65 : decode cX9_init 65 = .ok (.bipush 10, 2) := by decide +kernel
theorem dX9_init_67 : decode cX9_init 67 = .ok (.newarray .int, 2) := by decide +kernel
theorem dX9_init_69 : decode cX9_init 69 = .ok (.putfield 39, 3) := by decide +kernel
theorem dX9_init_72 : decode cX9_init 72 = .ok (.aload_n 0, 1) := by decide +kernel
theorem dX9_init_73 : decode cX9_init 73 = .ok (.bipush 8, 2) := by decide +kernel
theorem dX9_init_75 : decode cX9_init 75 = .ok (.newarray .int, 2) := by decide +kernel
theorem dX9_init_77 : decode cX9_init 77 = .ok (.putfield 42, 3) := by decide +kernel
theorem dX9_init_80 : decode cX9_init 80 = .ok (.aload_n 0, 1) := by decide +kernel
theorem dX9_init_81 : decode cX9_init 81 = .ok (.bipush 8, 2) := by decide +kernel
theorem dX9_init_83 : decode cX9_init 83 = .ok (.newarray .int, 2) := by decide +kernel
theorem dX9_init_85 : decode cX9_init 85 = .ok (.putfield 45, 3) := by decide +kernel
theorem dX9_init_88 : decode cX9_init 88 = .ok (.aload_n 0, 1) := by decide +kernel
theorem dX9_init_89 : decode cX9_init 89 = .ok (.bipush 16, 2) := by decide +kernel
theorem dX9_init_91 : decode cX9_init 91 = .ok (.newarray .int, 2) := by decide +kernel
theorem dX9_init_93 : decode cX9_init 93 = .ok (.putfield 48, 3) := by decide +kernel
theorem dX9_init_96 : decode cX9_init 96 = .ok (.aload_n 0, 1) := by decide +kernel
theorem dX9_init_97 : decode cX9_init 97 = .ok (.iconst 4, 1) := by decide +kernel
theorem dX9_init_98 : decode cX9_init 98 = .ok (.newarray .int, 2) := by decide +kernel
theorem dX9_init_100 : decode cX9_init 100 = .ok (.putfield 51, 3) := by decide +kernel
theorem dX9_init_103 : decode cX9_init 103 = .ok (.aload_n 0, 1) := by decide +kernel
theorem dX9_init_104 : decode cX9_init 104 = .ok (.bipush 30, 2) := by decide +kernel
theorem dX9_init_106 : decode cX9_init 106 = .ok (.newarray .long, 2) := by decide +kernel
theorem dX9_init_108 : decode cX9_init 108 = .ok (.putfield 54, 3) := by decide +kernel
theorem dX9_init_111 : decode cX9_init 111 = .ok (.aload_n 0, 1) := by decide +kernel
theorem dX9_init_112 : decode cX9_init 112 = .ok (.bipush 30, 2) := by decide +kernel
theorem dX9_init_114 : decode cX9_init 114 = .ok (.newarray .long, 2) := by decide +kernel
theorem dX9_init_116 : decode cX9_init 116 = .ok (.putfield 58, 3) := by decide +kernel
theorem dX9_init_119 : decode cX9_init 119 = .ok (.aload_n 0, 1) := by decide +kernel
theorem dX9_init_120 : decode cX9_init 120 = .ok (.iconst 5, 1) := by decide +kernel
theorem dX9_init_121 : decode cX9_init 121 = .ok (.newarray .int, 2) := by decide +kernel
theorem dX9_init_123 : decode cX9_init 123 = .ok (.putfield 61, 3) := by decide +kernel
theorem dX9_init_126 : decode cX9_init 126 = .ok (.aload_n 0, 1) := by decide +kernel
theorem dX9_init_127 : decode cX9_init 127 = .ok (.iconst 5, 1) := by decide +kernel
theorem dX9_init_128 : decode cX9_init 128 = .ok (.newarray .long, 2) := by decide +kernel
theorem dX9_init_130 : decode cX9_init 130 = .ok (.putfield 64, 3) := by decide +kernel
theorem dX9_init_133 : decode cX9_init 133 = .ok (.aload_n 0, 1) := by decide +kernel
theorem dX9_init_134 : decode cX9_init 134 = .ok (.iconst 5, 1) := by decide +kernel
theorem dX9_init_135 : decode cX9_init 135 = .ok (.newarray .long, 2) := by decide +kernel
theorem dX9_init_137 : decode cX9_init 137 = .ok (.putfield 67, 3) := by decide +kernel
theorem dX9_init_140 : decode cX9_init 140 = .ok (.aload_n 0, 1) := by decide +kernel
theorem dX9_init_141 : decode cX9_init 141 = .ok (.bipush 20, 2) := by decide +kernel
theorem dX9_init_143 : decode cX9_init 143 = .ok (.newarray .long, 2) := by decide +kernel
theorem dX9_init_145 : decode cX9_init 145 = .ok (.putfield 70, 3) := by decide +kernel
theorem dX9_init_148 : decode cX9_init 148 = .ok (.aload_n 0, 1) := by decide +kernel
theorem dX9_init_149 : decode cX9_init 149 = .ok (.bipush 14, 2) := by decide +kernel
theorem dX9_init_151 : decode cX9_init 151 = .ok (.newarray .int, 2) := by decide +kernel
theorem dX9_init_153 : decode cX9_init 153 = .ok (.putfield 73, 3) := by decide +kernel
theorem dX9_init_156 : decode cX9_init 156 = .ok (.aload_n 0, 1) := by decide +kernel
theorem dX9_init_157 : decode cX9_init 157 = .ok (.iconst 5, 1) := by decide +kernel
theorem dX9_init_158 : decode cX9_init 158 = .ok (.newarray .int, 2) := by decide +kernel
theorem dX9_init_160 : decode cX9_init 160 = .ok (.putfield 76, 3) := by decide +kernel
theorem dX9_init_163 : decode cX9_init 163 = .ok (.aload_n 0, 1) := by decide +kernel
theorem dX9_init_164 : decode cX9_init 164 = .ok (.iconst 5, 1) := by decide +kernel
theorem dX9_init_165 : decode cX9_init 165 = .ok (.newarray .int, 2) := by decide +kernel
theorem dX9_init_167 : decode cX9_init 167 = .ok (.putfield 79, 3) := by decide +kernel
theorem dX9_init_170 : decode cX9_init 170 = .ok (.aload_n 0, 1) := by decide +kernel
theorem dX9_init_171 : decode cX9_init 171 = .ok (.iconst 5, 1) := by decide +kernel
theorem dX9_init_172 : decode cX9_init 172 = .ok (.newarray .int, 2) := by decide +kernel
theorem dX9_init_174 : decode cX9_init 174 = .ok (.putfield 82, 3) := by decide +kernel
theorem dX9_init_177 : decode cX9_init 177 = .ok (.aload_n 0, 1) := by decide +kernel
theorem dX9_init_178 : decode cX9_init 178 = .ok (.bipush 6, 2) := by decide +kernel
theorem dX9_init_180 : decode cX9_init 180 = .ok (.newarray .int, 2) := by decide +kernel
theorem dX9_init_182 : decode cX9_init 182 = .ok (.putfield 85, 3) := by decide +kernel
theorem dX9_init_185 : decode cX9_init 185 = .ok (.return_, 1) := by decide +kernel
theorem dX9_in_0 : decode cX9_in 0 = .ok (.lload_n 0, 1) := by decide +kernel
theorem dX9_in_1 : decode cX9_in 1 = .ok (.lload_n 2, 1) := by decide +kernel
theorem dX9_in_2 : decode cX9_in 2 = .ok (.lcmp, 1) := by decide +kernel
theorem dX9_in_3 : decode cX9_in 3 = .ok (.ifCond .lt 14, 3) := by decide +kernel
theorem dX9_in_6 : decode cX9_in 6 = .ok (.lload_n 0, 1) := by decide +kernel
theorem dX9_in_7 : decode cX9_in 7 = .ok (.lload 4, 2) := by decide +kernel
theorem dX9_in_9 : decode cX9_in 9 = .ok (.lcmp, 1) := by decide +kernel
theorem dX9_in_10 : decode cX9_in 10 = .ok (.ifCond .gt 7, 3) := by decide +kernel
theorem dX9_in_13 : decode cX9_in 13 = .ok (.iconst 1, 1) := by decide +kernel
theorem dX9_in_14 : decode cX9_in 14 = .ok (.goto 4, 3) := by decide +kernel
theorem dX9_in_17 : decode cX9_in 17 = .ok (.iconst 0, 1) := by decide +kernel
theorem dX9_in_18 : decode cX9_in 18 = .ok (.ireturn, 1) := by decide +kernel
theorem dX9_has_0 : decode cX9_has 0 = .ok (.iload_n 0, 1) := by decide +kernel
theorem dX9_has_1 : decode cX9_has 1 = .ok (.iload_n 1, 1) := by decide +kernel
theorem dX9_has_2 : decode cX9_has 2 = .ok (.ishr, 1) := by decide +kernel
theorem dX9_has_3 : decode cX9_has 3 = .ok (.iconst 1, 1) := by decide +kernel
theorem dX9_has_4 : decode cX9_has 4 = .ok (.iand, 1) := by decide +kernel
theorem dX9_has_5 : decode cX9_has 5 = .ok (.iconst 1, 1) := by decide +kernel
theorem dX9_has_6 : decode cX9_has 6 = .ok (.if_icmp .ne 7, 3) := by decide +kernel
theorem dX9_has_9 : decode cX9_has 9 = .ok (.iconst 1, 1) := by decide +kernel
theorem dX9_has_10 : decode cX9_has 10 = .ok (.goto 4, 3) := by decide +kernel
theorem dX9_has_13 : decode cX9_has 13 = .ok (.iconst 0, 1) := by decide +kernel
theorem dX9_has_14 : decode cX9_has 14 = .ok (.ireturn, 1) := by decide +kernel
theorem dX9_bits_0 : decode cX9_bits 0 = .ok (.iconst 0, 1) := by decide +kernel
theorem dX9_bits_1 : decode cX9_bits 1 = .ok (.istore_n 1, 1) := by decide +kernel
theorem dX9_bits_2 : decode cX9_bits 2 = .ok (.iload_n 0, 1) := by decide +kernel
theorem dX9_bits_3 : decode cX9_bits 3 = .ok (.istore_n 2, 1) := by decide +kernel
theorem dX9_bits_4 : decode cX9_bits 4 = .ok (.iload_n 2, 1) := by decide +kernel
theorem dX9_bits_5 : decode cX9_bits 5 = .ok (.ifCond .eq 15, 3) := by decide +kernel
theorem dX9_bits_8 : decode cX9_bits 8 = .ok (.iinc 1 1, 3) := by decide +kernel
theorem dX9_bits_11 : decode cX9_bits 11 = .ok (.iload_n 2, 1) := by decide +kernel
theorem dX9_bits_12 : decode cX9_bits 12 = .ok (.iload_n 2, 1) := by decide +kernel
theorem dX9_bits_13 : decode cX9_bits 13 = .ok (.iconst 1, 1) := by decide +kernel
theorem dX9_bits_14 : decode cX9_bits 14 = .ok (.isub, 1) := by decide +kernel
theorem dX9_bits_15 : decode cX9_bits 15 = .ok (.iand, 1) := by decide +kernel
theorem dX9_bits_16 : decode cX9_bits 16 = .ok (.istore_n 2, 1) := by decide +kernel
theorem dX9_bits_17 : decode cX9_bits 17 = .ok (.goto (-13), 3) := by decide +kernel
theorem dX9_bits_20 : decode cX9_bits 20 = .ok (.iload_n 1, 1) := by decide +kernel
theorem dX9_bits_21 : decode cX9_bits 21 = .ok (.ireturn, 1) := by decide +kernel
theorem dX9_all_0 : decode cX9_all 0 = .ok (.iconst 1, 1) := by decide +kernel
theorem dX9_all_1 : decode cX9_all 1 = .ok (.aload_n 0, 1) := by decide +kernel
theorem dX9_all_2 : decode cX9_all 2 = .ok (.getfield 7, 3) := by decide +kernel
theorem dX9_all_5 : decode cX9_all 5 = .ok (.ishl, 1) := by decide +kernel
theorem dX9_all_6 : decode cX9_all 6 = .ok (.iconst 1, 1) := by decide +kernel
theorem dX9_all_7 : decode cX9_all 7 = .ok (.isub, 1) := by decide +kernel
theorem dX9_all_8 : decode cX9_all 8 = .ok (.ireturn, 1) := by decide +kernel
theorem dX9_isSet_0 : decode cX9_isSet 0 = .ok (.iload_n 1, 1) := by decide +kernel
theorem dX9_isSet_1 : decode cX9_isSet 1 = .ok (.i2l, 1) := by decide +kernel
theorem dX9_isSet_2 : decode cX9_isSet 2 = .ok (.lconst 1, 1) := by decide +kernel
theorem dX9_isSet_3 : decode cX9_isSet 3 = .ok (.aload_n 0, 1) := by decide +kernel
theorem dX9_isSet_4 : decode cX9_isSet 4 = .ok (.invokevirtual 88, 3) := by decide +kernel
theorem dX9_isSet_7 : decode cX9_isSet 7 = .ok (.i2l, 1) := by decide +kernel
theorem dX9_isSet_8 : decode cX9_isSet 8 = .ok (.invokestatic 92, 3) := by decide +kernel
theorem dX9_isSet_11 : decode cX9_isSet 11 = .ok (.ireturn, 1) := by decide +kernel
theorem dX9_isSide_0 : decode cX9_isSide 0 = .ok (.iload_n 1, 1) := by decide +kernel
theorem dX9_isSide_1 : decode cX9_isSide 1 = .ok (.i2l, 1) := by decide +kernel
theorem dX9_isSide_2 : decode cX9_isSide 2 = .ok (.lconst 0, 1) := by decide +kernel
theorem dX9_isSide_3 : decode cX9_isSide 3 = .ok (.aload_n 0, 1) := by decide +kernel
theorem dX9_isSide_4 : decode cX9_isSide 4 = .ok (.getfield 7, 3) := by decide +kernel
theorem dX9_isSide_7 : decode cX9_isSide 7 = .ok (.iconst 1, 1) := by decide +kernel
theorem dX9_isSide_8 : decode cX9_isSide 8 = .ok (.isub, 1) := by decide +kernel
theorem dX9_isSide_9 : decode cX9_isSide 9 = .ok (.i2l, 1) := by decide +kernel
theorem dX9_isSide_10 : decode cX9_isSide 10 = .ok (.invokestatic 92, 3) := by decide +kernel
theorem dX9_isSide_13 : decode cX9_isSide 13 = .ok (.ireturn, 1) := by decide +kernel
theorem dX9_common_0 : decode cX9_common 0 = .ok (.lload_n 0, 1) := by decide +kernel
theorem dX9_common_1 : decode cX9_common 1 = .ok (.lconst 0, 1) := by decide +kernel
theorem dX9_common_2 : decode cX9_common 2 = .ok (.lcmp, 1) := by decide +kernel
theorem dX9_common_3 : decode cX9_common 3 = .ok (.ifCond .ge 8, 3) := by decide +kernel
theorem dX9_common_6 : decode cX9_common 6 = .ok (.lload_n 0, 1) := by decide +kernel
theorem dX9_common_7 : decode cX9_common 7 = .ok (.lneg, 1) := by decide +kernel
theorem dX9_common_8 : decode cX9_common 8 = .ok (.goto 4, 3) := by decide +kernel
theorem dX9_common_11 : decode cX9_common 11 = .ok (.lload_n 0, 1) := by decide +kernel
theorem dX9_common_12 : decode cX9_common 12 = .ok (.lstore 4, 2) := by decide +kernel
theorem dX9_common_14 : decode cX9_common 14 = .ok (.lload_n 2, 1) := by decide +kernel
theorem dX9_common_15 : decode cX9_common 15 = .ok (.lconst 0, 1) := by decide +kernel
theorem dX9_common_16 : decode cX9_common 16 = .ok (.lcmp, 1) := by decide +kernel
theorem dX9_common_17 : decode cX9_common 17 = .ok (.ifCond .ge 8, 3) := by decide +kernel
theorem dX9_common_20 : decode cX9_common 20 = .ok (.lload_n 2, 1) := by decide +kernel
theorem dX9_common_21 : decode cX9_common 21 = .ok (.lneg, 1) := by decide +kernel
theorem dX9_common_22 : decode cX9_common 22 = .ok (.goto 4, 3) := by decide +kernel
theorem dX9_common_25 : decode cX9_common 25 = .ok (.lload_n 2, 1) := by decide +kernel
theorem dX9_common_26 : decode cX9_common 26 = .ok (.lstore 6, 2) := by decide +kernel
theorem dX9_common_28 : decode cX9_common 28 = .ok (.lload 6, 2) := by decide +kernel
theorem dX9_common_30 : decode cX9_common 30 = .ok (.lconst 0, 1) := by decide +kernel
theorem dX9_common_31 : decode cX9_common 31 = .ok (.lcmp, 1) := by decide +kernel
theorem dX9_common_32 : decode cX9_common 32 = .ok (.ifCond .eq 21, 3) := by decide +kernel
theorem dX9_common_35 : decode cX9_common 35 = .ok (.lload 4, 2) := by decide +kernel
theorem dX9_common_37 : decode cX9_common 37 = .ok (.lload 6, 2) := by decide +kernel
theorem dX9_common_39 : decode cX9_common 39 = .ok (.lrem, 1) := by decide +kernel
theorem dX9_common_40 : decode cX9_common 40 = .ok (.lstore 8, 2) := by decide +kernel
theorem dX9_common_42 : decode cX9_common 42 = .ok (.lload 6, 2) := by decide +kernel
theorem dX9_common_44 : decode cX9_common 44 = .ok (.lstore 4, 2) := by decide +kernel
theorem dX9_common_46 : decode cX9_common 46 = .ok (.lload 8, 2) := by decide +kernel
theorem dX9_common_48 : decode cX9_common 48 = .ok (.lstore 6, 2) := by decide +kernel
theorem dX9_common_50 : decode cX9_common 50 = .ok (.goto (-22), 3) := by decide +kernel
theorem dX9_common_53 : decode cX9_common 53 = .ok (.lload 4, 2) := by decide +kernel
theorem dX9_common_55 : decode cX9_common 55 = .ok (.lreturn, 1) := by decide +kernel
theorem dX9_fraction_0 : decode cX9_fraction 0 = .ok (.lload_n 1, 1) := by decide +kernel
theorem dX9_fraction_1 : decode cX9_fraction 1 = .ok (.lload_n 3, 1) := by decide +kernel
theorem dX9_fraction_2 : decode cX9_fraction 2 = .ok (.invokestatic 96, 3) := by decide +kernel
theorem dX9_fraction_5 : decode cX9_fraction 5 = .ok (.lstore 5, 2) := by decide +kernel
theorem dX9_fraction_7 : decode cX9_fraction 7 = .ok (.aload_n 0, 1) := by decide +kernel
theorem dX9_fraction_8 : decode cX9_fraction 8 = .ok (.lload_n 3, 1) := by decide +kernel
theorem dX9_fraction_9 : decode cX9_fraction 9 = .ok (.lconst 0, 1) := by decide +kernel
theorem dX9_fraction_10 : decode cX9_fraction 10 = .ok (.lcmp, 1) := by decide +kernel
theorem dX9_fraction_11 : decode cX9_fraction 11 = .ok (.ifCond .ge 8, 3) := by decide +kernel
theorem dX9_fraction_14 : decode cX9_fraction 14 = .ok (.lload_n 1, 1) := by decide +kernel
theorem dX9_fraction_15 : decode cX9_fraction 15 = .ok (.lneg, 1) := by decide +kernel
theorem dX9_fraction_16 : decode cX9_fraction 16 = .ok (.goto 4, 3) := by decide +kernel
theorem dX9_fraction_19 : decode cX9_fraction 19 = .ok (.lload_n 1, 1) := by decide +kernel
theorem dX9_fraction_20 : decode cX9_fraction 20 = .ok (.lload 5, 2) := by decide +kernel
theorem dX9_fraction_22 : decode cX9_fraction 22 = .ok (.ldiv, 1) := by decide +kernel
theorem dX9_fraction_23 : decode cX9_fraction 23 = .ok (.putfield 100, 3) := by decide +kernel
theorem dX9_fraction_26 : decode cX9_fraction 26 = .ok (.aload_n 0, 1) := by decide +kernel
theorem dX9_fraction_27 : decode cX9_fraction 27 = .ok (.lload_n 3, 1) := by decide +kernel
theorem dX9_fraction_28 : decode cX9_fraction 28 = .ok (.lconst 0, 1) := by decide +kernel
theorem dX9_fraction_29 : decode cX9_fraction 29 = .ok (.lcmp, 1) := by decide +kernel
theorem dX9_fraction_30 : decode cX9_fraction 30 = .ok (.ifCond .ge 8, 3) := by decide +kernel
theorem dX9_fraction_33 : decode cX9_fraction 33 = .ok (.lload_n 3, 1) := by decide +kernel
theorem dX9_fraction_34 : decode cX9_fraction 34 = .ok (.lneg, 1) := by decide +kernel
theorem dX9_fraction_35 : decode cX9_fraction 35 = .ok (.goto 4, 3) := by decide +kernel
theorem dX9_fraction_38 : decode cX9_fraction 38 = .ok (.lload_n 3, 1) := by decide +kernel
theorem dX9_fraction_39 : decode cX9_fraction 39 = .ok (.lload 5, 2) := by decide +kernel
theorem dX9_fraction_41 : decode cX9_fraction 41 = .ok (.ldiv, 1) := by decide +kernel
theorem dX9_fraction_42 : decode cX9_fraction 42 = .ok (.putfield 20, 3) := by decide +kernel
theorem dX9_fraction_45 : decode cX9_fraction 45 = .ok (.iconst 1, 1) := by decide +kernel
theorem dX9_fraction_46 : decode cX9_fraction 46 = .ok (.ireturn, 1) := by decide +kernel
theorem dX9_sides_0 : decode cX9_sides 0 = .ok (.iload_n 1, 1) := by decide +kernel
theorem dX9_sides_1 : decode cX9_sides 1 = .ok (.i2l, 1) := by decide +kernel
theorem dX9_sides_2 : decode cX9_sides 2 = .ok (.lconst 1, 1) := by decide +kernel
theorem dX9_sides_3 : decode cX9_sides 3 = .ok (.ldc2_w 103, 3) := by decide +kernel
theorem dX9_sides_6 : decode cX9_sides 6 = .ok (.invokestatic 92, 3) := by decide +kernel
theorem dX9_sides_9 : decode cX9_sides 9 = .ok (.ifCond .ne 6, 3) := by decide +kernel
theorem dX9_sides_12 : decode cX9_sides 12 = .ok (.bipush (-2), 2) := by decide +kernel
theorem dX9_sides_14 : decode cX9_sides 14 = .ok (.ireturn, 1) := by decide +kernel
theorem dX9_sides_15 : decode cX9_sides 15 = .ok (.aload_n 0, 1) := by decide +kernel
theorem dX9_sides_16 : decode cX9_sides 16 = .ok (.iload_n 1, 1) := by decide +kernel
theorem dX9_sides_17 : decode cX9_sides 17 = .ok (.putfield 7, 3) := by decide +kernel
theorem dX9_sides_20 : decode cX9_sides 20 = .ok (.iconst 0, 1) := by decide +kernel
theorem dX9_sides_21 : decode cX9_sides 21 = .ok (.istore_n 2, 1) := by decide +kernel
theorem dX9_sides_22 : decode cX9_sides 22 = .ok (.iload_n 2, 1) := by decide +kernel
theorem dX9_sides_23 : decode cX9_sides 23 = .ok (.bipush 16, 2) := by decide +kernel
theorem dX9_sides_25 : decode cX9_sides 25 = .ok (.if_icmp .ge 16, 3) := by decide +kernel
theorem dX9_sides_28 : decode cX9_sides 28 = .ok (.aload_n 0, 1) := by decide +kernel
theorem dX9_sides_29 : decode cX9_sides 29 = .ok (.getfield 13, 3) := by decide +kernel
theorem dX9_sides_32 : decode cX9_sides 32 = .ok (.iload_n 2, 1) := by decide +kernel
theorem dX9_sides_33 : decode cX9_sides 33 = .ok (.iconst 0, 1) := by decide +kernel
theorem dX9_sides_34 : decode cX9_sides 34 = .ok (.iastore, 1) := by decide +kernel
theorem dX9_sides_35 : decode cX9_sides 35 = .ok (.iinc 2 1, 3) := by decide +kernel
theorem dX9_sides_38 : decode cX9_sides 38 = .ok (.goto (-16), 3) := by decide +kernel
theorem dX9_sides_41 : decode cX9_sides 41 = .ok (.iconst 0, 1) := by decide +kernel
theorem dX9_sides_42 : decode cX9_sides 42 = .ok (.istore_n 2, 1) := by decide +kernel
theorem dX9_sides_43 : decode cX9_sides 43 = .ok (.iload_n 2, 1) := by decide +kernel
theorem dX9_sides_44 : decode cX9_sides 44 = .ok (.bipush 8, 2) := by decide +kernel
theorem dX9_sides_46 : decode cX9_sides 46 = .ok (.if_icmp .ge 16, 3) := by decide +kernel
theorem dX9_sides_49 : decode cX9_sides 49 = .ok (.aload_n 0, 1) := by decide +kernel
theorem dX9_sides_50 : decode cX9_sides 50 = .ok (.getfield 17, 3) := by decide +kernel
theorem dX9_sides_53 : decode cX9_sides 53 = .ok (.iload_n 2, 1) := by decide +kernel
theorem dX9_sides_54 : decode cX9_sides 54 = .ok (.iconst 0, 1) := by decide +kernel
theorem dX9_sides_55 : decode cX9_sides 55 = .ok (.iastore, 1) := by decide +kernel
theorem dX9_sides_56 : decode cX9_sides 56 = .ok (.iinc 2 1, 3) := by decide +kernel
theorem dX9_sides_59 : decode cX9_sides 59 = .ok (.goto (-16), 3) := by decide +kernel
theorem dX9_sides_62 : decode cX9_sides 62 = .ok (.iconst 1, 1) := by decide +kernel
theorem dX9_sides_63 : decode cX9_sides 63 = .ok (.ireturn, 1) := by decide +kernel
theorem dX9_worth_0 : decode cX9_worth 0 = .ok (.aload_n 0, 1) := by decide +kernel
theorem dX9_worth_1 : decode cX9_worth 1 = .ok (.iload_n 1, 1) := by decide +kernel
theorem dX9_worth_2 : decode cX9_worth 2 = .ok (.invokevirtual 105, 3) := by decide +kernel
theorem dX9_worth_5 : decode cX9_worth 5 = .ok (.ifCond .eq 17, 3) := by decide +kernel
theorem dX9_worth_8 : decode cX9_worth 8 = .ok (.iload_n 2, 1) := by decide +kernel
theorem dX9_worth_9 : decode cX9_worth 9 = .ok (.i2l, 1) := by decide +kernel
theorem dX9_worth_10 : decode cX9_worth 10 = .ok (.ldc2_w 109, 3) := by decide +kernel
theorem dX9_worth_13 : decode cX9_worth 13 = .ok (.ldc2_w 111, 3) := by decide +kernel
theorem dX9_worth_16 : decode cX9_worth 16 = .ok (.invokestatic 92, 3) := by decide +kernel
theorem dX9_worth_19 : decode cX9_worth 19 = .ok (.ifCond .ne 6, 3) := by decide +kernel
theorem dX9_worth_22 : decode cX9_worth 22 = .ok (.ldc 113, 2) := by decide +kernel
theorem dX9_worth_24 : decode cX9_worth 24 = .ok (.ireturn, 1) := by decide +kernel
theorem dX9_worth_25 : decode cX9_worth 25 = .ok (.aload_n 0, 1) := by decide +kernel
theorem dX9_worth_26 : decode cX9_worth 26 = .ok (.getfield 13, 3) := by decide +kernel
theorem dX9_worth_29 : decode cX9_worth 29 = .ok (.iload_n 1, 1) := by decide +kernel
theorem dX9_worth_30 : decode cX9_worth 30 = .ok (.iaload, 1) := by decide +kernel
theorem dX9_worth_31 : decode cX9_worth 31 = .ok (.istore_n 3, 1) := by decide +kernel
theorem dX9_worth_32 : decode cX9_worth 32 = .ok (.aload_n 0, 1) := by decide +kernel
theorem dX9_worth_33 : decode cX9_worth 33 = .ok (.getfield 13, 3) := by decide +kernel
theorem dX9_worth_36 : decode cX9_worth 36 = .ok (.iload_n 1, 1) := by decide +kernel
theorem dX9_worth_37 : decode cX9_worth 37 = .ok (.iload_n 2, 1) := by decide +kernel
theorem dX9_worth_38 : decode cX9_worth 38 = .ok (.iastore, 1) := by decide +kernel
theorem dX9_worth_39 : decode cX9_worth 39 = .ok (.iload_n 3, 1) := by decide +kernel
theorem dX9_worth_40 : decode cX9_worth 40 = .ok (.ireturn, 1) := by decide +kernel
theorem dX9_dividend_0 : decode cX9_dividend 0 = .ok (.aload_n 0, 1) := by decide +kernel
theorem dX9_dividend_1 : decode cX9_dividend 1 = .ok (.iload_n 1, 1) := by decide +kernel
theorem dX9_dividend_2 : decode cX9_dividend 2 = .ok (.invokevirtual 105, 3) := by decide +kernel
theorem dX9_dividend_5 : decode cX9_dividend 5 = .ok (.ifCond .ne 6, 3) := by decide +kernel
theorem dX9_dividend_8 : decode cX9_dividend 8 = .ok (.ldc 113, 2) := by decide +kernel
theorem dX9_dividend_10 : decode cX9_dividend 10 = .ok (.ireturn, 1) := by decide +kernel
theorem dX9_dividend_11 : decode cX9_dividend 11 = .ok (.iconst 0, 1) := by decide +kernel
theorem dX9_dividend_12 : decode cX9_dividend 12 = .ok (.istore_n 2, 1) := by decide +kernel
theorem dX9_dividend_13 : decode cX9_dividend 13 = .ok (.iconst 1, 1) := by decide +kernel
theorem dX9_dividend_14 : decode cX9_dividend 14 = .ok (.istore_n 3, 1) := by decide +kernel
theorem dX9_dividend_15 : decode cX9_dividend 15 = .ok (.iload_n 3, 1) := by decide +kernel
theorem dX9_dividend_16 : decode cX9_dividend 16 = .ok (.iload_n 1, 1) := by decide +kernel
theorem dX9_dividend_17 : decode cX9_dividend 17 = .ok (.if_icmp .gt 49, 3) := by decide +kernel
theorem dX9_dividend_20 : decode cX9_dividend 20 = .ok (.iload_n 3, 1) := by decide +kernel
theorem dX9_dividend_21 : decode cX9_dividend 21 = .ok (.iload_n 1, 1) := by decide +kernel
theorem dX9_dividend_22 : decode cX9_dividend 22 = .ok (.iconst (-1), 1) := by decide +kernel
theorem dX9_dividend_23 : decode cX9_dividend 23 = .ok (.ixor, 1) := by decide +kernel
theorem dX9_dividend_24 : decode cX9_dividend 24 = .ok (.iand, 1) := by decide +kernel
theorem dX9_dividend_25 : decode cX9_dividend 25 = .ok (.ifCond .ne 35, 3) := by decide +kernel
theorem dX9_dividend_28 : decode cX9_dividend 28 = .ok (.iload_n 2, 1) := by decide +kernel
theorem dX9_dividend_29 : decode cX9_dividend 29 = .ok (.iload_n 1, 1) := by decide +kernel
theorem dX9_dividend_30 : decode cX9_dividend 30 = .ok (.iload_n 3, 1) := by decide +kernel
theorem dX9_dividend_31 : decode cX9_dividend 31 = .ok (.iconst (-1), 1) := by decide +kernel
theorem dX9_dividend_32 : decode cX9_dividend 32 = .ok (.ixor, 1) := by decide +kernel
theorem dX9_dividend_33 : decode cX9_dividend 33 = .ok (.iand, 1) := by decide +kernel
theorem dX9_dividend_34 : decode cX9_dividend 34 = .ok (.invokestatic 114, 3) := by decide +kernel
theorem dX9_dividend_37 : decode cX9_dividend 37 = .ok (.iconst 2, 1) := by decide +kernel
theorem dX9_dividend_38 : decode cX9_dividend 38 = .ok (.irem, 1) := by decide +kernel
theorem dX9_dividend_39 : decode cX9_dividend 39 = .ok (.ifCond .ne 12, 3) := by decide +kernel
theorem dX9_dividend_42 : decode cX9_dividend 42 = .ok (.aload_n 0, 1) := by decide +kernel
theorem dX9_dividend_43 : decode cX9_dividend 43 = .ok (.getfield 13, 3) := by decide +kernel
theorem dX9_dividend_46 : decode cX9_dividend 46 = .ok (.iload_n 3, 1) := by decide +kernel
theorem dX9_dividend_47 : decode cX9_dividend 47 = .ok (.iaload, 1) := by decide +kernel
theorem dX9_dividend_48 : decode cX9_dividend 48 = .ok (.goto 10, 3) := by decide +kernel
theorem dX9_dividend_51 : decode cX9_dividend 51 = .ok (.aload_n 0, 1) := by decide +kernel
theorem dX9_dividend_52 : decode cX9_dividend 52 = .ok (.getfield 13, 3) := by decide +kernel
theorem dX9_dividend_55 : decode cX9_dividend 55 = .ok (.iload_n 3, 1) := by decide +kernel
theorem dX9_dividend_56 : decode cX9_dividend 56 = .ok (.iaload, 1) := by decide +kernel
theorem dX9_dividend_57 : decode cX9_dividend 57 = .ok (.ineg, 1) := by decide +kernel
theorem dX9_dividend_58 : decode cX9_dividend 58 = .ok (.iadd, 1) := by decide +kernel
theorem dX9_dividend_59 : decode cX9_dividend 59 = .ok (.istore_n 2, 1) := by decide +kernel
theorem dX9_dividend_60 : decode cX9_dividend 60 = .ok (.iinc 3 1, 3) := by decide +kernel
theorem dX9_dividend_63 : decode cX9_dividend 63 = .ok (.goto (-48), 3) := by decide +kernel
theorem dX9_dividend_66 : decode cX9_dividend 66 = .ok (.iload_n 2, 1) := by decide +kernel
theorem dX9_dividend_67 : decode cX9_dividend 67 = .ok (.ireturn, 1) := by decide +kernel
theorem dX9_margin_0 : decode cX9_margin 0 = .ok (.aload_n 0, 1) := by decide +kernel
theorem dX9_margin_1 : decode cX9_margin 1 = .ok (.iload_n 2, 1) := by decide +kernel
theorem dX9_margin_2 : decode cX9_margin 2 = .ok (.invokevirtual 118, 3) := by decide +kernel
theorem dX9_margin_5 : decode cX9_margin 5 = .ok (.ifCond .eq 23, 3) := by decide +kernel
theorem dX9_margin_8 : decode cX9_margin 8 = .ok (.iload_n 1, 1) := by decide +kernel
theorem dX9_margin_9 : decode cX9_margin 9 = .ok (.i2l, 1) := by decide +kernel
theorem dX9_margin_10 : decode cX9_margin 10 = .ok (.lconst 0, 1) := by decide +kernel
theorem dX9_margin_11 : decode cX9_margin 11 = .ok (.iconst 1, 1) := by decide +kernel
theorem dX9_margin_12 : decode cX9_margin 12 = .ok (.iconst 2, 1) := by decide +kernel
theorem dX9_margin_13 : decode cX9_margin 13 = .ok (.aload_n 0, 1) := by decide +kernel
theorem dX9_margin_14 : decode cX9_margin 14 = .ok (.getfield 7, 3) := by decide +kernel
theorem dX9_margin_17 : decode cX9_margin 17 = .ok (.imul, 1) := by decide +kernel
theorem dX9_margin_18 : decode cX9_margin 18 = .ok (.ishl, 1) := by decide +kernel
theorem dX9_margin_19 : decode cX9_margin 19 = .ok (.iconst 1, 1) := by decide +kernel
theorem dX9_margin_20 : decode cX9_margin 20 = .ok (.isub, 1) := by decide +kernel
theorem dX9_margin_21 : decode cX9_margin 21 = .ok (.i2l, 1) := by decide +kernel
theorem dX9_margin_22 : decode cX9_margin 22 = .ok (.invokestatic 92, 3) := by decide +kernel
theorem dX9_margin_25 : decode cX9_margin 25 = .ok (.ifCond .ne 6, 3) := by decide +kernel
theorem dX9_margin_28 : decode cX9_margin 28 = .ok (.ldc 113, 2) := by decide +kernel
theorem dX9_margin_30 : decode cX9_margin 30 = .ok (.ireturn, 1) := by decide +kernel
theorem dX9_margin_31 : decode cX9_margin 31 = .ok (.iconst 0, 1) := by decide +kernel
theorem dX9_margin_32 : decode cX9_margin 32 = .ok (.istore_n 3, 1) := by decide +kernel
theorem dX9_margin_33 : decode cX9_margin 33 = .ok (.iconst 0, 1) := by decide +kernel
theorem dX9_margin_34 : decode cX9_margin 34 = .ok (.istore 4, 2) := by decide +kernel
theorem dX9_margin_36 : decode cX9_margin 36 = .ok (.aload_n 0, 1) := by decide +kernel
theorem dX9_margin_37 : decode cX9_margin 37 = .ok (.getfield 7, 3) := by decide +kernel
theorem dX9_margin_40 : decode cX9_margin 40 = .ok (.iconst 1, 1) := by decide +kernel
theorem dX9_margin_41 : decode cX9_margin 41 = .ok (.isub, 1) := by decide +kernel
theorem dX9_margin_42 : decode cX9_margin 42 = .ok (.istore 5, 2) := by decide +kernel
theorem dX9_margin_44 : decode cX9_margin 44 = .ok (.iload 5, 2) := by decide +kernel
theorem dX9_margin_46 : decode cX9_margin 46 = .ok (.ifCond .lt 78, 3) := by decide +kernel
theorem dX9_margin_49 : decode cX9_margin 49 = .ok (.iload_n 1, 1) := by decide +kernel
theorem dX9_margin_50 : decode cX9_margin 50 = .ok (.iconst 2, 1) := by decide +kernel
theorem dX9_margin_51 : decode cX9_margin 51 = .ok (.iload 5, 2) := by decide +kernel
theorem dX9_margin_53 : decode cX9_margin 53 = .ok (.imul, 1) := by decide +kernel
theorem dX9_margin_54 : decode cX9_margin 54 = .ok (.ishr, 1) := by decide +kernel
theorem dX9_margin_55 : decode cX9_margin 55 = .ok (.iconst 3, 1) := by decide +kernel
theorem dX9_margin_56 : decode cX9_margin 56 = .ok (.iand, 1) := by decide +kernel
theorem dX9_margin_57 : decode cX9_margin 57 = .ok (.istore 6, 2) := by decide +kernel
theorem dX9_margin_59 : decode cX9_margin 59 = .ok (.iload 6, 2) := by decide +kernel
theorem dX9_margin_61 : decode cX9_margin 61 = .ok (.aload_n 0, 1) := by decide +kernel
theorem dX9_margin_62 : decode cX9_margin 62 = .ok (.getfield 7, 3) := by decide +kernel
theorem dX9_margin_65 : decode cX9_margin 65 = .ok (.if_icmp .ge 12, 3) := by decide +kernel
theorem dX9_margin_68 : decode cX9_margin 68 = .ok (.iload_n 3, 1) := by decide +kernel
theorem dX9_margin_69 : decode cX9_margin 69 = .ok (.iload 6, 2) := by decide +kernel
theorem dX9_margin_71 : decode cX9_margin 71 = .ok (.invokestatic 121, 3) := by decide +kernel
theorem dX9_margin_74 : decode cX9_margin 74 = .ok (.ifCond .eq 6, 3) := by decide +kernel
theorem dX9_margin_77 : decode cX9_margin 77 = .ok (.ldc 113, 2) := by decide +kernel
theorem dX9_margin_79 : decode cX9_margin 79 = .ok (.ireturn, 1) := by decide +kernel
theorem dX9_margin_80 : decode cX9_margin 80 = .ok (.iload 6, 2) := by decide +kernel
theorem dX9_margin_82 : decode cX9_margin 82 = .ok (.iload_n 2, 1) := by decide +kernel
theorem dX9_margin_83 : decode cX9_margin 83 = .ok (.if_icmp .ne 24, 3) := by decide +kernel
theorem dX9_margin_86 : decode cX9_margin 86 = .ok (.aload_n 0, 1) := by decide +kernel
theorem dX9_margin_87 : decode cX9_margin 87 = .ok (.getfield 13, 3) := by decide +kernel
theorem dX9_margin_90 : decode cX9_margin 90 = .ok (.iload_n 3, 1) := by decide +kernel
theorem dX9_margin_91 : decode cX9_margin 91 = .ok (.iconst 1, 1) := by decide +kernel
theorem dX9_margin_92 : decode cX9_margin 92 = .ok (.iload 6, 2) := by decide +kernel
theorem dX9_margin_94 : decode cX9_margin 94 = .ok (.ishl, 1) := by decide +kernel
theorem dX9_margin_95 : decode cX9_margin 95 = .ok (.ior, 1) := by decide +kernel
theorem dX9_margin_96 : decode cX9_margin 96 = .ok (.iaload, 1) := by decide +kernel
theorem dX9_margin_97 : decode cX9_margin 97 = .ok (.aload_n 0, 1) := by decide +kernel
theorem dX9_margin_98 : decode cX9_margin 98 = .ok (.getfield 13, 3) := by decide +kernel
theorem dX9_margin_101 : decode cX9_margin 101 = .ok (.iload_n 3, 1) := by decide +kernel
theorem dX9_margin_102 : decode cX9_margin 102 = .ok (.iaload, 1) := by decide +kernel
theorem dX9_margin_103 : decode cX9_margin 103 = .ok (.isub, 1) := by decide +kernel
theorem dX9_margin_104 : decode cX9_margin 104 = .ok (.goto 5, 3) := by decide +kernel
theorem dX9_margin_107 : decode cX9_margin 107 = .ok (.iload 4, 2) := by decide +kernel
theorem dX9_margin_109 : decode cX9_margin 109 = .ok (.istore 4, 2) := by decide +kernel
theorem dX9_margin_111 : decode cX9_margin 111 = .ok (.iload_n 3, 1) := by decide +kernel
theorem dX9_margin_112 : decode cX9_margin 112 = .ok (.iconst 1, 1) := by decide +kernel
theorem dX9_margin_113 : decode cX9_margin 113 = .ok (.iload 6, 2) := by decide +kernel
theorem dX9_margin_115 : decode cX9_margin 115 = .ok (.ishl, 1) := by decide +kernel
theorem dX9_margin_116 : decode cX9_margin 116 = .ok (.ior, 1) := by decide +kernel
theorem dX9_margin_117 : decode cX9_margin 117 = .ok (.istore_n 3, 1) := by decide +kernel
theorem dX9_margin_118 : decode cX9_margin 118 = .ok (.iinc 5 (-1), 3) := by decide +kernel
theorem dX9_margin_121 : decode cX9_margin 121 = .ok (.goto (-77), 3) := by decide +kernel
theorem dX9_margin_124 : decode cX9_margin 124 = .ok (.iload 4, 2) := by decide +kernel
theorem dX9_margin_126 : decode cX9_margin 126 = .ok (.ireturn, 1) := by decide +kernel
theorem dX9_factorial_0 : decode cX9_factorial 0 = .ok (.iconst 1, 1) := by decide +kernel
theorem dX9_factorial_1 : decode cX9_factorial 1 = .ok (.istore_n 1, 1) := by decide +kernel
theorem dX9_factorial_2 : decode cX9_factorial 2 = .ok (.iconst 2, 1) := by decide +kernel
theorem dX9_factorial_3 : decode cX9_factorial 3 = .ok (.istore_n 2, 1) := by decide +kernel
theorem dX9_factorial_4 : decode cX9_factorial 4 = .ok (.iload_n 2, 1) := by decide +kernel
theorem dX9_factorial_5 : decode cX9_factorial 5 = .ok (.iload_n 0, 1) := by decide +kernel
theorem dX9_factorial_6 : decode cX9_factorial 6 = .ok (.if_icmp .gt 13, 3) := by decide +kernel
theorem dX9_factorial_9 : decode cX9_factorial 9 = .ok (.iload_n 1, 1) := by decide +kernel
theorem dX9_factorial_10 : decode cX9_factorial 10 = .ok (.iload_n 2, 1) := by decide +kernel
theorem dX9_factorial_11 : decode cX9_factorial 11 = .ok (.imul, 1) := by decide +kernel
theorem dX9_factorial_12 : decode cX9_factorial 12 = .ok (.istore_n 1, 1) := by decide +kernel
theorem dX9_factorial_13 : decode cX9_factorial 13 = .ok (.iinc 2 1, 3) := by decide +kernel
theorem dX9_factorial_16 : decode cX9_factorial 16 = .ok (.goto (-12), 3) := by decide +kernel
theorem dX9_factorial_19 : decode cX9_factorial 19 = .ok (.iload_n 1, 1) := by decide +kernel
theorem dX9_factorial_20 : decode cX9_factorial 20 = .ok (.ireturn, 1) := by decide +kernel
theorem dX9_value_0 : decode cX9_value 0 = .ok (.aload_n 0, 1) := by decide +kernel
theorem dX9_value_1 : decode cX9_value 1 = .ok (.iload_n 1, 1) := by decide +kernel
theorem dX9_value_2 : decode cX9_value 2 = .ok (.invokevirtual 118, 3) := by decide +kernel
theorem dX9_value_5 : decode cX9_value 5 = .ok (.ifCond .eq 13, 3) := by decide +kernel
theorem dX9_value_8 : decode cX9_value 8 = .ok (.iload_n 2, 1) := by decide +kernel
theorem dX9_value_9 : decode cX9_value 9 = .ok (.i2l, 1) := by decide +kernel
theorem dX9_value_10 : decode cX9_value 10 = .ok (.lconst 0, 1) := by decide +kernel
theorem dX9_value_11 : decode cX9_value 11 = .ok (.lconst 1, 1) := by decide +kernel
theorem dX9_value_12 : decode cX9_value 12 = .ok (.invokestatic 92, 3) := by decide +kernel
theorem dX9_value_15 : decode cX9_value 15 = .ok (.ifCond .ne 6, 3) := by decide +kernel
theorem dX9_value_18 : decode cX9_value 18 = .ok (.bipush (-2), 2) := by decide +kernel
theorem dX9_value_20 : decode cX9_value 20 = .ok (.ireturn, 1) := by decide +kernel
theorem dX9_value_21 : decode cX9_value 21 = .ok (.lconst 0, 1) := by decide +kernel
theorem dX9_value_22 : decode cX9_value 22 = .ok (.lstore_n 3, 1) := by decide +kernel
theorem dX9_value_23 : decode cX9_value 23 = .ok (.iconst 0, 1) := by decide +kernel
theorem dX9_value_24 : decode cX9_value 24 = .ok (.istore 5, 2) := by decide +kernel
theorem dX9_value_26 : decode cX9_value 26 = .ok (.iload 5, 2) := by decide +kernel
theorem dX9_value_28 : decode cX9_value 28 = .ok (.aload_n 0, 1) := by decide +kernel
theorem dX9_value_29 : decode cX9_value 29 = .ok (.invokevirtual 88, 3) := by decide +kernel
theorem dX9_value_32 : decode cX9_value 32 = .ok (.if_icmp .gt 81, 3) := by decide +kernel
theorem dX9_value_35 : decode cX9_value 35 = .ok (.iload 5, 2) := by decide +kernel
theorem dX9_value_37 : decode cX9_value 37 = .ok (.iload_n 1, 1) := by decide +kernel
theorem dX9_value_38 : decode cX9_value 38 = .ok (.invokestatic 121, 3) := by decide +kernel
theorem dX9_value_41 : decode cX9_value 41 = .ok (.ifCond .ne 66, 3) := by decide +kernel
theorem dX9_value_44 : decode cX9_value 44 = .ok (.iload 5, 2) := by decide +kernel
theorem dX9_value_46 : decode cX9_value 46 = .ok (.invokestatic 114, 3) := by decide +kernel
theorem dX9_value_49 : decode cX9_value 49 = .ok (.istore 6, 2) := by decide +kernel
theorem dX9_value_51 : decode cX9_value 51 = .ok (.iload_n 2, 1) := by decide +kernel
theorem dX9_value_52 : decode cX9_value 52 = .ok (.ifCond .ne 26, 3) := by decide +kernel
theorem dX9_value_55 : decode cX9_value 55 = .ok (.iload 6, 2) := by decide +kernel
theorem dX9_value_57 : decode cX9_value 57 = .ok (.invokestatic 125, 3) := by decide +kernel
theorem dX9_value_60 : decode cX9_value 60 = .ok (.i2l, 1) := by decide +kernel
theorem dX9_value_61 : decode cX9_value 61 = .ok (.aload_n 0, 1) := by decide +kernel
theorem dX9_value_62 : decode cX9_value 62 = .ok (.getfield 7, 3) := by decide +kernel
theorem dX9_value_65 : decode cX9_value 65 = .ok (.iconst 1, 1) := by decide +kernel
theorem dX9_value_66 : decode cX9_value 66 = .ok (.isub, 1) := by decide +kernel
theorem dX9_value_67 : decode cX9_value 67 = .ok (.iload 6, 2) := by decide +kernel
theorem dX9_value_69 : decode cX9_value 69 = .ok (.isub, 1) := by decide +kernel
theorem dX9_value_70 : decode cX9_value 70 = .ok (.invokestatic 125, 3) := by decide +kernel
theorem dX9_value_73 : decode cX9_value 73 = .ok (.i2l, 1) := by decide +kernel
theorem dX9_value_74 : decode cX9_value 74 = .ok (.lmul, 1) := by decide +kernel
theorem dX9_value_75 : decode cX9_value 75 = .ok (.goto 4, 3) := by decide +kernel
theorem dX9_value_78 : decode cX9_value 78 = .ok (.lconst 1, 1) := by decide +kernel
theorem dX9_value_79 : decode cX9_value 79 = .ok (.lstore 7, 2) := by decide +kernel
theorem dX9_value_81 : decode cX9_value 81 = .ok (.lload_n 3, 1) := by decide +kernel
theorem dX9_value_82 : decode cX9_value 82 = .ok (.lload 7, 2) := by decide +kernel
theorem dX9_value_84 : decode cX9_value 84 = .ok (.aload_n 0, 1) := by decide +kernel
theorem dX9_value_85 : decode cX9_value 85 = .ok (.getfield 13, 3) := by decide +kernel
theorem dX9_value_88 : decode cX9_value 88 = .ok (.iload 5, 2) := by decide +kernel
theorem dX9_value_90 : decode cX9_value 90 = .ok (.iconst 1, 1) := by decide +kernel
theorem dX9_value_91 : decode cX9_value 91 = .ok (.iload_n 1, 1) := by decide +kernel
theorem dX9_value_92 : decode cX9_value 92 = .ok (.ishl, 1) := by decide +kernel
theorem dX9_value_93 : decode cX9_value 93 = .ok (.ior, 1) := by decide +kernel
theorem dX9_value_94 : decode cX9_value 94 = .ok (.iaload, 1) := by decide +kernel
theorem dX9_value_95 : decode cX9_value 95 = .ok (.aload_n 0, 1) := by decide +kernel
theorem dX9_value_96 : decode cX9_value 96 = .ok (.getfield 13, 3) := by decide +kernel
theorem dX9_value_99 : decode cX9_value 99 = .ok (.iload 5, 2) := by decide +kernel
theorem dX9_value_101 : decode cX9_value 101 = .ok (.iaload, 1) := by decide +kernel
theorem dX9_value_102 : decode cX9_value 102 = .ok (.isub, 1) := by decide +kernel
theorem dX9_value_103 : decode cX9_value 103 = .ok (.i2l, 1) := by decide +kernel
theorem dX9_value_104 : decode cX9_value 104 = .ok (.lmul, 1) := by decide +kernel
theorem dX9_value_105 : decode cX9_value 105 = .ok (.ladd, 1) := by decide +kernel
theorem dX9_value_106 : decode cX9_value 106 = .ok (.lstore_n 3, 1) := by decide +kernel
theorem dX9_value_107 : decode cX9_value 107 = .ok (.iinc 5 1, 3) := by decide +kernel
theorem dX9_value_110 : decode cX9_value 110 = .ok (.goto (-84), 3) := by decide +kernel
theorem dX9_value_113 : decode cX9_value 113 = .ok (.aload_n 0, 1) := by decide +kernel
theorem dX9_value_114 : decode cX9_value 114 = .ok (.lload_n 3, 1) := by decide +kernel
theorem dX9_value_115 : decode cX9_value 115 = .ok (.iload_n 2, 1) := by decide +kernel
theorem dX9_value_116 : decode cX9_value 116 = .ok (.ifCond .ne 14, 3) := by decide +kernel
theorem dX9_value_119 : decode cX9_value 119 = .ok (.aload_n 0, 1) := by decide +kernel
theorem dX9_value_120 : decode cX9_value 120 = .ok (.getfield 7, 3) := by decide +kernel
theorem dX9_value_123 : decode cX9_value 123 = .ok (.invokestatic 125, 3) := by decide +kernel
theorem dX9_value_126 : decode cX9_value 126 = .ok (.i2l, 1) := by decide +kernel
theorem dX9_value_127 : decode cX9_value 127 = .ok (.goto 12, 3) := by decide +kernel
theorem dX9_value_130 : decode cX9_value 130 = .ok (.iconst 1, 1) := by decide +kernel
theorem dX9_value_131 : decode cX9_value 131 = .ok (.aload_n 0, 1) := by decide +kernel
theorem dX9_value_132 : decode cX9_value 132 = .ok (.getfield 7, 3) := by decide +kernel
theorem dX9_value_135 : decode cX9_value 135 = .ok (.iconst 1, 1) := by decide +kernel
theorem dX9_value_136 : decode cX9_value 136 = .ok (.isub, 1) := by decide +kernel
theorem dX9_value_137 : decode cX9_value 137 = .ok (.ishl, 1) := by decide +kernel
theorem dX9_value_138 : decode cX9_value 138 = .ok (.i2l, 1) := by decide +kernel
theorem dX9_value_139 : decode cX9_value 139 = .ok (.invokevirtual 128, 3) := by decide +kernel
theorem dX9_value_142 : decode cX9_value 142 = .ok (.ireturn, 1) := by decide +kernel
theorem dX9_fails_0 : decode cX9_fails 0 = .ok (.iload_n 1, 1) := by decide +kernel
theorem dX9_fails_1 : decode cX9_fails 1 = .ok (.i2l, 1) := by decide +kernel
theorem dX9_fails_2 : decode cX9_fails 2 = .ok (.lconst 0, 1) := by decide +kernel
theorem dX9_fails_3 : decode cX9_fails 3 = .ok (.lconst 1, 1) := by decide +kernel
theorem dX9_fails_4 : decode cX9_fails 4 = .ok (.invokestatic 92, 3) := by decide +kernel
theorem dX9_fails_7 : decode cX9_fails 7 = .ok (.ifCond .ne 6, 3) := by decide +kernel
theorem dX9_fails_10 : decode cX9_fails 10 = .ok (.bipush (-2), 2) := by decide +kernel
theorem dX9_fails_12 : decode cX9_fails 12 = .ok (.ireturn, 1) := by decide +kernel
theorem dX9_fails_13 : decode cX9_fails 13 = .ok (.iconst 1, 1) := by decide +kernel
theorem dX9_fails_14 : decode cX9_fails 14 = .ok (.istore_n 2, 1) := by decide +kernel
theorem dX9_fails_15 : decode cX9_fails 15 = .ok (.iload_n 2, 1) := by decide +kernel
theorem dX9_fails_16 : decode cX9_fails 16 = .ok (.aload_n 0, 1) := by decide +kernel
theorem dX9_fails_17 : decode cX9_fails 17 = .ok (.invokevirtual 88, 3) := by decide +kernel
theorem dX9_fails_20 : decode cX9_fails 20 = .ok (.if_icmp .gt 90, 3) := by decide +kernel
theorem dX9_fails_23 : decode cX9_fails 23 = .ok (.iload_n 2, 1) := by decide +kernel
theorem dX9_fails_24 : decode cX9_fails 24 = .ok (.iconst 1, 1) := by decide +kernel
theorem dX9_fails_25 : decode cX9_fails 25 = .ok (.iadd, 1) := by decide +kernel
theorem dX9_fails_26 : decode cX9_fails 26 = .ok (.istore_n 3, 1) := by decide +kernel
theorem dX9_fails_27 : decode cX9_fails 27 = .ok (.iload_n 3, 1) := by decide +kernel
theorem dX9_fails_28 : decode cX9_fails 28 = .ok (.aload_n 0, 1) := by decide +kernel
theorem dX9_fails_29 : decode cX9_fails 29 = .ok (.invokevirtual 88, 3) := by decide +kernel
theorem dX9_fails_32 : decode cX9_fails 32 = .ok (.if_icmp .gt 72, 3) := by decide +kernel
theorem dX9_fails_35 : decode cX9_fails 35 = .ok (.iload_n 1, 1) := by decide +kernel
theorem dX9_fails_36 : decode cX9_fails 36 = .ok (.iconst 1, 1) := by decide +kernel
theorem dX9_fails_37 : decode cX9_fails 37 = .ok (.if_icmp .eq 9, 3) := by decide +kernel
theorem dX9_fails_40 : decode cX9_fails 40 = .ok (.iload_n 2, 1) := by decide +kernel
theorem dX9_fails_41 : decode cX9_fails 41 = .ok (.iload_n 3, 1) := by decide +kernel
theorem dX9_fails_42 : decode cX9_fails 42 = .ok (.iand, 1) := by decide +kernel
theorem dX9_fails_43 : decode cX9_fails 43 = .ok (.ifCond .ne 7, 3) := by decide +kernel
theorem dX9_fails_46 : decode cX9_fails 46 = .ok (.iconst 1, 1) := by decide +kernel
theorem dX9_fails_47 : decode cX9_fails 47 = .ok (.goto 4, 3) := by decide +kernel
theorem dX9_fails_50 : decode cX9_fails 50 = .ok (.iconst 0, 1) := by decide +kernel
theorem dX9_fails_51 : decode cX9_fails 51 = .ok (.istore 4, 2) := by decide +kernel
theorem dX9_fails_53 : decode cX9_fails 53 = .ok (.iload 4, 2) := by decide +kernel
theorem dX9_fails_55 : decode cX9_fails 55 = .ok (.ifCond .eq 43, 3) := by decide +kernel
theorem dX9_fails_58 : decode cX9_fails 58 = .ok (.aload_n 0, 1) := by decide +kernel
theorem dX9_fails_59 : decode cX9_fails 59 = .ok (.getfield 13, 3) := by decide +kernel
theorem dX9_fails_62 : decode cX9_fails 62 = .ok (.iload_n 2, 1) := by decide +kernel
theorem dX9_fails_63 : decode cX9_fails 63 = .ok (.iaload, 1) := by decide +kernel
theorem dX9_fails_64 : decode cX9_fails 64 = .ok (.aload_n 0, 1) := by decide +kernel
theorem dX9_fails_65 : decode cX9_fails 65 = .ok (.getfield 13, 3) := by decide +kernel
theorem dX9_fails_68 : decode cX9_fails 68 = .ok (.iload_n 3, 1) := by decide +kernel
theorem dX9_fails_69 : decode cX9_fails 69 = .ok (.iaload, 1) := by decide +kernel
theorem dX9_fails_70 : decode cX9_fails 70 = .ok (.iadd, 1) := by decide +kernel
theorem dX9_fails_71 : decode cX9_fails 71 = .ok (.aload_n 0, 1) := by decide +kernel
theorem dX9_fails_72 : decode cX9_fails 72 = .ok (.getfield 13, 3) := by decide +kernel
theorem dX9_fails_75 : decode cX9_fails 75 = .ok (.iload_n 2, 1) := by decide +kernel
theorem dX9_fails_76 : decode cX9_fails 76 = .ok (.iload_n 3, 1) := by decide +kernel
theorem dX9_fails_77 : decode cX9_fails 77 = .ok (.ior, 1) := by decide +kernel
theorem dX9_fails_78 : decode cX9_fails 78 = .ok (.iaload, 1) := by decide +kernel
theorem dX9_fails_79 : decode cX9_fails 79 = .ok (.aload_n 0, 1) := by decide +kernel
theorem dX9_fails_80 : decode cX9_fails 80 = .ok (.getfield 13, 3) := by decide +kernel
theorem dX9_fails_83 : decode cX9_fails 83 = .ok (.iload_n 2, 1) := by decide +kernel
theorem dX9_fails_84 : decode cX9_fails 84 = .ok (.iload_n 3, 1) := by decide +kernel
theorem dX9_fails_85 : decode cX9_fails 85 = .ok (.iand, 1) := by decide +kernel
theorem dX9_fails_86 : decode cX9_fails 86 = .ok (.iaload, 1) := by decide +kernel
theorem dX9_fails_87 : decode cX9_fails 87 = .ok (.iadd, 1) := by decide +kernel
theorem dX9_fails_88 : decode cX9_fails 88 = .ok (.if_icmp .le 10, 3) := by decide +kernel
theorem dX9_fails_91 : decode cX9_fails 91 = .ok (.bipush 16, 2) := by decide +kernel
theorem dX9_fails_93 : decode cX9_fails 93 = .ok (.iload_n 2, 1) := by decide +kernel
theorem dX9_fails_94 : decode cX9_fails 94 = .ok (.imul, 1) := by decide +kernel
theorem dX9_fails_95 : decode cX9_fails 95 = .ok (.iload_n 3, 1) := by decide +kernel
theorem dX9_fails_96 : decode cX9_fails 96 = .ok (.iadd, 1) := by decide +kernel
theorem dX9_fails_97 : decode cX9_fails 97 = .ok (.ireturn, 1) := by decide +kernel
theorem dX9_fails_98 : decode cX9_fails 98 = .ok (.iinc 3 1, 3) := by decide +kernel
theorem dX9_fails_101 : decode cX9_fails 101 = .ok (.goto (-74), 3) := by decide +kernel
theorem dX9_fails_104 : decode cX9_fails 104 = .ok (.iinc 2 1, 3) := by decide +kernel
theorem dX9_fails_107 : decode cX9_fails 107 = .ok (.goto (-92), 3) := by decide +kernel
theorem dX9_fails_110 : decode cX9_fails 110 = .ok (.iconst (-1), 1) := by decide +kernel
theorem dX9_fails_111 : decode cX9_fails 111 = .ok (.ireturn, 1) := by decide +kernel
theorem dX9_parting_0 : decode cX9_parting 0 = .ok (.iload_n 1, 1) := by decide +kernel
theorem dX9_parting_1 : decode cX9_parting 1 = .ok (.iconst (-1), 1) := by decide +kernel
theorem dX9_parting_2 : decode cX9_parting 2 = .ok (.if_icmp .eq 14, 3) := by decide +kernel
theorem dX9_parting_5 : decode cX9_parting 5 = .ok (.aload_n 0, 1) := by decide +kernel
theorem dX9_parting_6 : decode cX9_parting 6 = .ok (.iload_n 1, 1) := by decide +kernel
theorem dX9_parting_7 : decode cX9_parting 7 = .ok (.invokevirtual 118, 3) := by decide +kernel
theorem dX9_parting_10 : decode cX9_parting 10 = .ok (.ifCond .ne 6, 3) := by decide +kernel
theorem dX9_parting_13 : decode cX9_parting 13 = .ok (.ldc 113, 2) := by decide +kernel
theorem dX9_parting_15 : decode cX9_parting 15 = .ok (.ireturn, 1) := by decide +kernel
theorem dX9_parting_16 : decode cX9_parting 16 = .ok (.iconst (-1), 1) := by decide +kernel
theorem dX9_parting_17 : decode cX9_parting 17 = .ok (.istore_n 2, 1) := by decide +kernel
theorem dX9_parting_18 : decode cX9_parting 18 = .ok (.iconst 0, 1) := by decide +kernel
theorem dX9_parting_19 : decode cX9_parting 19 = .ok (.istore_n 3, 1) := by decide +kernel
theorem dX9_parting_20 : decode cX9_parting 20 = .ok (.iconst 0, 1) := by decide +kernel
theorem dX9_parting_21 : decode cX9_parting 21 = .ok (.istore 4, 2) := by decide +kernel
theorem dX9_parting_23 : decode cX9_parting 23 = .ok (.iconst 0, 1) := by decide +kernel
theorem dX9_parting_24 : decode cX9_parting 24 = .ok (.istore 5, 2) := by decide +kernel
theorem dX9_parting_26 : decode cX9_parting 26 = .ok (.iload 5, 2) := by decide +kernel
theorem dX9_parting_28 : decode cX9_parting 28 = .ok (.iconst 1, 1) := by decide +kernel
theorem dX9_parting_29 : decode cX9_parting 29 = .ok (.iconst 2, 1) := by decide +kernel
theorem dX9_parting_30 : decode cX9_parting 30 = .ok (.aload_n 0, 1) := by decide +kernel
theorem dX9_parting_31 : decode cX9_parting 31 = .ok (.getfield 7, 3) := by decide +kernel
theorem dX9_parting_34 : decode cX9_parting 34 = .ok (.imul, 1) := by decide +kernel
theorem dX9_parting_35 : decode cX9_parting 35 = .ok (.ishl, 1) := by decide +kernel
theorem dX9_parting_36 : decode cX9_parting 36 = .ok (.if_icmp .ge 238, 3) := by decide +kernel
theorem dX9_parting_39 : decode cX9_parting 39 = .ok (.iconst 0, 1) := by decide +kernel
theorem dX9_parting_40 : decode cX9_parting 40 = .ok (.istore 6, 2) := by decide +kernel
theorem dX9_parting_42 : decode cX9_parting 42 = .ok (.iconst 0, 1) := by decide +kernel
theorem dX9_parting_43 : decode cX9_parting 43 = .ok (.istore 7, 2) := by decide +kernel
theorem dX9_parting_45 : decode cX9_parting 45 = .ok (.iconst 1, 1) := by decide +kernel
theorem dX9_parting_46 : decode cX9_parting 46 = .ok (.istore 8, 2) := by decide +kernel
theorem dX9_parting_48 : decode cX9_parting 48 = .ok (.iconst 0, 1) := by decide +kernel
theorem dX9_parting_49 : decode cX9_parting 49 = .ok (.istore 9, 2) := by decide +kernel
theorem dX9_parting_51 : decode cX9_parting 51 = .ok (.iload 9, 2) := by decide +kernel
theorem dX9_parting_53 : decode cX9_parting 53 = .ok (.aload_n 0, 1) := by decide +kernel
theorem dX9_parting_54 : decode cX9_parting 54 = .ok (.getfield 7, 3) := by decide +kernel
theorem dX9_parting_57 : decode cX9_parting 57 = .ok (.if_icmp .ge 67, 3) := by decide +kernel
theorem dX9_parting_60 : decode cX9_parting 60 = .ok (.iload 5, 2) := by decide +kernel
theorem dX9_parting_62 : decode cX9_parting 62 = .ok (.iconst 2, 1) := by decide +kernel
theorem dX9_parting_63 : decode cX9_parting 63 = .ok (.aload_n 0, 1) := by decide +kernel
theorem dX9_parting_64 : decode cX9_parting 64 = .ok (.getfield 7, 3) := by decide +kernel
theorem dX9_parting_67 : decode cX9_parting 67 = .ok (.iconst 1, 1) := by decide +kernel
theorem dX9_parting_68 : decode cX9_parting 68 = .ok (.isub, 1) := by decide +kernel
theorem dX9_parting_69 : decode cX9_parting 69 = .ok (.iload 9, 2) := by decide +kernel
theorem dX9_parting_71 : decode cX9_parting 71 = .ok (.isub, 1) := by decide +kernel
theorem dX9_parting_72 : decode cX9_parting 72 = .ok (.imul, 1) := by decide +kernel
theorem dX9_parting_73 : decode cX9_parting 73 = .ok (.ishr, 1) := by decide +kernel
theorem dX9_parting_74 : decode cX9_parting 74 = .ok (.iconst 3, 1) := by decide +kernel
theorem dX9_parting_75 : decode cX9_parting 75 = .ok (.iand, 1) := by decide +kernel
theorem dX9_parting_76 : decode cX9_parting 76 = .ok (.istore 10, 2) := by decide +kernel
theorem dX9_parting_78 : decode cX9_parting 78 = .ok (.iload 8, 2) := by decide +kernel
theorem dX9_parting_80 : decode cX9_parting 80 = .ok (.ifCond .eq 35, 3) := by decide +kernel
theorem dX9_parting_83 : decode cX9_parting 83 = .ok (.iload 10, 2) := by decide +kernel
theorem dX9_parting_85 : decode cX9_parting 85 = .ok (.iload 9, 2) := by decide +kernel
theorem dX9_parting_87 : decode cX9_parting 87 = .ok (.if_icmp .gt 28, 3) := by decide +kernel
theorem dX9_parting_90 : decode cX9_parting 90 = .ok (.iload 5, 2) := by decide +kernel
theorem dX9_parting_92 : decode cX9_parting 92 = .ok (.iconst 2, 1) := by decide +kernel
theorem dX9_parting_93 : decode cX9_parting 93 = .ok (.aload_n 0, 1) := by decide +kernel
theorem dX9_parting_94 : decode cX9_parting 94 = .ok (.getfield 7, 3) := by decide +kernel
theorem dX9_parting_97 : decode cX9_parting 97 = .ok (.iconst 1, 1) := by decide +kernel
theorem dX9_parting_98 : decode cX9_parting 98 = .ok (.isub, 1) := by decide +kernel
theorem dX9_parting_99 : decode cX9_parting 99 = .ok (.iload 10, 2) := by decide +kernel
theorem dX9_parting_101 : decode cX9_parting 101 = .ok (.isub, 1) := by decide +kernel
theorem dX9_parting_102 : decode cX9_parting 102 = .ok (.imul, 1) := by decide +kernel
theorem dX9_parting_103 : decode cX9_parting 103 = .ok (.ishr, 1) := by decide +kernel
theorem dX9_parting_104 : decode cX9_parting 104 = .ok (.iconst 3, 1) := by decide +kernel
theorem dX9_parting_105 : decode cX9_parting 105 = .ok (.iand, 1) := by decide +kernel
theorem dX9_parting_106 : decode cX9_parting 106 = .ok (.iload 10, 2) := by decide +kernel
theorem dX9_parting_108 : decode cX9_parting 108 = .ok (.if_icmp .ne 7, 3) := by decide +kernel
theorem dX9_parting_111 : decode cX9_parting 111 = .ok (.iconst 1, 1) := by decide +kernel
theorem dX9_parting_112 : decode cX9_parting 112 = .ok (.goto 4, 3) := by decide +kernel
theorem dX9_parting_115 : decode cX9_parting 115 = .ok (.iconst 0, 1) := by decide +kernel
theorem dX9_parting_116 : decode cX9_parting 116 = .ok (.istore 8, 2) := by decide +kernel
theorem dX9_parting_118 : decode cX9_parting 118 = .ok (.iinc 9 1, 3) := by decide +kernel
theorem dX9_parting_121 : decode cX9_parting 121 = .ok (.goto (-70), 3) := by decide +kernel
theorem dX9_parting_124 : decode cX9_parting 124 = .ok (.iconst 0, 1) := by decide +kernel
theorem dX9_parting_125 : decode cX9_parting 125 = .ok (.istore 9, 2) := by decide +kernel
theorem dX9_parting_127 : decode cX9_parting 127 = .ok (.iload 9, 2) := by decide +kernel
theorem dX9_parting_129 : decode cX9_parting 129 = .ok (.aload_n 0, 1) := by decide +kernel
theorem dX9_parting_130 : decode cX9_parting 130 = .ok (.getfield 7, 3) := by decide +kernel
theorem dX9_parting_133 : decode cX9_parting 133 = .ok (.if_icmp .ge 96, 3) := by decide +kernel
theorem dX9_parting_136 : decode cX9_parting 136 = .ok (.iload 8, 2) := by decide +kernel
theorem dX9_parting_138 : decode cX9_parting 138 = .ok (.ifCond .eq 91, 3) := by decide +kernel
theorem dX9_parting_141 : decode cX9_parting 141 = .ok (.iconst 0, 1) := by decide +kernel
theorem dX9_parting_142 : decode cX9_parting 142 = .ok (.istore 10, 2) := by decide +kernel
theorem dX9_parting_144 : decode cX9_parting 144 = .ok (.iconst 0, 1) := by decide +kernel
theorem dX9_parting_145 : decode cX9_parting 145 = .ok (.istore 11, 2) := by decide +kernel
theorem dX9_parting_147 : decode cX9_parting 147 = .ok (.iload 11, 2) := by decide +kernel
theorem dX9_parting_149 : decode cX9_parting 149 = .ok (.aload_n 0, 1) := by decide +kernel
theorem dX9_parting_150 : decode cX9_parting 150 = .ok (.getfield 7, 3) := by decide +kernel
theorem dX9_parting_153 : decode cX9_parting 153 = .ok (.if_icmp .ge 43, 3) := by decide +kernel
theorem dX9_parting_156 : decode cX9_parting 156 = .ok (.iload 10, 2) := by decide +kernel
theorem dX9_parting_158 : decode cX9_parting 158 = .ok (.iload 5, 2) := by decide +kernel
theorem dX9_parting_160 : decode cX9_parting 160 = .ok (.iconst 2, 1) := by decide +kernel
theorem dX9_parting_161 : decode cX9_parting 161 = .ok (.aload_n 0, 1) := by decide +kernel
theorem dX9_parting_162 : decode cX9_parting 162 = .ok (.getfield 7, 3) := by decide +kernel
theorem dX9_parting_165 : decode cX9_parting 165 = .ok (.iconst 1, 1) := by decide +kernel
theorem dX9_parting_166 : decode cX9_parting 166 = .ok (.isub, 1) := by decide +kernel
theorem dX9_parting_167 : decode cX9_parting 167 = .ok (.iload 11, 2) := by decide +kernel
theorem dX9_parting_169 : decode cX9_parting 169 = .ok (.isub, 1) := by decide +kernel
theorem dX9_parting_170 : decode cX9_parting 170 = .ok (.imul, 1) := by decide +kernel
theorem dX9_parting_171 : decode cX9_parting 171 = .ok (.ishr, 1) := by decide +kernel
theorem dX9_parting_172 : decode cX9_parting 172 = .ok (.iconst 3, 1) := by decide +kernel
theorem dX9_parting_173 : decode cX9_parting 173 = .ok (.iand, 1) := by decide +kernel
theorem dX9_parting_174 : decode cX9_parting 174 = .ok (.iload 9, 2) := by decide +kernel
theorem dX9_parting_176 : decode cX9_parting 176 = .ok (.if_icmp .ne 10, 3) := by decide +kernel
theorem dX9_parting_179 : decode cX9_parting 179 = .ok (.iconst 1, 1) := by decide +kernel
theorem dX9_parting_180 : decode cX9_parting 180 = .ok (.iload 11, 2) := by decide +kernel
theorem dX9_parting_182 : decode cX9_parting 182 = .ok (.ishl, 1) := by decide +kernel
theorem dX9_parting_183 : decode cX9_parting 183 = .ok (.goto 4, 3) := by decide +kernel
theorem dX9_parting_186 : decode cX9_parting 186 = .ok (.iconst 0, 1) := by decide +kernel
theorem dX9_parting_187 : decode cX9_parting 187 = .ok (.ior, 1) := by decide +kernel
theorem dX9_parting_188 : decode cX9_parting 188 = .ok (.istore 10, 2) := by decide +kernel
theorem dX9_parting_190 : decode cX9_parting 190 = .ok (.iinc 11 1, 3) := by decide +kernel
theorem dX9_parting_193 : decode cX9_parting 193 = .ok (.goto (-46), 3) := by decide +kernel
theorem dX9_parting_196 : decode cX9_parting 196 = .ok (.iload 6, 2) := by decide +kernel
theorem dX9_parting_198 : decode cX9_parting 198 = .ok (.aload_n 0, 1) := by decide +kernel
theorem dX9_parting_199 : decode cX9_parting 199 = .ok (.getfield 13, 3) := by decide +kernel
theorem dX9_parting_202 : decode cX9_parting 202 = .ok (.iload 10, 2) := by decide +kernel
theorem dX9_parting_204 : decode cX9_parting 204 = .ok (.iaload, 1) := by decide +kernel
theorem dX9_parting_205 : decode cX9_parting 205 = .ok (.iadd, 1) := by decide +kernel
theorem dX9_parting_206 : decode cX9_parting 206 = .ok (.istore 6, 2) := by decide +kernel
theorem dX9_parting_208 : decode cX9_parting 208 = .ok (.iload 7, 2) := by decide +kernel
theorem dX9_parting_210 : decode cX9_parting 210 = .ok (.iload 10, 2) := by decide +kernel
theorem dX9_parting_212 : decode cX9_parting 212 = .ok (.ifCond .eq 7, 3) := by decide +kernel
theorem dX9_parting_215 : decode cX9_parting 215 = .ok (.iconst 1, 1) := by decide +kernel
theorem dX9_parting_216 : decode cX9_parting 216 = .ok (.goto 4, 3) := by decide +kernel
theorem dX9_parting_219 : decode cX9_parting 219 = .ok (.iconst 0, 1) := by decide +kernel
theorem dX9_parting_220 : decode cX9_parting 220 = .ok (.iadd, 1) := by decide +kernel
theorem dX9_parting_221 : decode cX9_parting 221 = .ok (.istore 7, 2) := by decide +kernel
theorem dX9_parting_223 : decode cX9_parting 223 = .ok (.iinc 9 1, 3) := by decide +kernel
theorem dX9_parting_226 : decode cX9_parting 226 = .ok (.goto (-99), 3) := by decide +kernel
theorem dX9_parting_229 : decode cX9_parting 229 = .ok (.iload 8, 2) := by decide +kernel
theorem dX9_parting_231 : decode cX9_parting 231 = .ok (.ifCond .eq 37, 3) := by decide +kernel
theorem dX9_parting_234 : decode cX9_parting 234 = .ok (.iload_n 2, 1) := by decide +kernel
theorem dX9_parting_235 : decode cX9_parting 235 = .ok (.iconst (-1), 1) := by decide +kernel
theorem dX9_parting_236 : decode cX9_parting 236 = .ok (.if_icmp .eq 22, 3) := by decide +kernel
theorem dX9_parting_239 : decode cX9_parting 239 = .ok (.iload 6, 2) := by decide +kernel
theorem dX9_parting_241 : decode cX9_parting 241 = .ok (.iload_n 3, 1) := by decide +kernel
theorem dX9_parting_242 : decode cX9_parting 242 = .ok (.if_icmp .gt 16, 3) := by decide +kernel
theorem dX9_parting_245 : decode cX9_parting 245 = .ok (.iload 6, 2) := by decide +kernel
theorem dX9_parting_247 : decode cX9_parting 247 = .ok (.iload_n 3, 1) := by decide +kernel
theorem dX9_parting_248 : decode cX9_parting 248 = .ok (.if_icmp .ne 20, 3) := by decide +kernel
theorem dX9_parting_251 : decode cX9_parting 251 = .ok (.iload 7, 2) := by decide +kernel
theorem dX9_parting_253 : decode cX9_parting 253 = .ok (.iload 4, 2) := by decide +kernel
theorem dX9_parting_255 : decode cX9_parting 255 = .ok (.if_icmp .ge 13, 3) := by decide +kernel
theorem dX9_parting_258 : decode cX9_parting 258 = .ok (.iload 5, 2) := by decide +kernel
theorem dX9_parting_260 : decode cX9_parting 260 = .ok (.istore_n 2, 1) := by decide +kernel
theorem dX9_parting_261 : decode cX9_parting 261 = .ok (.iload 6, 2) := by decide +kernel
theorem dX9_parting_263 : decode cX9_parting 263 = .ok (.istore_n 3, 1) := by decide +kernel
theorem dX9_parting_264 : decode cX9_parting 264 = .ok (.iload 7, 2) := by decide +kernel
theorem dX9_parting_266 : decode cX9_parting 266 = .ok (.istore 4, 2) := by decide +kernel
theorem dX9_parting_268 : decode cX9_parting 268 = .ok (.iinc 5 1, 3) := by decide +kernel
theorem dX9_parting_271 : decode cX9_parting 271 = .ok (.goto (-245), 3) := by decide +kernel
theorem dX9_parting_274 : decode cX9_parting 274 = .ok (.iload_n 1, 1) := by decide +kernel
theorem dX9_parting_275 : decode cX9_parting 275 = .ok (.iconst (-1), 1) := by decide +kernel
theorem dX9_parting_276 : decode cX9_parting 276 = .ok (.if_icmp .ne 7, 3) := by decide +kernel
theorem dX9_parting_279 : decode cX9_parting 279 = .ok (.iload_n 3, 1) := by decide +kernel
theorem dX9_parting_280 : decode cX9_parting 280 = .ok (.goto 17, 3) := by decide +kernel
theorem dX9_parting_283 : decode cX9_parting 283 = .ok (.iload_n 2, 1) := by decide +kernel
theorem dX9_parting_284 : decode cX9_parting 284 = .ok (.iconst 2, 1) := by decide +kernel
theorem dX9_parting_285 : decode cX9_parting 285 = .ok (.aload_n 0, 1) := by decide +kernel
theorem dX9_parting_286 : decode cX9_parting 286 = .ok (.getfield 7, 3) := by decide +kernel
theorem dX9_parting_289 : decode cX9_parting 289 = .ok (.iconst 1, 1) := by decide +kernel
theorem dX9_parting_290 : decode cX9_parting 290 = .ok (.isub, 1) := by decide +kernel
theorem dX9_parting_291 : decode cX9_parting 291 = .ok (.iload_n 1, 1) := by decide +kernel
theorem dX9_parting_292 : decode cX9_parting 292 = .ok (.isub, 1) := by decide +kernel
theorem dX9_parting_293 : decode cX9_parting 293 = .ok (.imul, 1) := by decide +kernel
theorem dX9_parting_294 : decode cX9_parting 294 = .ok (.ishr, 1) := by decide +kernel
theorem dX9_parting_295 : decode cX9_parting 295 = .ok (.iconst 3, 1) := by decide +kernel
theorem dX9_parting_296 : decode cX9_parting 296 = .ok (.iand, 1) := by decide +kernel
theorem dX9_parting_297 : decode cX9_parting 297 = .ok (.ireturn, 1) := by decide +kernel
theorem dX9_part_0 : decode cX9_part 0 = .ok (.iload_n 1, 1) := by decide +kernel
theorem dX9_part_1 : decode cX9_part 1 = .ok (.ifCond .ne 10, 3) := by decide +kernel
theorem dX9_part_4 : decode cX9_part 4 = .ok (.aload_n 0, 1) := by decide +kernel
theorem dX9_part_5 : decode cX9_part 5 = .ok (.getfield 100, 3) := by decide +kernel
theorem dX9_part_8 : decode cX9_part 8 = .ok (.goto 18, 3) := by decide +kernel
theorem dX9_part_11 : decode cX9_part 11 = .ok (.iload_n 1, 1) := by decide +kernel
theorem dX9_part_12 : decode cX9_part 12 = .ok (.iconst 1, 1) := by decide +kernel
theorem dX9_part_13 : decode cX9_part 13 = .ok (.if_icmp .ne 10, 3) := by decide +kernel
theorem dX9_part_16 : decode cX9_part 16 = .ok (.aload_n 0, 1) := by decide +kernel
theorem dX9_part_17 : decode cX9_part 17 = .ok (.getfield 20, 3) := by decide +kernel
theorem dX9_part_20 : decode cX9_part 20 = .ok (.goto 6, 3) := by decide +kernel
theorem dX9_part_23 : decode cX9_part 23 = .ok (.ldc2_w 132, 3) := by decide +kernel
theorem dX9_part_26 : decode cX9_part 26 = .ok (.lreturn, 1) := by decide +kernel
theorem dX9_put_0 : decode cX9_put 0 = .ok (.lload_n 3, 1) := by decide +kernel
theorem dX9_put_1 : decode cX9_put 1 = .ok (.lload 5, 2) := by decide +kernel
theorem dX9_put_3 : decode cX9_put 3 = .ok (.invokestatic 96, 3) := by decide +kernel
theorem dX9_put_6 : decode cX9_put 6 = .ok (.lstore 7, 2) := by decide +kernel
theorem dX9_put_8 : decode cX9_put 8 = .ok (.aload_n 0, 1) := by decide +kernel
theorem dX9_put_9 : decode cX9_put 9 = .ok (.getfield 54, 3) := by decide +kernel
theorem dX9_put_12 : decode cX9_put 12 = .ok (.bipush 6, 2) := by decide +kernel
theorem dX9_put_14 : decode cX9_put 14 = .ok (.iload_n 1, 1) := by decide +kernel
theorem dX9_put_15 : decode cX9_put 15 = .ok (.imul, 1) := by decide +kernel
theorem dX9_put_16 : decode cX9_put 16 = .ok (.iload_n 2, 1) := by decide +kernel
theorem dX9_put_17 : decode cX9_put 17 = .ok (.iadd, 1) := by decide +kernel
theorem dX9_put_18 : decode cX9_put 18 = .ok (.lload 5, 2) := by decide +kernel
theorem dX9_put_20 : decode cX9_put 20 = .ok (.lconst 0, 1) := by decide +kernel
theorem dX9_put_21 : decode cX9_put 21 = .ok (.lcmp, 1) := by decide +kernel
theorem dX9_put_22 : decode cX9_put 22 = .ok (.ifCond .ge 11, 3) := by decide +kernel
theorem dX9_put_25 : decode cX9_put 25 = .ok (.lload_n 3, 1) := by decide +kernel
theorem dX9_put_26 : decode cX9_put 26 = .ok (.lneg, 1) := by decide +kernel
theorem dX9_put_27 : decode cX9_put 27 = .ok (.lload 7, 2) := by decide +kernel
theorem dX9_put_29 : decode cX9_put 29 = .ok (.ldiv, 1) := by decide +kernel
theorem dX9_put_30 : decode cX9_put 30 = .ok (.goto 7, 3) := by decide +kernel
theorem dX9_put_33 : decode cX9_put 33 = .ok (.lload_n 3, 1) := by decide +kernel
theorem dX9_put_34 : decode cX9_put 34 = .ok (.lload 7, 2) := by decide +kernel
theorem dX9_put_36 : decode cX9_put 36 = .ok (.ldiv, 1) := by decide +kernel
theorem dX9_put_37 : decode cX9_put 37 = .ok (.lastore, 1) := by decide +kernel
theorem dX9_put_38 : decode cX9_put 38 = .ok (.aload_n 0, 1) := by decide +kernel
theorem dX9_put_39 : decode cX9_put 39 = .ok (.getfield 58, 3) := by decide +kernel
theorem dX9_put_42 : decode cX9_put 42 = .ok (.bipush 6, 2) := by decide +kernel
theorem dX9_put_44 : decode cX9_put 44 = .ok (.iload_n 1, 1) := by decide +kernel
theorem dX9_put_45 : decode cX9_put 45 = .ok (.imul, 1) := by decide +kernel
theorem dX9_put_46 : decode cX9_put 46 = .ok (.iload_n 2, 1) := by decide +kernel
theorem dX9_put_47 : decode cX9_put 47 = .ok (.iadd, 1) := by decide +kernel
theorem dX9_put_48 : decode cX9_put 48 = .ok (.lload 5, 2) := by decide +kernel
theorem dX9_put_50 : decode cX9_put 50 = .ok (.lconst 0, 1) := by decide +kernel
theorem dX9_put_51 : decode cX9_put 51 = .ok (.lcmp, 1) := by decide +kernel
theorem dX9_put_52 : decode cX9_put 52 = .ok (.ifCond .ge 12, 3) := by decide +kernel
theorem dX9_put_55 : decode cX9_put 55 = .ok (.lload 5, 2) := by decide +kernel
theorem dX9_put_57 : decode cX9_put 57 = .ok (.lneg, 1) := by decide +kernel
theorem dX9_put_58 : decode cX9_put 58 = .ok (.lload 7, 2) := by decide +kernel
theorem dX9_put_60 : decode cX9_put 60 = .ok (.ldiv, 1) := by decide +kernel
theorem dX9_put_61 : decode cX9_put 61 = .ok (.goto 8, 3) := by decide +kernel
theorem dX9_put_64 : decode cX9_put 64 = .ok (.lload 5, 2) := by decide +kernel
theorem dX9_put_66 : decode cX9_put 66 = .ok (.lload 7, 2) := by decide +kernel
theorem dX9_put_68 : decode cX9_put 68 = .ok (.ldiv, 1) := by decide +kernel
theorem dX9_put_69 : decode cX9_put 69 = .ok (.lastore, 1) := by decide +kernel
theorem dX9_put_70 : decode cX9_put 70 = .ok (.return_, 1) := by decide +kernel
theorem dX9_solve_0 : decode cX9_solve 0 = .ok (.iconst 0, 1) := by decide +kernel
theorem dX9_solve_1 : decode cX9_solve 1 = .ok (.istore_n 2, 1) := by decide +kernel
theorem dX9_solve_2 : decode cX9_solve 2 = .ok (.iload_n 2, 1) := by decide +kernel
theorem dX9_solve_3 : decode cX9_solve 3 = .ok (.iload_n 1, 1) := by decide +kernel
theorem dX9_solve_4 : decode cX9_solve 4 = .ok (.if_icmp .ge 407, 3) := by decide +kernel
theorem dX9_solve_7 : decode cX9_solve 7 = .ok (.iload_n 2, 1) := by decide +kernel
theorem dX9_solve_8 : decode cX9_solve 8 = .ok (.istore_n 3, 1) := by decide +kernel
theorem dX9_solve_9 : decode cX9_solve 9 = .ok (.iload_n 3, 1) := by decide +kernel
theorem dX9_solve_10 : decode cX9_solve 10 = .ok (.iload_n 1, 1) := by decide +kernel
theorem dX9_solve_11 : decode cX9_solve 11 = .ok (.if_icmp .ge 25, 3) := by decide +kernel
theorem dX9_solve_14 : decode cX9_solve 14 = .ok (.aload_n 0, 1) := by decide +kernel
theorem dX9_solve_15 : decode cX9_solve 15 = .ok (.getfield 54, 3) := by decide +kernel
theorem dX9_solve_18 : decode cX9_solve 18 = .ok (.bipush 6, 2) := by decide +kernel
theorem dX9_solve_20 : decode cX9_solve 20 = .ok (.iload_n 3, 1) := by decide +kernel
theorem dX9_solve_21 : decode cX9_solve 21 = .ok (.imul, 1) := by decide +kernel
theorem dX9_solve_22 : decode cX9_solve 22 = .ok (.iload_n 2, 1) := by decide +kernel
theorem dX9_solve_23 : decode cX9_solve 23 = .ok (.iadd, 1) := by decide +kernel
theorem dX9_solve_24 : decode cX9_solve 24 = .ok (.laload, 1) := by decide +kernel
theorem dX9_solve_25 : decode cX9_solve 25 = .ok (.lconst 0, 1) := by decide +kernel
theorem dX9_solve_26 : decode cX9_solve 26 = .ok (.lcmp, 1) := by decide +kernel
theorem dX9_solve_27 : decode cX9_solve 27 = .ok (.ifCond .ne 9, 3) := by decide +kernel
theorem dX9_solve_30 : decode cX9_solve 30 = .ok (.iinc 3 1, 3) := by decide +kernel
theorem dX9_solve_33 : decode cX9_solve 33 = .ok (.goto (-24), 3) := by decide +kernel
theorem dX9_solve_36 : decode cX9_solve 36 = .ok (.iload_n 3, 1) := by decide +kernel
theorem dX9_solve_37 : decode cX9_solve 37 = .ok (.iload_n 1, 1) := by decide +kernel
theorem dX9_solve_38 : decode cX9_solve 38 = .ok (.if_icmp .ne 5, 3) := by decide +kernel
theorem dX9_solve_41 : decode cX9_solve 41 = .ok (.iconst 0, 1) := by decide +kernel
theorem dX9_solve_42 : decode cX9_solve 42 = .ok (.ireturn, 1) := by decide +kernel
theorem dX9_solve_43 : decode cX9_solve 43 = .ok (.iconst 0, 1) := by decide +kernel
theorem dX9_solve_44 : decode cX9_solve 44 = .ok (.istore 4, 2) := by decide +kernel
theorem dX9_solve_46 : decode cX9_solve 46 = .ok (.iload 4, 2) := by decide +kernel
theorem dX9_solve_48 : decode cX9_solve 48 = .ok (.bipush 6, 2) := by decide +kernel
theorem dX9_solve_50 : decode cX9_solve 50 = .ok (.if_icmp .ge 113, 3) := by decide +kernel
theorem dX9_solve_53 : decode cX9_solve 53 = .ok (.aload_n 0, 1) := by decide +kernel
theorem dX9_solve_54 : decode cX9_solve 54 = .ok (.getfield 54, 3) := by decide +kernel
theorem dX9_solve_57 : decode cX9_solve 57 = .ok (.bipush 6, 2) := by decide +kernel
theorem dX9_solve_59 : decode cX9_solve 59 = .ok (.iload_n 3, 1) := by decide +kernel
theorem dX9_solve_60 : decode cX9_solve 60 = .ok (.imul, 1) := by decide +kernel
theorem dX9_solve_61 : decode cX9_solve 61 = .ok (.iload 4, 2) := by decide +kernel
theorem dX9_solve_63 : decode cX9_solve 63 = .ok (.iadd, 1) := by decide +kernel
theorem dX9_solve_64 : decode cX9_solve 64 = .ok (.laload, 1) := by decide +kernel
theorem dX9_solve_65 : decode cX9_solve 65 = .ok (.lstore 5, 2) := by decide +kernel
theorem dX9_solve_67 : decode cX9_solve 67 = .ok (.aload_n 0, 1) := by decide +kernel
theorem dX9_solve_68 : decode cX9_solve 68 = .ok (.getfield 58, 3) := by decide +kernel
theorem dX9_solve_71 : decode cX9_solve 71 = .ok (.bipush 6, 2) := by decide +kernel
theorem dX9_solve_73 : decode cX9_solve 73 = .ok (.iload_n 3, 1) := by decide +kernel
theorem dX9_solve_74 : decode cX9_solve 74 = .ok (.imul, 1) := by decide +kernel
theorem dX9_solve_75 : decode cX9_solve 75 = .ok (.iload 4, 2) := by decide +kernel
theorem dX9_solve_77 : decode cX9_solve 77 = .ok (.iadd, 1) := by decide +kernel
theorem dX9_solve_78 : decode cX9_solve 78 = .ok (.laload, 1) := by decide +kernel
theorem dX9_solve_79 : decode cX9_solve 79 = .ok (.lstore 7, 2) := by decide +kernel
theorem dX9_solve_81 : decode cX9_solve 81 = .ok (.aload_n 0, 1) := by decide +kernel
theorem dX9_solve_82 : decode cX9_solve 82 = .ok (.getfield 54, 3) := by decide +kernel
theorem dX9_solve_85 : decode cX9_solve 85 = .ok (.bipush 6, 2) := by decide +kernel
theorem dX9_solve_87 : decode cX9_solve 87 = .ok (.iload_n 3, 1) := by decide +kernel
theorem dX9_solve_88 : decode cX9_solve 88 = .ok (.imul, 1) := by decide +kernel
theorem dX9_solve_89 : decode cX9_solve 89 = .ok (.iload 4, 2) := by decide +kernel
theorem dX9_solve_91 : decode cX9_solve 91 = .ok (.iadd, 1) := by decide +kernel
theorem dX9_solve_92 : decode cX9_solve 92 = .ok (.aload_n 0, 1) := by decide +kernel
theorem dX9_solve_93 : decode cX9_solve 93 = .ok (.getfield 54, 3) := by decide +kernel
theorem dX9_solve_96 : decode cX9_solve 96 = .ok (.bipush 6, 2) := by decide +kernel
theorem dX9_solve_98 : decode cX9_solve 98 = .ok (.iload_n 2, 1) := by decide +kernel
theorem dX9_solve_99 : decode cX9_solve 99 = .ok (.imul, 1) := by decide +kernel
theorem dX9_solve_100 : decode cX9_solve 100 = .ok (.iload 4, 2) := by decide +kernel
theorem dX9_solve_102 : decode cX9_solve 102 = .ok (.iadd, 1) := by decide +kernel
theorem dX9_solve_103 : decode cX9_solve 103 = .ok (.laload, 1) := by decide +kernel
theorem dX9_solve_104 : decode cX9_solve 104 = .ok (.lastore, 1) := by decide +kernel
theorem dX9_solve_105 : decode cX9_solve 105 = .ok (.aload_n 0, 1) := by decide +kernel
theorem dX9_solve_106 : decode cX9_solve 106 = .ok (.getfield 58, 3) := by decide +kernel
theorem dX9_solve_109 : decode cX9_solve 109 = .ok (.bipush 6, 2) := by decide +kernel
theorem dX9_solve_111 : decode cX9_solve 111 = .ok (.iload_n 3, 1) := by decide +kernel
theorem dX9_solve_112 : decode cX9_solve 112 = .ok (.imul, 1) := by decide +kernel
theorem dX9_solve_113 : decode cX9_solve 113 = .ok (.iload 4, 2) := by decide +kernel
theorem dX9_solve_115 : decode cX9_solve 115 = .ok (.iadd, 1) := by decide +kernel
theorem dX9_solve_116 : decode cX9_solve 116 = .ok (.aload_n 0, 1) := by decide +kernel
theorem dX9_solve_117 : decode cX9_solve 117 = .ok (.getfield 58, 3) := by decide +kernel
theorem dX9_solve_120 : decode cX9_solve 120 = .ok (.bipush 6, 2) := by decide +kernel
theorem dX9_solve_122 : decode cX9_solve 122 = .ok (.iload_n 2, 1) := by decide +kernel
theorem dX9_solve_123 : decode cX9_solve 123 = .ok (.imul, 1) := by decide +kernel
theorem dX9_solve_124 : decode cX9_solve 124 = .ok (.iload 4, 2) := by decide +kernel
theorem dX9_solve_126 : decode cX9_solve 126 = .ok (.iadd, 1) := by decide +kernel
theorem dX9_solve_127 : decode cX9_solve 127 = .ok (.laload, 1) := by decide +kernel
theorem dX9_solve_128 : decode cX9_solve 128 = .ok (.lastore, 1) := by decide +kernel
theorem dX9_solve_129 : decode cX9_solve 129 = .ok (.aload_n 0, 1) := by decide +kernel
theorem dX9_solve_130 : decode cX9_solve 130 = .ok (.getfield 54, 3) := by decide +kernel
theorem dX9_solve_133 : decode cX9_solve 133 = .ok (.bipush 6, 2) := by decide +kernel
theorem dX9_solve_135 : decode cX9_solve 135 = .ok (.iload_n 2, 1) := by decide +kernel
theorem dX9_solve_136 : decode cX9_solve 136 = .ok (.imul, 1) := by decide +kernel
theorem dX9_solve_137 : decode cX9_solve 137 = .ok (.iload 4, 2) := by decide +kernel
theorem dX9_solve_139 : decode cX9_solve 139 = .ok (.iadd, 1) := by decide +kernel
theorem dX9_solve_140 : decode cX9_solve 140 = .ok (.lload 5, 2) := by decide +kernel
theorem dX9_solve_142 : decode cX9_solve 142 = .ok (.lastore, 1) := by decide +kernel
theorem dX9_solve_143 : decode cX9_solve 143 = .ok (.aload_n 0, 1) := by decide +kernel
theorem dX9_solve_144 : decode cX9_solve 144 = .ok (.getfield 58, 3) := by decide +kernel
theorem dX9_solve_147 : decode cX9_solve 147 = .ok (.bipush 6, 2) := by decide +kernel
theorem dX9_solve_149 : decode cX9_solve 149 = .ok (.iload_n 2, 1) := by decide +kernel
theorem dX9_solve_150 : decode cX9_solve 150 = .ok (.imul, 1) := by decide +kernel
theorem dX9_solve_151 : decode cX9_solve 151 = .ok (.iload 4, 2) := by decide +kernel
theorem dX9_solve_153 : decode cX9_solve 153 = .ok (.iadd, 1) := by decide +kernel
theorem dX9_solve_154 : decode cX9_solve 154 = .ok (.lload 7, 2) := by decide +kernel
theorem dX9_solve_156 : decode cX9_solve 156 = .ok (.lastore, 1) := by decide +kernel
theorem dX9_solve_157 : decode cX9_solve 157 = .ok (.iinc 4 1, 3) := by decide +kernel
theorem dX9_solve_160 : decode cX9_solve 160 = .ok (.goto (-114), 3) := by decide +kernel
theorem dX9_solve_163 : decode cX9_solve 163 = .ok (.aload_n 0, 1) := by decide +kernel
theorem dX9_solve_164 : decode cX9_solve 164 = .ok (.getfield 54, 3) := by decide +kernel
theorem dX9_solve_167 : decode cX9_solve 167 = .ok (.bipush 6, 2) := by decide +kernel
theorem dX9_solve_169 : decode cX9_solve 169 = .ok (.iload_n 2, 1) := by decide +kernel
theorem dX9_solve_170 : decode cX9_solve 170 = .ok (.imul, 1) := by decide +kernel
theorem dX9_solve_171 : decode cX9_solve 171 = .ok (.iload_n 2, 1) := by decide +kernel
theorem dX9_solve_172 : decode cX9_solve 172 = .ok (.iadd, 1) := by decide +kernel
theorem dX9_solve_173 : decode cX9_solve 173 = .ok (.laload, 1) := by decide +kernel
theorem dX9_solve_174 : decode cX9_solve 174 = .ok (.lstore 4, 2) := by decide +kernel
theorem dX9_solve_176 : decode cX9_solve 176 = .ok (.aload_n 0, 1) := by decide +kernel
theorem dX9_solve_177 : decode cX9_solve 177 = .ok (.getfield 58, 3) := by decide +kernel
theorem dX9_solve_180 : decode cX9_solve 180 = .ok (.bipush 6, 2) := by decide +kernel
theorem dX9_solve_182 : decode cX9_solve 182 = .ok (.iload_n 2, 1) := by decide +kernel
theorem dX9_solve_183 : decode cX9_solve 183 = .ok (.imul, 1) := by decide +kernel
theorem dX9_solve_184 : decode cX9_solve 184 = .ok (.iload_n 2, 1) := by decide +kernel
theorem dX9_solve_185 : decode cX9_solve 185 = .ok (.iadd, 1) := by decide +kernel
theorem dX9_solve_186 : decode cX9_solve 186 = .ok (.laload, 1) := by decide +kernel
theorem dX9_solve_187 : decode cX9_solve 187 = .ok (.lstore 6, 2) := by decide +kernel
theorem dX9_solve_189 : decode cX9_solve 189 = .ok (.iload_n 2, 1) := by decide +kernel
theorem dX9_solve_190 : decode cX9_solve 190 = .ok (.istore 8, 2) := by decide +kernel
theorem dX9_solve_192 : decode cX9_solve 192 = .ok (.iload 8, 2) := by decide +kernel
theorem dX9_solve_194 : decode cX9_solve 194 = .ok (.bipush 6, 2) := by decide +kernel
theorem dX9_solve_196 : decode cX9_solve 196 = .ok (.if_icmp .ge 46, 3) := by decide +kernel
theorem dX9_solve_199 : decode cX9_solve 199 = .ok (.aload_n 0, 1) := by decide +kernel
theorem dX9_solve_200 : decode cX9_solve 200 = .ok (.iload_n 2, 1) := by decide +kernel
theorem dX9_solve_201 : decode cX9_solve 201 = .ok (.iload 8, 2) := by decide +kernel
theorem dX9_solve_203 : decode cX9_solve 203 = .ok (.aload_n 0, 1) := by decide +kernel
theorem dX9_solve_204 : decode cX9_solve 204 = .ok (.getfield 54, 3) := by decide +kernel
theorem dX9_solve_207 : decode cX9_solve 207 = .ok (.bipush 6, 2) := by decide +kernel
theorem dX9_solve_209 : decode cX9_solve 209 = .ok (.iload_n 2, 1) := by decide +kernel
theorem dX9_solve_210 : decode cX9_solve 210 = .ok (.imul, 1) := by decide +kernel
theorem dX9_solve_211 : decode cX9_solve 211 = .ok (.iload 8, 2) := by decide +kernel
theorem dX9_solve_213 : decode cX9_solve 213 = .ok (.iadd, 1) := by decide +kernel
theorem dX9_solve_214 : decode cX9_solve 214 = .ok (.laload, 1) := by decide +kernel
theorem dX9_solve_215 : decode cX9_solve 215 = .ok (.lload 6, 2) := by decide +kernel
theorem dX9_solve_217 : decode cX9_solve 217 = .ok (.lmul, 1) := by decide +kernel
theorem dX9_solve_218 : decode cX9_solve 218 = .ok (.aload_n 0, 1) := by decide +kernel
theorem dX9_solve_219 : decode cX9_solve 219 = .ok (.getfield 58, 3) := by decide +kernel
theorem dX9_solve_222 : decode cX9_solve 222 = .ok (.bipush 6, 2) := by decide +kernel
theorem dX9_solve_224 : decode cX9_solve 224 = .ok (.iload_n 2, 1) := by decide +kernel
theorem dX9_solve_225 : decode cX9_solve 225 = .ok (.imul, 1) := by decide +kernel
theorem dX9_solve_226 : decode cX9_solve 226 = .ok (.iload 8, 2) := by decide +kernel
theorem dX9_solve_228 : decode cX9_solve 228 = .ok (.iadd, 1) := by decide +kernel
theorem dX9_solve_229 : decode cX9_solve 229 = .ok (.laload, 1) := by decide +kernel
theorem dX9_solve_230 : decode cX9_solve 230 = .ok (.lload 4, 2) := by decide +kernel
theorem dX9_solve_232 : decode cX9_solve 232 = .ok (.lmul, 1) := by decide +kernel
theorem dX9_solve_233 : decode cX9_solve 233 = .ok (.invokevirtual 134, 3) := by decide +kernel
theorem dX9_solve_236 : decode cX9_solve 236 = .ok (.iinc 8 1, 3) := by decide +kernel
theorem dX9_solve_239 : decode cX9_solve 239 = .ok (.goto (-47), 3) := by decide +kernel
theorem dX9_solve_242 : decode cX9_solve 242 = .ok (.iconst 0, 1) := by decide +kernel
theorem dX9_solve_243 : decode cX9_solve 243 = .ok (.istore 8, 2) := by decide +kernel
theorem dX9_solve_245 : decode cX9_solve 245 = .ok (.iload 8, 2) := by decide +kernel
theorem dX9_solve_247 : decode cX9_solve 247 = .ok (.iload_n 1, 1) := by decide +kernel
theorem dX9_solve_248 : decode cX9_solve 248 = .ok (.if_icmp .ge 157, 3) := by decide +kernel
theorem dX9_solve_251 : decode cX9_solve 251 = .ok (.aload_n 0, 1) := by decide +kernel
theorem dX9_solve_252 : decode cX9_solve 252 = .ok (.getfield 54, 3) := by decide +kernel
theorem dX9_solve_255 : decode cX9_solve 255 = .ok (.bipush 6, 2) := by decide +kernel
theorem dX9_solve_257 : decode cX9_solve 257 = .ok (.iload 8, 2) := by decide +kernel
theorem dX9_solve_259 : decode cX9_solve 259 = .ok (.imul, 1) := by decide +kernel
theorem dX9_solve_260 : decode cX9_solve 260 = .ok (.iload_n 2, 1) := by decide +kernel
theorem dX9_solve_261 : decode cX9_solve 261 = .ok (.iadd, 1) := by decide +kernel
theorem dX9_solve_262 : decode cX9_solve 262 = .ok (.laload, 1) := by decide +kernel
theorem dX9_solve_263 : decode cX9_solve 263 = .ok (.lstore 9, 2) := by decide +kernel
theorem dX9_solve_265 : decode cX9_solve 265 = .ok (.aload_n 0, 1) := by decide +kernel
theorem dX9_solve_266 : decode cX9_solve 266 = .ok (.getfield 58, 3) := by decide +kernel
theorem dX9_solve_269 : decode cX9_solve 269 = .ok (.bipush 6, 2) := by decide +kernel
theorem dX9_solve_271 : decode cX9_solve 271 = .ok (.iload 8, 2) := by decide +kernel
theorem dX9_solve_273 : decode cX9_solve 273 = .ok (.imul, 1) := by decide +kernel
theorem dX9_solve_274 : decode cX9_solve 274 = .ok (.iload_n 2, 1) := by decide +kernel
theorem dX9_solve_275 : decode cX9_solve 275 = .ok (.iadd, 1) := by decide +kernel
theorem dX9_solve_276 : decode cX9_solve 276 = .ok (.laload, 1) := by decide +kernel
theorem dX9_solve_277 : decode cX9_solve 277 = .ok (.lstore 11, 2) := by decide +kernel
theorem dX9_solve_279 : decode cX9_solve 279 = .ok (.iload_n 2, 1) := by decide +kernel
theorem dX9_solve_280 : decode cX9_solve 280 = .ok (.istore 13, 2) := by decide +kernel
theorem dX9_solve_282 : decode cX9_solve 282 = .ok (.iload 13, 2) := by decide +kernel
theorem dX9_solve_284 : decode cX9_solve 284 = .ok (.bipush 6, 2) := by decide +kernel
theorem dX9_solve_286 : decode cX9_solve 286 = .ok (.if_icmp .ge 113, 3) := by decide +kernel
theorem dX9_solve_289 : decode cX9_solve 289 = .ok (.iload 8, 2) := by decide +kernel
theorem dX9_solve_291 : decode cX9_solve 291 = .ok (.iload_n 2, 1) := by decide +kernel
theorem dX9_solve_292 : decode cX9_solve 292 = .ok (.if_icmp .eq 107, 3) := by decide +kernel
theorem dX9_solve_295 : decode cX9_solve 295 = .ok (.lload 9, 2) := by decide +kernel
theorem dX9_solve_297 : decode cX9_solve 297 = .ok (.lconst 0, 1) := by decide +kernel
theorem dX9_solve_298 : decode cX9_solve 298 = .ok (.lcmp, 1) := by decide +kernel
theorem dX9_solve_299 : decode cX9_solve 299 = .ok (.ifCond .eq 100, 3) := by decide +kernel
theorem dX9_solve_302 : decode cX9_solve 302 = .ok (.aload_n 0, 1) := by decide +kernel
theorem dX9_solve_303 : decode cX9_solve 303 = .ok (.getfield 54, 3) := by decide +kernel
theorem dX9_solve_306 : decode cX9_solve 306 = .ok (.bipush 6, 2) := by decide +kernel
theorem dX9_solve_308 : decode cX9_solve 308 = .ok (.iload_n 2, 1) := by decide +kernel
theorem dX9_solve_309 : decode cX9_solve 309 = .ok (.imul, 1) := by decide +kernel
theorem dX9_solve_310 : decode cX9_solve 310 = .ok (.iload 13, 2) := by decide +kernel
theorem dX9_solve_312 : decode cX9_solve 312 = .ok (.iadd, 1) := by decide +kernel
theorem dX9_solve_313 : decode cX9_solve 313 = .ok (.laload, 1) := by decide +kernel
theorem dX9_solve_314 : decode cX9_solve 314 = .ok (.lload 9, 2) := by decide +kernel
theorem dX9_solve_316 : decode cX9_solve 316 = .ok (.lmul, 1) := by decide +kernel
theorem dX9_solve_317 : decode cX9_solve 317 = .ok (.lstore 14, 2) := by decide +kernel
theorem dX9_solve_319 : decode cX9_solve 319 = .ok (.aload_n 0, 1) := by decide +kernel
theorem dX9_solve_320 : decode cX9_solve 320 = .ok (.getfield 58, 3) := by decide +kernel
theorem dX9_solve_323 : decode cX9_solve 323 = .ok (.bipush 6, 2) := by decide +kernel
theorem dX9_solve_325 : decode cX9_solve 325 = .ok (.iload_n 2, 1) := by decide +kernel
theorem dX9_solve_326 : decode cX9_solve 326 = .ok (.imul, 1) := by decide +kernel
theorem dX9_solve_327 : decode cX9_solve 327 = .ok (.iload 13, 2) := by decide +kernel
theorem dX9_solve_329 : decode cX9_solve 329 = .ok (.iadd, 1) := by decide +kernel
theorem dX9_solve_330 : decode cX9_solve 330 = .ok (.laload, 1) := by decide +kernel
theorem dX9_solve_331 : decode cX9_solve 331 = .ok (.lload 11, 2) := by decide +kernel
theorem dX9_solve_333 : decode cX9_solve 333 = .ok (.lmul, 1) := by decide +kernel
theorem dX9_solve_334 : decode cX9_solve 334 = .ok (.lstore 16, 2) := by decide +kernel
theorem dX9_solve_336 : decode cX9_solve 336 = .ok (.aload_n 0, 1) := by decide +kernel
theorem dX9_solve_337 : decode cX9_solve 337 = .ok (.iload 8, 2) := by decide +kernel
theorem dX9_solve_339 : decode cX9_solve 339 = .ok (.iload 13, 2) := by decide +kernel
theorem dX9_solve_341 : decode cX9_solve 341 = .ok (.aload_n 0, 1) := by decide +kernel
theorem dX9_solve_342 : decode cX9_solve 342 = .ok (.getfield 54, 3) := by decide +kernel
theorem dX9_solve_345 : decode cX9_solve 345 = .ok (.bipush 6, 2) := by decide +kernel
theorem dX9_solve_347 : decode cX9_solve 347 = .ok (.iload 8, 2) := by decide +kernel
theorem dX9_solve_349 : decode cX9_solve 349 = .ok (.imul, 1) := by decide +kernel
theorem dX9_solve_350 : decode cX9_solve 350 = .ok (.iload 13, 2) := by decide +kernel
theorem dX9_solve_352 : decode cX9_solve 352 = .ok (.iadd, 1) := by decide +kernel
theorem dX9_solve_353 : decode cX9_solve 353 = .ok (.laload, 1) := by decide +kernel
theorem dX9_solve_354 : decode cX9_solve 354 = .ok (.lload 16, 2) := by decide +kernel
theorem dX9_solve_356 : decode cX9_solve 356 = .ok (.lmul, 1) := by decide +kernel
theorem dX9_solve_357 : decode cX9_solve 357 = .ok (.lload 14, 2) := by decide +kernel
theorem dX9_solve_359 : decode cX9_solve 359 = .ok (.aload_n 0, 1) := by decide +kernel
theorem dX9_solve_360 : decode cX9_solve 360 = .ok (.getfield 58, 3) := by decide +kernel
theorem dX9_solve_363 : decode cX9_solve 363 = .ok (.bipush 6, 2) := by decide +kernel
theorem dX9_solve_365 : decode cX9_solve 365 = .ok (.iload 8, 2) := by decide +kernel
theorem dX9_solve_367 : decode cX9_solve 367 = .ok (.imul, 1) := by decide +kernel
theorem dX9_solve_368 : decode cX9_solve 368 = .ok (.iload 13, 2) := by decide +kernel
theorem dX9_solve_370 : decode cX9_solve 370 = .ok (.iadd, 1) := by decide +kernel
theorem dX9_solve_371 : decode cX9_solve 371 = .ok (.laload, 1) := by decide +kernel
theorem dX9_solve_372 : decode cX9_solve 372 = .ok (.lmul, 1) := by decide +kernel
theorem dX9_solve_373 : decode cX9_solve 373 = .ok (.lsub, 1) := by decide +kernel
theorem dX9_solve_374 : decode cX9_solve 374 = .ok (.aload_n 0, 1) := by decide +kernel
theorem dX9_solve_375 : decode cX9_solve 375 = .ok (.getfield 58, 3) := by decide +kernel
theorem dX9_solve_378 : decode cX9_solve 378 = .ok (.bipush 6, 2) := by decide +kernel
theorem dX9_solve_380 : decode cX9_solve 380 = .ok (.iload 8, 2) := by decide +kernel
theorem dX9_solve_382 : decode cX9_solve 382 = .ok (.imul, 1) := by decide +kernel
theorem dX9_solve_383 : decode cX9_solve 383 = .ok (.iload 13, 2) := by decide +kernel
theorem dX9_solve_385 : decode cX9_solve 385 = .ok (.iadd, 1) := by decide +kernel
theorem dX9_solve_386 : decode cX9_solve 386 = .ok (.laload, 1) := by decide +kernel
theorem dX9_solve_387 : decode cX9_solve 387 = .ok (.lload 16, 2) := by decide +kernel
theorem dX9_solve_389 : decode cX9_solve 389 = .ok (.lmul, 1) := by decide +kernel
theorem dX9_solve_390 : decode cX9_solve 390 = .ok (.invokevirtual 134, 3) := by decide +kernel
theorem dX9_solve_393 : decode cX9_solve 393 = .ok (.iinc 13 1, 3) := by decide +kernel
theorem dX9_solve_396 : decode cX9_solve 396 = .ok (.goto (-114), 3) := by decide +kernel
theorem dX9_solve_399 : decode cX9_solve 399 = .ok (.iinc 8 1, 3) := by decide +kernel
theorem dX9_solve_402 : decode cX9_solve 402 = .ok (.goto (-157), 3) := by decide +kernel
theorem dX9_solve_405 : decode cX9_solve 405 = .ok (.iinc 2 1, 3) := by decide +kernel
theorem dX9_solve_408 : decode cX9_solve 408 = .ok (.goto (-406), 3) := by decide +kernel
theorem dX9_solve_411 : decode cX9_solve 411 = .ok (.iconst 1, 1) := by decide +kernel
theorem dX9_solve_412 : decode cX9_solve 412 = .ok (.ireturn, 1) := by decide +kernel
theorem dX9_noRows_0 : decode cX9_noRows 0 = .ok (.iconst 0, 1) := by decide +kernel
theorem dX9_noRows_1 : decode cX9_noRows 1 = .ok (.istore_n 1, 1) := by decide +kernel
theorem dX9_noRows_2 : decode cX9_noRows 2 = .ok (.iload_n 1, 1) := by decide +kernel
theorem dX9_noRows_3 : decode cX9_noRows 3 = .ok (.bipush 30, 2) := by decide +kernel
theorem dX9_noRows_5 : decode cX9_noRows 5 = .ok (.if_icmp .ge 23, 3) := by decide +kernel
theorem dX9_noRows_8 : decode cX9_noRows 8 = .ok (.aload_n 0, 1) := by decide +kernel
theorem dX9_noRows_9 : decode cX9_noRows 9 = .ok (.getfield 54, 3) := by decide +kernel
theorem dX9_noRows_12 : decode cX9_noRows 12 = .ok (.iload_n 1, 1) := by decide +kernel
theorem dX9_noRows_13 : decode cX9_noRows 13 = .ok (.lconst 0, 1) := by decide +kernel
theorem dX9_noRows_14 : decode cX9_noRows 14 = .ok (.lastore, 1) := by decide +kernel
theorem dX9_noRows_15 : decode cX9_noRows 15 = .ok (.aload_n 0, 1) := by decide +kernel
theorem dX9_noRows_16 : decode cX9_noRows 16 = .ok (.getfield 58, 3) := by decide +kernel
theorem dX9_noRows_19 : decode cX9_noRows 19 = .ok (.iload_n 1, 1) := by decide +kernel
theorem dX9_noRows_20 : decode cX9_noRows 20 = .ok (.lconst 1, 1) := by decide +kernel
theorem dX9_noRows_21 : decode cX9_noRows 21 = .ok (.lastore, 1) := by decide +kernel
theorem dX9_noRows_22 : decode cX9_noRows 22 = .ok (.iinc 1 1, 3) := by decide +kernel
theorem dX9_noRows_25 : decode cX9_noRows 25 = .ok (.goto (-23), 3) := by decide +kernel
theorem dX9_noRows_28 : decode cX9_noRows 28 = .ok (.return_, 1) := by decide +kernel
theorem dX9_fix_0 : decode cX9_fix 0 = .ok (.aload_n 0, 1) := by decide +kernel
theorem dX9_fix_1 : decode cX9_fix 1 = .ok (.getfield 61, 3) := by decide +kernel
theorem dX9_fix_4 : decode cX9_fix 4 = .ok (.aload_n 0, 1) := by decide +kernel
theorem dX9_fix_5 : decode cX9_fix 5 = .ok (.getfield 138, 3) := by decide +kernel
theorem dX9_fix_8 : decode cX9_fix 8 = .ok (.iload_n 1, 1) := by decide +kernel
theorem dX9_fix_9 : decode cX9_fix 9 = .ok (.iastore, 1) := by decide +kernel
theorem dX9_fix_10 : decode cX9_fix 10 = .ok (.aload_n 0, 1) := by decide +kernel
theorem dX9_fix_11 : decode cX9_fix 11 = .ok (.getfield 64, 3) := by decide +kernel
theorem dX9_fix_14 : decode cX9_fix 14 = .ok (.aload_n 0, 1) := by decide +kernel
theorem dX9_fix_15 : decode cX9_fix 15 = .ok (.getfield 138, 3) := by decide +kernel
theorem dX9_fix_18 : decode cX9_fix 18 = .ok (.lload_n 2, 1) := by decide +kernel
theorem dX9_fix_19 : decode cX9_fix 19 = .ok (.lastore, 1) := by decide +kernel
theorem dX9_fix_20 : decode cX9_fix 20 = .ok (.aload_n 0, 1) := by decide +kernel
theorem dX9_fix_21 : decode cX9_fix 21 = .ok (.getfield 67, 3) := by decide +kernel
theorem dX9_fix_24 : decode cX9_fix 24 = .ok (.aload_n 0, 1) := by decide +kernel
theorem dX9_fix_25 : decode cX9_fix 25 = .ok (.getfield 138, 3) := by decide +kernel
theorem dX9_fix_28 : decode cX9_fix 28 = .ok (.lload 4, 2) := by decide +kernel
theorem dX9_fix_30 : decode cX9_fix 30 = .ok (.lastore, 1) := by decide +kernel
theorem dX9_fix_31 : decode cX9_fix 31 = .ok (.aload_n 0, 1) := by decide +kernel
theorem dX9_fix_32 : decode cX9_fix 32 = .ok (.dup, 1) := by decide +kernel
theorem dX9_fix_33 : decode cX9_fix 33 = .ok (.getfield 138, 3) := by decide +kernel
theorem dX9_fix_36 : decode cX9_fix 36 = .ok (.iconst 1, 1) := by decide +kernel
theorem dX9_fix_37 : decode cX9_fix 37 = .ok (.iadd, 1) := by decide +kernel
theorem dX9_fix_38 : decode cX9_fix 38 = .ok (.putfield 138, 3) := by decide +kernel
theorem dX9_fix_41 : decode cX9_fix 41 = .ok (.return_, 1) := by decide +kernel
theorem dX9_isFree_0 : decode cX9_isFree 0 = .ok (.iconst 0, 1) := by decide +kernel
theorem dX9_isFree_1 : decode cX9_isFree 1 = .ok (.istore_n 2, 1) := by decide +kernel
theorem dX9_isFree_2 : decode cX9_isFree 2 = .ok (.iload_n 2, 1) := by decide +kernel
theorem dX9_isFree_3 : decode cX9_isFree 3 = .ok (.aload_n 0, 1) := by decide +kernel
theorem dX9_isFree_4 : decode cX9_isFree 4 = .ok (.getfield 138, 3) := by decide +kernel
theorem dX9_isFree_7 : decode cX9_isFree 7 = .ok (.if_icmp .gt 68, 3) := by decide +kernel
theorem dX9_isFree_10 : decode cX9_isFree 10 = .ok (.iload_n 2, 1) := by decide +kernel
theorem dX9_isFree_11 : decode cX9_isFree 11 = .ok (.aload_n 0, 1) := by decide +kernel
theorem dX9_isFree_12 : decode cX9_isFree 12 = .ok (.getfield 138, 3) := by decide +kernel
theorem dX9_isFree_15 : decode cX9_isFree 15 = .ok (.if_icmp .ne 7, 3) := by decide +kernel
theorem dX9_isFree_18 : decode cX9_isFree 18 = .ok (.iload_n 1, 1) := by decide +kernel
theorem dX9_isFree_19 : decode cX9_isFree 19 = .ok (.goto 9, 3) := by decide +kernel
theorem dX9_isFree_22 : decode cX9_isFree 22 = .ok (.aload_n 0, 1) := by decide +kernel
theorem dX9_isFree_23 : decode cX9_isFree 23 = .ok (.getfield 61, 3) := by decide +kernel
theorem dX9_isFree_26 : decode cX9_isFree 26 = .ok (.iload_n 2, 1) := by decide +kernel
theorem dX9_isFree_27 : decode cX9_isFree 27 = .ok (.iaload, 1) := by decide +kernel
theorem dX9_isFree_28 : decode cX9_isFree 28 = .ok (.istore_n 3, 1) := by decide +kernel
theorem dX9_isFree_29 : decode cX9_isFree 29 = .ok (.iconst 0, 1) := by decide +kernel
theorem dX9_isFree_30 : decode cX9_isFree 30 = .ok (.istore 4, 2) := by decide +kernel
theorem dX9_isFree_32 : decode cX9_isFree 32 = .ok (.iload 4, 2) := by decide +kernel
theorem dX9_isFree_34 : decode cX9_isFree 34 = .ok (.iconst 4, 1) := by decide +kernel
theorem dX9_isFree_35 : decode cX9_isFree 35 = .ok (.if_icmp .ge 34, 3) := by decide +kernel
theorem dX9_isFree_38 : decode cX9_isFree 38 = .ok (.aload_n 0, 1) := by decide +kernel
theorem dX9_isFree_39 : decode cX9_isFree 39 = .ok (.getfield 70, 3) := by decide +kernel
theorem dX9_isFree_42 : decode cX9_isFree 42 = .ok (.iconst 4, 1) := by decide +kernel
theorem dX9_isFree_43 : decode cX9_isFree 43 = .ok (.iload_n 2, 1) := by decide +kernel
theorem dX9_isFree_44 : decode cX9_isFree 44 = .ok (.imul, 1) := by decide +kernel
theorem dX9_isFree_45 : decode cX9_isFree 45 = .ok (.iload 4, 2) := by decide +kernel
theorem dX9_isFree_47 : decode cX9_isFree 47 = .ok (.iadd, 1) := by decide +kernel
theorem dX9_isFree_48 : decode cX9_isFree 48 = .ok (.iload_n 3, 1) := by decide +kernel
theorem dX9_isFree_49 : decode cX9_isFree 49 = .ok (.iload 4, 2) := by decide +kernel
theorem dX9_isFree_51 : decode cX9_isFree 51 = .ok (.invokestatic 121, 3) := by decide +kernel
theorem dX9_isFree_54 : decode cX9_isFree 54 = .ok (.ifCond .eq 7, 3) := by decide +kernel
theorem dX9_isFree_57 : decode cX9_isFree 57 = .ok (.lconst 1, 1) := by decide +kernel
theorem dX9_isFree_58 : decode cX9_isFree 58 = .ok (.goto 4, 3) := by decide +kernel
theorem dX9_isFree_61 : decode cX9_isFree 61 = .ok (.lconst 0, 1) := by decide +kernel
theorem dX9_isFree_62 : decode cX9_isFree 62 = .ok (.lastore, 1) := by decide +kernel
theorem dX9_isFree_63 : decode cX9_isFree 63 = .ok (.iinc 4 1, 3) := by decide +kernel
theorem dX9_isFree_66 : decode cX9_isFree 66 = .ok (.goto (-34), 3) := by decide +kernel
theorem dX9_isFree_69 : decode cX9_isFree 69 = .ok (.iinc 2 1, 3) := by decide +kernel
theorem dX9_isFree_72 : decode cX9_isFree 72 = .ok (.goto (-70), 3) := by decide +kernel
theorem dX9_isFree_75 : decode cX9_isFree 75 = .ok (.iconst 0, 1) := by decide +kernel
theorem dX9_isFree_76 : decode cX9_isFree 76 = .ok (.istore_n 2, 1) := by decide +kernel
theorem dX9_isFree_77 : decode cX9_isFree 77 = .ok (.iconst 0, 1) := by decide +kernel
theorem dX9_isFree_78 : decode cX9_isFree 78 = .ok (.istore_n 3, 1) := by decide +kernel
theorem dX9_isFree_79 : decode cX9_isFree 79 = .ok (.iload_n 3, 1) := by decide +kernel
theorem dX9_isFree_80 : decode cX9_isFree 80 = .ok (.aload_n 0, 1) := by decide +kernel
theorem dX9_isFree_81 : decode cX9_isFree 81 = .ok (.getfield 7, 3) := by decide +kernel
theorem dX9_isFree_84 : decode cX9_isFree 84 = .ok (.if_icmp .ge 222, 3) := by decide +kernel
theorem dX9_isFree_87 : decode cX9_isFree 87 = .ok (.iload_n 2, 1) := by decide +kernel
theorem dX9_isFree_88 : decode cX9_isFree 88 = .ok (.istore 4, 2) := by decide +kernel
theorem dX9_isFree_90 : decode cX9_isFree 90 = .ok (.iload 4, 2) := by decide +kernel
theorem dX9_isFree_92 : decode cX9_isFree 92 = .ok (.aload_n 0, 1) := by decide +kernel
theorem dX9_isFree_93 : decode cX9_isFree 93 = .ok (.getfield 138, 3) := by decide +kernel
theorem dX9_isFree_96 : decode cX9_isFree 96 = .ok (.if_icmp .gt 25, 3) := by decide +kernel
theorem dX9_isFree_99 : decode cX9_isFree 99 = .ok (.aload_n 0, 1) := by decide +kernel
theorem dX9_isFree_100 : decode cX9_isFree 100 = .ok (.getfield 70, 3) := by decide +kernel
theorem dX9_isFree_103 : decode cX9_isFree 103 = .ok (.iconst 4, 1) := by decide +kernel
theorem dX9_isFree_104 : decode cX9_isFree 104 = .ok (.iload 4, 2) := by decide +kernel
theorem dX9_isFree_106 : decode cX9_isFree 106 = .ok (.imul, 1) := by decide +kernel
theorem dX9_isFree_107 : decode cX9_isFree 107 = .ok (.iload_n 3, 1) := by decide +kernel
theorem dX9_isFree_108 : decode cX9_isFree 108 = .ok (.iadd, 1) := by decide +kernel
theorem dX9_isFree_109 : decode cX9_isFree 109 = .ok (.laload, 1) := by decide +kernel
theorem dX9_isFree_110 : decode cX9_isFree 110 = .ok (.lconst 0, 1) := by decide +kernel
theorem dX9_isFree_111 : decode cX9_isFree 111 = .ok (.lcmp, 1) := by decide +kernel
theorem dX9_isFree_112 : decode cX9_isFree 112 = .ok (.ifCond .ne 9, 3) := by decide +kernel
theorem dX9_isFree_115 : decode cX9_isFree 115 = .ok (.iinc 4 1, 3) := by decide +kernel
theorem dX9_isFree_118 : decode cX9_isFree 118 = .ok (.goto (-28), 3) := by decide +kernel
theorem dX9_isFree_121 : decode cX9_isFree 121 = .ok (.iload 4, 2) := by decide +kernel
theorem dX9_isFree_123 : decode cX9_isFree 123 = .ok (.aload_n 0, 1) := by decide +kernel
theorem dX9_isFree_124 : decode cX9_isFree 124 = .ok (.getfield 138, 3) := by decide +kernel
theorem dX9_isFree_127 : decode cX9_isFree 127 = .ok (.if_icmp .gt 173, 3) := by decide +kernel
theorem dX9_isFree_130 : decode cX9_isFree 130 = .ok (.iconst 0, 1) := by decide +kernel
theorem dX9_isFree_131 : decode cX9_isFree 131 = .ok (.istore 5, 2) := by decide +kernel
theorem dX9_isFree_133 : decode cX9_isFree 133 = .ok (.iload 5, 2) := by decide +kernel
theorem dX9_isFree_135 : decode cX9_isFree 135 = .ok (.iconst 4, 1) := by decide +kernel
theorem dX9_isFree_136 : decode cX9_isFree 136 = .ok (.if_icmp .ge 59, 3) := by decide +kernel
theorem dX9_isFree_139 : decode cX9_isFree 139 = .ok (.aload_n 0, 1) := by decide +kernel
theorem dX9_isFree_140 : decode cX9_isFree 140 = .ok (.getfield 70, 3) := by decide +kernel
theorem dX9_isFree_143 : decode cX9_isFree 143 = .ok (.iconst 4, 1) := by decide +kernel
theorem dX9_isFree_144 : decode cX9_isFree 144 = .ok (.iload 4, 2) := by decide +kernel
theorem dX9_isFree_146 : decode cX9_isFree 146 = .ok (.imul, 1) := by decide +kernel
theorem dX9_isFree_147 : decode cX9_isFree 147 = .ok (.iload 5, 2) := by decide +kernel
theorem dX9_isFree_149 : decode cX9_isFree 149 = .ok (.iadd, 1) := by decide +kernel
theorem dX9_isFree_150 : decode cX9_isFree 150 = .ok (.laload, 1) := by decide +kernel
theorem dX9_isFree_151 : decode cX9_isFree 151 = .ok (.lstore 6, 2) := by decide +kernel
theorem dX9_isFree_153 : decode cX9_isFree 153 = .ok (.aload_n 0, 1) := by decide +kernel
theorem dX9_isFree_154 : decode cX9_isFree 154 = .ok (.getfield 70, 3) := by decide +kernel
theorem dX9_isFree_157 : decode cX9_isFree 157 = .ok (.iconst 4, 1) := by decide +kernel
theorem dX9_isFree_158 : decode cX9_isFree 158 = .ok (.iload 4, 2) := by decide +kernel
theorem dX9_isFree_160 : decode cX9_isFree 160 = .ok (.imul, 1) := by decide +kernel
theorem dX9_isFree_161 : decode cX9_isFree 161 = .ok (.iload 5, 2) := by decide +kernel
theorem dX9_isFree_163 : decode cX9_isFree 163 = .ok (.iadd, 1) := by decide +kernel
theorem dX9_isFree_164 : decode cX9_isFree 164 = .ok (.aload_n 0, 1) := by decide +kernel
theorem dX9_isFree_165 : decode cX9_isFree 165 = .ok (.getfield 70, 3) := by decide +kernel
theorem dX9_isFree_168 : decode cX9_isFree 168 = .ok (.iconst 4, 1) := by decide +kernel
theorem dX9_isFree_169 : decode cX9_isFree 169 = .ok (.iload_n 2, 1) := by decide +kernel
theorem dX9_isFree_170 : decode cX9_isFree 170 = .ok (.imul, 1) := by decide +kernel
theorem dX9_isFree_171 : decode cX9_isFree 171 = .ok (.iload 5, 2) := by decide +kernel
theorem dX9_isFree_173 : decode cX9_isFree 173 = .ok (.iadd, 1) := by decide +kernel
theorem dX9_isFree_174 : decode cX9_isFree 174 = .ok (.laload, 1) := by decide +kernel
theorem dX9_isFree_175 : decode cX9_isFree 175 = .ok (.lastore, 1) := by decide +kernel
theorem dX9_isFree_176 : decode cX9_isFree 176 = .ok (.aload_n 0, 1) := by decide +kernel
theorem dX9_isFree_177 : decode cX9_isFree 177 = .ok (.getfield 70, 3) := by decide +kernel
theorem dX9_isFree_180 : decode cX9_isFree 180 = .ok (.iconst 4, 1) := by decide +kernel
theorem dX9_isFree_181 : decode cX9_isFree 181 = .ok (.iload_n 2, 1) := by decide +kernel
theorem dX9_isFree_182 : decode cX9_isFree 182 = .ok (.imul, 1) := by decide +kernel
theorem dX9_isFree_183 : decode cX9_isFree 183 = .ok (.iload 5, 2) := by decide +kernel
theorem dX9_isFree_185 : decode cX9_isFree 185 = .ok (.iadd, 1) := by decide +kernel
theorem dX9_isFree_186 : decode cX9_isFree 186 = .ok (.lload 6, 2) := by decide +kernel
theorem dX9_isFree_188 : decode cX9_isFree 188 = .ok (.lastore, 1) := by decide +kernel
theorem dX9_isFree_189 : decode cX9_isFree 189 = .ok (.iinc 5 1, 3) := by decide +kernel
theorem dX9_isFree_192 : decode cX9_isFree 192 = .ok (.goto (-59), 3) := by decide +kernel
theorem dX9_isFree_195 : decode cX9_isFree 195 = .ok (.iload_n 2, 1) := by decide +kernel
theorem dX9_isFree_196 : decode cX9_isFree 196 = .ok (.iconst 1, 1) := by decide +kernel
theorem dX9_isFree_197 : decode cX9_isFree 197 = .ok (.iadd, 1) := by decide +kernel
theorem dX9_isFree_198 : decode cX9_isFree 198 = .ok (.istore 5, 2) := by decide +kernel
theorem dX9_isFree_200 : decode cX9_isFree 200 = .ok (.iload 5, 2) := by decide +kernel
theorem dX9_isFree_202 : decode cX9_isFree 202 = .ok (.aload_n 0, 1) := by decide +kernel
theorem dX9_isFree_203 : decode cX9_isFree 203 = .ok (.getfield 138, 3) := by decide +kernel
theorem dX9_isFree_206 : decode cX9_isFree 206 = .ok (.if_icmp .gt 91, 3) := by decide +kernel
theorem dX9_isFree_209 : decode cX9_isFree 209 = .ok (.aload_n 0, 1) := by decide +kernel
theorem dX9_isFree_210 : decode cX9_isFree 210 = .ok (.getfield 70, 3) := by decide +kernel
theorem dX9_isFree_213 : decode cX9_isFree 213 = .ok (.iconst 4, 1) := by decide +kernel
theorem dX9_isFree_214 : decode cX9_isFree 214 = .ok (.iload 5, 2) := by decide +kernel
theorem dX9_isFree_216 : decode cX9_isFree 216 = .ok (.imul, 1) := by decide +kernel
theorem dX9_isFree_217 : decode cX9_isFree 217 = .ok (.iload_n 3, 1) := by decide +kernel
theorem dX9_isFree_218 : decode cX9_isFree 218 = .ok (.iadd, 1) := by decide +kernel
theorem dX9_isFree_219 : decode cX9_isFree 219 = .ok (.laload, 1) := by decide +kernel
theorem dX9_isFree_220 : decode cX9_isFree 220 = .ok (.lstore 6, 2) := by decide +kernel
theorem dX9_isFree_222 : decode cX9_isFree 222 = .ok (.aload_n 0, 1) := by decide +kernel
theorem dX9_isFree_223 : decode cX9_isFree 223 = .ok (.getfield 70, 3) := by decide +kernel
theorem dX9_isFree_226 : decode cX9_isFree 226 = .ok (.iconst 4, 1) := by decide +kernel
theorem dX9_isFree_227 : decode cX9_isFree 227 = .ok (.iload_n 2, 1) := by decide +kernel
theorem dX9_isFree_228 : decode cX9_isFree 228 = .ok (.imul, 1) := by decide +kernel
theorem dX9_isFree_229 : decode cX9_isFree 229 = .ok (.iload_n 3, 1) := by decide +kernel
theorem dX9_isFree_230 : decode cX9_isFree 230 = .ok (.iadd, 1) := by decide +kernel
theorem dX9_isFree_231 : decode cX9_isFree 231 = .ok (.laload, 1) := by decide +kernel
theorem dX9_isFree_232 : decode cX9_isFree 232 = .ok (.lstore 8, 2) := by decide +kernel
theorem dX9_isFree_234 : decode cX9_isFree 234 = .ok (.iconst 0, 1) := by decide +kernel
theorem dX9_isFree_235 : decode cX9_isFree 235 = .ok (.istore 10, 2) := by decide +kernel
theorem dX9_isFree_237 : decode cX9_isFree 237 = .ok (.iload 10, 2) := by decide +kernel
theorem dX9_isFree_239 : decode cX9_isFree 239 = .ok (.iconst 4, 1) := by decide +kernel
theorem dX9_isFree_240 : decode cX9_isFree 240 = .ok (.if_icmp .ge 51, 3) := by decide +kernel
theorem dX9_isFree_243 : decode cX9_isFree 243 = .ok (.aload_n 0, 1) := by decide +kernel
theorem dX9_isFree_244 : decode cX9_isFree 244 = .ok (.getfield 70, 3) := by decide +kernel
theorem dX9_isFree_247 : decode cX9_isFree 247 = .ok (.iconst 4, 1) := by decide +kernel
theorem dX9_isFree_248 : decode cX9_isFree 248 = .ok (.iload 5, 2) := by decide +kernel
theorem dX9_isFree_250 : decode cX9_isFree 250 = .ok (.imul, 1) := by decide +kernel
theorem dX9_isFree_251 : decode cX9_isFree 251 = .ok (.iload 10, 2) := by decide +kernel
theorem dX9_isFree_253 : decode cX9_isFree 253 = .ok (.iadd, 1) := by decide +kernel
theorem dX9_isFree_254 : decode cX9_isFree 254 = .ok (.aload_n 0, 1) := by decide +kernel
theorem dX9_isFree_255 : decode cX9_isFree 255 = .ok (.getfield 70, 3) := by decide +kernel
theorem dX9_isFree_258 : decode cX9_isFree 258 = .ok (.iconst 4, 1) := by decide +kernel
theorem dX9_isFree_259 : decode cX9_isFree 259 = .ok (.iload 5, 2) := by decide +kernel
theorem dX9_isFree_261 : decode cX9_isFree 261 = .ok (.imul, 1) := by decide +kernel
theorem dX9_isFree_262 : decode cX9_isFree 262 = .ok (.iload 10, 2) := by decide +kernel
theorem dX9_isFree_264 : decode cX9_isFree 264 = .ok (.iadd, 1) := by decide +kernel
theorem dX9_isFree_265 : decode cX9_isFree 265 = .ok (.laload, 1) := by decide +kernel
theorem dX9_isFree_266 : decode cX9_isFree 266 = .ok (.lload 8, 2) := by decide +kernel
theorem dX9_isFree_268 : decode cX9_isFree 268 = .ok (.lmul, 1) := by decide +kernel
theorem dX9_isFree_269 : decode cX9_isFree 269 = .ok (.aload_n 0, 1) := by decide +kernel
theorem dX9_isFree_270 : decode cX9_isFree 270 = .ok (.getfield 70, 3) := by decide +kernel
theorem dX9_isFree_273 : decode cX9_isFree 273 = .ok (.iconst 4, 1) := by decide +kernel
theorem dX9_isFree_274 : decode cX9_isFree 274 = .ok (.iload_n 2, 1) := by decide +kernel
theorem dX9_isFree_275 : decode cX9_isFree 275 = .ok (.imul, 1) := by decide +kernel
theorem dX9_isFree_276 : decode cX9_isFree 276 = .ok (.iload 10, 2) := by decide +kernel
theorem dX9_isFree_278 : decode cX9_isFree 278 = .ok (.iadd, 1) := by decide +kernel
theorem dX9_isFree_279 : decode cX9_isFree 279 = .ok (.laload, 1) := by decide +kernel
theorem dX9_isFree_280 : decode cX9_isFree 280 = .ok (.lload 6, 2) := by decide +kernel
theorem dX9_isFree_282 : decode cX9_isFree 282 = .ok (.lmul, 1) := by decide +kernel
theorem dX9_isFree_283 : decode cX9_isFree 283 = .ok (.lsub, 1) := by decide +kernel
theorem dX9_isFree_284 : decode cX9_isFree 284 = .ok (.lastore, 1) := by decide +kernel
theorem dX9_isFree_285 : decode cX9_isFree 285 = .ok (.iinc 10 1, 3) := by decide +kernel
theorem dX9_isFree_288 : decode cX9_isFree 288 = .ok (.goto (-51), 3) := by decide +kernel
theorem dX9_isFree_291 : decode cX9_isFree 291 = .ok (.iinc 5 1, 3) := by decide +kernel
theorem dX9_isFree_294 : decode cX9_isFree 294 = .ok (.goto (-94), 3) := by decide +kernel
theorem dX9_isFree_297 : decode cX9_isFree 297 = .ok (.iinc 2 1, 3) := by decide +kernel
theorem dX9_isFree_300 : decode cX9_isFree 300 = .ok (.iinc 3 1, 3) := by decide +kernel
theorem dX9_isFree_303 : decode cX9_isFree 303 = .ok (.goto (-224), 3) := by decide +kernel
theorem dX9_isFree_306 : decode cX9_isFree 306 = .ok (.iload_n 2, 1) := by decide +kernel
theorem dX9_isFree_307 : decode cX9_isFree 307 = .ok (.aload_n 0, 1) := by decide +kernel
theorem dX9_isFree_308 : decode cX9_isFree 308 = .ok (.getfield 138, 3) := by decide +kernel
theorem dX9_isFree_311 : decode cX9_isFree 311 = .ok (.iconst 1, 1) := by decide +kernel
theorem dX9_isFree_312 : decode cX9_isFree 312 = .ok (.iadd, 1) := by decide +kernel
theorem dX9_isFree_313 : decode cX9_isFree 313 = .ok (.if_icmp .ne 7, 3) := by decide +kernel
theorem dX9_isFree_316 : decode cX9_isFree 316 = .ok (.iconst 1, 1) := by decide +kernel
theorem dX9_isFree_317 : decode cX9_isFree 317 = .ok (.goto 4, 3) := by decide +kernel
theorem dX9_isFree_320 : decode cX9_isFree 320 = .ok (.iconst 0, 1) := by decide +kernel
theorem dX9_isFree_321 : decode cX9_isFree 321 = .ok (.ireturn, 1) := by decide +kernel
theorem dX9_layFree_0 : decode cX9_layFree 0 = .ok (.aload_n 0, 1) := by decide +kernel
theorem dX9_layFree_1 : decode cX9_layFree 1 = .ok (.iconst 0, 1) := by decide +kernel
theorem dX9_layFree_2 : decode cX9_layFree 2 = .ok (.putfield 141, 3) := by decide +kernel
theorem dX9_layFree_5 : decode cX9_layFree 5 = .ok (.iconst 1, 1) := by decide +kernel
theorem dX9_layFree_6 : decode cX9_layFree 6 = .ok (.istore_n 1, 1) := by decide +kernel
theorem dX9_layFree_7 : decode cX9_layFree 7 = .ok (.iload_n 1, 1) := by decide +kernel
theorem dX9_layFree_8 : decode cX9_layFree 8 = .ok (.aload_n 0, 1) := by decide +kernel
theorem dX9_layFree_9 : decode cX9_layFree 9 = .ok (.invokevirtual 88, 3) := by decide +kernel
theorem dX9_layFree_12 : decode cX9_layFree 12 = .ok (.if_icmp .ge 37, 3) := by decide +kernel
theorem dX9_layFree_15 : decode cX9_layFree 15 = .ok (.aload_n 0, 1) := by decide +kernel
theorem dX9_layFree_16 : decode cX9_layFree 16 = .ok (.iload_n 1, 1) := by decide +kernel
theorem dX9_layFree_17 : decode cX9_layFree 17 = .ok (.invokevirtual 144, 3) := by decide +kernel
theorem dX9_layFree_20 : decode cX9_layFree 20 = .ok (.ifCond .eq 23, 3) := by decide +kernel
theorem dX9_layFree_23 : decode cX9_layFree 23 = .ok (.aload_n 0, 1) := by decide +kernel
theorem dX9_layFree_24 : decode cX9_layFree 24 = .ok (.getfield 73, 3) := by decide +kernel
theorem dX9_layFree_27 : decode cX9_layFree 27 = .ok (.aload_n 0, 1) := by decide +kernel
theorem dX9_layFree_28 : decode cX9_layFree 28 = .ok (.getfield 141, 3) := by decide +kernel
theorem dX9_layFree_31 : decode cX9_layFree 31 = .ok (.iload_n 1, 1) := by decide +kernel
theorem dX9_layFree_32 : decode cX9_layFree 32 = .ok (.iastore, 1) := by decide +kernel
theorem dX9_layFree_33 : decode cX9_layFree 33 = .ok (.aload_n 0, 1) := by decide +kernel
theorem dX9_layFree_34 : decode cX9_layFree 34 = .ok (.dup, 1) := by decide +kernel
theorem dX9_layFree_35 : decode cX9_layFree 35 = .ok (.getfield 141, 3) := by decide +kernel
theorem dX9_layFree_38 : decode cX9_layFree 38 = .ok (.iconst 1, 1) := by decide +kernel
theorem dX9_layFree_39 : decode cX9_layFree 39 = .ok (.iadd, 1) := by decide +kernel
theorem dX9_layFree_40 : decode cX9_layFree 40 = .ok (.putfield 141, 3) := by decide +kernel
theorem dX9_layFree_43 : decode cX9_layFree 43 = .ok (.iinc 1 1, 3) := by decide +kernel
theorem dX9_layFree_46 : decode cX9_layFree 46 = .ok (.goto (-39), 3) := by decide +kernel
theorem dX9_layFree_49 : decode cX9_layFree 49 = .ok (.return_, 1) := by decide +kernel
theorem dX9_balances_0 : decode cX9_balances 0 = .ok (.aload_n 0, 1) := by decide +kernel
theorem dX9_balances_1 : decode cX9_balances 1 = .ok (.invokevirtual 147, 3) := by decide +kernel
theorem dX9_balances_4 : decode cX9_balances 4 = .ok (.iconst 0, 1) := by decide +kernel
theorem dX9_balances_5 : decode cX9_balances 5 = .ok (.istore_n 2, 1) := by decide +kernel
theorem dX9_balances_6 : decode cX9_balances 6 = .ok (.iload_n 2, 1) := by decide +kernel
theorem dX9_balances_7 : decode cX9_balances 7 = .ok (.aload_n 0, 1) := by decide +kernel
theorem dX9_balances_8 : decode cX9_balances 8 = .ok (.getfield 7, 3) := by decide +kernel
theorem dX9_balances_11 : decode cX9_balances 11 = .ok (.if_icmp .ge 97, 3) := by decide +kernel
theorem dX9_balances_14 : decode cX9_balances 14 = .ok (.iconst 0, 1) := by decide +kernel
theorem dX9_balances_15 : decode cX9_balances 15 = .ok (.istore_n 3, 1) := by decide +kernel
theorem dX9_balances_16 : decode cX9_balances 16 = .ok (.iload_n 3, 1) := by decide +kernel
theorem dX9_balances_17 : decode cX9_balances 17 = .ok (.iload_n 1, 1) := by decide +kernel
theorem dX9_balances_18 : decode cX9_balances 18 = .ok (.if_icmp .ge 39, 3) := by decide +kernel
theorem dX9_balances_21 : decode cX9_balances 21 = .ok (.aload_n 0, 1) := by decide +kernel
theorem dX9_balances_22 : decode cX9_balances 22 = .ok (.iload_n 2, 1) := by decide +kernel
theorem dX9_balances_23 : decode cX9_balances 23 = .ok (.iload_n 3, 1) := by decide +kernel
theorem dX9_balances_24 : decode cX9_balances 24 = .ok (.aload_n 0, 1) := by decide +kernel
theorem dX9_balances_25 : decode cX9_balances 25 = .ok (.getfield 73, 3) := by decide +kernel
theorem dX9_balances_28 : decode cX9_balances 28 = .ok (.aload_n 0, 1) := by decide +kernel
theorem dX9_balances_29 : decode cX9_balances 29 = .ok (.getfield 76, 3) := by decide +kernel
theorem dX9_balances_32 : decode cX9_balances 32 = .ok (.iload_n 3, 1) := by decide +kernel
theorem dX9_balances_33 : decode cX9_balances 33 = .ok (.iaload, 1) := by decide +kernel
theorem dX9_balances_34 : decode cX9_balances 34 = .ok (.iaload, 1) := by decide +kernel
theorem dX9_balances_35 : decode cX9_balances 35 = .ok (.iload_n 2, 1) := by decide +kernel
theorem dX9_balances_36 : decode cX9_balances 36 = .ok (.invokestatic 121, 3) := by decide +kernel
theorem dX9_balances_39 : decode cX9_balances 39 = .ok (.ifCond .eq 7, 3) := by decide +kernel
theorem dX9_balances_42 : decode cX9_balances 42 = .ok (.lconst 1, 1) := by decide +kernel
theorem dX9_balances_43 : decode cX9_balances 43 = .ok (.goto 4, 3) := by decide +kernel
theorem dX9_balances_46 : decode cX9_balances 46 = .ok (.lconst 0, 1) := by decide +kernel
theorem dX9_balances_47 : decode cX9_balances 47 = .ok (.lconst 1, 1) := by decide +kernel
theorem dX9_balances_48 : decode cX9_balances 48 = .ok (.invokevirtual 134, 3) := by decide +kernel
theorem dX9_balances_51 : decode cX9_balances 51 = .ok (.iinc 3 1, 3) := by decide +kernel
theorem dX9_balances_54 : decode cX9_balances 54 = .ok (.goto (-38), 3) := by decide +kernel
theorem dX9_balances_57 : decode cX9_balances 57 = .ok (.iconst 0, 1) := by decide +kernel
theorem dX9_balances_58 : decode cX9_balances 58 = .ok (.istore_n 3, 1) := by decide +kernel
theorem dX9_balances_59 : decode cX9_balances 59 = .ok (.iload_n 3, 1) := by decide +kernel
theorem dX9_balances_60 : decode cX9_balances 60 = .ok (.aload_n 0, 1) := by decide +kernel
theorem dX9_balances_61 : decode cX9_balances 61 = .ok (.getfield 138, 3) := by decide +kernel
theorem dX9_balances_64 : decode cX9_balances 64 = .ok (.if_icmp .ge 38, 3) := by decide +kernel
theorem dX9_balances_67 : decode cX9_balances 67 = .ok (.aload_n 0, 1) := by decide +kernel
theorem dX9_balances_68 : decode cX9_balances 68 = .ok (.iload_n 2, 1) := by decide +kernel
theorem dX9_balances_69 : decode cX9_balances 69 = .ok (.iload_n 1, 1) := by decide +kernel
theorem dX9_balances_70 : decode cX9_balances 70 = .ok (.iload_n 3, 1) := by decide +kernel
theorem dX9_balances_71 : decode cX9_balances 71 = .ok (.iadd, 1) := by decide +kernel
theorem dX9_balances_72 : decode cX9_balances 72 = .ok (.aload_n 0, 1) := by decide +kernel
theorem dX9_balances_73 : decode cX9_balances 73 = .ok (.getfield 61, 3) := by decide +kernel
theorem dX9_balances_76 : decode cX9_balances 76 = .ok (.iload_n 3, 1) := by decide +kernel
theorem dX9_balances_77 : decode cX9_balances 77 = .ok (.iaload, 1) := by decide +kernel
theorem dX9_balances_78 : decode cX9_balances 78 = .ok (.iload_n 2, 1) := by decide +kernel
theorem dX9_balances_79 : decode cX9_balances 79 = .ok (.invokestatic 121, 3) := by decide +kernel
theorem dX9_balances_82 : decode cX9_balances 82 = .ok (.ifCond .eq 9, 3) := by decide +kernel
theorem dX9_balances_85 : decode cX9_balances 85 = .ok (.ldc2_w 150, 3) := by decide +kernel
theorem dX9_balances_88 : decode cX9_balances 88 = .ok (.goto 4, 3) := by decide +kernel
theorem dX9_balances_91 : decode cX9_balances 91 = .ok (.lconst 0, 1) := by decide +kernel
theorem dX9_balances_92 : decode cX9_balances 92 = .ok (.lconst 1, 1) := by decide +kernel
theorem dX9_balances_93 : decode cX9_balances 93 = .ok (.invokevirtual 134, 3) := by decide +kernel
theorem dX9_balances_96 : decode cX9_balances 96 = .ok (.iinc 3 1, 3) := by decide +kernel
theorem dX9_balances_99 : decode cX9_balances 99 = .ok (.goto (-40), 3) := by decide +kernel
theorem dX9_balances_102 : decode cX9_balances 102 = .ok (.iinc 2 1, 3) := by decide +kernel
theorem dX9_balances_105 : decode cX9_balances 105 = .ok (.goto (-99), 3) := by decide +kernel
theorem dX9_balances_108 : decode cX9_balances 108 = .ok (.iconst 0, 1) := by decide +kernel
theorem dX9_balances_109 : decode cX9_balances 109 = .ok (.istore_n 2, 1) := by decide +kernel
theorem dX9_balances_110 : decode cX9_balances 110 = .ok (.iload_n 2, 1) := by decide +kernel
theorem dX9_balances_111 : decode cX9_balances 111 = .ok (.iload_n 1, 1) := by decide +kernel
theorem dX9_balances_112 : decode cX9_balances 112 = .ok (.if_icmp .ge 20, 3) := by decide +kernel
theorem dX9_balances_115 : decode cX9_balances 115 = .ok (.aload_n 0, 1) := by decide +kernel
theorem dX9_balances_116 : decode cX9_balances 116 = .ok (.aload_n 0, 1) := by decide +kernel
theorem dX9_balances_117 : decode cX9_balances 117 = .ok (.getfield 7, 3) := by decide +kernel
theorem dX9_balances_120 : decode cX9_balances 120 = .ok (.iload_n 2, 1) := by decide +kernel
theorem dX9_balances_121 : decode cX9_balances 121 = .ok (.lconst 1, 1) := by decide +kernel
theorem dX9_balances_122 : decode cX9_balances 122 = .ok (.lconst 1, 1) := by decide +kernel
theorem dX9_balances_123 : decode cX9_balances 123 = .ok (.invokevirtual 134, 3) := by decide +kernel
theorem dX9_balances_126 : decode cX9_balances 126 = .ok (.iinc 2 1, 3) := by decide +kernel
theorem dX9_balances_129 : decode cX9_balances 129 = .ok (.goto (-19), 3) := by decide +kernel
theorem dX9_balances_132 : decode cX9_balances 132 = .ok (.aload_n 0, 1) := by decide +kernel
theorem dX9_balances_133 : decode cX9_balances 133 = .ok (.aload_n 0, 1) := by decide +kernel
theorem dX9_balances_134 : decode cX9_balances 134 = .ok (.getfield 7, 3) := by decide +kernel
theorem dX9_balances_137 : decode cX9_balances 137 = .ok (.iconst 5, 1) := by decide +kernel
theorem dX9_balances_138 : decode cX9_balances 138 = .ok (.lconst 1, 1) := by decide +kernel
theorem dX9_balances_139 : decode cX9_balances 139 = .ok (.lconst 1, 1) := by decide +kernel
theorem dX9_balances_140 : decode cX9_balances 140 = .ok (.invokevirtual 134, 3) := by decide +kernel
theorem dX9_balances_143 : decode cX9_balances 143 = .ok (.aload_n 0, 1) := by decide +kernel
theorem dX9_balances_144 : decode cX9_balances 144 = .ok (.aload_n 0, 1) := by decide +kernel
theorem dX9_balances_145 : decode cX9_balances 145 = .ok (.getfield 7, 3) := by decide +kernel
theorem dX9_balances_148 : decode cX9_balances 148 = .ok (.iconst 1, 1) := by decide +kernel
theorem dX9_balances_149 : decode cX9_balances 149 = .ok (.iadd, 1) := by decide +kernel
theorem dX9_balances_150 : decode cX9_balances 150 = .ok (.invokevirtual 152, 3) := by decide +kernel
theorem dX9_balances_153 : decode cX9_balances 153 = .ok (.ifCond .ne 5, 3) := by decide +kernel
theorem dX9_balances_156 : decode cX9_balances 156 = .ok (.iconst 0, 1) := by decide +kernel
theorem dX9_balances_157 : decode cX9_balances 157 = .ok (.ireturn, 1) := by decide +kernel
theorem dX9_balances_158 : decode cX9_balances 158 = .ok (.lconst 0, 1) := by decide +kernel
theorem dX9_balances_159 : decode cX9_balances 159 = .ok (.lstore_n 2, 1) := by decide +kernel
theorem dX9_balances_160 : decode cX9_balances 160 = .ok (.lconst 1, 1) := by decide +kernel
theorem dX9_balances_161 : decode cX9_balances 161 = .ok (.lstore 4, 2) := by decide +kernel
theorem dX9_balances_163 : decode cX9_balances 163 = .ok (.iconst 0, 1) := by decide +kernel
theorem dX9_balances_164 : decode cX9_balances 164 = .ok (.istore 6, 2) := by decide +kernel
theorem dX9_balances_166 : decode cX9_balances 166 = .ok (.iload 6, 2) := by decide +kernel
theorem dX9_balances_168 : decode cX9_balances 168 = .ok (.iload_n 1, 1) := by decide +kernel
theorem dX9_balances_169 : decode cX9_balances 169 = .ok (.if_icmp .ge 103, 3) := by decide +kernel
theorem dX9_balances_172 : decode cX9_balances 172 = .ok (.aload_n 0, 1) := by decide +kernel
theorem dX9_balances_173 : decode cX9_balances 173 = .ok (.getfield 54, 3) := by decide +kernel
theorem dX9_balances_176 : decode cX9_balances 176 = .ok (.bipush 6, 2) := by decide +kernel
theorem dX9_balances_178 : decode cX9_balances 178 = .ok (.iload 6, 2) := by decide +kernel
theorem dX9_balances_180 : decode cX9_balances 180 = .ok (.imul, 1) := by decide +kernel
theorem dX9_balances_181 : decode cX9_balances 181 = .ok (.iconst 5, 1) := by decide +kernel
theorem dX9_balances_182 : decode cX9_balances 182 = .ok (.iadd, 1) := by decide +kernel
theorem dX9_balances_183 : decode cX9_balances 183 = .ok (.laload, 1) := by decide +kernel
theorem dX9_balances_184 : decode cX9_balances 184 = .ok (.lstore 7, 2) := by decide +kernel
theorem dX9_balances_186 : decode cX9_balances 186 = .ok (.aload_n 0, 1) := by decide +kernel
theorem dX9_balances_187 : decode cX9_balances 187 = .ok (.getfield 58, 3) := by decide +kernel
theorem dX9_balances_190 : decode cX9_balances 190 = .ok (.bipush 6, 2) := by decide +kernel
theorem dX9_balances_192 : decode cX9_balances 192 = .ok (.iload 6, 2) := by decide +kernel
theorem dX9_balances_194 : decode cX9_balances 194 = .ok (.imul, 1) := by decide +kernel
theorem dX9_balances_195 : decode cX9_balances 195 = .ok (.iconst 5, 1) := by decide +kernel
theorem dX9_balances_196 : decode cX9_balances 196 = .ok (.iadd, 1) := by decide +kernel
theorem dX9_balances_197 : decode cX9_balances 197 = .ok (.laload, 1) := by decide +kernel
theorem dX9_balances_198 : decode cX9_balances 198 = .ok (.lstore 9, 2) := by decide +kernel
theorem dX9_balances_200 : decode cX9_balances 200 = .ok (.lload 7, 2) := by decide +kernel
theorem dX9_balances_202 : decode cX9_balances 202 = .ok (.lconst 0, 1) := by decide +kernel
theorem dX9_balances_203 : decode cX9_balances 203 = .ok (.lcmp, 1) := by decide +kernel
theorem dX9_balances_204 : decode cX9_balances 204 = .ok (.ifCond .ge 5, 3) := by decide +kernel
theorem dX9_balances_207 : decode cX9_balances 207 = .ok (.iconst 0, 1) := by decide +kernel
theorem dX9_balances_208 : decode cX9_balances 208 = .ok (.ireturn, 1) := by decide +kernel
theorem dX9_balances_209 : decode cX9_balances 209 = .ok (.lload_n 2, 1) := by decide +kernel
theorem dX9_balances_210 : decode cX9_balances 210 = .ok (.lload 9, 2) := by decide +kernel
theorem dX9_balances_212 : decode cX9_balances 212 = .ok (.lmul, 1) := by decide +kernel
theorem dX9_balances_213 : decode cX9_balances 213 = .ok (.aload_n 0, 1) := by decide +kernel
theorem dX9_balances_214 : decode cX9_balances 214 = .ok (.getfield 13, 3) := by decide +kernel
theorem dX9_balances_217 : decode cX9_balances 217 = .ok (.aload_n 0, 1) := by decide +kernel
theorem dX9_balances_218 : decode cX9_balances 218 = .ok (.getfield 73, 3) := by decide +kernel
theorem dX9_balances_221 : decode cX9_balances 221 = .ok (.aload_n 0, 1) := by decide +kernel
theorem dX9_balances_222 : decode cX9_balances 222 = .ok (.getfield 76, 3) := by decide +kernel
theorem dX9_balances_225 : decode cX9_balances 225 = .ok (.iload 6, 2) := by decide +kernel
theorem dX9_balances_227 : decode cX9_balances 227 = .ok (.iaload, 1) := by decide +kernel
theorem dX9_balances_228 : decode cX9_balances 228 = .ok (.iaload, 1) := by decide +kernel
theorem dX9_balances_229 : decode cX9_balances 229 = .ok (.iaload, 1) := by decide +kernel
theorem dX9_balances_230 : decode cX9_balances 230 = .ok (.i2l, 1) := by decide +kernel
theorem dX9_balances_231 : decode cX9_balances 231 = .ok (.lload 7, 2) := by decide +kernel
theorem dX9_balances_233 : decode cX9_balances 233 = .ok (.lmul, 1) := by decide +kernel
theorem dX9_balances_234 : decode cX9_balances 234 = .ok (.lload 4, 2) := by decide +kernel
theorem dX9_balances_236 : decode cX9_balances 236 = .ok (.lmul, 1) := by decide +kernel
theorem dX9_balances_237 : decode cX9_balances 237 = .ok (.ladd, 1) := by decide +kernel
theorem dX9_balances_238 : decode cX9_balances 238 = .ok (.lstore_n 2, 1) := by decide +kernel
theorem dX9_balances_239 : decode cX9_balances 239 = .ok (.lload 4, 2) := by decide +kernel
theorem dX9_balances_241 : decode cX9_balances 241 = .ok (.lload 9, 2) := by decide +kernel
theorem dX9_balances_243 : decode cX9_balances 243 = .ok (.lmul, 1) := by decide +kernel
theorem dX9_balances_244 : decode cX9_balances 244 = .ok (.lstore 4, 2) := by decide +kernel
theorem dX9_balances_246 : decode cX9_balances 246 = .ok (.lload_n 2, 1) := by decide +kernel
theorem dX9_balances_247 : decode cX9_balances 247 = .ok (.lload 4, 2) := by decide +kernel
theorem dX9_balances_249 : decode cX9_balances 249 = .ok (.invokestatic 96, 3) := by decide +kernel
theorem dX9_balances_252 : decode cX9_balances 252 = .ok (.lstore 11, 2) := by decide +kernel
theorem dX9_balances_254 : decode cX9_balances 254 = .ok (.lload_n 2, 1) := by decide +kernel
theorem dX9_balances_255 : decode cX9_balances 255 = .ok (.lload 11, 2) := by decide +kernel
theorem dX9_balances_257 : decode cX9_balances 257 = .ok (.ldiv, 1) := by decide +kernel
theorem dX9_balances_258 : decode cX9_balances 258 = .ok (.lstore_n 2, 1) := by decide +kernel
theorem dX9_balances_259 : decode cX9_balances 259 = .ok (.lload 4, 2) := by decide +kernel
theorem dX9_balances_261 : decode cX9_balances 261 = .ok (.lload 11, 2) := by decide +kernel
theorem dX9_balances_263 : decode cX9_balances 263 = .ok (.ldiv, 1) := by decide +kernel
theorem dX9_balances_264 : decode cX9_balances 264 = .ok (.lstore 4, 2) := by decide +kernel
theorem dX9_balances_266 : decode cX9_balances 266 = .ok (.iinc 6 1, 3) := by decide +kernel
theorem dX9_balances_269 : decode cX9_balances 269 = .ok (.goto (-103), 3) := by decide +kernel
theorem dX9_balances_272 : decode cX9_balances 272 = .ok (.iconst 0, 1) := by decide +kernel
theorem dX9_balances_273 : decode cX9_balances 273 = .ok (.istore 6, 2) := by decide +kernel
theorem dX9_balances_275 : decode cX9_balances 275 = .ok (.iload 6, 2) := by decide +kernel
theorem dX9_balances_277 : decode cX9_balances 277 = .ok (.aload_n 0, 1) := by decide +kernel
theorem dX9_balances_278 : decode cX9_balances 278 = .ok (.getfield 138, 3) := by decide +kernel
theorem dX9_balances_281 : decode cX9_balances 281 = .ok (.if_icmp .ge 95, 3) := by decide +kernel
theorem dX9_balances_284 : decode cX9_balances 284 = .ok (.aload_n 0, 1) := by decide +kernel
theorem dX9_balances_285 : decode cX9_balances 285 = .ok (.getfield 54, 3) := by decide +kernel
theorem dX9_balances_288 : decode cX9_balances 288 = .ok (.bipush 6, 2) := by decide +kernel
theorem dX9_balances_290 : decode cX9_balances 290 = .ok (.iload_n 1, 1) := by decide +kernel
theorem dX9_balances_291 : decode cX9_balances 291 = .ok (.iload 6, 2) := by decide +kernel
theorem dX9_balances_293 : decode cX9_balances 293 = .ok (.iadd, 1) := by decide +kernel
theorem dX9_balances_294 : decode cX9_balances 294 = .ok (.imul, 1) := by decide +kernel
theorem dX9_balances_295 : decode cX9_balances 295 = .ok (.iconst 5, 1) := by decide +kernel
theorem dX9_balances_296 : decode cX9_balances 296 = .ok (.iadd, 1) := by decide +kernel
theorem dX9_balances_297 : decode cX9_balances 297 = .ok (.laload, 1) := by decide +kernel
theorem dX9_balances_298 : decode cX9_balances 298 = .ok (.aload_n 0, 1) := by decide +kernel
theorem dX9_balances_299 : decode cX9_balances 299 = .ok (.getfield 64, 3) := by decide +kernel
theorem dX9_balances_302 : decode cX9_balances 302 = .ok (.iload 6, 2) := by decide +kernel
theorem dX9_balances_304 : decode cX9_balances 304 = .ok (.laload, 1) := by decide +kernel
theorem dX9_balances_305 : decode cX9_balances 305 = .ok (.lmul, 1) := by decide +kernel
theorem dX9_balances_306 : decode cX9_balances 306 = .ok (.lstore 7, 2) := by decide +kernel
theorem dX9_balances_308 : decode cX9_balances 308 = .ok (.aload_n 0, 1) := by decide +kernel
theorem dX9_balances_309 : decode cX9_balances 309 = .ok (.getfield 58, 3) := by decide +kernel
theorem dX9_balances_312 : decode cX9_balances 312 = .ok (.bipush 6, 2) := by decide +kernel
theorem dX9_balances_314 : decode cX9_balances 314 = .ok (.iload_n 1, 1) := by decide +kernel
theorem dX9_balances_315 : decode cX9_balances 315 = .ok (.iload 6, 2) := by decide +kernel
theorem dX9_balances_317 : decode cX9_balances 317 = .ok (.iadd, 1) := by decide +kernel
theorem dX9_balances_318 : decode cX9_balances 318 = .ok (.imul, 1) := by decide +kernel
theorem dX9_balances_319 : decode cX9_balances 319 = .ok (.iconst 5, 1) := by decide +kernel
theorem dX9_balances_320 : decode cX9_balances 320 = .ok (.iadd, 1) := by decide +kernel
theorem dX9_balances_321 : decode cX9_balances 321 = .ok (.laload, 1) := by decide +kernel
theorem dX9_balances_322 : decode cX9_balances 322 = .ok (.aload_n 0, 1) := by decide +kernel
theorem dX9_balances_323 : decode cX9_balances 323 = .ok (.getfield 67, 3) := by decide +kernel
theorem dX9_balances_326 : decode cX9_balances 326 = .ok (.iload 6, 2) := by decide +kernel
theorem dX9_balances_328 : decode cX9_balances 328 = .ok (.laload, 1) := by decide +kernel
theorem dX9_balances_329 : decode cX9_balances 329 = .ok (.lmul, 1) := by decide +kernel
theorem dX9_balances_330 : decode cX9_balances 330 = .ok (.lstore 9, 2) := by decide +kernel
theorem dX9_balances_332 : decode cX9_balances 332 = .ok (.lload_n 2, 1) := by decide +kernel
theorem dX9_balances_333 : decode cX9_balances 333 = .ok (.lload 9, 2) := by decide +kernel
theorem dX9_balances_335 : decode cX9_balances 335 = .ok (.lmul, 1) := by decide +kernel
theorem dX9_balances_336 : decode cX9_balances 336 = .ok (.lload 7, 2) := by decide +kernel
theorem dX9_balances_338 : decode cX9_balances 338 = .ok (.lload 4, 2) := by decide +kernel
theorem dX9_balances_340 : decode cX9_balances 340 = .ok (.lmul, 1) := by decide +kernel
theorem dX9_balances_341 : decode cX9_balances 341 = .ok (.lsub, 1) := by decide +kernel
theorem dX9_balances_342 : decode cX9_balances 342 = .ok (.lstore_n 2, 1) := by decide +kernel
theorem dX9_balances_343 : decode cX9_balances 343 = .ok (.lload 4, 2) := by decide +kernel
theorem dX9_balances_345 : decode cX9_balances 345 = .ok (.lload 9, 2) := by decide +kernel
theorem dX9_balances_347 : decode cX9_balances 347 = .ok (.lmul, 1) := by decide +kernel
theorem dX9_balances_348 : decode cX9_balances 348 = .ok (.lstore 4, 2) := by decide +kernel
theorem dX9_balances_350 : decode cX9_balances 350 = .ok (.lload_n 2, 1) := by decide +kernel
theorem dX9_balances_351 : decode cX9_balances 351 = .ok (.lload 4, 2) := by decide +kernel
theorem dX9_balances_353 : decode cX9_balances 353 = .ok (.invokestatic 96, 3) := by decide +kernel
theorem dX9_balances_356 : decode cX9_balances 356 = .ok (.lstore 11, 2) := by decide +kernel
theorem dX9_balances_358 : decode cX9_balances 358 = .ok (.lload_n 2, 1) := by decide +kernel
theorem dX9_balances_359 : decode cX9_balances 359 = .ok (.lload 11, 2) := by decide +kernel
theorem dX9_balances_361 : decode cX9_balances 361 = .ok (.ldiv, 1) := by decide +kernel
theorem dX9_balances_362 : decode cX9_balances 362 = .ok (.lstore_n 2, 1) := by decide +kernel
theorem dX9_balances_363 : decode cX9_balances 363 = .ok (.lload 4, 2) := by decide +kernel
theorem dX9_balances_365 : decode cX9_balances 365 = .ok (.lload 11, 2) := by decide +kernel
theorem dX9_balances_367 : decode cX9_balances 367 = .ok (.ldiv, 1) := by decide +kernel
theorem dX9_balances_368 : decode cX9_balances 368 = .ok (.lstore 4, 2) := by decide +kernel
theorem dX9_balances_370 : decode cX9_balances 370 = .ok (.iinc 6 1, 3) := by decide +kernel
theorem dX9_balances_373 : decode cX9_balances 373 = .ok (.goto (-98), 3) := by decide +kernel
theorem dX9_balances_376 : decode cX9_balances 376 = .ok (.aload_n 0, 1) := by decide +kernel
theorem dX9_balances_377 : decode cX9_balances 377 = .ok (.lload_n 2, 1) := by decide +kernel
theorem dX9_balances_378 : decode cX9_balances 378 = .ok (.putfield 155, 3) := by decide +kernel
theorem dX9_balances_381 : decode cX9_balances 381 = .ok (.aload_n 0, 1) := by decide +kernel
theorem dX9_balances_382 : decode cX9_balances 382 = .ok (.lload 4, 2) := by decide +kernel
theorem dX9_balances_384 : decode cX9_balances 384 = .ok (.putfield 158, 3) := by decide +kernel
theorem dX9_balances_387 : decode cX9_balances 387 = .ok (.iconst 1, 1) := by decide +kernel
theorem dX9_balances_388 : decode cX9_balances 388 = .ok (.ireturn, 1) := by decide +kernel
theorem dX9_layStrain_0 : decode cX9_layStrain 0 = .ok (.aload_n 0, 1) := by decide +kernel
theorem dX9_layStrain_1 : decode cX9_layStrain 1 = .ok (.invokevirtual 161, 3) := by decide +kernel
theorem dX9_layStrain_4 : decode cX9_layStrain 4 = .ok (.aload_n 0, 1) := by decide +kernel
theorem dX9_layStrain_5 : decode cX9_layStrain 5 = .ok (.getfield 7, 3) := by decide +kernel
theorem dX9_layStrain_8 : decode cX9_layStrain 8 = .ok (.aload_n 0, 1) := by decide +kernel
theorem dX9_layStrain_9 : decode cX9_layStrain 9 = .ok (.getfield 138, 3) := by decide +kernel
theorem dX9_layStrain_12 : decode cX9_layStrain 12 = .ok (.isub, 1) := by decide +kernel
theorem dX9_layStrain_13 : decode cX9_layStrain 13 = .ok (.iconst 1, 1) := by decide +kernel
theorem dX9_layStrain_14 : decode cX9_layStrain 14 = .ok (.iadd, 1) := by decide +kernel
theorem dX9_layStrain_15 : decode cX9_layStrain 15 = .ok (.istore_n 1, 1) := by decide +kernel
theorem dX9_layStrain_16 : decode cX9_layStrain 16 = .ok (.aload_n 0, 1) := by decide +kernel
theorem dX9_layStrain_17 : decode cX9_layStrain 17 = .ok (.iconst 0, 1) := by decide +kernel
theorem dX9_layStrain_18 : decode cX9_layStrain 18 = .ok (.putfield 164, 3) := by decide +kernel
theorem dX9_layStrain_21 : decode cX9_layStrain 21 = .ok (.iconst 0, 1) := by decide +kernel
theorem dX9_layStrain_22 : decode cX9_layStrain 22 = .ok (.istore_n 2, 1) := by decide +kernel
theorem dX9_layStrain_23 : decode cX9_layStrain 23 = .ok (.iload_n 2, 1) := by decide +kernel
theorem dX9_layStrain_24 : decode cX9_layStrain 24 = .ok (.iload_n 1, 1) := by decide +kernel
theorem dX9_layStrain_25 : decode cX9_layStrain 25 = .ok (.if_icmp .ge 16, 3) := by decide +kernel
theorem dX9_layStrain_28 : decode cX9_layStrain 28 = .ok (.aload_n 0, 1) := by decide +kernel
theorem dX9_layStrain_29 : decode cX9_layStrain 29 = .ok (.getfield 76, 3) := by decide +kernel
theorem dX9_layStrain_32 : decode cX9_layStrain 32 = .ok (.iload_n 2, 1) := by decide +kernel
theorem dX9_layStrain_33 : decode cX9_layStrain 33 = .ok (.iload_n 2, 1) := by decide +kernel
theorem dX9_layStrain_34 : decode cX9_layStrain 34 = .ok (.iastore, 1) := by decide +kernel
theorem dX9_layStrain_35 : decode cX9_layStrain 35 = .ok (.iinc 2 1, 3) := by decide +kernel
theorem dX9_layStrain_38 : decode cX9_layStrain 38 = .ok (.goto (-15), 3) := by decide +kernel
theorem dX9_layStrain_41 : decode cX9_layStrain 41 = .ok (.aload_n 0, 1) := by decide +kernel
theorem dX9_layStrain_42 : decode cX9_layStrain 42 = .ok (.getfield 141, 3) := by decide +kernel
theorem dX9_layStrain_45 : decode cX9_layStrain 45 = .ok (.iload_n 1, 1) := by decide +kernel
theorem dX9_layStrain_46 : decode cX9_layStrain 46 = .ok (.if_icmp .lt 7, 3) := by decide +kernel
theorem dX9_layStrain_49 : decode cX9_layStrain 49 = .ok (.iconst 1, 1) := by decide +kernel
theorem dX9_layStrain_50 : decode cX9_layStrain 50 = .ok (.goto 4, 3) := by decide +kernel
theorem dX9_layStrain_53 : decode cX9_layStrain 53 = .ok (.iconst 0, 1) := by decide +kernel
theorem dX9_layStrain_54 : decode cX9_layStrain 54 = .ok (.istore_n 2, 1) := by decide +kernel
theorem dX9_layStrain_55 : decode cX9_layStrain 55 = .ok (.iload_n 2, 1) := by decide +kernel
theorem dX9_layStrain_56 : decode cX9_layStrain 56 = .ok (.ifCond .eq 213, 3) := by decide +kernel
theorem dX9_layStrain_59 : decode cX9_layStrain 59 = .ok (.aload_n 0, 1) := by decide +kernel
theorem dX9_layStrain_60 : decode cX9_layStrain 60 = .ok (.iload_n 1, 1) := by decide +kernel
theorem dX9_layStrain_61 : decode cX9_layStrain 61 = .ok (.invokevirtual 167, 3) := by decide +kernel
theorem dX9_layStrain_64 : decode cX9_layStrain 64 = .ok (.ifCond .eq 112, 3) := by decide +kernel
theorem dX9_layStrain_67 : decode cX9_layStrain 67 = .ok (.aload_n 0, 1) := by decide +kernel
theorem dX9_layStrain_68 : decode cX9_layStrain 68 = .ok (.getfield 164, 3) := by decide +kernel
theorem dX9_layStrain_71 : decode cX9_layStrain 71 = .ok (.ifCond .eq 25, 3) := by decide +kernel
theorem dX9_layStrain_74 : decode cX9_layStrain 74 = .ok (.aload_n 0, 1) := by decide +kernel
theorem dX9_layStrain_75 : decode cX9_layStrain 75 = .ok (.getfield 155, 3) := by decide +kernel
theorem dX9_layStrain_78 : decode cX9_layStrain 78 = .ok (.aload_n 0, 1) := by decide +kernel
theorem dX9_layStrain_79 : decode cX9_layStrain 79 = .ok (.getfield 170, 3) := by decide +kernel
theorem dX9_layStrain_82 : decode cX9_layStrain 82 = .ok (.lmul, 1) := by decide +kernel
theorem dX9_layStrain_83 : decode cX9_layStrain 83 = .ok (.aload_n 0, 1) := by decide +kernel
theorem dX9_layStrain_84 : decode cX9_layStrain 84 = .ok (.getfield 173, 3) := by decide +kernel
theorem dX9_layStrain_87 : decode cX9_layStrain 87 = .ok (.aload_n 0, 1) := by decide +kernel
theorem dX9_layStrain_88 : decode cX9_layStrain 88 = .ok (.getfield 158, 3) := by decide +kernel
theorem dX9_layStrain_91 : decode cX9_layStrain 91 = .ok (.lmul, 1) := by decide +kernel
theorem dX9_layStrain_92 : decode cX9_layStrain 92 = .ok (.lcmp, 1) := by decide +kernel
theorem dX9_layStrain_93 : decode cX9_layStrain 93 = .ok (.ifCond .le 83, 3) := by decide +kernel
theorem dX9_layStrain_96 : decode cX9_layStrain 96 = .ok (.aload_n 0, 1) := by decide +kernel
theorem dX9_layStrain_97 : decode cX9_layStrain 97 = .ok (.aload_n 0, 1) := by decide +kernel
theorem dX9_layStrain_98 : decode cX9_layStrain 98 = .ok (.getfield 155, 3) := by decide +kernel
theorem dX9_layStrain_101 : decode cX9_layStrain 101 = .ok (.putfield 173, 3) := by decide +kernel
theorem dX9_layStrain_104 : decode cX9_layStrain 104 = .ok (.aload_n 0, 1) := by decide +kernel
theorem dX9_layStrain_105 : decode cX9_layStrain 105 = .ok (.aload_n 0, 1) := by decide +kernel
theorem dX9_layStrain_106 : decode cX9_layStrain 106 = .ok (.getfield 158, 3) := by decide +kernel
theorem dX9_layStrain_109 : decode cX9_layStrain 109 = .ok (.putfield 170, 3) := by decide +kernel
theorem dX9_layStrain_112 : decode cX9_layStrain 112 = .ok (.aload_n 0, 1) := by decide +kernel
theorem dX9_layStrain_113 : decode cX9_layStrain 113 = .ok (.iconst 0, 1) := by decide +kernel
theorem dX9_layStrain_114 : decode cX9_layStrain 114 = .ok (.putfield 164, 3) := by decide +kernel
theorem dX9_layStrain_117 : decode cX9_layStrain 117 = .ok (.iconst 0, 1) := by decide +kernel
theorem dX9_layStrain_118 : decode cX9_layStrain 118 = .ok (.istore_n 3, 1) := by decide +kernel
theorem dX9_layStrain_119 : decode cX9_layStrain 119 = .ok (.iload_n 3, 1) := by decide +kernel
theorem dX9_layStrain_120 : decode cX9_layStrain 120 = .ok (.iload_n 1, 1) := by decide +kernel
theorem dX9_layStrain_121 : decode cX9_layStrain 121 = .ok (.if_icmp .ge 55, 3) := by decide +kernel
theorem dX9_layStrain_124 : decode cX9_layStrain 124 = .ok (.aload_n 0, 1) := by decide +kernel
theorem dX9_layStrain_125 : decode cX9_layStrain 125 = .ok (.getfield 54, 3) := by decide +kernel
theorem dX9_layStrain_128 : decode cX9_layStrain 128 = .ok (.bipush 6, 2) := by decide +kernel
theorem dX9_layStrain_130 : decode cX9_layStrain 130 = .ok (.iload_n 3, 1) := by decide +kernel
theorem dX9_layStrain_131 : decode cX9_layStrain 131 = .ok (.imul, 1) := by decide +kernel
theorem dX9_layStrain_132 : decode cX9_layStrain 132 = .ok (.iconst 5, 1) := by decide +kernel
theorem dX9_layStrain_133 : decode cX9_layStrain 133 = .ok (.iadd, 1) := by decide +kernel
theorem dX9_layStrain_134 : decode cX9_layStrain 134 = .ok (.laload, 1) := by decide +kernel
theorem dX9_layStrain_135 : decode cX9_layStrain 135 = .ok (.lconst 0, 1) := by decide +kernel
theorem dX9_layStrain_136 : decode cX9_layStrain 136 = .ok (.lcmp, 1) := by decide +kernel
theorem dX9_layStrain_137 : decode cX9_layStrain 137 = .ok (.ifCond .le 33, 3) := by decide +kernel
theorem dX9_layStrain_140 : decode cX9_layStrain 140 = .ok (.aload_n 0, 1) := by decide +kernel
theorem dX9_layStrain_141 : decode cX9_layStrain 141 = .ok (.getfield 79, 3) := by decide +kernel
theorem dX9_layStrain_144 : decode cX9_layStrain 144 = .ok (.aload_n 0, 1) := by decide +kernel
theorem dX9_layStrain_145 : decode cX9_layStrain 145 = .ok (.getfield 164, 3) := by decide +kernel
theorem dX9_layStrain_148 : decode cX9_layStrain 148 = .ok (.aload_n 0, 1) := by decide +kernel
theorem dX9_layStrain_149 : decode cX9_layStrain 149 = .ok (.getfield 73, 3) := by decide +kernel
theorem dX9_layStrain_152 : decode cX9_layStrain 152 = .ok (.aload_n 0, 1) := by decide +kernel
theorem dX9_layStrain_153 : decode cX9_layStrain 153 = .ok (.getfield 76, 3) := by decide +kernel
theorem dX9_layStrain_156 : decode cX9_layStrain 156 = .ok (.iload_n 3, 1) := by decide +kernel
theorem dX9_layStrain_157 : decode cX9_layStrain 157 = .ok (.iaload, 1) := by decide +kernel
theorem dX9_layStrain_158 : decode cX9_layStrain 158 = .ok (.iaload, 1) := by decide +kernel
theorem dX9_layStrain_159 : decode cX9_layStrain 159 = .ok (.iastore, 1) := by decide +kernel
theorem dX9_layStrain_160 : decode cX9_layStrain 160 = .ok (.aload_n 0, 1) := by decide +kernel
theorem dX9_layStrain_161 : decode cX9_layStrain 161 = .ok (.dup, 1) := by decide +kernel
theorem dX9_layStrain_162 : decode cX9_layStrain 162 = .ok (.getfield 164, 3) := by decide +kernel
theorem dX9_layStrain_165 : decode cX9_layStrain 165 = .ok (.iconst 1, 1) := by decide +kernel
theorem dX9_layStrain_166 : decode cX9_layStrain 166 = .ok (.iadd, 1) := by decide +kernel
theorem dX9_layStrain_167 : decode cX9_layStrain 167 = .ok (.putfield 164, 3) := by decide +kernel
theorem dX9_layStrain_170 : decode cX9_layStrain 170 = .ok (.iinc 3 1, 3) := by decide +kernel
theorem dX9_layStrain_173 : decode cX9_layStrain 173 = .ok (.goto (-54), 3) := by decide +kernel
theorem dX9_layStrain_176 : decode cX9_layStrain 176 = .ok (.iload_n 1, 1) := by decide +kernel
theorem dX9_layStrain_177 : decode cX9_layStrain 177 = .ok (.iconst 1, 1) := by decide +kernel
theorem dX9_layStrain_178 : decode cX9_layStrain 178 = .ok (.isub, 1) := by decide +kernel
theorem dX9_layStrain_179 : decode cX9_layStrain 179 = .ok (.istore_n 3, 1) := by decide +kernel
theorem dX9_layStrain_180 : decode cX9_layStrain 180 = .ok (.iload_n 3, 1) := by decide +kernel
theorem dX9_layStrain_181 : decode cX9_layStrain 181 = .ok (.ifCond .lt 26, 3) := by decide +kernel
theorem dX9_layStrain_184 : decode cX9_layStrain 184 = .ok (.aload_n 0, 1) := by decide +kernel
theorem dX9_layStrain_185 : decode cX9_layStrain 185 = .ok (.getfield 76, 3) := by decide +kernel
theorem dX9_layStrain_188 : decode cX9_layStrain 188 = .ok (.iload_n 3, 1) := by decide +kernel
theorem dX9_layStrain_189 : decode cX9_layStrain 189 = .ok (.iaload, 1) := by decide +kernel
theorem dX9_layStrain_190 : decode cX9_layStrain 190 = .ok (.aload_n 0, 1) := by decide +kernel
theorem dX9_layStrain_191 : decode cX9_layStrain 191 = .ok (.getfield 141, 3) := by decide +kernel
theorem dX9_layStrain_194 : decode cX9_layStrain 194 = .ok (.iload_n 1, 1) := by decide +kernel
theorem dX9_layStrain_195 : decode cX9_layStrain 195 = .ok (.isub, 1) := by decide +kernel
theorem dX9_layStrain_196 : decode cX9_layStrain 196 = .ok (.iload_n 3, 1) := by decide +kernel
theorem dX9_layStrain_197 : decode cX9_layStrain 197 = .ok (.iadd, 1) := by decide +kernel
theorem dX9_layStrain_198 : decode cX9_layStrain 198 = .ok (.if_icmp .ne 9, 3) := by decide +kernel
theorem dX9_layStrain_201 : decode cX9_layStrain 201 = .ok (.iinc 3 (-1), 3) := by decide +kernel
theorem dX9_layStrain_204 : decode cX9_layStrain 204 = .ok (.goto (-24), 3) := by decide +kernel
theorem dX9_layStrain_207 : decode cX9_layStrain 207 = .ok (.iload_n 3, 1) := by decide +kernel
theorem dX9_layStrain_208 : decode cX9_layStrain 208 = .ok (.ifCond .lt 7, 3) := by decide +kernel
theorem dX9_layStrain_211 : decode cX9_layStrain 211 = .ok (.iconst 1, 1) := by decide +kernel
theorem dX9_layStrain_212 : decode cX9_layStrain 212 = .ok (.goto 4, 3) := by decide +kernel
theorem dX9_layStrain_215 : decode cX9_layStrain 215 = .ok (.iconst 0, 1) := by decide +kernel
theorem dX9_layStrain_216 : decode cX9_layStrain 216 = .ok (.istore_n 2, 1) := by decide +kernel
theorem dX9_layStrain_217 : decode cX9_layStrain 217 = .ok (.iload_n 2, 1) := by decide +kernel
theorem dX9_layStrain_218 : decode cX9_layStrain 218 = .ok (.ifCond .eq 48, 3) := by decide +kernel
theorem dX9_layStrain_221 : decode cX9_layStrain 221 = .ok (.aload_n 0, 1) := by decide +kernel
theorem dX9_layStrain_222 : decode cX9_layStrain 222 = .ok (.getfield 76, 3) := by decide +kernel
theorem dX9_layStrain_225 : decode cX9_layStrain 225 = .ok (.iload_n 3, 1) := by decide +kernel
theorem dX9_layStrain_226 : decode cX9_layStrain 226 = .ok (.dup2, 1) := by decide +kernel
theorem dX9_layStrain_227 : decode cX9_layStrain 227 = .ok (.iaload, 1) := by decide +kernel
theorem dX9_layStrain_228 : decode cX9_layStrain 228 = .ok (.iconst 1, 1) := by decide +kernel
theorem dX9_layStrain_229 : decode cX9_layStrain 229 = .ok (.iadd, 1) := by decide +kernel
theorem dX9_layStrain_230 : decode cX9_layStrain 230 = .ok (.iastore, 1) := by decide +kernel
theorem dX9_layStrain_231 : decode cX9_layStrain 231 = .ok (.iload_n 3, 1) := by decide +kernel
theorem dX9_layStrain_232 : decode cX9_layStrain 232 = .ok (.iconst 1, 1) := by decide +kernel
theorem dX9_layStrain_233 : decode cX9_layStrain 233 = .ok (.iadd, 1) := by decide +kernel
theorem dX9_layStrain_234 : decode cX9_layStrain 234 = .ok (.istore 4, 2) := by decide +kernel
theorem dX9_layStrain_236 : decode cX9_layStrain 236 = .ok (.iload 4, 2) := by decide +kernel
theorem dX9_layStrain_238 : decode cX9_layStrain 238 = .ok (.iload_n 1, 1) := by decide +kernel
theorem dX9_layStrain_239 : decode cX9_layStrain 239 = .ok (.if_icmp .ge 27, 3) := by decide +kernel
theorem dX9_layStrain_242 : decode cX9_layStrain 242 = .ok (.aload_n 0, 1) := by decide +kernel
theorem dX9_layStrain_243 : decode cX9_layStrain 243 = .ok (.getfield 76, 3) := by decide +kernel
theorem dX9_layStrain_246 : decode cX9_layStrain 246 = .ok (.iload 4, 2) := by decide +kernel
theorem dX9_layStrain_248 : decode cX9_layStrain 248 = .ok (.aload_n 0, 1) := by decide +kernel
theorem dX9_layStrain_249 : decode cX9_layStrain 249 = .ok (.getfield 76, 3) := by decide +kernel
theorem dX9_layStrain_252 : decode cX9_layStrain 252 = .ok (.iload 4, 2) := by decide +kernel
theorem dX9_layStrain_254 : decode cX9_layStrain 254 = .ok (.iconst 1, 1) := by decide +kernel
theorem dX9_layStrain_255 : decode cX9_layStrain 255 = .ok (.isub, 1) := by decide +kernel
theorem dX9_layStrain_256 : decode cX9_layStrain 256 = .ok (.iaload, 1) := by decide +kernel
theorem dX9_layStrain_257 : decode cX9_layStrain 257 = .ok (.iconst 1, 1) := by decide +kernel
theorem dX9_layStrain_258 : decode cX9_layStrain 258 = .ok (.iadd, 1) := by decide +kernel
theorem dX9_layStrain_259 : decode cX9_layStrain 259 = .ok (.iastore, 1) := by decide +kernel
theorem dX9_layStrain_260 : decode cX9_layStrain 260 = .ok (.iinc 4 1, 3) := by decide +kernel
theorem dX9_layStrain_263 : decode cX9_layStrain 263 = .ok (.goto (-27), 3) := by decide +kernel
theorem dX9_layStrain_266 : decode cX9_layStrain 266 = .ok (.goto (-211), 3) := by decide +kernel
theorem dX9_layStrain_269 : decode cX9_layStrain 269 = .ok (.return_, 1) := by decide +kernel
theorem dX9_beginShares_0 : decode cX9_beginShares 0 = .ok (.aload_n 0, 1) := by decide +kernel
theorem dX9_beginShares_1 : decode cX9_beginShares 1 = .ok (.iconst 0, 1) := by decide +kernel
theorem dX9_beginShares_2 : decode cX9_beginShares 2 = .ok (.putfield 138, 3) := by decide +kernel
theorem dX9_beginShares_5 : decode cX9_beginShares 5 = .ok (.aload_n 0, 1) := by decide +kernel
theorem dX9_beginShares_6 : decode cX9_beginShares 6 = .ok (.aload_n 0, 1) := by decide +kernel
theorem dX9_beginShares_7 : decode cX9_beginShares 7 = .ok (.invokevirtual 88, 3) := by decide +kernel
theorem dX9_beginShares_10 : decode cX9_beginShares 10 = .ok (.aload_n 0, 1) := by decide +kernel
theorem dX9_beginShares_11 : decode cX9_beginShares 11 = .ok (.getfield 13, 3) := by decide +kernel
theorem dX9_beginShares_14 : decode cX9_beginShares 14 = .ok (.aload_n 0, 1) := by decide +kernel
theorem dX9_beginShares_15 : decode cX9_beginShares 15 = .ok (.invokevirtual 88, 3) := by decide +kernel
theorem dX9_beginShares_18 : decode cX9_beginShares 18 = .ok (.iaload, 1) := by decide +kernel
theorem dX9_beginShares_19 : decode cX9_beginShares 19 = .ok (.i2l, 1) := by decide +kernel
theorem dX9_beginShares_20 : decode cX9_beginShares 20 = .ok (.lconst 1, 1) := by decide +kernel
theorem dX9_beginShares_21 : decode cX9_beginShares 21 = .ok (.invokevirtual 176, 3) := by decide +kernel
theorem dX9_beginShares_24 : decode cX9_beginShares 24 = .ok (.return_, 1) := by decide +kernel
theorem dX9_layPay_0 : decode cX9_layPay 0 = .ok (.aload_n 0, 1) := by decide +kernel
theorem dX9_layPay_1 : decode cX9_layPay 1 = .ok (.lconst 0, 1) := by decide +kernel
theorem dX9_layPay_2 : decode cX9_layPay 2 = .ok (.putfield 173, 3) := by decide +kernel
theorem dX9_layPay_5 : decode cX9_layPay 5 = .ok (.aload_n 0, 1) := by decide +kernel
theorem dX9_layPay_6 : decode cX9_layPay 6 = .ok (.lconst 0, 1) := by decide +kernel
theorem dX9_layPay_7 : decode cX9_layPay 7 = .ok (.putfield 170, 3) := by decide +kernel
theorem dX9_layPay_10 : decode cX9_layPay 10 = .ok (.aload_n 0, 1) := by decide +kernel
theorem dX9_layPay_11 : decode cX9_layPay 11 = .ok (.invokevirtual 88, 3) := by decide +kernel
theorem dX9_layPay_14 : decode cX9_layPay 14 = .ok (.istore_n 1, 1) := by decide +kernel
theorem dX9_layPay_15 : decode cX9_layPay 15 = .ok (.iconst 0, 1) := by decide +kernel
theorem dX9_layPay_16 : decode cX9_layPay 16 = .ok (.istore_n 2, 1) := by decide +kernel
theorem dX9_layPay_17 : decode cX9_layPay 17 = .ok (.iload_n 2, 1) := by decide +kernel
theorem dX9_layPay_18 : decode cX9_layPay 18 = .ok (.aload_n 0, 1) := by decide +kernel
theorem dX9_layPay_19 : decode cX9_layPay 19 = .ok (.getfield 7, 3) := by decide +kernel
theorem dX9_layPay_22 : decode cX9_layPay 22 = .ok (.if_icmp .ge 18, 3) := by decide +kernel
theorem dX9_layPay_25 : decode cX9_layPay 25 = .ok (.aload_n 0, 1) := by decide +kernel
theorem dX9_layPay_26 : decode cX9_layPay 26 = .ok (.getfield 76, 3) := by decide +kernel
theorem dX9_layPay_29 : decode cX9_layPay 29 = .ok (.iload_n 2, 1) := by decide +kernel
theorem dX9_layPay_30 : decode cX9_layPay 30 = .ok (.iload_n 2, 1) := by decide +kernel
theorem dX9_layPay_31 : decode cX9_layPay 31 = .ok (.iconst 1, 1) := by decide +kernel
theorem dX9_layPay_32 : decode cX9_layPay 32 = .ok (.iadd, 1) := by decide +kernel
theorem dX9_layPay_33 : decode cX9_layPay 33 = .ok (.iastore, 1) := by decide +kernel
theorem dX9_layPay_34 : decode cX9_layPay 34 = .ok (.iinc 2 1, 3) := by decide +kernel
theorem dX9_layPay_37 : decode cX9_layPay 37 = .ok (.goto (-20), 3) := by decide +kernel
theorem dX9_layPay_40 : decode cX9_layPay 40 = .ok (.iconst 1, 1) := by decide +kernel
theorem dX9_layPay_41 : decode cX9_layPay 41 = .ok (.istore_n 2, 1) := by decide +kernel
theorem dX9_layPay_42 : decode cX9_layPay 42 = .ok (.iload_n 2, 1) := by decide +kernel
theorem dX9_layPay_43 : decode cX9_layPay 43 = .ok (.ifCond .eq 354, 3) := by decide +kernel
theorem dX9_layPay_46 : decode cX9_layPay 46 = .ok (.aload_n 0, 1) := by decide +kernel
theorem dX9_layPay_47 : decode cX9_layPay 47 = .ok (.invokevirtual 147, 3) := by decide +kernel
theorem dX9_layPay_50 : decode cX9_layPay 50 = .ok (.iconst 0, 1) := by decide +kernel
theorem dX9_layPay_51 : decode cX9_layPay 51 = .ok (.istore_n 3, 1) := by decide +kernel
theorem dX9_layPay_52 : decode cX9_layPay 52 = .ok (.iload_n 3, 1) := by decide +kernel
theorem dX9_layPay_53 : decode cX9_layPay 53 = .ok (.aload_n 0, 1) := by decide +kernel
theorem dX9_layPay_54 : decode cX9_layPay 54 = .ok (.getfield 7, 3) := by decide +kernel
theorem dX9_layPay_57 : decode cX9_layPay 57 = .ok (.if_icmp .ge 62, 3) := by decide +kernel
theorem dX9_layPay_60 : decode cX9_layPay 60 = .ok (.iconst 0, 1) := by decide +kernel
theorem dX9_layPay_61 : decode cX9_layPay 61 = .ok (.istore 4, 2) := by decide +kernel
theorem dX9_layPay_63 : decode cX9_layPay 63 = .ok (.iload 4, 2) := by decide +kernel
theorem dX9_layPay_65 : decode cX9_layPay 65 = .ok (.aload_n 0, 1) := by decide +kernel
theorem dX9_layPay_66 : decode cX9_layPay 66 = .ok (.getfield 7, 3) := by decide +kernel
theorem dX9_layPay_69 : decode cX9_layPay 69 = .ok (.if_icmp .ge 36, 3) := by decide +kernel
theorem dX9_layPay_72 : decode cX9_layPay 72 = .ok (.aload_n 0, 1) := by decide +kernel
theorem dX9_layPay_73 : decode cX9_layPay 73 = .ok (.iload_n 3, 1) := by decide +kernel
theorem dX9_layPay_74 : decode cX9_layPay 74 = .ok (.iload 4, 2) := by decide +kernel
theorem dX9_layPay_76 : decode cX9_layPay 76 = .ok (.aload_n 0, 1) := by decide +kernel
theorem dX9_layPay_77 : decode cX9_layPay 77 = .ok (.getfield 76, 3) := by decide +kernel
theorem dX9_layPay_80 : decode cX9_layPay 80 = .ok (.iload 4, 2) := by decide +kernel
theorem dX9_layPay_82 : decode cX9_layPay 82 = .ok (.iaload, 1) := by decide +kernel
theorem dX9_layPay_83 : decode cX9_layPay 83 = .ok (.iload_n 3, 1) := by decide +kernel
theorem dX9_layPay_84 : decode cX9_layPay 84 = .ok (.invokestatic 121, 3) := by decide +kernel
theorem dX9_layPay_87 : decode cX9_layPay 87 = .ok (.ifCond .eq 7, 3) := by decide +kernel
theorem dX9_layPay_90 : decode cX9_layPay 90 = .ok (.lconst 1, 1) := by decide +kernel
theorem dX9_layPay_91 : decode cX9_layPay 91 = .ok (.goto 4, 3) := by decide +kernel
theorem dX9_layPay_94 : decode cX9_layPay 94 = .ok (.lconst 0, 1) := by decide +kernel
theorem dX9_layPay_95 : decode cX9_layPay 95 = .ok (.lconst 1, 1) := by decide +kernel
theorem dX9_layPay_96 : decode cX9_layPay 96 = .ok (.invokevirtual 134, 3) := by decide +kernel
theorem dX9_layPay_99 : decode cX9_layPay 99 = .ok (.iinc 4 1, 3) := by decide +kernel
theorem dX9_layPay_102 : decode cX9_layPay 102 = .ok (.goto (-39), 3) := by decide +kernel
theorem dX9_layPay_105 : decode cX9_layPay 105 = .ok (.aload_n 0, 1) := by decide +kernel
theorem dX9_layPay_106 : decode cX9_layPay 106 = .ok (.iload_n 3, 1) := by decide +kernel
theorem dX9_layPay_107 : decode cX9_layPay 107 = .ok (.iconst 5, 1) := by decide +kernel
theorem dX9_layPay_108 : decode cX9_layPay 108 = .ok (.lconst 1, 1) := by decide +kernel
theorem dX9_layPay_109 : decode cX9_layPay 109 = .ok (.lconst 1, 1) := by decide +kernel
theorem dX9_layPay_110 : decode cX9_layPay 110 = .ok (.invokevirtual 134, 3) := by decide +kernel
theorem dX9_layPay_113 : decode cX9_layPay 113 = .ok (.iinc 3 1, 3) := by decide +kernel
theorem dX9_layPay_116 : decode cX9_layPay 116 = .ok (.goto (-64), 3) := by decide +kernel
theorem dX9_layPay_119 : decode cX9_layPay 119 = .ok (.aload_n 0, 1) := by decide +kernel
theorem dX9_layPay_120 : decode cX9_layPay 120 = .ok (.aload_n 0, 1) := by decide +kernel
theorem dX9_layPay_121 : decode cX9_layPay 121 = .ok (.getfield 7, 3) := by decide +kernel
theorem dX9_layPay_124 : decode cX9_layPay 124 = .ok (.invokevirtual 152, 3) := by decide +kernel
theorem dX9_layPay_127 : decode cX9_layPay 127 = .ok (.istore_n 3, 1) := by decide +kernel
theorem dX9_layPay_128 : decode cX9_layPay 128 = .ok (.lconst 0, 1) := by decide +kernel
theorem dX9_layPay_129 : decode cX9_layPay 129 = .ok (.lstore 4, 2) := by decide +kernel
theorem dX9_layPay_131 : decode cX9_layPay 131 = .ok (.lconst 1, 1) := by decide +kernel
theorem dX9_layPay_132 : decode cX9_layPay 132 = .ok (.lstore 6, 2) := by decide +kernel
theorem dX9_layPay_134 : decode cX9_layPay 134 = .ok (.iconst 0, 1) := by decide +kernel
theorem dX9_layPay_135 : decode cX9_layPay 135 = .ok (.istore 8, 2) := by decide +kernel
theorem dX9_layPay_137 : decode cX9_layPay 137 = .ok (.iload 8, 2) := by decide +kernel
theorem dX9_layPay_139 : decode cX9_layPay 139 = .ok (.aload_n 0, 1) := by decide +kernel
theorem dX9_layPay_140 : decode cX9_layPay 140 = .ok (.getfield 7, 3) := by decide +kernel
theorem dX9_layPay_143 : decode cX9_layPay 143 = .ok (.if_icmp .ge 88, 3) := by decide +kernel
theorem dX9_layPay_146 : decode cX9_layPay 146 = .ok (.iload_n 3, 1) := by decide +kernel
theorem dX9_layPay_147 : decode cX9_layPay 147 = .ok (.ifCond .eq 84, 3) := by decide +kernel
theorem dX9_layPay_150 : decode cX9_layPay 150 = .ok (.aload_n 0, 1) := by decide +kernel
theorem dX9_layPay_151 : decode cX9_layPay 151 = .ok (.getfield 54, 3) := by decide +kernel
theorem dX9_layPay_154 : decode cX9_layPay 154 = .ok (.bipush 6, 2) := by decide +kernel
theorem dX9_layPay_156 : decode cX9_layPay 156 = .ok (.iload 8, 2) := by decide +kernel
theorem dX9_layPay_158 : decode cX9_layPay 158 = .ok (.imul, 1) := by decide +kernel
theorem dX9_layPay_159 : decode cX9_layPay 159 = .ok (.iconst 5, 1) := by decide +kernel
theorem dX9_layPay_160 : decode cX9_layPay 160 = .ok (.iadd, 1) := by decide +kernel
theorem dX9_layPay_161 : decode cX9_layPay 161 = .ok (.laload, 1) := by decide +kernel
theorem dX9_layPay_162 : decode cX9_layPay 162 = .ok (.lstore 9, 2) := by decide +kernel
theorem dX9_layPay_164 : decode cX9_layPay 164 = .ok (.aload_n 0, 1) := by decide +kernel
theorem dX9_layPay_165 : decode cX9_layPay 165 = .ok (.getfield 58, 3) := by decide +kernel
theorem dX9_layPay_168 : decode cX9_layPay 168 = .ok (.bipush 6, 2) := by decide +kernel
theorem dX9_layPay_170 : decode cX9_layPay 170 = .ok (.iload 8, 2) := by decide +kernel
theorem dX9_layPay_172 : decode cX9_layPay 172 = .ok (.imul, 1) := by decide +kernel
theorem dX9_layPay_173 : decode cX9_layPay 173 = .ok (.iconst 5, 1) := by decide +kernel
theorem dX9_layPay_174 : decode cX9_layPay 174 = .ok (.iadd, 1) := by decide +kernel
theorem dX9_layPay_175 : decode cX9_layPay 175 = .ok (.laload, 1) := by decide +kernel
theorem dX9_layPay_176 : decode cX9_layPay 176 = .ok (.lstore 11, 2) := by decide +kernel
theorem dX9_layPay_178 : decode cX9_layPay 178 = .ok (.lload 9, 2) := by decide +kernel
theorem dX9_layPay_180 : decode cX9_layPay 180 = .ok (.lconst 0, 1) := by decide +kernel
theorem dX9_layPay_181 : decode cX9_layPay 181 = .ok (.lcmp, 1) := by decide +kernel
theorem dX9_layPay_182 : decode cX9_layPay 182 = .ok (.ifCond .lt 7, 3) := by decide +kernel
theorem dX9_layPay_185 : decode cX9_layPay 185 = .ok (.iconst 1, 1) := by decide +kernel
theorem dX9_layPay_186 : decode cX9_layPay 186 = .ok (.goto 4, 3) := by decide +kernel
theorem dX9_layPay_189 : decode cX9_layPay 189 = .ok (.iconst 0, 1) := by decide +kernel
theorem dX9_layPay_190 : decode cX9_layPay 190 = .ok (.istore_n 3, 1) := by decide +kernel
theorem dX9_layPay_191 : decode cX9_layPay 191 = .ok (.lload 4, 2) := by decide +kernel
theorem dX9_layPay_193 : decode cX9_layPay 193 = .ok (.lload 11, 2) := by decide +kernel
theorem dX9_layPay_195 : decode cX9_layPay 195 = .ok (.lmul, 1) := by decide +kernel
theorem dX9_layPay_196 : decode cX9_layPay 196 = .ok (.aload_n 0, 1) := by decide +kernel
theorem dX9_layPay_197 : decode cX9_layPay 197 = .ok (.getfield 13, 3) := by decide +kernel
theorem dX9_layPay_200 : decode cX9_layPay 200 = .ok (.aload_n 0, 1) := by decide +kernel
theorem dX9_layPay_201 : decode cX9_layPay 201 = .ok (.getfield 76, 3) := by decide +kernel
theorem dX9_layPay_204 : decode cX9_layPay 204 = .ok (.iload 8, 2) := by decide +kernel
theorem dX9_layPay_206 : decode cX9_layPay 206 = .ok (.iaload, 1) := by decide +kernel
theorem dX9_layPay_207 : decode cX9_layPay 207 = .ok (.iaload, 1) := by decide +kernel
theorem dX9_layPay_208 : decode cX9_layPay 208 = .ok (.i2l, 1) := by decide +kernel
theorem dX9_layPay_209 : decode cX9_layPay 209 = .ok (.lload 9, 2) := by decide +kernel
theorem dX9_layPay_211 : decode cX9_layPay 211 = .ok (.lmul, 1) := by decide +kernel
theorem dX9_layPay_212 : decode cX9_layPay 212 = .ok (.lload 6, 2) := by decide +kernel
theorem dX9_layPay_214 : decode cX9_layPay 214 = .ok (.lmul, 1) := by decide +kernel
theorem dX9_layPay_215 : decode cX9_layPay 215 = .ok (.ladd, 1) := by decide +kernel
theorem dX9_layPay_216 : decode cX9_layPay 216 = .ok (.lstore 4, 2) := by decide +kernel
theorem dX9_layPay_218 : decode cX9_layPay 218 = .ok (.lload 6, 2) := by decide +kernel
theorem dX9_layPay_220 : decode cX9_layPay 220 = .ok (.lload 11, 2) := by decide +kernel
theorem dX9_layPay_222 : decode cX9_layPay 222 = .ok (.lmul, 1) := by decide +kernel
theorem dX9_layPay_223 : decode cX9_layPay 223 = .ok (.lstore 6, 2) := by decide +kernel
theorem dX9_layPay_225 : decode cX9_layPay 225 = .ok (.iinc 8 1, 3) := by decide +kernel
theorem dX9_layPay_228 : decode cX9_layPay 228 = .ok (.goto (-91), 3) := by decide +kernel
theorem dX9_layPay_231 : decode cX9_layPay 231 = .ok (.iload_n 3, 1) := by decide +kernel
theorem dX9_layPay_232 : decode cX9_layPay 232 = .ok (.ifCond .eq 57, 3) := by decide +kernel
theorem dX9_layPay_235 : decode cX9_layPay 235 = .ok (.aload_n 0, 1) := by decide +kernel
theorem dX9_layPay_236 : decode cX9_layPay 236 = .ok (.getfield 170, 3) := by decide +kernel
theorem dX9_layPay_239 : decode cX9_layPay 239 = .ok (.lconst 0, 1) := by decide +kernel
theorem dX9_layPay_240 : decode cX9_layPay 240 = .ok (.lcmp, 1) := by decide +kernel
theorem dX9_layPay_241 : decode cX9_layPay 241 = .ok (.ifCond .eq 21, 3) := by decide +kernel
theorem dX9_layPay_244 : decode cX9_layPay 244 = .ok (.lload 4, 2) := by decide +kernel
theorem dX9_layPay_246 : decode cX9_layPay 246 = .ok (.aload_n 0, 1) := by decide +kernel
theorem dX9_layPay_247 : decode cX9_layPay 247 = .ok (.getfield 170, 3) := by decide +kernel
theorem dX9_layPay_250 : decode cX9_layPay 250 = .ok (.lmul, 1) := by decide +kernel
theorem dX9_layPay_251 : decode cX9_layPay 251 = .ok (.aload_n 0, 1) := by decide +kernel
theorem dX9_layPay_252 : decode cX9_layPay 252 = .ok (.getfield 173, 3) := by decide +kernel
theorem dX9_layPay_255 : decode cX9_layPay 255 = .ok (.lload 6, 2) := by decide +kernel
theorem dX9_layPay_257 : decode cX9_layPay 257 = .ok (.lmul, 1) := by decide +kernel
theorem dX9_layPay_258 : decode cX9_layPay 258 = .ok (.lcmp, 1) := by decide +kernel
theorem dX9_layPay_259 : decode cX9_layPay 259 = .ok (.ifCond .le 30, 3) := by decide +kernel
theorem dX9_layPay_262 : decode cX9_layPay 262 = .ok (.lload 4, 2) := by decide +kernel
theorem dX9_layPay_264 : decode cX9_layPay 264 = .ok (.lload 6, 2) := by decide +kernel
theorem dX9_layPay_266 : decode cX9_layPay 266 = .ok (.invokestatic 96, 3) := by decide +kernel
theorem dX9_layPay_269 : decode cX9_layPay 269 = .ok (.lstore 8, 2) := by decide +kernel
theorem dX9_layPay_271 : decode cX9_layPay 271 = .ok (.aload_n 0, 1) := by decide +kernel
theorem dX9_layPay_272 : decode cX9_layPay 272 = .ok (.lload 4, 2) := by decide +kernel
theorem dX9_layPay_274 : decode cX9_layPay 274 = .ok (.lload 8, 2) := by decide +kernel
theorem dX9_layPay_276 : decode cX9_layPay 276 = .ok (.ldiv, 1) := by decide +kernel
theorem dX9_layPay_277 : decode cX9_layPay 277 = .ok (.putfield 173, 3) := by decide +kernel
theorem dX9_layPay_280 : decode cX9_layPay 280 = .ok (.aload_n 0, 1) := by decide +kernel
theorem dX9_layPay_281 : decode cX9_layPay 281 = .ok (.lload 6, 2) := by decide +kernel
theorem dX9_layPay_283 : decode cX9_layPay 283 = .ok (.lload 8, 2) := by decide +kernel
theorem dX9_layPay_285 : decode cX9_layPay 285 = .ok (.ldiv, 1) := by decide +kernel
theorem dX9_layPay_286 : decode cX9_layPay 286 = .ok (.putfield 170, 3) := by decide +kernel
theorem dX9_layPay_289 : decode cX9_layPay 289 = .ok (.aload_n 0, 1) := by decide +kernel
theorem dX9_layPay_290 : decode cX9_layPay 290 = .ok (.getfield 7, 3) := by decide +kernel
theorem dX9_layPay_293 : decode cX9_layPay 293 = .ok (.iconst 1, 1) := by decide +kernel
theorem dX9_layPay_294 : decode cX9_layPay 294 = .ok (.isub, 1) := by decide +kernel
theorem dX9_layPay_295 : decode cX9_layPay 295 = .ok (.istore 8, 2) := by decide +kernel
theorem dX9_layPay_297 : decode cX9_layPay 297 = .ok (.iload 8, 2) := by decide +kernel
theorem dX9_layPay_299 : decode cX9_layPay 299 = .ok (.ifCond .lt 30, 3) := by decide +kernel
theorem dX9_layPay_302 : decode cX9_layPay 302 = .ok (.aload_n 0, 1) := by decide +kernel
theorem dX9_layPay_303 : decode cX9_layPay 303 = .ok (.getfield 76, 3) := by decide +kernel
theorem dX9_layPay_306 : decode cX9_layPay 306 = .ok (.iload 8, 2) := by decide +kernel
theorem dX9_layPay_308 : decode cX9_layPay 308 = .ok (.iaload, 1) := by decide +kernel
theorem dX9_layPay_309 : decode cX9_layPay 309 = .ok (.iload_n 1, 1) := by decide +kernel
theorem dX9_layPay_310 : decode cX9_layPay 310 = .ok (.aload_n 0, 1) := by decide +kernel
theorem dX9_layPay_311 : decode cX9_layPay 311 = .ok (.getfield 7, 3) := by decide +kernel
theorem dX9_layPay_314 : decode cX9_layPay 314 = .ok (.isub, 1) := by decide +kernel
theorem dX9_layPay_315 : decode cX9_layPay 315 = .ok (.iload 8, 2) := by decide +kernel
theorem dX9_layPay_317 : decode cX9_layPay 317 = .ok (.iadd, 1) := by decide +kernel
theorem dX9_layPay_318 : decode cX9_layPay 318 = .ok (.iconst 1, 1) := by decide +kernel
theorem dX9_layPay_319 : decode cX9_layPay 319 = .ok (.iadd, 1) := by decide +kernel
theorem dX9_layPay_320 : decode cX9_layPay 320 = .ok (.if_icmp .ne 9, 3) := by decide +kernel
theorem dX9_layPay_323 : decode cX9_layPay 323 = .ok (.iinc 8 (-1), 3) := by decide +kernel
theorem dX9_layPay_326 : decode cX9_layPay 326 = .ok (.goto (-29), 3) := by decide +kernel
theorem dX9_layPay_329 : decode cX9_layPay 329 = .ok (.iload 8, 2) := by decide +kernel
theorem dX9_layPay_331 : decode cX9_layPay 331 = .ok (.ifCond .lt 7, 3) := by decide +kernel
theorem dX9_layPay_334 : decode cX9_layPay 334 = .ok (.iconst 1, 1) := by decide +kernel
theorem dX9_layPay_335 : decode cX9_layPay 335 = .ok (.goto 4, 3) := by decide +kernel
theorem dX9_layPay_338 : decode cX9_layPay 338 = .ok (.iconst 0, 1) := by decide +kernel
theorem dX9_layPay_339 : decode cX9_layPay 339 = .ok (.istore_n 2, 1) := by decide +kernel
theorem dX9_layPay_340 : decode cX9_layPay 340 = .ok (.iload_n 2, 1) := by decide +kernel
theorem dX9_layPay_341 : decode cX9_layPay 341 = .ok (.ifCond .eq 53, 3) := by decide +kernel
theorem dX9_layPay_344 : decode cX9_layPay 344 = .ok (.aload_n 0, 1) := by decide +kernel
theorem dX9_layPay_345 : decode cX9_layPay 345 = .ok (.getfield 76, 3) := by decide +kernel
theorem dX9_layPay_348 : decode cX9_layPay 348 = .ok (.iload 8, 2) := by decide +kernel
theorem dX9_layPay_350 : decode cX9_layPay 350 = .ok (.dup2, 1) := by decide +kernel
theorem dX9_layPay_351 : decode cX9_layPay 351 = .ok (.iaload, 1) := by decide +kernel
theorem dX9_layPay_352 : decode cX9_layPay 352 = .ok (.iconst 1, 1) := by decide +kernel
theorem dX9_layPay_353 : decode cX9_layPay 353 = .ok (.iadd, 1) := by decide +kernel
theorem dX9_layPay_354 : decode cX9_layPay 354 = .ok (.iastore, 1) := by decide +kernel
theorem dX9_layPay_355 : decode cX9_layPay 355 = .ok (.iload 8, 2) := by decide +kernel
theorem dX9_layPay_357 : decode cX9_layPay 357 = .ok (.iconst 1, 1) := by decide +kernel
theorem dX9_layPay_358 : decode cX9_layPay 358 = .ok (.iadd, 1) := by decide +kernel
theorem dX9_layPay_359 : decode cX9_layPay 359 = .ok (.istore 9, 2) := by decide +kernel
theorem dX9_layPay_361 : decode cX9_layPay 361 = .ok (.iload 9, 2) := by decide +kernel
theorem dX9_layPay_363 : decode cX9_layPay 363 = .ok (.aload_n 0, 1) := by decide +kernel
theorem dX9_layPay_364 : decode cX9_layPay 364 = .ok (.getfield 7, 3) := by decide +kernel
theorem dX9_layPay_367 : decode cX9_layPay 367 = .ok (.if_icmp .ge 27, 3) := by decide +kernel
theorem dX9_layPay_370 : decode cX9_layPay 370 = .ok (.aload_n 0, 1) := by decide +kernel
theorem dX9_layPay_371 : decode cX9_layPay 371 = .ok (.getfield 76, 3) := by decide +kernel
theorem dX9_layPay_374 : decode cX9_layPay 374 = .ok (.iload 9, 2) := by decide +kernel
theorem dX9_layPay_376 : decode cX9_layPay 376 = .ok (.aload_n 0, 1) := by decide +kernel
theorem dX9_layPay_377 : decode cX9_layPay 377 = .ok (.getfield 76, 3) := by decide +kernel
theorem dX9_layPay_380 : decode cX9_layPay 380 = .ok (.iload 9, 2) := by decide +kernel
theorem dX9_layPay_382 : decode cX9_layPay 382 = .ok (.iconst 1, 1) := by decide +kernel
theorem dX9_layPay_383 : decode cX9_layPay 383 = .ok (.isub, 1) := by decide +kernel
theorem dX9_layPay_384 : decode cX9_layPay 384 = .ok (.iaload, 1) := by decide +kernel
theorem dX9_layPay_385 : decode cX9_layPay 385 = .ok (.iconst 1, 1) := by decide +kernel
theorem dX9_layPay_386 : decode cX9_layPay 386 = .ok (.iadd, 1) := by decide +kernel
theorem dX9_layPay_387 : decode cX9_layPay 387 = .ok (.iastore, 1) := by decide +kernel
theorem dX9_layPay_388 : decode cX9_layPay 388 = .ok (.iinc 9 1, 3) := by decide +kernel
theorem dX9_layPay_391 : decode cX9_layPay 391 = .ok (.goto (-30), 3) := by decide +kernel
theorem dX9_layPay_394 : decode cX9_layPay 394 = .ok (.goto (-352), 3) := by decide +kernel
theorem dX9_layPay_397 : decode cX9_layPay 397 = .ok (.return_, 1) := by decide +kernel
theorem dX9_least_0 : decode cX9_least 0 = .ok (.iload_n 1, 1) := by decide +kernel
theorem dX9_least_1 : decode cX9_least 1 = .ok (.i2l, 1) := by decide +kernel
theorem dX9_least_2 : decode cX9_least 2 = .ok (.lconst 0, 1) := by decide +kernel
theorem dX9_least_3 : decode cX9_least 3 = .ok (.lconst 1, 1) := by decide +kernel
theorem dX9_least_4 : decode cX9_least 4 = .ok (.invokestatic 92, 3) := by decide +kernel
theorem dX9_least_7 : decode cX9_least 7 = .ok (.ifCond .ne 6, 3) := by decide +kernel
theorem dX9_least_10 : decode cX9_least 10 = .ok (.bipush (-2), 2) := by decide +kernel
theorem dX9_least_12 : decode cX9_least 12 = .ok (.ireturn, 1) := by decide +kernel
theorem dX9_least_13 : decode cX9_least 13 = .ok (.iload_n 1, 1) := by decide +kernel
theorem dX9_least_14 : decode cX9_least 14 = .ok (.ifCond .ne 20, 3) := by decide +kernel
theorem dX9_least_17 : decode cX9_least 17 = .ok (.aload_n 0, 1) := by decide +kernel
theorem dX9_least_18 : decode cX9_least 18 = .ok (.invokevirtual 180, 3) := by decide +kernel
theorem dX9_least_21 : decode cX9_least 21 = .ok (.aload_n 0, 1) := by decide +kernel
theorem dX9_least_22 : decode cX9_least 22 = .ok (.aload_n 0, 1) := by decide +kernel
theorem dX9_least_23 : decode cX9_least 23 = .ok (.getfield 173, 3) := by decide +kernel
theorem dX9_least_26 : decode cX9_least 26 = .ok (.aload_n 0, 1) := by decide +kernel
theorem dX9_least_27 : decode cX9_least 27 = .ok (.getfield 170, 3) := by decide +kernel
theorem dX9_least_30 : decode cX9_least 30 = .ok (.invokevirtual 128, 3) := by decide +kernel
theorem dX9_least_33 : decode cX9_least 33 = .ok (.ireturn, 1) := by decide +kernel
theorem dX9_least_34 : decode cX9_least 34 = .ok (.aload_n 0, 1) := by decide +kernel
theorem dX9_least_35 : decode cX9_least 35 = .ok (.getfield 7, 3) := by decide +kernel
theorem dX9_least_38 : decode cX9_least 38 = .ok (.iconst 1, 1) := by decide +kernel
theorem dX9_least_39 : decode cX9_least 39 = .ok (.if_icmp .ne 5, 3) := by decide +kernel
theorem dX9_least_42 : decode cX9_least 42 = .ok (.iconst 0, 1) := by decide +kernel
theorem dX9_least_43 : decode cX9_least 43 = .ok (.ireturn, 1) := by decide +kernel
theorem dX9_least_44 : decode cX9_least 44 = .ok (.aload_n 0, 1) := by decide +kernel
theorem dX9_least_45 : decode cX9_least 45 = .ok (.invokevirtual 183, 3) := by decide +kernel
theorem dX9_least_48 : decode cX9_least 48 = .ok (.aload_n 0, 1) := by decide +kernel
theorem dX9_least_49 : decode cX9_least 49 = .ok (.invokevirtual 186, 3) := by decide +kernel
theorem dX9_least_52 : decode cX9_least 52 = .ok (.aload_n 0, 1) := by decide +kernel
theorem dX9_least_53 : decode cX9_least 53 = .ok (.aload_n 0, 1) := by decide +kernel
theorem dX9_least_54 : decode cX9_least 54 = .ok (.getfield 173, 3) := by decide +kernel
theorem dX9_least_57 : decode cX9_least 57 = .ok (.aload_n 0, 1) := by decide +kernel
theorem dX9_least_58 : decode cX9_least 58 = .ok (.getfield 170, 3) := by decide +kernel
theorem dX9_least_61 : decode cX9_least 61 = .ok (.invokevirtual 128, 3) := by decide +kernel
theorem dX9_least_64 : decode cX9_least 64 = .ok (.ireturn, 1) := by decide +kernel
theorem dX9_hasCore_0 : decode cX9_hasCore 0 = .ok (.aload_n 0, 1) := by decide +kernel
theorem dX9_hasCore_1 : decode cX9_hasCore 1 = .ok (.getfield 7, 3) := by decide +kernel
theorem dX9_hasCore_4 : decode cX9_hasCore 4 = .ok (.iconst 1, 1) := by decide +kernel
theorem dX9_hasCore_5 : decode cX9_hasCore 5 = .ok (.if_icmp .ne 5, 3) := by decide +kernel
theorem dX9_hasCore_8 : decode cX9_hasCore 8 = .ok (.iconst 1, 1) := by decide +kernel
theorem dX9_hasCore_9 : decode cX9_hasCore 9 = .ok (.ireturn, 1) := by decide +kernel
theorem dX9_hasCore_10 : decode cX9_hasCore 10 = .ok (.aload_n 0, 1) := by decide +kernel
theorem dX9_hasCore_11 : decode cX9_hasCore 11 = .ok (.invokevirtual 183, 3) := by decide +kernel
theorem dX9_hasCore_14 : decode cX9_hasCore 14 = .ok (.aload_n 0, 1) := by decide +kernel
theorem dX9_hasCore_15 : decode cX9_hasCore 15 = .ok (.invokevirtual 186, 3) := by decide +kernel
theorem dX9_hasCore_18 : decode cX9_hasCore 18 = .ok (.aload_n 0, 1) := by decide +kernel
theorem dX9_hasCore_19 : decode cX9_hasCore 19 = .ok (.getfield 173, 3) := by decide +kernel
theorem dX9_hasCore_22 : decode cX9_hasCore 22 = .ok (.lconst 0, 1) := by decide +kernel
theorem dX9_hasCore_23 : decode cX9_hasCore 23 = .ok (.lcmp, 1) := by decide +kernel
theorem dX9_hasCore_24 : decode cX9_hasCore 24 = .ok (.ifCond .gt 7, 3) := by decide +kernel
theorem dX9_hasCore_27 : decode cX9_hasCore 27 = .ok (.iconst 1, 1) := by decide +kernel
theorem dX9_hasCore_28 : decode cX9_hasCore 28 = .ok (.goto 4, 3) := by decide +kernel
theorem dX9_hasCore_31 : decode cX9_hasCore 31 = .ok (.iconst 0, 1) := by decide +kernel
theorem dX9_hasCore_32 : decode cX9_hasCore 32 = .ok (.ireturn, 1) := by decide +kernel
theorem dX9_core_0 : decode cX9_core 0 = .ok (.aload_n 0, 1) := by decide +kernel
theorem dX9_core_1 : decode cX9_core 1 = .ok (.invokevirtual 189, 3) := by decide +kernel
theorem dX9_core_4 : decode cX9_core 4 = .ok (.ifCond .eq 7, 3) := by decide +kernel
theorem dX9_core_7 : decode cX9_core 7 = .ok (.iconst 1, 1) := by decide +kernel
theorem dX9_core_8 : decode cX9_core 8 = .ok (.goto 4, 3) := by decide +kernel
theorem dX9_core_11 : decode cX9_core 11 = .ok (.iconst 0, 1) := by decide +kernel
theorem dX9_core_12 : decode cX9_core 12 = .ok (.ireturn, 1) := by decide +kernel
theorem dX9_isCore_0 : decode cX9_isCore 0 = .ok (.iconst 1, 1) := by decide +kernel
theorem dX9_isCore_1 : decode cX9_isCore 1 = .ok (.istore_n 1, 1) := by decide +kernel
theorem dX9_isCore_2 : decode cX9_isCore 2 = .ok (.iload_n 1, 1) := by decide +kernel
theorem dX9_isCore_3 : decode cX9_isCore 3 = .ok (.aload_n 0, 1) := by decide +kernel
theorem dX9_isCore_4 : decode cX9_isCore 4 = .ok (.invokevirtual 88, 3) := by decide +kernel
theorem dX9_isCore_7 : decode cX9_isCore 7 = .ok (.if_icmp .gt 106, 3) := by decide +kernel
theorem dX9_isCore_10 : decode cX9_isCore 10 = .ok (.lconst 0, 1) := by decide +kernel
theorem dX9_isCore_11 : decode cX9_isCore 11 = .ok (.lstore_n 2, 1) := by decide +kernel
theorem dX9_isCore_12 : decode cX9_isCore 12 = .ok (.lconst 1, 1) := by decide +kernel
theorem dX9_isCore_13 : decode cX9_isCore 13 = .ok (.lstore 4, 2) := by decide +kernel
theorem dX9_isCore_15 : decode cX9_isCore 15 = .ok (.iconst 0, 1) := by decide +kernel
theorem dX9_isCore_16 : decode cX9_isCore 16 = .ok (.istore 6, 2) := by decide +kernel
theorem dX9_isCore_18 : decode cX9_isCore 18 = .ok (.iload 6, 2) := by decide +kernel
theorem dX9_isCore_20 : decode cX9_isCore 20 = .ok (.aload_n 0, 1) := by decide +kernel
theorem dX9_isCore_21 : decode cX9_isCore 21 = .ok (.getfield 7, 3) := by decide +kernel
theorem dX9_isCore_24 : decode cX9_isCore 24 = .ok (.if_icmp .ge 66, 3) := by decide +kernel
theorem dX9_isCore_27 : decode cX9_isCore 27 = .ok (.iload_n 1, 1) := by decide +kernel
theorem dX9_isCore_28 : decode cX9_isCore 28 = .ok (.iload 6, 2) := by decide +kernel
theorem dX9_isCore_30 : decode cX9_isCore 30 = .ok (.invokestatic 121, 3) := by decide +kernel
theorem dX9_isCore_33 : decode cX9_isCore 33 = .ok (.ifCond .eq 51, 3) := by decide +kernel
theorem dX9_isCore_36 : decode cX9_isCore 36 = .ok (.lload_n 2, 1) := by decide +kernel
theorem dX9_isCore_37 : decode cX9_isCore 37 = .ok (.aload_n 0, 1) := by decide +kernel
theorem dX9_isCore_38 : decode cX9_isCore 38 = .ok (.getfield 58, 3) := by decide +kernel
theorem dX9_isCore_41 : decode cX9_isCore 41 = .ok (.bipush 6, 2) := by decide +kernel
theorem dX9_isCore_43 : decode cX9_isCore 43 = .ok (.iload 6, 2) := by decide +kernel
theorem dX9_isCore_45 : decode cX9_isCore 45 = .ok (.imul, 1) := by decide +kernel
theorem dX9_isCore_46 : decode cX9_isCore 46 = .ok (.iconst 5, 1) := by decide +kernel
theorem dX9_isCore_47 : decode cX9_isCore 47 = .ok (.iadd, 1) := by decide +kernel
theorem dX9_isCore_48 : decode cX9_isCore 48 = .ok (.laload, 1) := by decide +kernel
theorem dX9_isCore_49 : decode cX9_isCore 49 = .ok (.lmul, 1) := by decide +kernel
theorem dX9_isCore_50 : decode cX9_isCore 50 = .ok (.aload_n 0, 1) := by decide +kernel
theorem dX9_isCore_51 : decode cX9_isCore 51 = .ok (.getfield 54, 3) := by decide +kernel
theorem dX9_isCore_54 : decode cX9_isCore 54 = .ok (.bipush 6, 2) := by decide +kernel
theorem dX9_isCore_56 : decode cX9_isCore 56 = .ok (.iload 6, 2) := by decide +kernel
theorem dX9_isCore_58 : decode cX9_isCore 58 = .ok (.imul, 1) := by decide +kernel
theorem dX9_isCore_59 : decode cX9_isCore 59 = .ok (.iconst 5, 1) := by decide +kernel
theorem dX9_isCore_60 : decode cX9_isCore 60 = .ok (.iadd, 1) := by decide +kernel
theorem dX9_isCore_61 : decode cX9_isCore 61 = .ok (.laload, 1) := by decide +kernel
theorem dX9_isCore_62 : decode cX9_isCore 62 = .ok (.lload 4, 2) := by decide +kernel
theorem dX9_isCore_64 : decode cX9_isCore 64 = .ok (.lmul, 1) := by decide +kernel
theorem dX9_isCore_65 : decode cX9_isCore 65 = .ok (.ladd, 1) := by decide +kernel
theorem dX9_isCore_66 : decode cX9_isCore 66 = .ok (.lstore_n 2, 1) := by decide +kernel
theorem dX9_isCore_67 : decode cX9_isCore 67 = .ok (.lload 4, 2) := by decide +kernel
theorem dX9_isCore_69 : decode cX9_isCore 69 = .ok (.aload_n 0, 1) := by decide +kernel
theorem dX9_isCore_70 : decode cX9_isCore 70 = .ok (.getfield 58, 3) := by decide +kernel
theorem dX9_isCore_73 : decode cX9_isCore 73 = .ok (.bipush 6, 2) := by decide +kernel
theorem dX9_isCore_75 : decode cX9_isCore 75 = .ok (.iload 6, 2) := by decide +kernel
theorem dX9_isCore_77 : decode cX9_isCore 77 = .ok (.imul, 1) := by decide +kernel
theorem dX9_isCore_78 : decode cX9_isCore 78 = .ok (.iconst 5, 1) := by decide +kernel
theorem dX9_isCore_79 : decode cX9_isCore 79 = .ok (.iadd, 1) := by decide +kernel
theorem dX9_isCore_80 : decode cX9_isCore 80 = .ok (.laload, 1) := by decide +kernel
theorem dX9_isCore_81 : decode cX9_isCore 81 = .ok (.lmul, 1) := by decide +kernel
theorem dX9_isCore_82 : decode cX9_isCore 82 = .ok (.lstore 4, 2) := by decide +kernel
theorem dX9_isCore_84 : decode cX9_isCore 84 = .ok (.iinc 6 1, 3) := by decide +kernel
theorem dX9_isCore_87 : decode cX9_isCore 87 = .ok (.goto (-69), 3) := by decide +kernel
theorem dX9_isCore_90 : decode cX9_isCore 90 = .ok (.lload_n 2, 1) := by decide +kernel
theorem dX9_isCore_91 : decode cX9_isCore 91 = .ok (.aload_n 0, 1) := by decide +kernel
theorem dX9_isCore_92 : decode cX9_isCore 92 = .ok (.getfield 13, 3) := by decide +kernel
theorem dX9_isCore_95 : decode cX9_isCore 95 = .ok (.iload_n 1, 1) := by decide +kernel
theorem dX9_isCore_96 : decode cX9_isCore 96 = .ok (.iaload, 1) := by decide +kernel
theorem dX9_isCore_97 : decode cX9_isCore 97 = .ok (.i2l, 1) := by decide +kernel
theorem dX9_isCore_98 : decode cX9_isCore 98 = .ok (.lload 4, 2) := by decide +kernel
theorem dX9_isCore_100 : decode cX9_isCore 100 = .ok (.lmul, 1) := by decide +kernel
theorem dX9_isCore_101 : decode cX9_isCore 101 = .ok (.lcmp, 1) := by decide +kernel
theorem dX9_isCore_102 : decode cX9_isCore 102 = .ok (.ifCond .ge 5, 3) := by decide +kernel
theorem dX9_isCore_105 : decode cX9_isCore 105 = .ok (.iconst 0, 1) := by decide +kernel
theorem dX9_isCore_106 : decode cX9_isCore 106 = .ok (.ireturn, 1) := by decide +kernel
theorem dX9_isCore_107 : decode cX9_isCore 107 = .ok (.iinc 1 1, 3) := by decide +kernel
theorem dX9_isCore_110 : decode cX9_isCore 110 = .ok (.goto (-108), 3) := by decide +kernel
theorem dX9_isCore_113 : decode cX9_isCore 113 = .ok (.iconst 1, 1) := by decide +kernel
theorem dX9_isCore_114 : decode cX9_isCore 114 = .ok (.ireturn, 1) := by decide +kernel
theorem dX9_end_0 : decode cX9_end 0 = .ok (.aload_n 0, 1) := by decide +kernel
theorem dX9_end_1 : decode cX9_end 1 = .ok (.iload_n 1, 1) := by decide +kernel
theorem dX9_end_2 : decode cX9_end 2 = .ok (.invokevirtual 118, 3) := by decide +kernel
theorem dX9_end_5 : decode cX9_end 5 = .ok (.ifCond .eq 13, 3) := by decide +kernel
theorem dX9_end_8 : decode cX9_end 8 = .ok (.iload_n 2, 1) := by decide +kernel
theorem dX9_end_9 : decode cX9_end 9 = .ok (.i2l, 1) := by decide +kernel
theorem dX9_end_10 : decode cX9_end 10 = .ok (.lconst 0, 1) := by decide +kernel
theorem dX9_end_11 : decode cX9_end 11 = .ok (.lconst 1, 1) := by decide +kernel
theorem dX9_end_12 : decode cX9_end 12 = .ok (.invokestatic 92, 3) := by decide +kernel
theorem dX9_end_15 : decode cX9_end 15 = .ok (.ifCond .ne 6, 3) := by decide +kernel
theorem dX9_end_18 : decode cX9_end 18 = .ok (.bipush (-2), 2) := by decide +kernel
theorem dX9_end_20 : decode cX9_end 20 = .ok (.ireturn, 1) := by decide +kernel
theorem dX9_end_21 : decode cX9_end 21 = .ok (.aload_n 0, 1) := by decide +kernel
theorem dX9_end_22 : decode cX9_end 22 = .ok (.invokevirtual 189, 3) := by decide +kernel
theorem dX9_end_25 : decode cX9_end 25 = .ok (.ifCond .ne 5, 3) := by decide +kernel
theorem dX9_end_28 : decode cX9_end 28 = .ok (.iconst 0, 1) := by decide +kernel
theorem dX9_end_29 : decode cX9_end 29 = .ok (.ireturn, 1) := by decide +kernel
theorem dX9_end_30 : decode cX9_end 30 = .ok (.lconst 0, 1) := by decide +kernel
theorem dX9_end_31 : decode cX9_end 31 = .ok (.lstore_n 3, 1) := by decide +kernel
theorem dX9_end_32 : decode cX9_end 32 = .ok (.lconst 0, 1) := by decide +kernel
theorem dX9_end_33 : decode cX9_end 33 = .ok (.lstore 5, 2) := by decide +kernel
theorem dX9_end_35 : decode cX9_end 35 = .ok (.aload_n 0, 1) := by decide +kernel
theorem dX9_end_36 : decode cX9_end 36 = .ok (.getfield 7, 3) := by decide +kernel
theorem dX9_end_39 : decode cX9_end 39 = .ok (.iconst 1, 1) := by decide +kernel
theorem dX9_end_40 : decode cX9_end 40 = .ok (.isub, 1) := by decide +kernel
theorem dX9_end_41 : decode cX9_end 41 = .ok (.istore 7, 2) := by decide +kernel
theorem dX9_end_43 : decode cX9_end 43 = .ok (.aload_n 0, 1) := by decide +kernel
theorem dX9_end_44 : decode cX9_end 44 = .ok (.invokevirtual 88, 3) := by decide +kernel
theorem dX9_end_47 : decode cX9_end 47 = .ok (.iconst 1, 1) := by decide +kernel
theorem dX9_end_48 : decode cX9_end 48 = .ok (.isub, 1) := by decide +kernel
theorem dX9_end_49 : decode cX9_end 49 = .ok (.istore 8, 2) := by decide +kernel
theorem dX9_end_51 : decode cX9_end 51 = .ok (.iconst 0, 1) := by decide +kernel
theorem dX9_end_52 : decode cX9_end 52 = .ok (.istore 9, 2) := by decide +kernel
theorem dX9_end_54 : decode cX9_end 54 = .ok (.iload 9, 2) := by decide +kernel
theorem dX9_end_56 : decode cX9_end 56 = .ok (.iload 7, 2) := by decide +kernel
theorem dX9_end_58 : decode cX9_end 58 = .ok (.if_icmp .ge 20, 3) := by decide +kernel
theorem dX9_end_61 : decode cX9_end 61 = .ok (.aload_n 0, 1) := by decide +kernel
theorem dX9_end_62 : decode cX9_end 62 = .ok (.getfield 76, 3) := by decide +kernel
theorem dX9_end_65 : decode cX9_end 65 = .ok (.iload 9, 2) := by decide +kernel
theorem dX9_end_67 : decode cX9_end 67 = .ok (.iload 9, 2) := by decide +kernel
theorem dX9_end_69 : decode cX9_end 69 = .ok (.iconst 1, 1) := by decide +kernel
theorem dX9_end_70 : decode cX9_end 70 = .ok (.iadd, 1) := by decide +kernel
theorem dX9_end_71 : decode cX9_end 71 = .ok (.iastore, 1) := by decide +kernel
theorem dX9_end_72 : decode cX9_end 72 = .ok (.iinc 9 1, 3) := by decide +kernel
theorem dX9_end_75 : decode cX9_end 75 = .ok (.goto (-21), 3) := by decide +kernel
theorem dX9_end_78 : decode cX9_end 78 = .ok (.iconst 1, 1) := by decide +kernel
theorem dX9_end_79 : decode cX9_end 79 = .ok (.istore 9, 2) := by decide +kernel
theorem dX9_end_81 : decode cX9_end 81 = .ok (.iload 9, 2) := by decide +kernel
theorem dX9_end_83 : decode cX9_end 83 = .ok (.ifCond .eq 328, 3) := by decide +kernel
theorem dX9_end_86 : decode cX9_end 86 = .ok (.aload_n 0, 1) := by decide +kernel
theorem dX9_end_87 : decode cX9_end 87 = .ok (.invokevirtual 147, 3) := by decide +kernel
theorem dX9_end_90 : decode cX9_end 90 = .ok (.iconst 0, 1) := by decide +kernel
theorem dX9_end_91 : decode cX9_end 91 = .ok (.istore 10, 2) := by decide +kernel
theorem dX9_end_93 : decode cX9_end 93 = .ok (.iload 10, 2) := by decide +kernel
theorem dX9_end_95 : decode cX9_end 95 = .ok (.aload_n 0, 1) := by decide +kernel
theorem dX9_end_96 : decode cX9_end 96 = .ok (.getfield 7, 3) := by decide +kernel
theorem dX9_end_99 : decode cX9_end 99 = .ok (.if_icmp .ge 90, 3) := by decide +kernel
theorem dX9_end_102 : decode cX9_end 102 = .ok (.iload 10, 2) := by decide +kernel
theorem dX9_end_104 : decode cX9_end 104 = .ok (.iload 7, 2) := by decide +kernel
theorem dX9_end_106 : decode cX9_end 106 = .ok (.if_icmp .ne 10, 3) := by decide +kernel
theorem dX9_end_109 : decode cX9_end 109 = .ok (.aload_n 0, 1) := by decide +kernel
theorem dX9_end_110 : decode cX9_end 110 = .ok (.invokevirtual 88, 3) := by decide +kernel
theorem dX9_end_113 : decode cX9_end 113 = .ok (.goto 10, 3) := by decide +kernel
theorem dX9_end_116 : decode cX9_end 116 = .ok (.aload_n 0, 1) := by decide +kernel
theorem dX9_end_117 : decode cX9_end 117 = .ok (.getfield 76, 3) := by decide +kernel
theorem dX9_end_120 : decode cX9_end 120 = .ok (.iload 10, 2) := by decide +kernel
theorem dX9_end_122 : decode cX9_end 122 = .ok (.iaload, 1) := by decide +kernel
theorem dX9_end_123 : decode cX9_end 123 = .ok (.istore 11, 2) := by decide +kernel
theorem dX9_end_125 : decode cX9_end 125 = .ok (.iconst 0, 1) := by decide +kernel
theorem dX9_end_126 : decode cX9_end 126 = .ok (.istore 12, 2) := by decide +kernel
theorem dX9_end_128 : decode cX9_end 128 = .ok (.iload 12, 2) := by decide +kernel
theorem dX9_end_130 : decode cX9_end 130 = .ok (.aload_n 0, 1) := by decide +kernel
theorem dX9_end_131 : decode cX9_end 131 = .ok (.getfield 7, 3) := by decide +kernel
theorem dX9_end_134 : decode cX9_end 134 = .ok (.if_icmp .ge 33, 3) := by decide +kernel
theorem dX9_end_137 : decode cX9_end 137 = .ok (.aload_n 0, 1) := by decide +kernel
theorem dX9_end_138 : decode cX9_end 138 = .ok (.iload 10, 2) := by decide +kernel
theorem dX9_end_140 : decode cX9_end 140 = .ok (.iload 12, 2) := by decide +kernel
theorem dX9_end_142 : decode cX9_end 142 = .ok (.iload 11, 2) := by decide +kernel
theorem dX9_end_144 : decode cX9_end 144 = .ok (.iload 12, 2) := by decide +kernel
theorem dX9_end_146 : decode cX9_end 146 = .ok (.invokestatic 121, 3) := by decide +kernel
theorem dX9_end_149 : decode cX9_end 149 = .ok (.ifCond .eq 7, 3) := by decide +kernel
theorem dX9_end_152 : decode cX9_end 152 = .ok (.lconst 1, 1) := by decide +kernel
theorem dX9_end_153 : decode cX9_end 153 = .ok (.goto 4, 3) := by decide +kernel
theorem dX9_end_156 : decode cX9_end 156 = .ok (.lconst 0, 1) := by decide +kernel
theorem dX9_end_157 : decode cX9_end 157 = .ok (.lconst 1, 1) := by decide +kernel
theorem dX9_end_158 : decode cX9_end 158 = .ok (.invokevirtual 134, 3) := by decide +kernel
theorem dX9_end_161 : decode cX9_end 161 = .ok (.iinc 12 1, 3) := by decide +kernel
theorem dX9_end_164 : decode cX9_end 164 = .ok (.goto (-36), 3) := by decide +kernel
theorem dX9_end_167 : decode cX9_end 167 = .ok (.aload_n 0, 1) := by decide +kernel
theorem dX9_end_168 : decode cX9_end 168 = .ok (.iload 10, 2) := by decide +kernel
theorem dX9_end_170 : decode cX9_end 170 = .ok (.iconst 5, 1) := by decide +kernel
theorem dX9_end_171 : decode cX9_end 171 = .ok (.aload_n 0, 1) := by decide +kernel
theorem dX9_end_172 : decode cX9_end 172 = .ok (.getfield 13, 3) := by decide +kernel
theorem dX9_end_175 : decode cX9_end 175 = .ok (.iload 11, 2) := by decide +kernel
theorem dX9_end_177 : decode cX9_end 177 = .ok (.iaload, 1) := by decide +kernel
theorem dX9_end_178 : decode cX9_end 178 = .ok (.i2l, 1) := by decide +kernel
theorem dX9_end_179 : decode cX9_end 179 = .ok (.lconst 1, 1) := by decide +kernel
theorem dX9_end_180 : decode cX9_end 180 = .ok (.invokevirtual 134, 3) := by decide +kernel
theorem dX9_end_183 : decode cX9_end 183 = .ok (.iinc 10 1, 3) := by decide +kernel
theorem dX9_end_186 : decode cX9_end 186 = .ok (.goto (-93), 3) := by decide +kernel
theorem dX9_end_189 : decode cX9_end 189 = .ok (.aload_n 0, 1) := by decide +kernel
theorem dX9_end_190 : decode cX9_end 190 = .ok (.aload_n 0, 1) := by decide +kernel
theorem dX9_end_191 : decode cX9_end 191 = .ok (.getfield 7, 3) := by decide +kernel
theorem dX9_end_194 : decode cX9_end 194 = .ok (.invokevirtual 152, 3) := by decide +kernel
theorem dX9_end_197 : decode cX9_end 197 = .ok (.ifCond .eq 109, 3) := by decide +kernel
theorem dX9_end_200 : decode cX9_end 200 = .ok (.aload_n 0, 1) := by decide +kernel
theorem dX9_end_201 : decode cX9_end 201 = .ok (.invokevirtual 193, 3) := by decide +kernel
theorem dX9_end_204 : decode cX9_end 204 = .ok (.ifCond .eq 102, 3) := by decide +kernel
theorem dX9_end_207 : decode cX9_end 207 = .ok (.aload_n 0, 1) := by decide +kernel
theorem dX9_end_208 : decode cX9_end 208 = .ok (.getfield 54, 3) := by decide +kernel
theorem dX9_end_211 : decode cX9_end 211 = .ok (.bipush 6, 2) := by decide +kernel
theorem dX9_end_213 : decode cX9_end 213 = .ok (.iload_n 1, 1) := by decide +kernel
theorem dX9_end_214 : decode cX9_end 214 = .ok (.imul, 1) := by decide +kernel
theorem dX9_end_215 : decode cX9_end 215 = .ok (.iconst 5, 1) := by decide +kernel
theorem dX9_end_216 : decode cX9_end 216 = .ok (.iadd, 1) := by decide +kernel
theorem dX9_end_217 : decode cX9_end 217 = .ok (.laload, 1) := by decide +kernel
theorem dX9_end_218 : decode cX9_end 218 = .ok (.lstore 10, 2) := by decide +kernel
theorem dX9_end_220 : decode cX9_end 220 = .ok (.aload_n 0, 1) := by decide +kernel
theorem dX9_end_221 : decode cX9_end 221 = .ok (.getfield 58, 3) := by decide +kernel
theorem dX9_end_224 : decode cX9_end 224 = .ok (.bipush 6, 2) := by decide +kernel
theorem dX9_end_226 : decode cX9_end 226 = .ok (.iload_n 1, 1) := by decide +kernel
theorem dX9_end_227 : decode cX9_end 227 = .ok (.imul, 1) := by decide +kernel
theorem dX9_end_228 : decode cX9_end 228 = .ok (.iconst 5, 1) := by decide +kernel
theorem dX9_end_229 : decode cX9_end 229 = .ok (.iadd, 1) := by decide +kernel
theorem dX9_end_230 : decode cX9_end 230 = .ok (.laload, 1) := by decide +kernel
theorem dX9_end_231 : decode cX9_end 231 = .ok (.lstore 12, 2) := by decide +kernel
theorem dX9_end_233 : decode cX9_end 233 = .ok (.lload 5, 2) := by decide +kernel
theorem dX9_end_235 : decode cX9_end 235 = .ok (.lconst 0, 1) := by decide +kernel
theorem dX9_end_236 : decode cX9_end 236 = .ok (.lcmp, 1) := by decide +kernel
theorem dX9_end_237 : decode cX9_end 237 = .ok (.ifCond .eq 36, 3) := by decide +kernel
theorem dX9_end_240 : decode cX9_end 240 = .ok (.iload_n 2, 1) := by decide +kernel
theorem dX9_end_241 : decode cX9_end 241 = .ok (.ifCond .ne 19, 3) := by decide +kernel
theorem dX9_end_244 : decode cX9_end 244 = .ok (.lload 10, 2) := by decide +kernel
theorem dX9_end_246 : decode cX9_end 246 = .ok (.lload 5, 2) := by decide +kernel
theorem dX9_end_248 : decode cX9_end 248 = .ok (.lmul, 1) := by decide +kernel
theorem dX9_end_249 : decode cX9_end 249 = .ok (.lload_n 3, 1) := by decide +kernel
theorem dX9_end_250 : decode cX9_end 250 = .ok (.lload 12, 2) := by decide +kernel
theorem dX9_end_252 : decode cX9_end 252 = .ok (.lmul, 1) := by decide +kernel
theorem dX9_end_253 : decode cX9_end 253 = .ok (.lcmp, 1) := by decide +kernel
theorem dX9_end_254 : decode cX9_end 254 = .ok (.ifCond .ge 23, 3) := by decide +kernel
theorem dX9_end_257 : decode cX9_end 257 = .ok (.goto 16, 3) := by decide +kernel
theorem dX9_end_260 : decode cX9_end 260 = .ok (.lload 10, 2) := by decide +kernel
theorem dX9_end_262 : decode cX9_end 262 = .ok (.lload 5, 2) := by decide +kernel
theorem dX9_end_264 : decode cX9_end 264 = .ok (.lmul, 1) := by decide +kernel
theorem dX9_end_265 : decode cX9_end 265 = .ok (.lload_n 3, 1) := by decide +kernel
theorem dX9_end_266 : decode cX9_end 266 = .ok (.lload 12, 2) := by decide +kernel
theorem dX9_end_268 : decode cX9_end 268 = .ok (.lmul, 1) := by decide +kernel
theorem dX9_end_269 : decode cX9_end 269 = .ok (.lcmp, 1) := by decide +kernel
theorem dX9_end_270 : decode cX9_end 270 = .ok (.ifCond .le 7, 3) := by decide +kernel
theorem dX9_end_273 : decode cX9_end 273 = .ok (.iconst 1, 1) := by decide +kernel
theorem dX9_end_274 : decode cX9_end 274 = .ok (.goto 4, 3) := by decide +kernel
theorem dX9_end_277 : decode cX9_end 277 = .ok (.iconst 0, 1) := by decide +kernel
theorem dX9_end_278 : decode cX9_end 278 = .ok (.istore 14, 2) := by decide +kernel
theorem dX9_end_280 : decode cX9_end 280 = .ok (.iload 14, 2) := by decide +kernel
theorem dX9_end_282 : decode cX9_end 282 = .ok (.ifCond .eq 8, 3) := by decide +kernel
theorem dX9_end_285 : decode cX9_end 285 = .ok (.lload 10, 2) := by decide +kernel
theorem dX9_end_287 : decode cX9_end 287 = .ok (.goto 4, 3) := by decide +kernel
theorem dX9_end_290 : decode cX9_end 290 = .ok (.lload_n 3, 1) := by decide +kernel
theorem dX9_end_291 : decode cX9_end 291 = .ok (.lstore_n 3, 1) := by decide +kernel
theorem dX9_end_292 : decode cX9_end 292 = .ok (.iload 14, 2) := by decide +kernel
theorem dX9_end_294 : decode cX9_end 294 = .ok (.ifCond .eq 8, 3) := by decide +kernel
theorem dX9_end_297 : decode cX9_end 297 = .ok (.lload 12, 2) := by decide +kernel
theorem dX9_end_299 : decode cX9_end 299 = .ok (.goto 5, 3) := by decide +kernel
theorem dX9_end_302 : decode cX9_end 302 = .ok (.lload 5, 2) := by decide +kernel
theorem dX9_end_304 : decode cX9_end 304 = .ok (.lstore 5, 2) := by decide +kernel
theorem dX9_end_306 : decode cX9_end 306 = .ok (.iload 7, 2) := by decide +kernel
theorem dX9_end_308 : decode cX9_end 308 = .ok (.iconst 1, 1) := by decide +kernel
theorem dX9_end_309 : decode cX9_end 309 = .ok (.isub, 1) := by decide +kernel
theorem dX9_end_310 : decode cX9_end 310 = .ok (.istore 10, 2) := by decide +kernel
theorem dX9_end_312 : decode cX9_end 312 = .ok (.iload 10, 2) := by decide +kernel
theorem dX9_end_314 : decode cX9_end 314 = .ok (.ifCond .lt 29, 3) := by decide +kernel
theorem dX9_end_317 : decode cX9_end 317 = .ok (.aload_n 0, 1) := by decide +kernel
theorem dX9_end_318 : decode cX9_end 318 = .ok (.getfield 76, 3) := by decide +kernel
theorem dX9_end_321 : decode cX9_end 321 = .ok (.iload 10, 2) := by decide +kernel
theorem dX9_end_323 : decode cX9_end 323 = .ok (.iaload, 1) := by decide +kernel
theorem dX9_end_324 : decode cX9_end 324 = .ok (.iload 8, 2) := by decide +kernel
theorem dX9_end_326 : decode cX9_end 326 = .ok (.iload 7, 2) := by decide +kernel
theorem dX9_end_328 : decode cX9_end 328 = .ok (.isub, 1) := by decide +kernel
theorem dX9_end_329 : decode cX9_end 329 = .ok (.iload 10, 2) := by decide +kernel
theorem dX9_end_331 : decode cX9_end 331 = .ok (.iadd, 1) := by decide +kernel
theorem dX9_end_332 : decode cX9_end 332 = .ok (.iconst 1, 1) := by decide +kernel
theorem dX9_end_333 : decode cX9_end 333 = .ok (.iadd, 1) := by decide +kernel
theorem dX9_end_334 : decode cX9_end 334 = .ok (.if_icmp .ne 9, 3) := by decide +kernel
theorem dX9_end_337 : decode cX9_end 337 = .ok (.iinc 10 (-1), 3) := by decide +kernel
theorem dX9_end_340 : decode cX9_end 340 = .ok (.goto (-28), 3) := by decide +kernel
theorem dX9_end_343 : decode cX9_end 343 = .ok (.iload 10, 2) := by decide +kernel
theorem dX9_end_345 : decode cX9_end 345 = .ok (.ifCond .lt 7, 3) := by decide +kernel
theorem dX9_end_348 : decode cX9_end 348 = .ok (.iconst 1, 1) := by decide +kernel
theorem dX9_end_349 : decode cX9_end 349 = .ok (.goto 4, 3) := by decide +kernel
theorem dX9_end_352 : decode cX9_end 352 = .ok (.iconst 0, 1) := by decide +kernel
theorem dX9_end_353 : decode cX9_end 353 = .ok (.istore 9, 2) := by decide +kernel
theorem dX9_end_355 : decode cX9_end 355 = .ok (.iload 9, 2) := by decide +kernel
theorem dX9_end_357 : decode cX9_end 357 = .ok (.ifCond .eq 51, 3) := by decide +kernel
theorem dX9_end_360 : decode cX9_end 360 = .ok (.aload_n 0, 1) := by decide +kernel
theorem dX9_end_361 : decode cX9_end 361 = .ok (.getfield 76, 3) := by decide +kernel
theorem dX9_end_364 : decode cX9_end 364 = .ok (.iload 10, 2) := by decide +kernel
theorem dX9_end_366 : decode cX9_end 366 = .ok (.dup2, 1) := by decide +kernel
theorem dX9_end_367 : decode cX9_end 367 = .ok (.iaload, 1) := by decide +kernel
theorem dX9_end_368 : decode cX9_end 368 = .ok (.iconst 1, 1) := by decide +kernel
theorem dX9_end_369 : decode cX9_end 369 = .ok (.iadd, 1) := by decide +kernel
theorem dX9_end_370 : decode cX9_end 370 = .ok (.iastore, 1) := by decide +kernel
theorem dX9_end_371 : decode cX9_end 371 = .ok (.iload 10, 2) := by decide +kernel
theorem dX9_end_373 : decode cX9_end 373 = .ok (.iconst 1, 1) := by decide +kernel
theorem dX9_end_374 : decode cX9_end 374 = .ok (.iadd, 1) := by decide +kernel
theorem dX9_end_375 : decode cX9_end 375 = .ok (.istore 11, 2) := by decide +kernel
theorem dX9_end_377 : decode cX9_end 377 = .ok (.iload 11, 2) := by decide +kernel
theorem dX9_end_379 : decode cX9_end 379 = .ok (.iload 7, 2) := by decide +kernel
theorem dX9_end_381 : decode cX9_end 381 = .ok (.if_icmp .ge 27, 3) := by decide +kernel
theorem dX9_end_384 : decode cX9_end 384 = .ok (.aload_n 0, 1) := by decide +kernel
theorem dX9_end_385 : decode cX9_end 385 = .ok (.getfield 76, 3) := by decide +kernel
theorem dX9_end_388 : decode cX9_end 388 = .ok (.iload 11, 2) := by decide +kernel
theorem dX9_end_390 : decode cX9_end 390 = .ok (.aload_n 0, 1) := by decide +kernel
theorem dX9_end_391 : decode cX9_end 391 = .ok (.getfield 76, 3) := by decide +kernel
theorem dX9_end_394 : decode cX9_end 394 = .ok (.iload 11, 2) := by decide +kernel
theorem dX9_end_396 : decode cX9_end 396 = .ok (.iconst 1, 1) := by decide +kernel
theorem dX9_end_397 : decode cX9_end 397 = .ok (.isub, 1) := by decide +kernel
theorem dX9_end_398 : decode cX9_end 398 = .ok (.iaload, 1) := by decide +kernel
theorem dX9_end_399 : decode cX9_end 399 = .ok (.iconst 1, 1) := by decide +kernel
theorem dX9_end_400 : decode cX9_end 400 = .ok (.iadd, 1) := by decide +kernel
theorem dX9_end_401 : decode cX9_end 401 = .ok (.iastore, 1) := by decide +kernel
theorem dX9_end_402 : decode cX9_end 402 = .ok (.iinc 11 1, 3) := by decide +kernel
theorem dX9_end_405 : decode cX9_end 405 = .ok (.goto (-28), 3) := by decide +kernel
theorem dX9_end_408 : decode cX9_end 408 = .ok (.goto (-327), 3) := by decide +kernel
theorem dX9_end_411 : decode cX9_end 411 = .ok (.aload_n 0, 1) := by decide +kernel
theorem dX9_end_412 : decode cX9_end 412 = .ok (.lload_n 3, 1) := by decide +kernel
theorem dX9_end_413 : decode cX9_end 413 = .ok (.lload 5, 2) := by decide +kernel
theorem dX9_end_415 : decode cX9_end 415 = .ok (.invokevirtual 128, 3) := by decide +kernel
theorem dX9_end_418 : decode cX9_end 418 = .ok (.ireturn, 1) := by decide +kernel
theorem dX9_calm_0 : decode cX9_calm 0 = .ok (.aload_n 0, 1) := by decide +kernel
theorem dX9_calm_1 : decode cX9_calm 1 = .ok (.iload_n 1, 1) := by decide +kernel
theorem dX9_calm_2 : decode cX9_calm 2 = .ok (.invokevirtual 118, 3) := by decide +kernel
theorem dX9_calm_5 : decode cX9_calm 5 = .ok (.ifCond .ne 6, 3) := by decide +kernel
theorem dX9_calm_8 : decode cX9_calm 8 = .ok (.bipush (-2), 2) := by decide +kernel
theorem dX9_calm_10 : decode cX9_calm 10 = .ok (.ireturn, 1) := by decide +kernel
theorem dX9_calm_11 : decode cX9_calm 11 = .ok (.aload_n 0, 1) := by decide +kernel
theorem dX9_calm_12 : decode cX9_calm 12 = .ok (.invokevirtual 183, 3) := by decide +kernel
theorem dX9_calm_15 : decode cX9_calm 15 = .ok (.aload_n 0, 1) := by decide +kernel
theorem dX9_calm_16 : decode cX9_calm 16 = .ok (.getfield 138, 3) := by decide +kernel
theorem dX9_calm_19 : decode cX9_calm 19 = .ok (.aload_n 0, 1) := by decide +kernel
theorem dX9_calm_20 : decode cX9_calm 20 = .ok (.getfield 7, 3) := by decide +kernel
theorem dX9_calm_23 : decode cX9_calm 23 = .ok (.if_icmp .ge 84, 3) := by decide +kernel
theorem dX9_calm_26 : decode cX9_calm 26 = .ok (.aload_n 0, 1) := by decide +kernel
theorem dX9_calm_27 : decode cX9_calm 27 = .ok (.invokevirtual 186, 3) := by decide +kernel
theorem dX9_calm_30 : decode cX9_calm 30 = .ok (.aload_n 0, 1) := by decide +kernel
theorem dX9_calm_31 : decode cX9_calm 31 = .ok (.getfield 173, 3) := by decide +kernel
theorem dX9_calm_34 : decode cX9_calm 34 = .ok (.lstore_n 2, 1) := by decide +kernel
theorem dX9_calm_35 : decode cX9_calm 35 = .ok (.aload_n 0, 1) := by decide +kernel
theorem dX9_calm_36 : decode cX9_calm 36 = .ok (.getfield 170, 3) := by decide +kernel
theorem dX9_calm_39 : decode cX9_calm 39 = .ok (.lstore 4, 2) := by decide +kernel
theorem dX9_calm_41 : decode cX9_calm 41 = .ok (.iconst 0, 1) := by decide +kernel
theorem dX9_calm_42 : decode cX9_calm 42 = .ok (.istore 6, 2) := by decide +kernel
theorem dX9_calm_44 : decode cX9_calm 44 = .ok (.iload 6, 2) := by decide +kernel
theorem dX9_calm_46 : decode cX9_calm 46 = .ok (.aload_n 0, 1) := by decide +kernel
theorem dX9_calm_47 : decode cX9_calm 47 = .ok (.getfield 164, 3) := by decide +kernel
theorem dX9_calm_50 : decode cX9_calm 50 = .ok (.if_icmp .ge 54, 3) := by decide +kernel
theorem dX9_calm_53 : decode cX9_calm 53 = .ok (.aload_n 0, 1) := by decide +kernel
theorem dX9_calm_54 : decode cX9_calm 54 = .ok (.aload_n 0, 1) := by decide +kernel
theorem dX9_calm_55 : decode cX9_calm 55 = .ok (.getfield 79, 3) := by decide +kernel
theorem dX9_calm_58 : decode cX9_calm 58 = .ok (.iload 6, 2) := by decide +kernel
theorem dX9_calm_60 : decode cX9_calm 60 = .ok (.iaload, 1) := by decide +kernel
theorem dX9_calm_61 : decode cX9_calm 61 = .ok (.invokevirtual 144, 3) := by decide +kernel
theorem dX9_calm_64 : decode cX9_calm 64 = .ok (.ifCond .eq 34, 3) := by decide +kernel
theorem dX9_calm_67 : decode cX9_calm 67 = .ok (.aload_n 0, 1) := by decide +kernel
theorem dX9_calm_68 : decode cX9_calm 68 = .ok (.aload_n 0, 1) := by decide +kernel
theorem dX9_calm_69 : decode cX9_calm 69 = .ok (.getfield 79, 3) := by decide +kernel
theorem dX9_calm_72 : decode cX9_calm 72 = .ok (.iload 6, 2) := by decide +kernel
theorem dX9_calm_74 : decode cX9_calm 74 = .ok (.iaload, 1) := by decide +kernel
theorem dX9_calm_75 : decode cX9_calm 75 = .ok (.aload_n 0, 1) := by decide +kernel
theorem dX9_calm_76 : decode cX9_calm 76 = .ok (.getfield 13, 3) := by decide +kernel
theorem dX9_calm_79 : decode cX9_calm 79 = .ok (.aload_n 0, 1) := by decide +kernel
theorem dX9_calm_80 : decode cX9_calm 80 = .ok (.getfield 79, 3) := by decide +kernel
theorem dX9_calm_83 : decode cX9_calm 83 = .ok (.iload 6, 2) := by decide +kernel
theorem dX9_calm_85 : decode cX9_calm 85 = .ok (.iaload, 1) := by decide +kernel
theorem dX9_calm_86 : decode cX9_calm 86 = .ok (.iaload, 1) := by decide +kernel
theorem dX9_calm_87 : decode cX9_calm 87 = .ok (.i2l, 1) := by decide +kernel
theorem dX9_calm_88 : decode cX9_calm 88 = .ok (.lload 4, 2) := by decide +kernel
theorem dX9_calm_90 : decode cX9_calm 90 = .ok (.lmul, 1) := by decide +kernel
theorem dX9_calm_91 : decode cX9_calm 91 = .ok (.lload_n 2, 1) := by decide +kernel
theorem dX9_calm_92 : decode cX9_calm 92 = .ok (.lsub, 1) := by decide +kernel
theorem dX9_calm_93 : decode cX9_calm 93 = .ok (.lload 4, 2) := by decide +kernel
theorem dX9_calm_95 : decode cX9_calm 95 = .ok (.invokevirtual 176, 3) := by decide +kernel
theorem dX9_calm_98 : decode cX9_calm 98 = .ok (.iinc 6 1, 3) := by decide +kernel
theorem dX9_calm_101 : decode cX9_calm 101 = .ok (.goto (-57), 3) := by decide +kernel
theorem dX9_calm_104 : decode cX9_calm 104 = .ok (.goto (-89), 3) := by decide +kernel
theorem dX9_calm_107 : decode cX9_calm 107 = .ok (.aload_n 0, 1) := by decide +kernel
theorem dX9_calm_108 : decode cX9_calm 108 = .ok (.invokevirtual 147, 3) := by decide +kernel
theorem dX9_calm_111 : decode cX9_calm 111 = .ok (.iconst 0, 1) := by decide +kernel
theorem dX9_calm_112 : decode cX9_calm 112 = .ok (.istore_n 2, 1) := by decide +kernel
theorem dX9_calm_113 : decode cX9_calm 113 = .ok (.iload_n 2, 1) := by decide +kernel
theorem dX9_calm_114 : decode cX9_calm 114 = .ok (.aload_n 0, 1) := by decide +kernel
theorem dX9_calm_115 : decode cX9_calm 115 = .ok (.getfield 7, 3) := by decide +kernel
theorem dX9_calm_118 : decode cX9_calm 118 = .ok (.if_icmp .ge 68, 3) := by decide +kernel
theorem dX9_calm_121 : decode cX9_calm 121 = .ok (.iconst 0, 1) := by decide +kernel
theorem dX9_calm_122 : decode cX9_calm 122 = .ok (.istore_n 3, 1) := by decide +kernel
theorem dX9_calm_123 : decode cX9_calm 123 = .ok (.iload_n 3, 1) := by decide +kernel
theorem dX9_calm_124 : decode cX9_calm 124 = .ok (.aload_n 0, 1) := by decide +kernel
theorem dX9_calm_125 : decode cX9_calm 125 = .ok (.getfield 7, 3) := by decide +kernel
theorem dX9_calm_128 : decode cX9_calm 128 = .ok (.if_icmp .ge 34, 3) := by decide +kernel
theorem dX9_calm_131 : decode cX9_calm 131 = .ok (.aload_n 0, 1) := by decide +kernel
theorem dX9_calm_132 : decode cX9_calm 132 = .ok (.iload_n 2, 1) := by decide +kernel
theorem dX9_calm_133 : decode cX9_calm 133 = .ok (.iload_n 3, 1) := by decide +kernel
theorem dX9_calm_134 : decode cX9_calm 134 = .ok (.aload_n 0, 1) := by decide +kernel
theorem dX9_calm_135 : decode cX9_calm 135 = .ok (.getfield 61, 3) := by decide +kernel
theorem dX9_calm_138 : decode cX9_calm 138 = .ok (.iload_n 2, 1) := by decide +kernel
theorem dX9_calm_139 : decode cX9_calm 139 = .ok (.iaload, 1) := by decide +kernel
theorem dX9_calm_140 : decode cX9_calm 140 = .ok (.iload_n 3, 1) := by decide +kernel
theorem dX9_calm_141 : decode cX9_calm 141 = .ok (.invokestatic 121, 3) := by decide +kernel
theorem dX9_calm_144 : decode cX9_calm 144 = .ok (.ifCond .eq 7, 3) := by decide +kernel
theorem dX9_calm_147 : decode cX9_calm 147 = .ok (.lconst 1, 1) := by decide +kernel
theorem dX9_calm_148 : decode cX9_calm 148 = .ok (.goto 4, 3) := by decide +kernel
theorem dX9_calm_151 : decode cX9_calm 151 = .ok (.lconst 0, 1) := by decide +kernel
theorem dX9_calm_152 : decode cX9_calm 152 = .ok (.lconst 1, 1) := by decide +kernel
theorem dX9_calm_153 : decode cX9_calm 153 = .ok (.invokevirtual 134, 3) := by decide +kernel
theorem dX9_calm_156 : decode cX9_calm 156 = .ok (.iinc 3 1, 3) := by decide +kernel
theorem dX9_calm_159 : decode cX9_calm 159 = .ok (.goto (-36), 3) := by decide +kernel
theorem dX9_calm_162 : decode cX9_calm 162 = .ok (.aload_n 0, 1) := by decide +kernel
theorem dX9_calm_163 : decode cX9_calm 163 = .ok (.iload_n 2, 1) := by decide +kernel
theorem dX9_calm_164 : decode cX9_calm 164 = .ok (.iconst 5, 1) := by decide +kernel
theorem dX9_calm_165 : decode cX9_calm 165 = .ok (.aload_n 0, 1) := by decide +kernel
theorem dX9_calm_166 : decode cX9_calm 166 = .ok (.getfield 64, 3) := by decide +kernel
theorem dX9_calm_169 : decode cX9_calm 169 = .ok (.iload_n 2, 1) := by decide +kernel
theorem dX9_calm_170 : decode cX9_calm 170 = .ok (.laload, 1) := by decide +kernel
theorem dX9_calm_171 : decode cX9_calm 171 = .ok (.aload_n 0, 1) := by decide +kernel
theorem dX9_calm_172 : decode cX9_calm 172 = .ok (.getfield 67, 3) := by decide +kernel
theorem dX9_calm_175 : decode cX9_calm 175 = .ok (.iload_n 2, 1) := by decide +kernel
theorem dX9_calm_176 : decode cX9_calm 176 = .ok (.laload, 1) := by decide +kernel
theorem dX9_calm_177 : decode cX9_calm 177 = .ok (.invokevirtual 134, 3) := by decide +kernel
theorem dX9_calm_180 : decode cX9_calm 180 = .ok (.iinc 2 1, 3) := by decide +kernel
theorem dX9_calm_183 : decode cX9_calm 183 = .ok (.goto (-70), 3) := by decide +kernel
theorem dX9_calm_186 : decode cX9_calm 186 = .ok (.aload_n 0, 1) := by decide +kernel
theorem dX9_calm_187 : decode cX9_calm 187 = .ok (.aload_n 0, 1) := by decide +kernel
theorem dX9_calm_188 : decode cX9_calm 188 = .ok (.getfield 7, 3) := by decide +kernel
theorem dX9_calm_191 : decode cX9_calm 191 = .ok (.invokevirtual 152, 3) := by decide +kernel
theorem dX9_calm_194 : decode cX9_calm 194 = .ok (.pop, 1) := by decide +kernel
theorem dX9_calm_195 : decode cX9_calm 195 = .ok (.aload_n 0, 1) := by decide +kernel
theorem dX9_calm_196 : decode cX9_calm 196 = .ok (.aload_n 0, 1) := by decide +kernel
theorem dX9_calm_197 : decode cX9_calm 197 = .ok (.getfield 54, 3) := by decide +kernel
theorem dX9_calm_200 : decode cX9_calm 200 = .ok (.bipush 6, 2) := by decide +kernel
theorem dX9_calm_202 : decode cX9_calm 202 = .ok (.iload_n 1, 1) := by decide +kernel
theorem dX9_calm_203 : decode cX9_calm 203 = .ok (.imul, 1) := by decide +kernel
theorem dX9_calm_204 : decode cX9_calm 204 = .ok (.iconst 5, 1) := by decide +kernel
theorem dX9_calm_205 : decode cX9_calm 205 = .ok (.iadd, 1) := by decide +kernel
theorem dX9_calm_206 : decode cX9_calm 206 = .ok (.laload, 1) := by decide +kernel
theorem dX9_calm_207 : decode cX9_calm 207 = .ok (.aload_n 0, 1) := by decide +kernel
theorem dX9_calm_208 : decode cX9_calm 208 = .ok (.getfield 58, 3) := by decide +kernel
theorem dX9_calm_211 : decode cX9_calm 211 = .ok (.bipush 6, 2) := by decide +kernel
theorem dX9_calm_213 : decode cX9_calm 213 = .ok (.iload_n 1, 1) := by decide +kernel
theorem dX9_calm_214 : decode cX9_calm 214 = .ok (.imul, 1) := by decide +kernel
theorem dX9_calm_215 : decode cX9_calm 215 = .ok (.iconst 5, 1) := by decide +kernel
theorem dX9_calm_216 : decode cX9_calm 216 = .ok (.iadd, 1) := by decide +kernel
theorem dX9_calm_217 : decode cX9_calm 217 = .ok (.laload, 1) := by decide +kernel
theorem dX9_calm_218 : decode cX9_calm 218 = .ok (.invokevirtual 128, 3) := by decide +kernel
theorem dX9_calm_221 : decode cX9_calm 221 = .ok (.ireturn, 1) := by decide +kernel
theorem dX9_isShare_0 : decode cX9_isShare 0 = .ok (.iload_n 0, 1) := by decide +kernel
theorem dX9_isShare_1 : decode cX9_isShare 1 = .ok (.i2l, 1) := by decide +kernel
theorem dX9_isShare_2 : decode cX9_isShare 2 = .ok (.lconst 0, 1) := by decide +kernel
theorem dX9_isShare_3 : decode cX9_isShare 3 = .ok (.lconst 1, 1) := by decide +kernel
theorem dX9_isShare_4 : decode cX9_isShare 4 = .ok (.invokestatic 92, 3) := by decide +kernel
theorem dX9_isShare_7 : decode cX9_isShare 7 = .ok (.ireturn, 1) := by decide +kernel
theorem dX9_give_0 : decode cX9_give 0 = .ok (.iload_n 1, 1) := by decide +kernel
theorem dX9_give_1 : decode cX9_give 1 = .ok (.invokestatic 196, 3) := by decide +kernel
theorem dX9_give_4 : decode cX9_give 4 = .ok (.ifCond .eq 25, 3) := by decide +kernel
theorem dX9_give_7 : decode cX9_give 7 = .ok (.aload_n 0, 1) := by decide +kernel
theorem dX9_give_8 : decode cX9_give 8 = .ok (.iload_n 2, 1) := by decide +kernel
theorem dX9_give_9 : decode cX9_give 9 = .ok (.invokevirtual 118, 3) := by decide +kernel
theorem dX9_give_12 : decode cX9_give 12 = .ok (.ifCond .eq 17, 3) := by decide +kernel
theorem dX9_give_15 : decode cX9_give 15 = .ok (.iload_n 3, 1) := by decide +kernel
theorem dX9_give_16 : decode cX9_give 16 = .ok (.i2l, 1) := by decide +kernel
theorem dX9_give_17 : decode cX9_give 17 = .ok (.ldc2_w 199, 3) := by decide +kernel
theorem dX9_give_20 : decode cX9_give 20 = .ok (.ldc2_w 201, 3) := by decide +kernel
theorem dX9_give_23 : decode cX9_give 23 = .ok (.invokestatic 92, 3) := by decide +kernel
theorem dX9_give_26 : decode cX9_give 26 = .ok (.ifCond .ne 6, 3) := by decide +kernel
theorem dX9_give_29 : decode cX9_give 29 = .ok (.ldc 113, 2) := by decide +kernel
theorem dX9_give_31 : decode cX9_give 31 = .ok (.ireturn, 1) := by decide +kernel
theorem dX9_give_32 : decode cX9_give 32 = .ok (.aload_n 0, 1) := by decide +kernel
theorem dX9_give_33 : decode cX9_give 33 = .ok (.getfield 17, 3) := by decide +kernel
theorem dX9_give_36 : decode cX9_give 36 = .ok (.iconst 4, 1) := by decide +kernel
theorem dX9_give_37 : decode cX9_give 37 = .ok (.iload_n 1, 1) := by decide +kernel
theorem dX9_give_38 : decode cX9_give 38 = .ok (.imul, 1) := by decide +kernel
theorem dX9_give_39 : decode cX9_give 39 = .ok (.iload_n 2, 1) := by decide +kernel
theorem dX9_give_40 : decode cX9_give 40 = .ok (.iadd, 1) := by decide +kernel
theorem dX9_give_41 : decode cX9_give 41 = .ok (.iaload, 1) := by decide +kernel
theorem dX9_give_42 : decode cX9_give 42 = .ok (.istore 4, 2) := by decide +kernel
theorem dX9_give_44 : decode cX9_give 44 = .ok (.aload_n 0, 1) := by decide +kernel
theorem dX9_give_45 : decode cX9_give 45 = .ok (.getfield 17, 3) := by decide +kernel
theorem dX9_give_48 : decode cX9_give 48 = .ok (.iconst 4, 1) := by decide +kernel
theorem dX9_give_49 : decode cX9_give 49 = .ok (.iload_n 1, 1) := by decide +kernel
theorem dX9_give_50 : decode cX9_give 50 = .ok (.imul, 1) := by decide +kernel
theorem dX9_give_51 : decode cX9_give 51 = .ok (.iload_n 2, 1) := by decide +kernel
theorem dX9_give_52 : decode cX9_give 52 = .ok (.iadd, 1) := by decide +kernel
theorem dX9_give_53 : decode cX9_give 53 = .ok (.iload_n 3, 1) := by decide +kernel
theorem dX9_give_54 : decode cX9_give 54 = .ok (.iastore, 1) := by decide +kernel
theorem dX9_give_55 : decode cX9_give 55 = .ok (.iload 4, 2) := by decide +kernel
theorem dX9_give_57 : decode cX9_give 57 = .ok (.ireturn, 1) := by decide +kernel
theorem dX9_sumOf_0 : decode cX9_sumOf 0 = .ok (.iconst 0, 1) := by decide +kernel
theorem dX9_sumOf_1 : decode cX9_sumOf 1 = .ok (.istore_n 3, 1) := by decide +kernel
theorem dX9_sumOf_2 : decode cX9_sumOf 2 = .ok (.iconst 0, 1) := by decide +kernel
theorem dX9_sumOf_3 : decode cX9_sumOf 3 = .ok (.istore 4, 2) := by decide +kernel
theorem dX9_sumOf_5 : decode cX9_sumOf 5 = .ok (.iload 4, 2) := by decide +kernel
theorem dX9_sumOf_7 : decode cX9_sumOf 7 = .ok (.aload_n 0, 1) := by decide +kernel
theorem dX9_sumOf_8 : decode cX9_sumOf 8 = .ok (.getfield 7, 3) := by decide +kernel
theorem dX9_sumOf_11 : decode cX9_sumOf 11 = .ok (.if_icmp .ge 36, 3) := by decide +kernel
theorem dX9_sumOf_14 : decode cX9_sumOf 14 = .ok (.iload_n 3, 1) := by decide +kernel
theorem dX9_sumOf_15 : decode cX9_sumOf 15 = .ok (.iload_n 2, 1) := by decide +kernel
theorem dX9_sumOf_16 : decode cX9_sumOf 16 = .ok (.iload 4, 2) := by decide +kernel
theorem dX9_sumOf_18 : decode cX9_sumOf 18 = .ok (.invokestatic 121, 3) := by decide +kernel
theorem dX9_sumOf_21 : decode cX9_sumOf 21 = .ok (.ifCond .eq 17, 3) := by decide +kernel
theorem dX9_sumOf_24 : decode cX9_sumOf 24 = .ok (.aload_n 0, 1) := by decide +kernel
theorem dX9_sumOf_25 : decode cX9_sumOf 25 = .ok (.getfield 17, 3) := by decide +kernel
theorem dX9_sumOf_28 : decode cX9_sumOf 28 = .ok (.iconst 4, 1) := by decide +kernel
theorem dX9_sumOf_29 : decode cX9_sumOf 29 = .ok (.iload_n 1, 1) := by decide +kernel
theorem dX9_sumOf_30 : decode cX9_sumOf 30 = .ok (.imul, 1) := by decide +kernel
theorem dX9_sumOf_31 : decode cX9_sumOf 31 = .ok (.iload 4, 2) := by decide +kernel
theorem dX9_sumOf_33 : decode cX9_sumOf 33 = .ok (.iadd, 1) := by decide +kernel
theorem dX9_sumOf_34 : decode cX9_sumOf 34 = .ok (.iaload, 1) := by decide +kernel
theorem dX9_sumOf_35 : decode cX9_sumOf 35 = .ok (.goto 4, 3) := by decide +kernel
theorem dX9_sumOf_38 : decode cX9_sumOf 38 = .ok (.iconst 0, 1) := by decide +kernel
theorem dX9_sumOf_39 : decode cX9_sumOf 39 = .ok (.iadd, 1) := by decide +kernel
theorem dX9_sumOf_40 : decode cX9_sumOf 40 = .ok (.istore_n 3, 1) := by decide +kernel
theorem dX9_sumOf_41 : decode cX9_sumOf 41 = .ok (.iinc 4 1, 3) := by decide +kernel
theorem dX9_sumOf_44 : decode cX9_sumOf 44 = .ok (.goto (-39), 3) := by decide +kernel
theorem dX9_sumOf_47 : decode cX9_sumOf 47 = .ok (.iload_n 3, 1) := by decide +kernel
theorem dX9_sumOf_48 : decode cX9_sumOf 48 = .ok (.ireturn, 1) := by decide +kernel
theorem dX9_complaint_0 : decode cX9_complaint 0 = .ok (.iload_n 1, 1) := by decide +kernel
theorem dX9_complaint_1 : decode cX9_complaint 1 = .ok (.invokestatic 196, 3) := by decide +kernel
theorem dX9_complaint_4 : decode cX9_complaint 4 = .ok (.ifCond .eq 27, 3) := by decide +kernel
theorem dX9_complaint_7 : decode cX9_complaint 7 = .ok (.aload_n 0, 1) := by decide +kernel
theorem dX9_complaint_8 : decode cX9_complaint 8 = .ok (.iload_n 2, 1) := by decide +kernel
theorem dX9_complaint_9 : decode cX9_complaint 9 = .ok (.invokevirtual 105, 3) := by decide +kernel
theorem dX9_complaint_12 : decode cX9_complaint 12 = .ok (.ifCond .eq 19, 3) := by decide +kernel
theorem dX9_complaint_15 : decode cX9_complaint 15 = .ok (.aload_n 0, 1) := by decide +kernel
theorem dX9_complaint_16 : decode cX9_complaint 16 = .ok (.getfield 13, 3) := by decide +kernel
theorem dX9_complaint_19 : decode cX9_complaint 19 = .ok (.iload_n 2, 1) := by decide +kernel
theorem dX9_complaint_20 : decode cX9_complaint 20 = .ok (.iaload, 1) := by decide +kernel
theorem dX9_complaint_21 : decode cX9_complaint 21 = .ok (.aload_n 0, 1) := by decide +kernel
theorem dX9_complaint_22 : decode cX9_complaint 22 = .ok (.iload_n 1, 1) := by decide +kernel
theorem dX9_complaint_23 : decode cX9_complaint 23 = .ok (.iload_n 2, 1) := by decide +kernel
theorem dX9_complaint_24 : decode cX9_complaint 24 = .ok (.invokevirtual 203, 3) := by decide +kernel
theorem dX9_complaint_27 : decode cX9_complaint 27 = .ok (.isub, 1) := by decide +kernel
theorem dX9_complaint_28 : decode cX9_complaint 28 = .ok (.goto 5, 3) := by decide +kernel
theorem dX9_complaint_31 : decode cX9_complaint 31 = .ok (.ldc 207, 2) := by decide +kernel
theorem dX9_complaint_33 : decode cX9_complaint 33 = .ok (.ireturn, 1) := by decide +kernel
theorem dX9_surplusOf_0 : decode cX9_surplusOf 0 = .ok (.ldc 208, 2) := by decide +kernel
theorem dX9_surplusOf_2 : decode cX9_surplusOf 2 = .ok (.istore 4, 2) := by decide +kernel
theorem dX9_surplusOf_4 : decode cX9_surplusOf 4 = .ok (.iconst 1, 1) := by decide +kernel
theorem dX9_surplusOf_5 : decode cX9_surplusOf 5 = .ok (.istore 5, 2) := by decide +kernel
theorem dX9_surplusOf_7 : decode cX9_surplusOf 7 = .ok (.iload 5, 2) := by decide +kernel
theorem dX9_surplusOf_9 : decode cX9_surplusOf 9 = .ok (.aload_n 0, 1) := by decide +kernel
theorem dX9_surplusOf_10 : decode cX9_surplusOf 10 = .ok (.invokevirtual 88, 3) := by decide +kernel
theorem dX9_surplusOf_13 : decode cX9_surplusOf 13 = .ok (.if_icmp .gt 60, 3) := by decide +kernel
theorem dX9_surplusOf_16 : decode cX9_surplusOf 16 = .ok (.aload_n 0, 1) := by decide +kernel
theorem dX9_surplusOf_17 : decode cX9_surplusOf 17 = .ok (.getfield 13, 3) := by decide +kernel
theorem dX9_surplusOf_20 : decode cX9_surplusOf 20 = .ok (.iload 5, 2) := by decide +kernel
theorem dX9_surplusOf_22 : decode cX9_surplusOf 22 = .ok (.iaload, 1) := by decide +kernel
theorem dX9_surplusOf_23 : decode cX9_surplusOf 23 = .ok (.aload_n 0, 1) := by decide +kernel
theorem dX9_surplusOf_24 : decode cX9_surplusOf 24 = .ok (.iload_n 1, 1) := by decide +kernel
theorem dX9_surplusOf_25 : decode cX9_surplusOf 25 = .ok (.iload 5, 2) := by decide +kernel
theorem dX9_surplusOf_27 : decode cX9_surplusOf 27 = .ok (.invokevirtual 203, 3) := by decide +kernel
theorem dX9_surplusOf_30 : decode cX9_surplusOf 30 = .ok (.isub, 1) := by decide +kernel
theorem dX9_surplusOf_31 : decode cX9_surplusOf 31 = .ok (.istore 6, 2) := by decide +kernel
theorem dX9_surplusOf_33 : decode cX9_surplusOf 33 = .ok (.iload 5, 2) := by decide +kernel
theorem dX9_surplusOf_35 : decode cX9_surplusOf 35 = .ok (.iload_n 2, 1) := by decide +kernel
theorem dX9_surplusOf_36 : decode cX9_surplusOf 36 = .ok (.invokestatic 121, 3) := by decide +kernel
theorem dX9_surplusOf_39 : decode cX9_surplusOf 39 = .ok (.ifCond .eq 24, 3) := by decide +kernel
theorem dX9_surplusOf_42 : decode cX9_surplusOf 42 = .ok (.iload 5, 2) := by decide +kernel
theorem dX9_surplusOf_44 : decode cX9_surplusOf 44 = .ok (.iload_n 3, 1) := by decide +kernel
theorem dX9_surplusOf_45 : decode cX9_surplusOf 45 = .ok (.invokestatic 121, 3) := by decide +kernel
theorem dX9_surplusOf_48 : decode cX9_surplusOf 48 = .ok (.ifCond .ne 15, 3) := by decide +kernel
theorem dX9_surplusOf_51 : decode cX9_surplusOf 51 = .ok (.iload 6, 2) := by decide +kernel
theorem dX9_surplusOf_53 : decode cX9_surplusOf 53 = .ok (.iload 4, 2) := by decide +kernel
theorem dX9_surplusOf_55 : decode cX9_surplusOf 55 = .ok (.if_icmp .le 8, 3) := by decide +kernel
theorem dX9_surplusOf_58 : decode cX9_surplusOf 58 = .ok (.iload 6, 2) := by decide +kernel
theorem dX9_surplusOf_60 : decode cX9_surplusOf 60 = .ok (.goto 5, 3) := by decide +kernel
theorem dX9_surplusOf_63 : decode cX9_surplusOf 63 = .ok (.iload 4, 2) := by decide +kernel
theorem dX9_surplusOf_65 : decode cX9_surplusOf 65 = .ok (.istore 4, 2) := by decide +kernel
theorem dX9_surplusOf_67 : decode cX9_surplusOf 67 = .ok (.iinc 5 1, 3) := by decide +kernel
theorem dX9_surplusOf_70 : decode cX9_surplusOf 70 = .ok (.goto (-63), 3) := by decide +kernel
theorem dX9_surplusOf_73 : decode cX9_surplusOf 73 = .ok (.iload 4, 2) := by decide +kernel
theorem dX9_surplusOf_75 : decode cX9_surplusOf 75 = .ok (.ireturn, 1) := by decide +kernel
theorem dX9_surplus_0 : decode cX9_surplus 0 = .ok (.iload_n 1, 1) := by decide +kernel
theorem dX9_surplus_1 : decode cX9_surplus 1 = .ok (.invokestatic 196, 3) := by decide +kernel
theorem dX9_surplus_4 : decode cX9_surplus 4 = .ok (.ifCond .eq 34, 3) := by decide +kernel
theorem dX9_surplus_7 : decode cX9_surplus 7 = .ok (.aload_n 0, 1) := by decide +kernel
theorem dX9_surplus_8 : decode cX9_surplus 8 = .ok (.iload_n 2, 1) := by decide +kernel
theorem dX9_surplus_9 : decode cX9_surplus 9 = .ok (.invokevirtual 118, 3) := by decide +kernel
theorem dX9_surplus_12 : decode cX9_surplus 12 = .ok (.ifCond .eq 26, 3) := by decide +kernel
theorem dX9_surplus_15 : decode cX9_surplus 15 = .ok (.aload_n 0, 1) := by decide +kernel
theorem dX9_surplus_16 : decode cX9_surplus 16 = .ok (.iload_n 3, 1) := by decide +kernel
theorem dX9_surplus_17 : decode cX9_surplus 17 = .ok (.invokevirtual 118, 3) := by decide +kernel
theorem dX9_surplus_20 : decode cX9_surplus 20 = .ok (.ifCond .eq 18, 3) := by decide +kernel
theorem dX9_surplus_23 : decode cX9_surplus 23 = .ok (.iload_n 2, 1) := by decide +kernel
theorem dX9_surplus_24 : decode cX9_surplus 24 = .ok (.iload_n 3, 1) := by decide +kernel
theorem dX9_surplus_25 : decode cX9_surplus 25 = .ok (.if_icmp .eq 13, 3) := by decide +kernel
theorem dX9_surplus_28 : decode cX9_surplus 28 = .ok (.aload_n 0, 1) := by decide +kernel
theorem dX9_surplus_29 : decode cX9_surplus 29 = .ok (.iload_n 1, 1) := by decide +kernel
theorem dX9_surplus_30 : decode cX9_surplus 30 = .ok (.iload_n 2, 1) := by decide +kernel
theorem dX9_surplus_31 : decode cX9_surplus 31 = .ok (.iload_n 3, 1) := by decide +kernel
theorem dX9_surplus_32 : decode cX9_surplus 32 = .ok (.invokevirtual 209, 3) := by decide +kernel
theorem dX9_surplus_35 : decode cX9_surplus 35 = .ok (.goto 5, 3) := by decide +kernel
theorem dX9_surplus_38 : decode cX9_surplus 38 = .ok (.ldc 207, 2) := by decide +kernel
theorem dX9_surplus_40 : decode cX9_surplus 40 = .ok (.ireturn, 1) := by decide +kernel
theorem dX9_even_0 : decode cX9_even 0 = .ok (.iload_n 1, 1) := by decide +kernel
theorem dX9_even_1 : decode cX9_even 1 = .ok (.invokestatic 196, 3) := by decide +kernel
theorem dX9_even_4 : decode cX9_even 4 = .ok (.ifCond .ne 6, 3) := by decide +kernel
theorem dX9_even_7 : decode cX9_even 7 = .ok (.bipush (-2), 2) := by decide +kernel
theorem dX9_even_9 : decode cX9_even 9 = .ok (.ireturn, 1) := by decide +kernel
theorem dX9_even_10 : decode cX9_even 10 = .ok (.aload_n 0, 1) := by decide +kernel
theorem dX9_even_11 : decode cX9_even 11 = .ok (.iload_n 1, 1) := by decide +kernel
theorem dX9_even_12 : decode cX9_even 12 = .ok (.aload_n 0, 1) := by decide +kernel
theorem dX9_even_13 : decode cX9_even 13 = .ok (.invokevirtual 88, 3) := by decide +kernel
theorem dX9_even_16 : decode cX9_even 16 = .ok (.invokevirtual 203, 3) := by decide +kernel
theorem dX9_even_19 : decode cX9_even 19 = .ok (.aload_n 0, 1) := by decide +kernel
theorem dX9_even_20 : decode cX9_even 20 = .ok (.getfield 13, 3) := by decide +kernel
theorem dX9_even_23 : decode cX9_even 23 = .ok (.aload_n 0, 1) := by decide +kernel
theorem dX9_even_24 : decode cX9_even 24 = .ok (.invokevirtual 88, 3) := by decide +kernel
theorem dX9_even_27 : decode cX9_even 27 = .ok (.iaload, 1) := by decide +kernel
theorem dX9_even_28 : decode cX9_even 28 = .ok (.if_icmp .ne 7, 3) := by decide +kernel
theorem dX9_even_31 : decode cX9_even 31 = .ok (.iconst 1, 1) := by decide +kernel
theorem dX9_even_32 : decode cX9_even 32 = .ok (.goto 4, 3) := by decide +kernel
theorem dX9_even_35 : decode cX9_even 35 = .ok (.iconst 0, 1) := by decide +kernel
theorem dX9_even_36 : decode cX9_even 36 = .ok (.istore_n 2, 1) := by decide +kernel
theorem dX9_even_37 : decode cX9_even 37 = .ok (.iconst 0, 1) := by decide +kernel
theorem dX9_even_38 : decode cX9_even 38 = .ok (.istore_n 3, 1) := by decide +kernel
theorem dX9_even_39 : decode cX9_even 39 = .ok (.iload_n 3, 1) := by decide +kernel
theorem dX9_even_40 : decode cX9_even 40 = .ok (.aload_n 0, 1) := by decide +kernel
theorem dX9_even_41 : decode cX9_even 41 = .ok (.getfield 7, 3) := by decide +kernel
theorem dX9_even_44 : decode cX9_even 44 = .ok (.if_icmp .ge 53, 3) := by decide +kernel
theorem dX9_even_47 : decode cX9_even 47 = .ok (.iconst 0, 1) := by decide +kernel
theorem dX9_even_48 : decode cX9_even 48 = .ok (.istore 4, 2) := by decide +kernel
theorem dX9_even_50 : decode cX9_even 50 = .ok (.iload 4, 2) := by decide +kernel
theorem dX9_even_52 : decode cX9_even 52 = .ok (.iload_n 3, 1) := by decide +kernel
theorem dX9_even_53 : decode cX9_even 53 = .ok (.if_icmp .ge 38, 3) := by decide +kernel
theorem dX9_even_56 : decode cX9_even 56 = .ok (.iload_n 2, 1) := by decide +kernel
theorem dX9_even_57 : decode cX9_even 57 = .ok (.ifCond .eq 26, 3) := by decide +kernel
theorem dX9_even_60 : decode cX9_even 60 = .ok (.aload_n 0, 1) := by decide +kernel
theorem dX9_even_61 : decode cX9_even 61 = .ok (.iload_n 1, 1) := by decide +kernel
theorem dX9_even_62 : decode cX9_even 62 = .ok (.iload_n 3, 1) := by decide +kernel
theorem dX9_even_63 : decode cX9_even 63 = .ok (.iload 4, 2) := by decide +kernel
theorem dX9_even_65 : decode cX9_even 65 = .ok (.invokevirtual 209, 3) := by decide +kernel
theorem dX9_even_68 : decode cX9_even 68 = .ok (.aload_n 0, 1) := by decide +kernel
theorem dX9_even_69 : decode cX9_even 69 = .ok (.iload_n 1, 1) := by decide +kernel
theorem dX9_even_70 : decode cX9_even 70 = .ok (.iload 4, 2) := by decide +kernel
theorem dX9_even_72 : decode cX9_even 72 = .ok (.iload_n 3, 1) := by decide +kernel
theorem dX9_even_73 : decode cX9_even 73 = .ok (.invokevirtual 209, 3) := by decide +kernel
theorem dX9_even_76 : decode cX9_even 76 = .ok (.if_icmp .ne 7, 3) := by decide +kernel
theorem dX9_even_79 : decode cX9_even 79 = .ok (.iconst 1, 1) := by decide +kernel
theorem dX9_even_80 : decode cX9_even 80 = .ok (.goto 4, 3) := by decide +kernel
theorem dX9_even_83 : decode cX9_even 83 = .ok (.iconst 0, 1) := by decide +kernel
theorem dX9_even_84 : decode cX9_even 84 = .ok (.istore_n 2, 1) := by decide +kernel
theorem dX9_even_85 : decode cX9_even 85 = .ok (.iinc 4 1, 3) := by decide +kernel
theorem dX9_even_88 : decode cX9_even 88 = .ok (.goto (-38), 3) := by decide +kernel
theorem dX9_even_91 : decode cX9_even 91 = .ok (.iinc 3 1, 3) := by decide +kernel
theorem dX9_even_94 : decode cX9_even 94 = .ok (.goto (-55), 3) := by decide +kernel
theorem dX9_even_97 : decode cX9_even 97 = .ok (.iload_n 2, 1) := by decide +kernel
theorem dX9_even_98 : decode cX9_even 98 = .ok (.ifCond .eq 7, 3) := by decide +kernel
theorem dX9_even_101 : decode cX9_even 101 = .ok (.iconst 1, 1) := by decide +kernel
theorem dX9_even_102 : decode cX9_even 102 = .ok (.goto 4, 3) := by decide +kernel
theorem dX9_even_105 : decode cX9_even 105 = .ok (.iconst 0, 1) := by decide +kernel
theorem dX9_even_106 : decode cX9_even 106 = .ok (.ireturn, 1) := by decide +kernel
theorem dX9_better_0 : decode cX9_better 0 = .ok (.iload_n 1, 1) := by decide +kernel
theorem dX9_better_1 : decode cX9_better 1 = .ok (.invokestatic 196, 3) := by decide +kernel
theorem dX9_better_4 : decode cX9_better 4 = .ok (.ifCond .ne 6, 3) := by decide +kernel
theorem dX9_better_7 : decode cX9_better 7 = .ok (.bipush (-2), 2) := by decide +kernel
theorem dX9_better_9 : decode cX9_better 9 = .ok (.ireturn, 1) := by decide +kernel
theorem dX9_better_10 : decode cX9_better 10 = .ok (.iconst 1, 1) := by decide +kernel
theorem dX9_better_11 : decode cX9_better 11 = .ok (.istore_n 2, 1) := by decide +kernel
theorem dX9_better_12 : decode cX9_better 12 = .ok (.iload_n 2, 1) := by decide +kernel
theorem dX9_better_13 : decode cX9_better 13 = .ok (.aload_n 0, 1) := by decide +kernel
theorem dX9_better_14 : decode cX9_better 14 = .ok (.invokevirtual 88, 3) := by decide +kernel
theorem dX9_better_17 : decode cX9_better 17 = .ok (.if_icmp .gt 100, 3) := by decide +kernel
theorem dX9_better_20 : decode cX9_better 20 = .ok (.aload_n 0, 1) := by decide +kernel
theorem dX9_better_21 : decode cX9_better 21 = .ok (.iload_n 1, 1) := by decide +kernel
theorem dX9_better_22 : decode cX9_better 22 = .ok (.iload_n 2, 1) := by decide +kernel
theorem dX9_better_23 : decode cX9_better 23 = .ok (.invokevirtual 203, 3) := by decide +kernel
theorem dX9_better_26 : decode cX9_better 26 = .ok (.aload_n 0, 1) := by decide +kernel
theorem dX9_better_27 : decode cX9_better 27 = .ok (.getfield 13, 3) := by decide +kernel
theorem dX9_better_30 : decode cX9_better 30 = .ok (.iload_n 2, 1) := by decide +kernel
theorem dX9_better_31 : decode cX9_better 31 = .ok (.iaload, 1) := by decide +kernel
theorem dX9_better_32 : decode cX9_better 32 = .ok (.if_icmp .gt 7, 3) := by decide +kernel
theorem dX9_better_35 : decode cX9_better 35 = .ok (.iconst 1, 1) := by decide +kernel
theorem dX9_better_36 : decode cX9_better 36 = .ok (.goto 4, 3) := by decide +kernel
theorem dX9_better_39 : decode cX9_better 39 = .ok (.iconst 0, 1) := by decide +kernel
theorem dX9_better_40 : decode cX9_better 40 = .ok (.istore_n 3, 1) := by decide +kernel
theorem dX9_better_41 : decode cX9_better 41 = .ok (.iconst 0, 1) := by decide +kernel
theorem dX9_better_42 : decode cX9_better 42 = .ok (.istore 4, 2) := by decide +kernel
theorem dX9_better_44 : decode cX9_better 44 = .ok (.iload 4, 2) := by decide +kernel
theorem dX9_better_46 : decode cX9_better 46 = .ok (.aload_n 0, 1) := by decide +kernel
theorem dX9_better_47 : decode cX9_better 47 = .ok (.getfield 7, 3) := by decide +kernel
theorem dX9_better_50 : decode cX9_better 50 = .ok (.if_icmp .ge 55, 3) := by decide +kernel
theorem dX9_better_53 : decode cX9_better 53 = .ok (.iload_n 3, 1) := by decide +kernel
theorem dX9_better_54 : decode cX9_better 54 = .ok (.ifCond .eq 43, 3) := by decide +kernel
theorem dX9_better_57 : decode cX9_better 57 = .ok (.iload_n 2, 1) := by decide +kernel
theorem dX9_better_58 : decode cX9_better 58 = .ok (.iload 4, 2) := by decide +kernel
theorem dX9_better_60 : decode cX9_better 60 = .ok (.invokestatic 121, 3) := by decide +kernel
theorem dX9_better_63 : decode cX9_better 63 = .ok (.ifCond .eq 30, 3) := by decide +kernel
theorem dX9_better_66 : decode cX9_better 66 = .ok (.aload_n 0, 1) := by decide +kernel
theorem dX9_better_67 : decode cX9_better 67 = .ok (.getfield 17, 3) := by decide +kernel
theorem dX9_better_70 : decode cX9_better 70 = .ok (.iconst 4, 1) := by decide +kernel
theorem dX9_better_71 : decode cX9_better 71 = .ok (.iload_n 1, 1) := by decide +kernel
theorem dX9_better_72 : decode cX9_better 72 = .ok (.imul, 1) := by decide +kernel
theorem dX9_better_73 : decode cX9_better 73 = .ok (.iload 4, 2) := by decide +kernel
theorem dX9_better_75 : decode cX9_better 75 = .ok (.iadd, 1) := by decide +kernel
theorem dX9_better_76 : decode cX9_better 76 = .ok (.iaload, 1) := by decide +kernel
theorem dX9_better_77 : decode cX9_better 77 = .ok (.aload_n 0, 1) := by decide +kernel
theorem dX9_better_78 : decode cX9_better 78 = .ok (.getfield 17, 3) := by decide +kernel
theorem dX9_better_81 : decode cX9_better 81 = .ok (.iconst 4, 1) := by decide +kernel
theorem dX9_better_82 : decode cX9_better 82 = .ok (.iconst 1, 1) := by decide +kernel
theorem dX9_better_83 : decode cX9_better 83 = .ok (.iload_n 1, 1) := by decide +kernel
theorem dX9_better_84 : decode cX9_better 84 = .ok (.isub, 1) := by decide +kernel
theorem dX9_better_85 : decode cX9_better 85 = .ok (.imul, 1) := by decide +kernel
theorem dX9_better_86 : decode cX9_better 86 = .ok (.iload 4, 2) := by decide +kernel
theorem dX9_better_88 : decode cX9_better 88 = .ok (.iadd, 1) := by decide +kernel
theorem dX9_better_89 : decode cX9_better 89 = .ok (.iaload, 1) := by decide +kernel
theorem dX9_better_90 : decode cX9_better 90 = .ok (.if_icmp .le 7, 3) := by decide +kernel
theorem dX9_better_93 : decode cX9_better 93 = .ok (.iconst 1, 1) := by decide +kernel
theorem dX9_better_94 : decode cX9_better 94 = .ok (.goto 4, 3) := by decide +kernel
theorem dX9_better_97 : decode cX9_better 97 = .ok (.iconst 0, 1) := by decide +kernel
theorem dX9_better_98 : decode cX9_better 98 = .ok (.istore_n 3, 1) := by decide +kernel
theorem dX9_better_99 : decode cX9_better 99 = .ok (.iinc 4 1, 3) := by decide +kernel
theorem dX9_better_102 : decode cX9_better 102 = .ok (.goto (-58), 3) := by decide +kernel
theorem dX9_better_105 : decode cX9_better 105 = .ok (.iload_n 3, 1) := by decide +kernel
theorem dX9_better_106 : decode cX9_better 106 = .ok (.ifCond .eq 5, 3) := by decide +kernel
theorem dX9_better_109 : decode cX9_better 109 = .ok (.iload_n 2, 1) := by decide +kernel
theorem dX9_better_110 : decode cX9_better 110 = .ok (.ireturn, 1) := by decide +kernel
theorem dX9_better_111 : decode cX9_better 111 = .ok (.iinc 2 1, 3) := by decide +kernel
theorem dX9_better_114 : decode cX9_better 114 = .ok (.goto (-102), 3) := by decide +kernel
theorem dX9_better_117 : decode cX9_better 117 = .ok (.iconst (-1), 1) := by decide +kernel
theorem dX9_better_118 : decode cX9_better 118 = .ok (.ireturn, 1) := by decide +kernel
theorem dX9_voter_0 : decode cX9_voter 0 = .ok (.iload_n 1, 1) := by decide +kernel
theorem dX9_voter_1 : decode cX9_voter 1 = .ok (.i2l, 1) := by decide +kernel
theorem dX9_voter_2 : decode cX9_voter 2 = .ok (.lconst 0, 1) := by decide +kernel
theorem dX9_voter_3 : decode cX9_voter 3 = .ok (.ldc2_w 213, 3) := by decide +kernel
theorem dX9_voter_6 : decode cX9_voter 6 = .ok (.invokestatic 92, 3) := by decide +kernel
theorem dX9_voter_9 : decode cX9_voter 9 = .ok (.ifCond .ne 6, 3) := by decide +kernel
theorem dX9_voter_12 : decode cX9_voter 12 = .ok (.bipush (-2), 2) := by decide +kernel
theorem dX9_voter_14 : decode cX9_voter 14 = .ok (.ireturn, 1) := by decide +kernel
theorem dX9_voter_15 : decode cX9_voter 15 = .ok (.aload_n 0, 1) := by decide +kernel
theorem dX9_voter_16 : decode cX9_voter 16 = .ok (.getfield 215, 3) := by decide +kernel
theorem dX9_voter_19 : decode cX9_voter 19 = .ok (.bipush 8, 2) := by decide +kernel
theorem dX9_voter_21 : decode cX9_voter 21 = .ok (.if_icmp .ne 6, 3) := by decide +kernel
theorem dX9_voter_24 : decode cX9_voter 24 = .ok (.bipush (-4), 2) := by decide +kernel
theorem dX9_voter_26 : decode cX9_voter 26 = .ok (.ireturn, 1) := by decide +kernel
theorem dX9_voter_27 : decode cX9_voter 27 = .ok (.aload_n 0, 1) := by decide +kernel
theorem dX9_voter_28 : decode cX9_voter 28 = .ok (.getfield 24, 3) := by decide +kernel
theorem dX9_voter_31 : decode cX9_voter 31 = .ok (.aload_n 0, 1) := by decide +kernel
theorem dX9_voter_32 : decode cX9_voter 32 = .ok (.getfield 215, 3) := by decide +kernel
theorem dX9_voter_35 : decode cX9_voter 35 = .ok (.iload_n 1, 1) := by decide +kernel
theorem dX9_voter_36 : decode cX9_voter 36 = .ok (.iastore, 1) := by decide +kernel
theorem dX9_voter_37 : decode cX9_voter 37 = .ok (.aload_n 0, 1) := by decide +kernel
theorem dX9_voter_38 : decode cX9_voter 38 = .ok (.dup, 1) := by decide +kernel
theorem dX9_voter_39 : decode cX9_voter 39 = .ok (.getfield 215, 3) := by decide +kernel
theorem dX9_voter_42 : decode cX9_voter 42 = .ok (.iconst 1, 1) := by decide +kernel
theorem dX9_voter_43 : decode cX9_voter 43 = .ok (.iadd, 1) := by decide +kernel
theorem dX9_voter_44 : decode cX9_voter 44 = .ok (.putfield 215, 3) := by decide +kernel
theorem dX9_voter_47 : decode cX9_voter 47 = .ok (.aload_n 0, 1) := by decide +kernel
theorem dX9_voter_48 : decode cX9_voter 48 = .ok (.getfield 215, 3) := by decide +kernel
theorem dX9_voter_51 : decode cX9_voter 51 = .ok (.iconst 1, 1) := by decide +kernel
theorem dX9_voter_52 : decode cX9_voter 52 = .ok (.isub, 1) := by decide +kernel
theorem dX9_voter_53 : decode cX9_voter 53 = .ok (.ireturn, 1) := by decide +kernel
theorem dX9_isVoter_0 : decode cX9_isVoter 0 = .ok (.iload_n 1, 1) := by decide +kernel
theorem dX9_isVoter_1 : decode cX9_isVoter 1 = .ok (.i2l, 1) := by decide +kernel
theorem dX9_isVoter_2 : decode cX9_isVoter 2 = .ok (.lconst 0, 1) := by decide +kernel
theorem dX9_isVoter_3 : decode cX9_isVoter 3 = .ok (.aload_n 0, 1) := by decide +kernel
theorem dX9_isVoter_4 : decode cX9_isVoter 4 = .ok (.getfield 215, 3) := by decide +kernel
theorem dX9_isVoter_7 : decode cX9_isVoter 7 = .ok (.iconst 1, 1) := by decide +kernel
theorem dX9_isVoter_8 : decode cX9_isVoter 8 = .ok (.isub, 1) := by decide +kernel
theorem dX9_isVoter_9 : decode cX9_isVoter 9 = .ok (.i2l, 1) := by decide +kernel
theorem dX9_isVoter_10 : decode cX9_isVoter 10 = .ok (.invokestatic 92, 3) := by decide +kernel
theorem dX9_isVoter_13 : decode cX9_isVoter 13 = .ok (.ireturn, 1) := by decide +kernel
theorem dX9_weight_0 : decode cX9_weight 0 = .ok (.aload_n 0, 1) := by decide +kernel
theorem dX9_weight_1 : decode cX9_weight 1 = .ok (.iload_n 1, 1) := by decide +kernel
theorem dX9_weight_2 : decode cX9_weight 2 = .ok (.invokevirtual 218, 3) := by decide +kernel
theorem dX9_weight_5 : decode cX9_weight 5 = .ok (.ifCond .eq 15, 3) := by decide +kernel
theorem dX9_weight_8 : decode cX9_weight 8 = .ok (.iload_n 2, 1) := by decide +kernel
theorem dX9_weight_9 : decode cX9_weight 9 = .ok (.i2l, 1) := by decide +kernel
theorem dX9_weight_10 : decode cX9_weight 10 = .ok (.lconst 0, 1) := by decide +kernel
theorem dX9_weight_11 : decode cX9_weight 11 = .ok (.ldc2_w 213, 3) := by decide +kernel
theorem dX9_weight_14 : decode cX9_weight 14 = .ok (.invokestatic 92, 3) := by decide +kernel
theorem dX9_weight_17 : decode cX9_weight 17 = .ok (.ifCond .ne 6, 3) := by decide +kernel
theorem dX9_weight_20 : decode cX9_weight 20 = .ok (.bipush (-2), 2) := by decide +kernel
theorem dX9_weight_22 : decode cX9_weight 22 = .ok (.ireturn, 1) := by decide +kernel
theorem dX9_weight_23 : decode cX9_weight 23 = .ok (.aload_n 0, 1) := by decide +kernel
theorem dX9_weight_24 : decode cX9_weight 24 = .ok (.getfield 24, 3) := by decide +kernel
theorem dX9_weight_27 : decode cX9_weight 27 = .ok (.iload_n 1, 1) := by decide +kernel
theorem dX9_weight_28 : decode cX9_weight 28 = .ok (.iaload, 1) := by decide +kernel
theorem dX9_weight_29 : decode cX9_weight 29 = .ok (.istore_n 3, 1) := by decide +kernel
theorem dX9_weight_30 : decode cX9_weight 30 = .ok (.aload_n 0, 1) := by decide +kernel
theorem dX9_weight_31 : decode cX9_weight 31 = .ok (.getfield 24, 3) := by decide +kernel
theorem dX9_weight_34 : decode cX9_weight 34 = .ok (.iload_n 1, 1) := by decide +kernel
theorem dX9_weight_35 : decode cX9_weight 35 = .ok (.iload_n 2, 1) := by decide +kernel
theorem dX9_weight_36 : decode cX9_weight 36 = .ok (.iastore, 1) := by decide +kernel
theorem dX9_weight_37 : decode cX9_weight 37 = .ok (.iload_n 3, 1) := by decide +kernel
theorem dX9_weight_38 : decode cX9_weight 38 = .ok (.ireturn, 1) := by decide +kernel
theorem dX9_quota_0 : decode cX9_quota 0 = .ok (.iload_n 1, 1) := by decide +kernel
theorem dX9_quota_1 : decode cX9_quota 1 = .ok (.i2l, 1) := by decide +kernel
theorem dX9_quota_2 : decode cX9_quota 2 = .ok (.lconst 1, 1) := by decide +kernel
theorem dX9_quota_3 : decode cX9_quota 3 = .ok (.ldc2_w 221, 3) := by decide +kernel
theorem dX9_quota_6 : decode cX9_quota 6 = .ok (.invokestatic 92, 3) := by decide +kernel
theorem dX9_quota_9 : decode cX9_quota 9 = .ok (.ifCond .ne 6, 3) := by decide +kernel
theorem dX9_quota_12 : decode cX9_quota 12 = .ok (.bipush (-2), 2) := by decide +kernel
theorem dX9_quota_14 : decode cX9_quota 14 = .ok (.ireturn, 1) := by decide +kernel
theorem dX9_quota_15 : decode cX9_quota 15 = .ok (.aload_n 0, 1) := by decide +kernel
theorem dX9_quota_16 : decode cX9_quota 16 = .ok (.getfield 27, 3) := by decide +kernel
theorem dX9_quota_19 : decode cX9_quota 19 = .ok (.istore_n 2, 1) := by decide +kernel
theorem dX9_quota_20 : decode cX9_quota 20 = .ok (.aload_n 0, 1) := by decide +kernel
theorem dX9_quota_21 : decode cX9_quota 21 = .ok (.iload_n 1, 1) := by decide +kernel
theorem dX9_quota_22 : decode cX9_quota 22 = .ok (.putfield 27, 3) := by decide +kernel
theorem dX9_quota_25 : decode cX9_quota 25 = .ok (.iload_n 2, 1) := by decide +kernel
theorem dX9_quota_26 : decode cX9_quota 26 = .ok (.ireturn, 1) := by decide +kernel
theorem dX9_doesWin_0 : decode cX9_doesWin 0 = .ok (.iconst 0, 1) := by decide +kernel
theorem dX9_doesWin_1 : decode cX9_doesWin 1 = .ok (.istore_n 2, 1) := by decide +kernel
theorem dX9_doesWin_2 : decode cX9_doesWin 2 = .ok (.iconst 0, 1) := by decide +kernel
theorem dX9_doesWin_3 : decode cX9_doesWin 3 = .ok (.istore_n 3, 1) := by decide +kernel
theorem dX9_doesWin_4 : decode cX9_doesWin 4 = .ok (.iload_n 3, 1) := by decide +kernel
theorem dX9_doesWin_5 : decode cX9_doesWin 5 = .ok (.aload_n 0, 1) := by decide +kernel
theorem dX9_doesWin_6 : decode cX9_doesWin 6 = .ok (.getfield 215, 3) := by decide +kernel
theorem dX9_doesWin_9 : decode cX9_doesWin 9 = .ok (.if_icmp .ge 30, 3) := by decide +kernel
theorem dX9_doesWin_12 : decode cX9_doesWin 12 = .ok (.iload_n 2, 1) := by decide +kernel
theorem dX9_doesWin_13 : decode cX9_doesWin 13 = .ok (.iload_n 1, 1) := by decide +kernel
theorem dX9_doesWin_14 : decode cX9_doesWin 14 = .ok (.iload_n 3, 1) := by decide +kernel
theorem dX9_doesWin_15 : decode cX9_doesWin 15 = .ok (.invokestatic 121, 3) := by decide +kernel
theorem dX9_doesWin_18 : decode cX9_doesWin 18 = .ok (.ifCond .eq 12, 3) := by decide +kernel
theorem dX9_doesWin_21 : decode cX9_doesWin 21 = .ok (.aload_n 0, 1) := by decide +kernel
theorem dX9_doesWin_22 : decode cX9_doesWin 22 = .ok (.getfield 24, 3) := by decide +kernel
theorem dX9_doesWin_25 : decode cX9_doesWin 25 = .ok (.iload_n 3, 1) := by decide +kernel
theorem dX9_doesWin_26 : decode cX9_doesWin 26 = .ok (.iaload, 1) := by decide +kernel
theorem dX9_doesWin_27 : decode cX9_doesWin 27 = .ok (.goto 4, 3) := by decide +kernel
theorem dX9_doesWin_30 : decode cX9_doesWin 30 = .ok (.iconst 0, 1) := by decide +kernel
theorem dX9_doesWin_31 : decode cX9_doesWin 31 = .ok (.iadd, 1) := by decide +kernel
theorem dX9_doesWin_32 : decode cX9_doesWin 32 = .ok (.istore_n 2, 1) := by decide +kernel
theorem dX9_doesWin_33 : decode cX9_doesWin 33 = .ok (.iinc 3 1, 3) := by decide +kernel
theorem dX9_doesWin_36 : decode cX9_doesWin 36 = .ok (.goto (-32), 3) := by decide +kernel
theorem dX9_doesWin_39 : decode cX9_doesWin 39 = .ok (.iload_n 2, 1) := by decide +kernel
theorem dX9_doesWin_40 : decode cX9_doesWin 40 = .ok (.aload_n 0, 1) := by decide +kernel
theorem dX9_doesWin_41 : decode cX9_doesWin 41 = .ok (.getfield 27, 3) := by decide +kernel
theorem dX9_doesWin_44 : decode cX9_doesWin 44 = .ok (.if_icmp .lt 7, 3) := by decide +kernel
theorem dX9_doesWin_47 : decode cX9_doesWin 47 = .ok (.iconst 1, 1) := by decide +kernel
theorem dX9_doesWin_48 : decode cX9_doesWin 48 = .ok (.goto 4, 3) := by decide +kernel
theorem dX9_doesWin_51 : decode cX9_doesWin 51 = .ok (.iconst 0, 1) := by decide +kernel
theorem dX9_doesWin_52 : decode cX9_doesWin 52 = .ok (.ireturn, 1) := by decide +kernel
theorem dX9_allVoters_0 : decode cX9_allVoters 0 = .ok (.iconst 1, 1) := by decide +kernel
theorem dX9_allVoters_1 : decode cX9_allVoters 1 = .ok (.aload_n 0, 1) := by decide +kernel
theorem dX9_allVoters_2 : decode cX9_allVoters 2 = .ok (.getfield 215, 3) := by decide +kernel
theorem dX9_allVoters_5 : decode cX9_allVoters 5 = .ok (.ishl, 1) := by decide +kernel
theorem dX9_allVoters_6 : decode cX9_allVoters 6 = .ok (.iconst 1, 1) := by decide +kernel
theorem dX9_allVoters_7 : decode cX9_allVoters 7 = .ok (.isub, 1) := by decide +kernel
theorem dX9_allVoters_8 : decode cX9_allVoters 8 = .ok (.ireturn, 1) := by decide +kernel
theorem dX9_wins_0 : decode cX9_wins 0 = .ok (.iload_n 1, 1) := by decide +kernel
theorem dX9_wins_1 : decode cX9_wins 1 = .ok (.i2l, 1) := by decide +kernel
theorem dX9_wins_2 : decode cX9_wins 2 = .ok (.lconst 0, 1) := by decide +kernel
theorem dX9_wins_3 : decode cX9_wins 3 = .ok (.aload_n 0, 1) := by decide +kernel
theorem dX9_wins_4 : decode cX9_wins 4 = .ok (.invokevirtual 223, 3) := by decide +kernel
theorem dX9_wins_7 : decode cX9_wins 7 = .ok (.i2l, 1) := by decide +kernel
theorem dX9_wins_8 : decode cX9_wins 8 = .ok (.invokestatic 92, 3) := by decide +kernel
theorem dX9_wins_11 : decode cX9_wins 11 = .ok (.ifCond .ne 8, 3) := by decide +kernel
theorem dX9_wins_14 : decode cX9_wins 14 = .ok (.bipush (-2), 2) := by decide +kernel
theorem dX9_wins_16 : decode cX9_wins 16 = .ok (.goto 16, 3) := by decide +kernel
theorem dX9_wins_19 : decode cX9_wins 19 = .ok (.aload_n 0, 1) := by decide +kernel
theorem dX9_wins_20 : decode cX9_wins 20 = .ok (.iload_n 1, 1) := by decide +kernel
theorem dX9_wins_21 : decode cX9_wins 21 = .ok (.invokevirtual 226, 3) := by decide +kernel
theorem dX9_wins_24 : decode cX9_wins 24 = .ok (.ifCond .eq 7, 3) := by decide +kernel
theorem dX9_wins_27 : decode cX9_wins 27 = .ok (.iconst 1, 1) := by decide +kernel
theorem dX9_wins_28 : decode cX9_wins 28 = .ok (.goto 4, 3) := by decide +kernel
theorem dX9_wins_31 : decode cX9_wins 31 = .ok (.iconst 0, 1) := by decide +kernel
theorem dX9_wins_32 : decode cX9_wins 32 = .ok (.ireturn, 1) := by decide +kernel
theorem dX9_isLeast_0 : decode cX9_isLeast 0 = .ok (.aload_n 0, 1) := by decide +kernel
theorem dX9_isLeast_1 : decode cX9_isLeast 1 = .ok (.iload_n 1, 1) := by decide +kernel
theorem dX9_isLeast_2 : decode cX9_isLeast 2 = .ok (.invokevirtual 226, 3) := by decide +kernel
theorem dX9_isLeast_5 : decode cX9_isLeast 5 = .ok (.istore_n 2, 1) := by decide +kernel
theorem dX9_isLeast_6 : decode cX9_isLeast 6 = .ok (.iconst 0, 1) := by decide +kernel
theorem dX9_isLeast_7 : decode cX9_isLeast 7 = .ok (.istore_n 3, 1) := by decide +kernel
theorem dX9_isLeast_8 : decode cX9_isLeast 8 = .ok (.iload_n 3, 1) := by decide +kernel
theorem dX9_isLeast_9 : decode cX9_isLeast 9 = .ok (.aload_n 0, 1) := by decide +kernel
theorem dX9_isLeast_10 : decode cX9_isLeast 10 = .ok (.getfield 215, 3) := by decide +kernel
theorem dX9_isLeast_13 : decode cX9_isLeast 13 = .ok (.if_icmp .ge 41, 3) := by decide +kernel
theorem dX9_isLeast_16 : decode cX9_isLeast 16 = .ok (.iload_n 2, 1) := by decide +kernel
theorem dX9_isLeast_17 : decode cX9_isLeast 17 = .ok (.ifCond .eq 29, 3) := by decide +kernel
theorem dX9_isLeast_20 : decode cX9_isLeast 20 = .ok (.iload_n 1, 1) := by decide +kernel
theorem dX9_isLeast_21 : decode cX9_isLeast 21 = .ok (.iload_n 3, 1) := by decide +kernel
theorem dX9_isLeast_22 : decode cX9_isLeast 22 = .ok (.invokestatic 121, 3) := by decide +kernel
theorem dX9_isLeast_25 : decode cX9_isLeast 25 = .ok (.ifCond .eq 17, 3) := by decide +kernel
theorem dX9_isLeast_28 : decode cX9_isLeast 28 = .ok (.aload_n 0, 1) := by decide +kernel
theorem dX9_isLeast_29 : decode cX9_isLeast 29 = .ok (.iload_n 1, 1) := by decide +kernel
theorem dX9_isLeast_30 : decode cX9_isLeast 30 = .ok (.iconst 1, 1) := by decide +kernel
theorem dX9_isLeast_31 : decode cX9_isLeast 31 = .ok (.iload_n 3, 1) := by decide +kernel
theorem dX9_isLeast_32 : decode cX9_isLeast 32 = .ok (.ishl, 1) := by decide +kernel
theorem dX9_isLeast_33 : decode cX9_isLeast 33 = .ok (.iconst (-1), 1) := by decide +kernel
theorem dX9_isLeast_34 : decode cX9_isLeast 34 = .ok (.ixor, 1) := by decide +kernel
theorem dX9_isLeast_35 : decode cX9_isLeast 35 = .ok (.iand, 1) := by decide +kernel
theorem dX9_isLeast_36 : decode cX9_isLeast 36 = .ok (.invokevirtual 226, 3) := by decide +kernel
theorem dX9_isLeast_39 : decode cX9_isLeast 39 = .ok (.ifCond .ne 7, 3) := by decide +kernel
theorem dX9_isLeast_42 : decode cX9_isLeast 42 = .ok (.iconst 1, 1) := by decide +kernel
theorem dX9_isLeast_43 : decode cX9_isLeast 43 = .ok (.goto 4, 3) := by decide +kernel
theorem dX9_isLeast_46 : decode cX9_isLeast 46 = .ok (.iconst 0, 1) := by decide +kernel
theorem dX9_isLeast_47 : decode cX9_isLeast 47 = .ok (.istore_n 2, 1) := by decide +kernel
theorem dX9_isLeast_48 : decode cX9_isLeast 48 = .ok (.iinc 3 1, 3) := by decide +kernel
theorem dX9_isLeast_51 : decode cX9_isLeast 51 = .ok (.goto (-43), 3) := by decide +kernel
theorem dX9_isLeast_54 : decode cX9_isLeast 54 = .ok (.iload_n 2, 1) := by decide +kernel
theorem dX9_isLeast_55 : decode cX9_isLeast 55 = .ok (.ireturn, 1) := by decide +kernel
theorem dX9_minimal_0 : decode cX9_minimal 0 = .ok (.iload_n 1, 1) := by decide +kernel
theorem dX9_minimal_1 : decode cX9_minimal 1 = .ok (.iconst (-1), 1) := by decide +kernel
theorem dX9_minimal_2 : decode cX9_minimal 2 = .ok (.if_icmp .ge 6, 3) := by decide +kernel
theorem dX9_minimal_5 : decode cX9_minimal 5 = .ok (.bipush (-2), 2) := by decide +kernel
theorem dX9_minimal_7 : decode cX9_minimal 7 = .ok (.ireturn, 1) := by decide +kernel
theorem dX9_minimal_8 : decode cX9_minimal 8 = .ok (.iconst 0, 1) := by decide +kernel
theorem dX9_minimal_9 : decode cX9_minimal 9 = .ok (.istore_n 2, 1) := by decide +kernel
theorem dX9_minimal_10 : decode cX9_minimal 10 = .ok (.iconst 0, 1) := by decide +kernel
theorem dX9_minimal_11 : decode cX9_minimal 11 = .ok (.istore_n 3, 1) := by decide +kernel
theorem dX9_minimal_12 : decode cX9_minimal 12 = .ok (.iload_n 3, 1) := by decide +kernel
theorem dX9_minimal_13 : decode cX9_minimal 13 = .ok (.aload_n 0, 1) := by decide +kernel
theorem dX9_minimal_14 : decode cX9_minimal 14 = .ok (.invokevirtual 223, 3) := by decide +kernel
theorem dX9_minimal_17 : decode cX9_minimal 17 = .ok (.if_icmp .gt 27, 3) := by decide +kernel
theorem dX9_minimal_20 : decode cX9_minimal 20 = .ok (.aload_n 0, 1) := by decide +kernel
theorem dX9_minimal_21 : decode cX9_minimal 21 = .ok (.iload_n 3, 1) := by decide +kernel
theorem dX9_minimal_22 : decode cX9_minimal 22 = .ok (.invokevirtual 229, 3) := by decide +kernel
theorem dX9_minimal_25 : decode cX9_minimal 25 = .ok (.ifCond .eq 13, 3) := by decide +kernel
theorem dX9_minimal_28 : decode cX9_minimal 28 = .ok (.iload_n 2, 1) := by decide +kernel
theorem dX9_minimal_29 : decode cX9_minimal 29 = .ok (.iload_n 1, 1) := by decide +kernel
theorem dX9_minimal_30 : decode cX9_minimal 30 = .ok (.if_icmp .ne 5, 3) := by decide +kernel
theorem dX9_minimal_33 : decode cX9_minimal 33 = .ok (.iload_n 3, 1) := by decide +kernel
theorem dX9_minimal_34 : decode cX9_minimal 34 = .ok (.ireturn, 1) := by decide +kernel
theorem dX9_minimal_35 : decode cX9_minimal 35 = .ok (.iinc 2 1, 3) := by decide +kernel
theorem dX9_minimal_38 : decode cX9_minimal 38 = .ok (.iinc 3 1, 3) := by decide +kernel
theorem dX9_minimal_41 : decode cX9_minimal 41 = .ok (.goto (-29), 3) := by decide +kernel
theorem dX9_minimal_44 : decode cX9_minimal 44 = .ok (.iload_n 1, 1) := by decide +kernel
theorem dX9_minimal_45 : decode cX9_minimal 45 = .ok (.iconst (-1), 1) := by decide +kernel
theorem dX9_minimal_46 : decode cX9_minimal 46 = .ok (.if_icmp .ne 7, 3) := by decide +kernel
theorem dX9_minimal_49 : decode cX9_minimal 49 = .ok (.iload_n 2, 1) := by decide +kernel
theorem dX9_minimal_50 : decode cX9_minimal 50 = .ok (.goto 4, 3) := by decide +kernel
theorem dX9_minimal_53 : decode cX9_minimal 53 = .ok (.iconst (-1), 1) := by decide +kernel
theorem dX9_minimal_54 : decode cX9_minimal 54 = .ok (.ireturn, 1) := by decide +kernel
theorem dX9_power_0 : decode cX9_power 0 = .ok (.aload_n 0, 1) := by decide +kernel
theorem dX9_power_1 : decode cX9_power 1 = .ok (.iload_n 1, 1) := by decide +kernel
theorem dX9_power_2 : decode cX9_power 2 = .ok (.invokevirtual 218, 3) := by decide +kernel
theorem dX9_power_5 : decode cX9_power 5 = .ok (.ifCond .eq 15, 3) := by decide +kernel
theorem dX9_power_8 : decode cX9_power 8 = .ok (.iload_n 2, 1) := by decide +kernel
theorem dX9_power_9 : decode cX9_power 9 = .ok (.i2l, 1) := by decide +kernel
theorem dX9_power_10 : decode cX9_power 10 = .ok (.lconst 0, 1) := by decide +kernel
theorem dX9_power_11 : decode cX9_power 11 = .ok (.ldc2_w 232, 3) := by decide +kernel
theorem dX9_power_14 : decode cX9_power 14 = .ok (.invokestatic 92, 3) := by decide +kernel
theorem dX9_power_17 : decode cX9_power 17 = .ok (.ifCond .ne 6, 3) := by decide +kernel
theorem dX9_power_20 : decode cX9_power 20 = .ok (.bipush (-2), 2) := by decide +kernel
theorem dX9_power_22 : decode cX9_power 22 = .ok (.ireturn, 1) := by decide +kernel
theorem dX9_power_23 : decode cX9_power 23 = .ok (.iconst 0, 1) := by decide +kernel
theorem dX9_power_24 : decode cX9_power 24 = .ok (.istore_n 3, 1) := by decide +kernel
theorem dX9_power_25 : decode cX9_power 25 = .ok (.iconst 0, 1) := by decide +kernel
theorem dX9_power_26 : decode cX9_power 26 = .ok (.istore 4, 2) := by decide +kernel
theorem dX9_power_28 : decode cX9_power 28 = .ok (.aload_n 0, 1) := by decide +kernel
theorem dX9_power_29 : decode cX9_power 29 = .ok (.aload_n 0, 1) := by decide +kernel
theorem dX9_power_30 : decode cX9_power 30 = .ok (.invokevirtual 223, 3) := by decide +kernel
theorem dX9_power_33 : decode cX9_power 33 = .ok (.invokevirtual 226, 3) := by decide +kernel
theorem dX9_power_36 : decode cX9_power 36 = .ok (.istore 5, 2) := by decide +kernel
theorem dX9_power_38 : decode cX9_power 38 = .ok (.iconst 1, 1) := by decide +kernel
theorem dX9_power_39 : decode cX9_power 39 = .ok (.istore 6, 2) := by decide +kernel
theorem dX9_power_41 : decode cX9_power 41 = .ok (.iconst 0, 1) := by decide +kernel
theorem dX9_power_42 : decode cX9_power 42 = .ok (.istore 7, 2) := by decide +kernel
theorem dX9_power_44 : decode cX9_power 44 = .ok (.iload 7, 2) := by decide +kernel
theorem dX9_power_46 : decode cX9_power 46 = .ok (.aload_n 0, 1) := by decide +kernel
theorem dX9_power_47 : decode cX9_power 47 = .ok (.invokevirtual 223, 3) := by decide +kernel
theorem dX9_power_50 : decode cX9_power 50 = .ok (.if_icmp .gt 117, 3) := by decide +kernel
theorem dX9_power_53 : decode cX9_power 53 = .ok (.iload 7, 2) := by decide +kernel
theorem dX9_power_55 : decode cX9_power 55 = .ok (.iload_n 1, 1) := by decide +kernel
theorem dX9_power_56 : decode cX9_power 56 = .ok (.invokestatic 121, 3) := by decide +kernel
theorem dX9_power_59 : decode cX9_power 59 = .ok (.ifCond .eq 27, 3) := by decide +kernel
theorem dX9_power_62 : decode cX9_power 62 = .ok (.iload 6, 2) := by decide +kernel
theorem dX9_power_64 : decode cX9_power 64 = .ok (.ifCond .eq 16, 3) := by decide +kernel
theorem dX9_power_67 : decode cX9_power 67 = .ok (.aload_n 0, 1) := by decide +kernel
theorem dX9_power_68 : decode cX9_power 68 = .ok (.iload 7, 2) := by decide +kernel
theorem dX9_power_70 : decode cX9_power 70 = .ok (.invokevirtual 229, 3) := by decide +kernel
theorem dX9_power_73 : decode cX9_power 73 = .ok (.ifCond .ne 7, 3) := by decide +kernel
theorem dX9_power_76 : decode cX9_power 76 = .ok (.iconst 1, 1) := by decide +kernel
theorem dX9_power_77 : decode cX9_power 77 = .ok (.goto 4, 3) := by decide +kernel
theorem dX9_power_80 : decode cX9_power 80 = .ok (.iconst 0, 1) := by decide +kernel
theorem dX9_power_81 : decode cX9_power 81 = .ok (.istore 6, 2) := by decide +kernel
theorem dX9_power_83 : decode cX9_power 83 = .ok (.goto 78, 3) := by decide +kernel
theorem dX9_power_86 : decode cX9_power 86 = .ok (.iload 5, 2) := by decide +kernel
theorem dX9_power_88 : decode cX9_power 88 = .ok (.ifCond .eq 16, 3) := by decide +kernel
theorem dX9_power_91 : decode cX9_power 91 = .ok (.aload_n 0, 1) := by decide +kernel
theorem dX9_power_92 : decode cX9_power 92 = .ok (.iload 7, 2) := by decide +kernel
theorem dX9_power_94 : decode cX9_power 94 = .ok (.invokevirtual 226, 3) := by decide +kernel
theorem dX9_power_97 : decode cX9_power 97 = .ok (.ifCond .ne 7, 3) := by decide +kernel
theorem dX9_power_100 : decode cX9_power 100 = .ok (.iconst 1, 1) := by decide +kernel
theorem dX9_power_101 : decode cX9_power 101 = .ok (.goto 4, 3) := by decide +kernel
theorem dX9_power_104 : decode cX9_power 104 = .ok (.iconst 0, 1) := by decide +kernel
theorem dX9_power_105 : decode cX9_power 105 = .ok (.istore 5, 2) := by decide +kernel
theorem dX9_power_107 : decode cX9_power 107 = .ok (.aload_n 0, 1) := by decide +kernel
theorem dX9_power_108 : decode cX9_power 108 = .ok (.iload 7, 2) := by decide +kernel
theorem dX9_power_110 : decode cX9_power 110 = .ok (.invokevirtual 226, 3) := by decide +kernel
theorem dX9_power_113 : decode cX9_power 113 = .ok (.ifCond .ne 48, 3) := by decide +kernel
theorem dX9_power_116 : decode cX9_power 116 = .ok (.aload_n 0, 1) := by decide +kernel
theorem dX9_power_117 : decode cX9_power 117 = .ok (.iload 7, 2) := by decide +kernel
theorem dX9_power_119 : decode cX9_power 119 = .ok (.iconst 1, 1) := by decide +kernel
theorem dX9_power_120 : decode cX9_power 120 = .ok (.iload_n 1, 1) := by decide +kernel
theorem dX9_power_121 : decode cX9_power 121 = .ok (.ishl, 1) := by decide +kernel
theorem dX9_power_122 : decode cX9_power 122 = .ok (.ior, 1) := by decide +kernel
theorem dX9_power_123 : decode cX9_power 123 = .ok (.invokevirtual 226, 3) := by decide +kernel
theorem dX9_power_126 : decode cX9_power 126 = .ok (.ifCond .eq 35, 3) := by decide +kernel
theorem dX9_power_129 : decode cX9_power 129 = .ok (.iinc 3 1, 3) := by decide +kernel
theorem dX9_power_132 : decode cX9_power 132 = .ok (.iload 4, 2) := by decide +kernel
theorem dX9_power_134 : decode cX9_power 134 = .ok (.iload 7, 2) := by decide +kernel
theorem dX9_power_136 : decode cX9_power 136 = .ok (.invokestatic 114, 3) := by decide +kernel
theorem dX9_power_139 : decode cX9_power 139 = .ok (.invokestatic 125, 3) := by decide +kernel
theorem dX9_power_142 : decode cX9_power 142 = .ok (.aload_n 0, 1) := by decide +kernel
theorem dX9_power_143 : decode cX9_power 143 = .ok (.getfield 215, 3) := by decide +kernel
theorem dX9_power_146 : decode cX9_power 146 = .ok (.iconst 1, 1) := by decide +kernel
theorem dX9_power_147 : decode cX9_power 147 = .ok (.isub, 1) := by decide +kernel
theorem dX9_power_148 : decode cX9_power 148 = .ok (.iload 7, 2) := by decide +kernel
theorem dX9_power_150 : decode cX9_power 150 = .ok (.invokestatic 114, 3) := by decide +kernel
theorem dX9_power_153 : decode cX9_power 153 = .ok (.isub, 1) := by decide +kernel
theorem dX9_power_154 : decode cX9_power 154 = .ok (.invokestatic 125, 3) := by decide +kernel
theorem dX9_power_157 : decode cX9_power 157 = .ok (.imul, 1) := by decide +kernel
theorem dX9_power_158 : decode cX9_power 158 = .ok (.iadd, 1) := by decide +kernel
theorem dX9_power_159 : decode cX9_power 159 = .ok (.istore 4, 2) := by decide +kernel
theorem dX9_power_161 : decode cX9_power 161 = .ok (.iinc 7 1, 3) := by decide +kernel
theorem dX9_power_164 : decode cX9_power 164 = .ok (.goto (-120), 3) := by decide +kernel
theorem dX9_power_167 : decode cX9_power 167 = .ok (.iload_n 2, 1) := by decide +kernel
theorem dX9_power_168 : decode cX9_power 168 = .ok (.ifCond .ne 7, 3) := by decide +kernel
theorem dX9_power_171 : decode cX9_power 171 = .ok (.iload_n 3, 1) := by decide +kernel
theorem dX9_power_172 : decode cX9_power 172 = .ok (.goto 41, 3) := by decide +kernel
theorem dX9_power_175 : decode cX9_power 175 = .ok (.iload_n 2, 1) := by decide +kernel
theorem dX9_power_176 : decode cX9_power 176 = .ok (.iconst 1, 1) := by decide +kernel
theorem dX9_power_177 : decode cX9_power 177 = .ok (.if_icmp .ne 8, 3) := by decide +kernel
theorem dX9_power_180 : decode cX9_power 180 = .ok (.iload 4, 2) := by decide +kernel
theorem dX9_power_182 : decode cX9_power 182 = .ok (.goto 31, 3) := by decide +kernel
theorem dX9_power_185 : decode cX9_power 185 = .ok (.iload_n 2, 1) := by decide +kernel
theorem dX9_power_186 : decode cX9_power 186 = .ok (.iconst 2, 1) := by decide +kernel
theorem dX9_power_187 : decode cX9_power 187 = .ok (.if_icmp .ne 16, 3) := by decide +kernel
theorem dX9_power_190 : decode cX9_power 190 = .ok (.iload 5, 2) := by decide +kernel
theorem dX9_power_192 : decode cX9_power 192 = .ok (.ifCond .eq 7, 3) := by decide +kernel
theorem dX9_power_195 : decode cX9_power 195 = .ok (.iconst 1, 1) := by decide +kernel
theorem dX9_power_196 : decode cX9_power 196 = .ok (.goto 17, 3) := by decide +kernel
theorem dX9_power_199 : decode cX9_power 199 = .ok (.iconst 0, 1) := by decide +kernel
theorem dX9_power_200 : decode cX9_power 200 = .ok (.goto 13, 3) := by decide +kernel
theorem dX9_power_203 : decode cX9_power 203 = .ok (.iload 6, 2) := by decide +kernel
theorem dX9_power_205 : decode cX9_power 205 = .ok (.ifCond .eq 7, 3) := by decide +kernel
theorem dX9_power_208 : decode cX9_power 208 = .ok (.iconst 1, 1) := by decide +kernel
theorem dX9_power_209 : decode cX9_power 209 = .ok (.goto 4, 3) := by decide +kernel
theorem dX9_power_212 : decode cX9_power 212 = .ok (.iconst 0, 1) := by decide +kernel
theorem dX9_power_213 : decode cX9_power 213 = .ok (.ireturn, 1) := by decide +kernel
theorem dX9_deegan_0 : decode cX9_deegan 0 = .ok (.aload_n 0, 1) := by decide +kernel
theorem dX9_deegan_1 : decode cX9_deegan 1 = .ok (.iload_n 1, 1) := by decide +kernel
theorem dX9_deegan_2 : decode cX9_deegan 2 = .ok (.invokevirtual 218, 3) := by decide +kernel
theorem dX9_deegan_5 : decode cX9_deegan 5 = .ok (.ifCond .ne 6, 3) := by decide +kernel
theorem dX9_deegan_8 : decode cX9_deegan 8 = .ok (.bipush (-2), 2) := by decide +kernel
theorem dX9_deegan_10 : decode cX9_deegan 10 = .ok (.ireturn, 1) := by decide +kernel
theorem dX9_deegan_11 : decode cX9_deegan 11 = .ok (.lconst 0, 1) := by decide +kernel
theorem dX9_deegan_12 : decode cX9_deegan 12 = .ok (.lstore_n 2, 1) := by decide +kernel
theorem dX9_deegan_13 : decode cX9_deegan 13 = .ok (.iconst 0, 1) := by decide +kernel
theorem dX9_deegan_14 : decode cX9_deegan 14 = .ok (.istore 4, 2) := by decide +kernel
theorem dX9_deegan_16 : decode cX9_deegan 16 = .ok (.iconst 0, 1) := by decide +kernel
theorem dX9_deegan_17 : decode cX9_deegan 17 = .ok (.istore 5, 2) := by decide +kernel
theorem dX9_deegan_19 : decode cX9_deegan 19 = .ok (.iload 5, 2) := by decide +kernel
theorem dX9_deegan_21 : decode cX9_deegan 21 = .ok (.aload_n 0, 1) := by decide +kernel
theorem dX9_deegan_22 : decode cX9_deegan 22 = .ok (.invokevirtual 223, 3) := by decide +kernel
theorem dX9_deegan_25 : decode cX9_deegan 25 = .ok (.if_icmp .gt 47, 3) := by decide +kernel
theorem dX9_deegan_28 : decode cX9_deegan 28 = .ok (.aload_n 0, 1) := by decide +kernel
theorem dX9_deegan_29 : decode cX9_deegan 29 = .ok (.iload 5, 2) := by decide +kernel
theorem dX9_deegan_31 : decode cX9_deegan 31 = .ok (.invokevirtual 229, 3) := by decide +kernel
theorem dX9_deegan_34 : decode cX9_deegan 34 = .ok (.ifCond .eq 32, 3) := by decide +kernel
theorem dX9_deegan_37 : decode cX9_deegan 37 = .ok (.iinc 4 1, 3) := by decide +kernel
theorem dX9_deegan_40 : decode cX9_deegan 40 = .ok (.lload_n 2, 1) := by decide +kernel
theorem dX9_deegan_41 : decode cX9_deegan 41 = .ok (.iload 5, 2) := by decide +kernel
theorem dX9_deegan_43 : decode cX9_deegan 43 = .ok (.iload_n 1, 1) := by decide +kernel
theorem dX9_deegan_44 : decode cX9_deegan 44 = .ok (.invokestatic 121, 3) := by decide +kernel
theorem dX9_deegan_47 : decode cX9_deegan 47 = .ok (.ifCond .eq 16, 3) := by decide +kernel
theorem dX9_deegan_50 : decode cX9_deegan 50 = .ok (.sipush 840, 3) := by decide +kernel
theorem dX9_deegan_53 : decode cX9_deegan 53 = .ok (.iload 5, 2) := by decide +kernel
theorem dX9_deegan_55 : decode cX9_deegan 55 = .ok (.invokestatic 114, 3) := by decide +kernel
theorem dX9_deegan_58 : decode cX9_deegan 58 = .ok (.idiv, 1) := by decide +kernel
theorem dX9_deegan_59 : decode cX9_deegan 59 = .ok (.i2l, 1) := by decide +kernel
theorem dX9_deegan_60 : decode cX9_deegan 60 = .ok (.goto 4, 3) := by decide +kernel
theorem dX9_deegan_63 : decode cX9_deegan 63 = .ok (.lconst 0, 1) := by decide +kernel
theorem dX9_deegan_64 : decode cX9_deegan 64 = .ok (.ladd, 1) := by decide +kernel
theorem dX9_deegan_65 : decode cX9_deegan 65 = .ok (.lstore_n 2, 1) := by decide +kernel
theorem dX9_deegan_66 : decode cX9_deegan 66 = .ok (.iinc 5 1, 3) := by decide +kernel
theorem dX9_deegan_69 : decode cX9_deegan 69 = .ok (.goto (-50), 3) := by decide +kernel
theorem dX9_deegan_72 : decode cX9_deegan 72 = .ok (.iload 4, 2) := by decide +kernel
theorem dX9_deegan_74 : decode cX9_deegan 74 = .ok (.ifCond .ne 7, 3) := by decide +kernel
theorem dX9_deegan_77 : decode cX9_deegan 77 = .ok (.iconst 0, 1) := by decide +kernel
theorem dX9_deegan_78 : decode cX9_deegan 78 = .ok (.goto 15, 3) := by decide +kernel
theorem dX9_deegan_81 : decode cX9_deegan 81 = .ok (.aload_n 0, 1) := by decide +kernel
theorem dX9_deegan_82 : decode cX9_deegan 82 = .ok (.lload_n 2, 1) := by decide +kernel
theorem dX9_deegan_83 : decode cX9_deegan 83 = .ok (.ldc2_w 234, 3) := by decide +kernel
theorem dX9_deegan_86 : decode cX9_deegan 86 = .ok (.iload 4, 2) := by decide +kernel
theorem dX9_deegan_88 : decode cX9_deegan 88 = .ok (.i2l, 1) := by decide +kernel
theorem dX9_deegan_89 : decode cX9_deegan 89 = .ok (.lmul, 1) := by decide +kernel
theorem dX9_deegan_90 : decode cX9_deegan 90 = .ok (.invokevirtual 128, 3) := by decide +kernel
theorem dX9_deegan_93 : decode cX9_deegan 93 = .ok (.ireturn, 1) := by decide +kernel
theorem dX9_isSame_0 : decode cX9_isSame 0 = .ok (.iconst 0, 1) := by decide +kernel
theorem dX9_isSame_1 : decode cX9_isSame 1 = .ok (.istore_n 2, 1) := by decide +kernel
theorem dX9_isSame_2 : decode cX9_isSame 2 = .ok (.iload_n 2, 1) := by decide +kernel
theorem dX9_isSame_3 : decode cX9_isSame 3 = .ok (.aload_n 0, 1) := by decide +kernel
theorem dX9_isSame_4 : decode cX9_isSame 4 = .ok (.invokevirtual 223, 3) := by decide +kernel
theorem dX9_isSame_7 : decode cX9_isSame 7 = .ok (.if_icmp .gt 72, 3) := by decide +kernel
theorem dX9_isSame_10 : decode cX9_isSame 10 = .ok (.iconst 0, 1) := by decide +kernel
theorem dX9_isSame_11 : decode cX9_isSame 11 = .ok (.istore_n 3, 1) := by decide +kernel
theorem dX9_isSame_12 : decode cX9_isSame 12 = .ok (.iconst 0, 1) := by decide +kernel
theorem dX9_isSame_13 : decode cX9_isSame 13 = .ok (.istore 4, 2) := by decide +kernel
theorem dX9_isSame_15 : decode cX9_isSame 15 = .ok (.iload 4, 2) := by decide +kernel
theorem dX9_isSame_17 : decode cX9_isSame 17 = .ok (.aload_n 0, 1) := by decide +kernel
theorem dX9_isSame_18 : decode cX9_isSame 18 = .ok (.getfield 215, 3) := by decide +kernel
theorem dX9_isSame_21 : decode cX9_isSame 21 = .ok (.if_icmp .ge 32, 3) := by decide +kernel
theorem dX9_isSame_24 : decode cX9_isSame 24 = .ok (.iload_n 3, 1) := by decide +kernel
theorem dX9_isSame_25 : decode cX9_isSame 25 = .ok (.iload_n 2, 1) := by decide +kernel
theorem dX9_isSame_26 : decode cX9_isSame 26 = .ok (.iload 4, 2) := by decide +kernel
theorem dX9_isSame_28 : decode cX9_isSame 28 = .ok (.invokestatic 121, 3) := by decide +kernel
theorem dX9_isSame_31 : decode cX9_isSame 31 = .ok (.ifCond .eq 13, 3) := by decide +kernel
theorem dX9_isSame_34 : decode cX9_isSame 34 = .ok (.aload_n 0, 1) := by decide +kernel
theorem dX9_isSame_35 : decode cX9_isSame 35 = .ok (.getfield 82, 3) := by decide +kernel
theorem dX9_isSame_38 : decode cX9_isSame 38 = .ok (.iload 4, 2) := by decide +kernel
theorem dX9_isSame_40 : decode cX9_isSame 40 = .ok (.iaload, 1) := by decide +kernel
theorem dX9_isSame_41 : decode cX9_isSame 41 = .ok (.goto 4, 3) := by decide +kernel
theorem dX9_isSame_44 : decode cX9_isSame 44 = .ok (.iconst 0, 1) := by decide +kernel
theorem dX9_isSame_45 : decode cX9_isSame 45 = .ok (.iadd, 1) := by decide +kernel
theorem dX9_isSame_46 : decode cX9_isSame 46 = .ok (.istore_n 3, 1) := by decide +kernel
theorem dX9_isSame_47 : decode cX9_isSame 47 = .ok (.iinc 4 1, 3) := by decide +kernel
theorem dX9_isSame_50 : decode cX9_isSame 50 = .ok (.goto (-35), 3) := by decide +kernel
theorem dX9_isSame_53 : decode cX9_isSame 53 = .ok (.iload_n 3, 1) := by decide +kernel
theorem dX9_isSame_54 : decode cX9_isSame 54 = .ok (.iload_n 1, 1) := by decide +kernel
theorem dX9_isSame_55 : decode cX9_isSame 55 = .ok (.if_icmp .lt 7, 3) := by decide +kernel
theorem dX9_isSame_58 : decode cX9_isSame 58 = .ok (.iconst 1, 1) := by decide +kernel
theorem dX9_isSame_59 : decode cX9_isSame 59 = .ok (.goto 4, 3) := by decide +kernel
theorem dX9_isSame_62 : decode cX9_isSame 62 = .ok (.iconst 0, 1) := by decide +kernel
theorem dX9_isSame_63 : decode cX9_isSame 63 = .ok (.aload_n 0, 1) := by decide +kernel
theorem dX9_isSame_64 : decode cX9_isSame 64 = .ok (.iload_n 2, 1) := by decide +kernel
theorem dX9_isSame_65 : decode cX9_isSame 65 = .ok (.invokevirtual 226, 3) := by decide +kernel
theorem dX9_isSame_68 : decode cX9_isSame 68 = .ok (.if_icmp .eq 5, 3) := by decide +kernel
theorem dX9_isSame_71 : decode cX9_isSame 71 = .ok (.iconst 0, 1) := by decide +kernel
theorem dX9_isSame_72 : decode cX9_isSame 72 = .ok (.ireturn, 1) := by decide +kernel
theorem dX9_isSame_73 : decode cX9_isSame 73 = .ok (.iinc 2 1, 3) := by decide +kernel
theorem dX9_isSame_76 : decode cX9_isSame 76 = .ok (.goto (-74), 3) := by decide +kernel
theorem dX9_isSame_79 : decode cX9_isSame 79 = .ok (.iconst 1, 1) := by decide +kernel
theorem dX9_isSame_80 : decode cX9_isSame 80 = .ok (.ireturn, 1) := by decide +kernel
theorem dX9_layRow_0 : decode cX9_layRow 0 = .ok (.iload_n 1, 1) := by decide +kernel
theorem dX9_layRow_1 : decode cX9_layRow 1 = .ok (.istore_n 3, 1) := by decide +kernel
theorem dX9_layRow_2 : decode cX9_layRow 2 = .ok (.iconst 0, 1) := by decide +kernel
theorem dX9_layRow_3 : decode cX9_layRow 3 = .ok (.istore 4, 2) := by decide +kernel
theorem dX9_layRow_5 : decode cX9_layRow 5 = .ok (.aload_n 0, 1) := by decide +kernel
theorem dX9_layRow_6 : decode cX9_layRow 6 = .ok (.getfield 215, 3) := by decide +kernel
theorem dX9_layRow_9 : decode cX9_layRow 9 = .ok (.iconst 1, 1) := by decide +kernel
theorem dX9_layRow_10 : decode cX9_layRow 10 = .ok (.isub, 1) := by decide +kernel
theorem dX9_layRow_11 : decode cX9_layRow 11 = .ok (.istore 5, 2) := by decide +kernel
theorem dX9_layRow_13 : decode cX9_layRow 13 = .ok (.iload 5, 2) := by decide +kernel
theorem dX9_layRow_15 : decode cX9_layRow 15 = .ok (.ifCond .lt 39, 3) := by decide +kernel
theorem dX9_layRow_18 : decode cX9_layRow 18 = .ok (.aload_n 0, 1) := by decide +kernel
theorem dX9_layRow_19 : decode cX9_layRow 19 = .ok (.getfield 82, 3) := by decide +kernel
theorem dX9_layRow_22 : decode cX9_layRow 22 = .ok (.iload 5, 2) := by decide +kernel
theorem dX9_layRow_24 : decode cX9_layRow 24 = .ok (.iload_n 3, 1) := by decide +kernel
theorem dX9_layRow_25 : decode cX9_layRow 25 = .ok (.iload_n 2, 1) := by decide +kernel
theorem dX9_layRow_26 : decode cX9_layRow 26 = .ok (.iconst 1, 1) := by decide +kernel
theorem dX9_layRow_27 : decode cX9_layRow 27 = .ok (.iadd, 1) := by decide +kernel
theorem dX9_layRow_28 : decode cX9_layRow 28 = .ok (.irem, 1) := by decide +kernel
theorem dX9_layRow_29 : decode cX9_layRow 29 = .ok (.iastore, 1) := by decide +kernel
theorem dX9_layRow_30 : decode cX9_layRow 30 = .ok (.iload_n 3, 1) := by decide +kernel
theorem dX9_layRow_31 : decode cX9_layRow 31 = .ok (.iload_n 2, 1) := by decide +kernel
theorem dX9_layRow_32 : decode cX9_layRow 32 = .ok (.iconst 1, 1) := by decide +kernel
theorem dX9_layRow_33 : decode cX9_layRow 33 = .ok (.iadd, 1) := by decide +kernel
theorem dX9_layRow_34 : decode cX9_layRow 34 = .ok (.idiv, 1) := by decide +kernel
theorem dX9_layRow_35 : decode cX9_layRow 35 = .ok (.istore_n 3, 1) := by decide +kernel
theorem dX9_layRow_36 : decode cX9_layRow 36 = .ok (.iload 4, 2) := by decide +kernel
theorem dX9_layRow_38 : decode cX9_layRow 38 = .ok (.aload_n 0, 1) := by decide +kernel
theorem dX9_layRow_39 : decode cX9_layRow 39 = .ok (.getfield 82, 3) := by decide +kernel
theorem dX9_layRow_42 : decode cX9_layRow 42 = .ok (.iload 5, 2) := by decide +kernel
theorem dX9_layRow_44 : decode cX9_layRow 44 = .ok (.iaload, 1) := by decide +kernel
theorem dX9_layRow_45 : decode cX9_layRow 45 = .ok (.iadd, 1) := by decide +kernel
theorem dX9_layRow_46 : decode cX9_layRow 46 = .ok (.istore 4, 2) := by decide +kernel
theorem dX9_layRow_48 : decode cX9_layRow 48 = .ok (.iinc 5 (-1), 3) := by decide +kernel
theorem dX9_layRow_51 : decode cX9_layRow 51 = .ok (.goto (-38), 3) := by decide +kernel
theorem dX9_layRow_54 : decode cX9_layRow 54 = .ok (.iload 4, 2) := by decide +kernel
theorem dX9_layRow_56 : decode cX9_layRow 56 = .ok (.iload_n 2, 1) := by decide +kernel
theorem dX9_layRow_57 : decode cX9_layRow 57 = .ok (.if_icmp .ne 7, 3) := by decide +kernel
theorem dX9_layRow_60 : decode cX9_layRow 60 = .ok (.iconst 1, 1) := by decide +kernel
theorem dX9_layRow_61 : decode cX9_layRow 61 = .ok (.goto 4, 3) := by decide +kernel
theorem dX9_layRow_64 : decode cX9_layRow 64 = .ok (.iconst 0, 1) := by decide +kernel
theorem dX9_layRow_65 : decode cX9_layRow 65 = .ok (.ireturn, 1) := by decide +kernel
theorem dX9_same_0 : decode cX9_same 0 = .ok (.iload_n 1, 1) := by decide +kernel
theorem dX9_same_1 : decode cX9_same 1 = .ok (.iconst (-1), 1) := by decide +kernel
theorem dX9_same_2 : decode cX9_same 2 = .ok (.if_icmp .lt 16, 3) := by decide +kernel
theorem dX9_same_5 : decode cX9_same 5 = .ok (.iload_n 1, 1) := by decide +kernel
theorem dX9_same_6 : decode cX9_same 6 = .ok (.iconst (-1), 1) := by decide +kernel
theorem dX9_same_7 : decode cX9_same 7 = .ok (.if_icmp .le 14, 3) := by decide +kernel
theorem dX9_same_10 : decode cX9_same 10 = .ok (.aload_n 0, 1) := by decide +kernel
theorem dX9_same_11 : decode cX9_same 11 = .ok (.iload_n 1, 1) := by decide +kernel
theorem dX9_same_12 : decode cX9_same 12 = .ok (.invokevirtual 218, 3) := by decide +kernel
theorem dX9_same_15 : decode cX9_same 15 = .ok (.ifCond .ne 6, 3) := by decide +kernel
theorem dX9_same_18 : decode cX9_same 18 = .ok (.bipush (-2), 2) := by decide +kernel
theorem dX9_same_20 : decode cX9_same 20 = .ok (.ireturn, 1) := by decide +kernel
theorem dX9_same_21 : decode cX9_same 21 = .ok (.aload_n 0, 1) := by decide +kernel
theorem dX9_same_22 : decode cX9_same 22 = .ok (.getfield 215, 3) := by decide +kernel
theorem dX9_same_25 : decode cX9_same 25 = .ok (.i2l, 1) := by decide +kernel
theorem dX9_same_26 : decode cX9_same 26 = .ok (.lconst 1, 1) := by decide +kernel
theorem dX9_same_27 : decode cX9_same 27 = .ok (.ldc2_w 236, 3) := by decide +kernel
theorem dX9_same_30 : decode cX9_same 30 = .ok (.invokestatic 92, 3) := by decide +kernel
theorem dX9_same_33 : decode cX9_same 33 = .ok (.ifCond .ne 6, 3) := by decide +kernel
theorem dX9_same_36 : decode cX9_same 36 = .ok (.bipush (-3), 2) := by decide +kernel
theorem dX9_same_38 : decode cX9_same 38 = .ok (.ireturn, 1) := by decide +kernel
theorem dX9_same_39 : decode cX9_same 39 = .ok (.iconst 0, 1) := by decide +kernel
theorem dX9_same_40 : decode cX9_same 40 = .ok (.istore_n 2, 1) := by decide +kernel
theorem dX9_same_41 : decode cX9_same 41 = .ok (.iload_n 2, 1) := by decide +kernel
theorem dX9_same_42 : decode cX9_same 42 = .ok (.bipush 12, 2) := by decide +kernel
theorem dX9_same_44 : decode cX9_same 44 = .ok (.if_icmp .gt 142, 3) := by decide +kernel
theorem dX9_same_47 : decode cX9_same 47 = .ok (.iconst 1, 1) := by decide +kernel
theorem dX9_same_48 : decode cX9_same 48 = .ok (.istore_n 3, 1) := by decide +kernel
theorem dX9_same_49 : decode cX9_same 49 = .ok (.iconst 0, 1) := by decide +kernel
theorem dX9_same_50 : decode cX9_same 50 = .ok (.istore 4, 2) := by decide +kernel
theorem dX9_same_52 : decode cX9_same 52 = .ok (.iload 4, 2) := by decide +kernel
theorem dX9_same_54 : decode cX9_same 54 = .ok (.aload_n 0, 1) := by decide +kernel
theorem dX9_same_55 : decode cX9_same 55 = .ok (.getfield 215, 3) := by decide +kernel
theorem dX9_same_58 : decode cX9_same 58 = .ok (.if_icmp .ge 15, 3) := by decide +kernel
theorem dX9_same_61 : decode cX9_same 61 = .ok (.iload_n 3, 1) := by decide +kernel
theorem dX9_same_62 : decode cX9_same 62 = .ok (.iload_n 2, 1) := by decide +kernel
theorem dX9_same_63 : decode cX9_same 63 = .ok (.iconst 1, 1) := by decide +kernel
theorem dX9_same_64 : decode cX9_same 64 = .ok (.iadd, 1) := by decide +kernel
theorem dX9_same_65 : decode cX9_same 65 = .ok (.imul, 1) := by decide +kernel
theorem dX9_same_66 : decode cX9_same 66 = .ok (.istore_n 3, 1) := by decide +kernel
theorem dX9_same_67 : decode cX9_same 67 = .ok (.iinc 4 1, 3) := by decide +kernel
theorem dX9_same_70 : decode cX9_same 70 = .ok (.goto (-18), 3) := by decide +kernel
theorem dX9_same_73 : decode cX9_same 73 = .ok (.sipush 1000, 3) := by decide +kernel
theorem dX9_same_76 : decode cX9_same 76 = .ok (.istore 4, 2) := by decide +kernel
theorem dX9_same_78 : decode cX9_same 78 = .ok (.iconst 0, 1) := by decide +kernel
theorem dX9_same_79 : decode cX9_same 79 = .ok (.istore 5, 2) := by decide +kernel
theorem dX9_same_81 : decode cX9_same 81 = .ok (.iconst 0, 1) := by decide +kernel
theorem dX9_same_82 : decode cX9_same 82 = .ok (.istore 6, 2) := by decide +kernel
theorem dX9_same_84 : decode cX9_same 84 = .ok (.iload 6, 2) := by decide +kernel
theorem dX9_same_86 : decode cX9_same 86 = .ok (.iload_n 3, 1) := by decide +kernel
theorem dX9_same_87 : decode cX9_same 87 = .ok (.if_icmp .ge 60, 3) := by decide +kernel
theorem dX9_same_90 : decode cX9_same 90 = .ok (.aload_n 0, 1) := by decide +kernel
theorem dX9_same_91 : decode cX9_same 91 = .ok (.iload 6, 2) := by decide +kernel
theorem dX9_same_93 : decode cX9_same 93 = .ok (.iload_n 2, 1) := by decide +kernel
theorem dX9_same_94 : decode cX9_same 94 = .ok (.invokevirtual 238, 3) := by decide +kernel
theorem dX9_same_97 : decode cX9_same 97 = .ok (.ifCond .eq 44, 3) := by decide +kernel
theorem dX9_same_100 : decode cX9_same 100 = .ok (.iconst 1, 1) := by decide +kernel
theorem dX9_same_101 : decode cX9_same 101 = .ok (.istore 7, 2) := by decide +kernel
theorem dX9_same_103 : decode cX9_same 103 = .ok (.iload 7, 2) := by decide +kernel
theorem dX9_same_105 : decode cX9_same 105 = .ok (.iload_n 2, 1) := by decide +kernel
theorem dX9_same_106 : decode cX9_same 106 = .ok (.iconst 1, 1) := by decide +kernel
theorem dX9_same_107 : decode cX9_same 107 = .ok (.iadd, 1) := by decide +kernel
theorem dX9_same_108 : decode cX9_same 108 = .ok (.if_icmp .gt 33, 3) := by decide +kernel
theorem dX9_same_111 : decode cX9_same 111 = .ok (.iload 7, 2) := by decide +kernel
theorem dX9_same_113 : decode cX9_same 113 = .ok (.iload 4, 2) := by decide +kernel
theorem dX9_same_115 : decode cX9_same 115 = .ok (.if_icmp .ge 26, 3) := by decide +kernel
theorem dX9_same_118 : decode cX9_same 118 = .ok (.aload_n 0, 1) := by decide +kernel
theorem dX9_same_119 : decode cX9_same 119 = .ok (.iload 7, 2) := by decide +kernel
theorem dX9_same_121 : decode cX9_same 121 = .ok (.invokevirtual 241, 3) := by decide +kernel
theorem dX9_same_124 : decode cX9_same 124 = .ok (.ifCond .eq 11, 3) := by decide +kernel
theorem dX9_same_127 : decode cX9_same 127 = .ok (.iload 7, 2) := by decide +kernel
theorem dX9_same_129 : decode cX9_same 129 = .ok (.istore 4, 2) := by decide +kernel
theorem dX9_same_131 : decode cX9_same 131 = .ok (.iload 6, 2) := by decide +kernel
theorem dX9_same_133 : decode cX9_same 133 = .ok (.istore 5, 2) := by decide +kernel
theorem dX9_same_135 : decode cX9_same 135 = .ok (.iinc 7 1, 3) := by decide +kernel
theorem dX9_same_138 : decode cX9_same 138 = .ok (.goto (-35), 3) := by decide +kernel
theorem dX9_same_141 : decode cX9_same 141 = .ok (.iinc 6 1, 3) := by decide +kernel
theorem dX9_same_144 : decode cX9_same 144 = .ok (.goto (-60), 3) := by decide +kernel
theorem dX9_same_147 : decode cX9_same 147 = .ok (.iload 4, 2) := by decide +kernel
theorem dX9_same_149 : decode cX9_same 149 = .ok (.sipush 1000, 3) := by decide +kernel
theorem dX9_same_152 : decode cX9_same 152 = .ok (.if_icmp .ge 28, 3) := by decide +kernel
theorem dX9_same_155 : decode cX9_same 155 = .ok (.aload_n 0, 1) := by decide +kernel
theorem dX9_same_156 : decode cX9_same 156 = .ok (.iload 5, 2) := by decide +kernel
theorem dX9_same_158 : decode cX9_same 158 = .ok (.iload_n 2, 1) := by decide +kernel
theorem dX9_same_159 : decode cX9_same 159 = .ok (.invokevirtual 238, 3) := by decide +kernel
theorem dX9_same_162 : decode cX9_same 162 = .ok (.pop, 1) := by decide +kernel
theorem dX9_same_163 : decode cX9_same 163 = .ok (.iload_n 1, 1) := by decide +kernel
theorem dX9_same_164 : decode cX9_same 164 = .ok (.iconst (-1), 1) := by decide +kernel
theorem dX9_same_165 : decode cX9_same 165 = .ok (.if_icmp .ne 8, 3) := by decide +kernel
theorem dX9_same_168 : decode cX9_same 168 = .ok (.iload 4, 2) := by decide +kernel
theorem dX9_same_170 : decode cX9_same 170 = .ok (.goto 9, 3) := by decide +kernel
theorem dX9_same_173 : decode cX9_same 173 = .ok (.aload_n 0, 1) := by decide +kernel
theorem dX9_same_174 : decode cX9_same 174 = .ok (.getfield 82, 3) := by decide +kernel
theorem dX9_same_177 : decode cX9_same 177 = .ok (.iload_n 1, 1) := by decide +kernel
theorem dX9_same_178 : decode cX9_same 178 = .ok (.iaload, 1) := by decide +kernel
theorem dX9_same_179 : decode cX9_same 179 = .ok (.ireturn, 1) := by decide +kernel
theorem dX9_same_180 : decode cX9_same 180 = .ok (.iinc 2 1, 3) := by decide +kernel
theorem dX9_same_183 : decode cX9_same 183 = .ok (.goto (-142), 3) := by decide +kernel
theorem dX9_same_186 : decode cX9_same 186 = .ok (.bipush (-5), 2) := by decide +kernel
theorem dX9_same_188 : decode cX9_same 188 = .ok (.ireturn, 1) := by decide +kernel
theorem dX9_claim_0 : decode cX9_claim 0 = .ok (.iload_n 1, 1) := by decide +kernel
theorem dX9_claim_1 : decode cX9_claim 1 = .ok (.i2l, 1) := by decide +kernel
theorem dX9_claim_2 : decode cX9_claim 2 = .ok (.lconst 0, 1) := by decide +kernel
theorem dX9_claim_3 : decode cX9_claim 3 = .ok (.ldc2_w 111, 3) := by decide +kernel
theorem dX9_claim_6 : decode cX9_claim 6 = .ok (.invokestatic 92, 3) := by decide +kernel
theorem dX9_claim_9 : decode cX9_claim 9 = .ok (.ifCond .ne 6, 3) := by decide +kernel
theorem dX9_claim_12 : decode cX9_claim 12 = .ok (.bipush (-2), 2) := by decide +kernel
theorem dX9_claim_14 : decode cX9_claim 14 = .ok (.ireturn, 1) := by decide +kernel
theorem dX9_claim_15 : decode cX9_claim 15 = .ok (.aload_n 0, 1) := by decide +kernel
theorem dX9_claim_16 : decode cX9_claim 16 = .ok (.getfield 244, 3) := by decide +kernel
theorem dX9_claim_19 : decode cX9_claim 19 = .ok (.bipush 6, 2) := by decide +kernel
theorem dX9_claim_21 : decode cX9_claim 21 = .ok (.if_icmp .ne 6, 3) := by decide +kernel
theorem dX9_claim_24 : decode cX9_claim 24 = .ok (.bipush (-4), 2) := by decide +kernel
theorem dX9_claim_26 : decode cX9_claim 26 = .ok (.ireturn, 1) := by decide +kernel
theorem dX9_claim_27 : decode cX9_claim 27 = .ok (.aload_n 0, 1) := by decide +kernel
theorem dX9_claim_28 : decode cX9_claim 28 = .ok (.getfield 30, 3) := by decide +kernel
theorem dX9_claim_31 : decode cX9_claim 31 = .ok (.aload_n 0, 1) := by decide +kernel
theorem dX9_claim_32 : decode cX9_claim 32 = .ok (.getfield 244, 3) := by decide +kernel
theorem dX9_claim_35 : decode cX9_claim 35 = .ok (.iload_n 1, 1) := by decide +kernel
theorem dX9_claim_36 : decode cX9_claim 36 = .ok (.iastore, 1) := by decide +kernel
theorem dX9_claim_37 : decode cX9_claim 37 = .ok (.aload_n 0, 1) := by decide +kernel
theorem dX9_claim_38 : decode cX9_claim 38 = .ok (.dup, 1) := by decide +kernel
theorem dX9_claim_39 : decode cX9_claim 39 = .ok (.getfield 244, 3) := by decide +kernel
theorem dX9_claim_42 : decode cX9_claim 42 = .ok (.iconst 1, 1) := by decide +kernel
theorem dX9_claim_43 : decode cX9_claim 43 = .ok (.iadd, 1) := by decide +kernel
theorem dX9_claim_44 : decode cX9_claim 44 = .ok (.putfield 244, 3) := by decide +kernel
theorem dX9_claim_47 : decode cX9_claim 47 = .ok (.aload_n 0, 1) := by decide +kernel
theorem dX9_claim_48 : decode cX9_claim 48 = .ok (.getfield 244, 3) := by decide +kernel
theorem dX9_claim_51 : decode cX9_claim 51 = .ok (.iconst 1, 1) := by decide +kernel
theorem dX9_claim_52 : decode cX9_claim 52 = .ok (.isub, 1) := by decide +kernel
theorem dX9_claim_53 : decode cX9_claim 53 = .ok (.ireturn, 1) := by decide +kernel
theorem dX9_estate_0 : decode cX9_estate 0 = .ok (.iload_n 1, 1) := by decide +kernel
theorem dX9_estate_1 : decode cX9_estate 1 = .ok (.i2l, 1) := by decide +kernel
theorem dX9_estate_2 : decode cX9_estate 2 = .ok (.lconst 0, 1) := by decide +kernel
theorem dX9_estate_3 : decode cX9_estate 3 = .ok (.ldc2_w 247, 3) := by decide +kernel
theorem dX9_estate_6 : decode cX9_estate 6 = .ok (.invokestatic 92, 3) := by decide +kernel
theorem dX9_estate_9 : decode cX9_estate 9 = .ok (.ifCond .ne 6, 3) := by decide +kernel
theorem dX9_estate_12 : decode cX9_estate 12 = .ok (.bipush (-2), 2) := by decide +kernel
theorem dX9_estate_14 : decode cX9_estate 14 = .ok (.ireturn, 1) := by decide +kernel
theorem dX9_estate_15 : decode cX9_estate 15 = .ok (.aload_n 0, 1) := by decide +kernel
theorem dX9_estate_16 : decode cX9_estate 16 = .ok (.getfield 249, 3) := by decide +kernel
theorem dX9_estate_19 : decode cX9_estate 19 = .ok (.istore_n 2, 1) := by decide +kernel
theorem dX9_estate_20 : decode cX9_estate 20 = .ok (.aload_n 0, 1) := by decide +kernel
theorem dX9_estate_21 : decode cX9_estate 21 = .ok (.iload_n 1, 1) := by decide +kernel
theorem dX9_estate_22 : decode cX9_estate 22 = .ok (.putfield 249, 3) := by decide +kernel
theorem dX9_estate_25 : decode cX9_estate 25 = .ok (.iload_n 2, 1) := by decide +kernel
theorem dX9_estate_26 : decode cX9_estate 26 = .ok (.ireturn, 1) := by decide +kernel
theorem dX9_allClaims_0 : decode cX9_allClaims 0 = .ok (.iconst 0, 1) := by decide +kernel
theorem dX9_allClaims_1 : decode cX9_allClaims 1 = .ok (.istore_n 1, 1) := by decide +kernel
theorem dX9_allClaims_2 : decode cX9_allClaims 2 = .ok (.iconst 0, 1) := by decide +kernel
theorem dX9_allClaims_3 : decode cX9_allClaims 3 = .ok (.istore_n 2, 1) := by decide +kernel
theorem dX9_allClaims_4 : decode cX9_allClaims 4 = .ok (.iload_n 2, 1) := by decide +kernel
theorem dX9_allClaims_5 : decode cX9_allClaims 5 = .ok (.aload_n 0, 1) := by decide +kernel
theorem dX9_allClaims_6 : decode cX9_allClaims 6 = .ok (.getfield 244, 3) := by decide +kernel
theorem dX9_allClaims_9 : decode cX9_allClaims 9 = .ok (.if_icmp .ge 18, 3) := by decide +kernel
theorem dX9_allClaims_12 : decode cX9_allClaims 12 = .ok (.iload_n 1, 1) := by decide +kernel
theorem dX9_allClaims_13 : decode cX9_allClaims 13 = .ok (.aload_n 0, 1) := by decide +kernel
theorem dX9_allClaims_14 : decode cX9_allClaims 14 = .ok (.getfield 30, 3) := by decide +kernel
theorem dX9_allClaims_17 : decode cX9_allClaims 17 = .ok (.iload_n 2, 1) := by decide +kernel
theorem dX9_allClaims_18 : decode cX9_allClaims 18 = .ok (.iaload, 1) := by decide +kernel
theorem dX9_allClaims_19 : decode cX9_allClaims 19 = .ok (.iadd, 1) := by decide +kernel
theorem dX9_allClaims_20 : decode cX9_allClaims 20 = .ok (.istore_n 1, 1) := by decide +kernel
theorem dX9_allClaims_21 : decode cX9_allClaims 21 = .ok (.iinc 2 1, 3) := by decide +kernel
theorem dX9_allClaims_24 : decode cX9_allClaims 24 = .ok (.goto (-20), 3) := by decide +kernel
theorem dX9_allClaims_27 : decode cX9_allClaims 27 = .ok (.iload_n 1, 1) := by decide +kernel
theorem dX9_allClaims_28 : decode cX9_allClaims 28 = .ok (.ireturn, 1) := by decide +kernel
theorem dX9_giveEvenly_0 : decode cX9_giveEvenly 0 = .ok (.iconst 0, 1) := by decide +kernel
theorem dX9_giveEvenly_1 : decode cX9_giveEvenly 1 = .ok (.istore 4, 2) := by decide +kernel
theorem dX9_giveEvenly_3 : decode cX9_giveEvenly 3 = .ok (.lload_n 2, 1) := by decide +kernel
theorem dX9_giveEvenly_4 : decode cX9_giveEvenly 4 = .ok (.lstore 5, 2) := by decide +kernel
theorem dX9_giveEvenly_6 : decode cX9_giveEvenly 6 = .ok (.iconst 1, 1) := by decide +kernel
theorem dX9_giveEvenly_7 : decode cX9_giveEvenly 7 = .ok (.istore 7, 2) := by decide +kernel
theorem dX9_giveEvenly_9 : decode cX9_giveEvenly 9 = .ok (.iload 7, 2) := by decide +kernel
theorem dX9_giveEvenly_11 : decode cX9_giveEvenly 11 = .ok (.ifCond .eq 92, 3) := by decide +kernel
theorem dX9_giveEvenly_14 : decode cX9_giveEvenly 14 = .ok (.iconst 0, 1) := by decide +kernel
theorem dX9_giveEvenly_15 : decode cX9_giveEvenly 15 = .ok (.istore 7, 2) := by decide +kernel
theorem dX9_giveEvenly_17 : decode cX9_giveEvenly 17 = .ok (.iconst 0, 1) := by decide +kernel
theorem dX9_giveEvenly_18 : decode cX9_giveEvenly 18 = .ok (.istore 8, 2) := by decide +kernel
theorem dX9_giveEvenly_20 : decode cX9_giveEvenly 20 = .ok (.iload 8, 2) := by decide +kernel
theorem dX9_giveEvenly_22 : decode cX9_giveEvenly 22 = .ok (.aload_n 0, 1) := by decide +kernel
theorem dX9_giveEvenly_23 : decode cX9_giveEvenly 23 = .ok (.getfield 244, 3) := by decide +kernel
theorem dX9_giveEvenly_26 : decode cX9_giveEvenly 26 = .ok (.if_icmp .ge 74, 3) := by decide +kernel
theorem dX9_giveEvenly_29 : decode cX9_giveEvenly 29 = .ok (.aload_n 0, 1) := by decide +kernel
theorem dX9_giveEvenly_30 : decode cX9_giveEvenly 30 = .ok (.getfield 244, 3) := by decide +kernel
theorem dX9_giveEvenly_33 : decode cX9_giveEvenly 33 = .ok (.iload 4, 2) := by decide +kernel
theorem dX9_giveEvenly_35 : decode cX9_giveEvenly 35 = .ok (.invokestatic 114, 3) := by decide +kernel
theorem dX9_giveEvenly_38 : decode cX9_giveEvenly 38 = .ok (.isub, 1) := by decide +kernel
theorem dX9_giveEvenly_39 : decode cX9_giveEvenly 39 = .ok (.istore 9, 2) := by decide +kernel
theorem dX9_giveEvenly_41 : decode cX9_giveEvenly 41 = .ok (.iload 4, 2) := by decide +kernel
theorem dX9_giveEvenly_43 : decode cX9_giveEvenly 43 = .ok (.iload 8, 2) := by decide +kernel
theorem dX9_giveEvenly_45 : decode cX9_giveEvenly 45 = .ok (.invokestatic 121, 3) := by decide +kernel
theorem dX9_giveEvenly_48 : decode cX9_giveEvenly 48 = .ok (.ifCond .ne 46, 3) := by decide +kernel
theorem dX9_giveEvenly_51 : decode cX9_giveEvenly 51 = .ok (.aload_n 0, 1) := by decide +kernel
theorem dX9_giveEvenly_52 : decode cX9_giveEvenly 52 = .ok (.getfield 30, 3) := by decide +kernel
theorem dX9_giveEvenly_55 : decode cX9_giveEvenly 55 = .ok (.iload 8, 2) := by decide +kernel
theorem dX9_giveEvenly_57 : decode cX9_giveEvenly 57 = .ok (.iaload, 1) := by decide +kernel
theorem dX9_giveEvenly_58 : decode cX9_giveEvenly 58 = .ok (.i2l, 1) := by decide +kernel
theorem dX9_giveEvenly_59 : decode cX9_giveEvenly 59 = .ok (.iload 9, 2) := by decide +kernel
theorem dX9_giveEvenly_61 : decode cX9_giveEvenly 61 = .ok (.i2l, 1) := by decide +kernel
theorem dX9_giveEvenly_62 : decode cX9_giveEvenly 62 = .ok (.lmul, 1) := by decide +kernel
theorem dX9_giveEvenly_63 : decode cX9_giveEvenly 63 = .ok (.lload 5, 2) := by decide +kernel
theorem dX9_giveEvenly_65 : decode cX9_giveEvenly 65 = .ok (.lcmp, 1) := by decide +kernel
theorem dX9_giveEvenly_66 : decode cX9_giveEvenly 66 = .ok (.ifCond .gt 28, 3) := by decide +kernel
theorem dX9_giveEvenly_69 : decode cX9_giveEvenly 69 = .ok (.iload 4, 2) := by decide +kernel
theorem dX9_giveEvenly_71 : decode cX9_giveEvenly 71 = .ok (.iconst 1, 1) := by decide +kernel
theorem dX9_giveEvenly_72 : decode cX9_giveEvenly 72 = .ok (.iload 8, 2) := by decide +kernel
theorem dX9_giveEvenly_74 : decode cX9_giveEvenly 74 = .ok (.ishl, 1) := by decide +kernel
theorem dX9_giveEvenly_75 : decode cX9_giveEvenly 75 = .ok (.ior, 1) := by decide +kernel
theorem dX9_giveEvenly_76 : decode cX9_giveEvenly 76 = .ok (.istore 4, 2) := by decide +kernel
theorem dX9_giveEvenly_78 : decode cX9_giveEvenly 78 = .ok (.lload 5, 2) := by decide +kernel
theorem dX9_giveEvenly_80 : decode cX9_giveEvenly 80 = .ok (.aload_n 0, 1) := by decide +kernel
theorem dX9_giveEvenly_81 : decode cX9_giveEvenly 81 = .ok (.getfield 30, 3) := by decide +kernel
theorem dX9_giveEvenly_84 : decode cX9_giveEvenly 84 = .ok (.iload 8, 2) := by decide +kernel
theorem dX9_giveEvenly_86 : decode cX9_giveEvenly 86 = .ok (.iaload, 1) := by decide +kernel
theorem dX9_giveEvenly_87 : decode cX9_giveEvenly 87 = .ok (.i2l, 1) := by decide +kernel
theorem dX9_giveEvenly_88 : decode cX9_giveEvenly 88 = .ok (.lsub, 1) := by decide +kernel
theorem dX9_giveEvenly_89 : decode cX9_giveEvenly 89 = .ok (.lstore 5, 2) := by decide +kernel
theorem dX9_giveEvenly_91 : decode cX9_giveEvenly 91 = .ok (.iconst 1, 1) := by decide +kernel
theorem dX9_giveEvenly_92 : decode cX9_giveEvenly 92 = .ok (.istore 7, 2) := by decide +kernel
theorem dX9_giveEvenly_94 : decode cX9_giveEvenly 94 = .ok (.iinc 8 1, 3) := by decide +kernel
theorem dX9_giveEvenly_97 : decode cX9_giveEvenly 97 = .ok (.goto (-77), 3) := by decide +kernel
theorem dX9_giveEvenly_100 : decode cX9_giveEvenly 100 = .ok (.goto (-91), 3) := by decide +kernel
theorem dX9_giveEvenly_103 : decode cX9_giveEvenly 103 = .ok (.iload 4, 2) := by decide +kernel
theorem dX9_giveEvenly_105 : decode cX9_giveEvenly 105 = .ok (.iload_n 1, 1) := by decide +kernel
theorem dX9_giveEvenly_106 : decode cX9_giveEvenly 106 = .ok (.invokestatic 121, 3) := by decide +kernel
theorem dX9_giveEvenly_109 : decode cX9_giveEvenly 109 = .ok (.istore 8, 2) := by decide +kernel
theorem dX9_giveEvenly_111 : decode cX9_giveEvenly 111 = .ok (.aload_n 0, 1) := by decide +kernel
theorem dX9_giveEvenly_112 : decode cX9_giveEvenly 112 = .ok (.iload 8, 2) := by decide +kernel
theorem dX9_giveEvenly_114 : decode cX9_giveEvenly 114 = .ok (.ifCond .eq 13, 3) := by decide +kernel
theorem dX9_giveEvenly_117 : decode cX9_giveEvenly 117 = .ok (.aload_n 0, 1) := by decide +kernel
theorem dX9_giveEvenly_118 : decode cX9_giveEvenly 118 = .ok (.getfield 30, 3) := by decide +kernel
theorem dX9_giveEvenly_121 : decode cX9_giveEvenly 121 = .ok (.iload_n 1, 1) := by decide +kernel
theorem dX9_giveEvenly_122 : decode cX9_giveEvenly 122 = .ok (.iaload, 1) := by decide +kernel
theorem dX9_giveEvenly_123 : decode cX9_giveEvenly 123 = .ok (.i2l, 1) := by decide +kernel
theorem dX9_giveEvenly_124 : decode cX9_giveEvenly 124 = .ok (.goto 5, 3) := by decide +kernel
theorem dX9_giveEvenly_127 : decode cX9_giveEvenly 127 = .ok (.lload 5, 2) := by decide +kernel
theorem dX9_giveEvenly_129 : decode cX9_giveEvenly 129 = .ok (.putfield 252, 3) := by decide +kernel
theorem dX9_giveEvenly_132 : decode cX9_giveEvenly 132 = .ok (.aload_n 0, 1) := by decide +kernel
theorem dX9_giveEvenly_133 : decode cX9_giveEvenly 133 = .ok (.iload 8, 2) := by decide +kernel
theorem dX9_giveEvenly_135 : decode cX9_giveEvenly 135 = .ok (.ifCond .eq 7, 3) := by decide +kernel
theorem dX9_giveEvenly_138 : decode cX9_giveEvenly 138 = .ok (.lconst 1, 1) := by decide +kernel
theorem dX9_giveEvenly_139 : decode cX9_giveEvenly 139 = .ok (.goto 14, 3) := by decide +kernel
theorem dX9_giveEvenly_142 : decode cX9_giveEvenly 142 = .ok (.aload_n 0, 1) := by decide +kernel
theorem dX9_giveEvenly_143 : decode cX9_giveEvenly 143 = .ok (.getfield 244, 3) := by decide +kernel
theorem dX9_giveEvenly_146 : decode cX9_giveEvenly 146 = .ok (.iload 4, 2) := by decide +kernel
theorem dX9_giveEvenly_148 : decode cX9_giveEvenly 148 = .ok (.invokestatic 114, 3) := by decide +kernel
theorem dX9_giveEvenly_151 : decode cX9_giveEvenly 151 = .ok (.isub, 1) := by decide +kernel
theorem dX9_giveEvenly_152 : decode cX9_giveEvenly 152 = .ok (.i2l, 1) := by decide +kernel
theorem dX9_giveEvenly_153 : decode cX9_giveEvenly 153 = .ok (.putfield 255, 3) := by decide +kernel
theorem dX9_giveEvenly_156 : decode cX9_giveEvenly 156 = .ok (.return_, 1) := by decide +kernel
theorem dX9_loseEvenly_0 : decode cX9_loseEvenly 0 = .ok (.iconst 0, 1) := by decide +kernel
theorem dX9_loseEvenly_1 : decode cX9_loseEvenly 1 = .ok (.istore 4, 2) := by decide +kernel
theorem dX9_loseEvenly_3 : decode cX9_loseEvenly 3 = .ok (.iconst 1, 1) := by decide +kernel
theorem dX9_loseEvenly_4 : decode cX9_loseEvenly 4 = .ok (.istore 5, 2) := by decide +kernel
theorem dX9_loseEvenly_6 : decode cX9_loseEvenly 6 = .ok (.iload 5, 2) := by decide +kernel
theorem dX9_loseEvenly_8 : decode cX9_loseEvenly 8 = .ok (.ifCond .eq 164, 3) := by decide +kernel
theorem dX9_loseEvenly_11 : decode cX9_loseEvenly 11 = .ok (.iconst 0, 1) := by decide +kernel
theorem dX9_loseEvenly_12 : decode cX9_loseEvenly 12 = .ok (.istore 5, 2) := by decide +kernel
theorem dX9_loseEvenly_14 : decode cX9_loseEvenly 14 = .ok (.lload_n 2, 1) := by decide +kernel
theorem dX9_loseEvenly_15 : decode cX9_loseEvenly 15 = .ok (.lneg, 1) := by decide +kernel
theorem dX9_loseEvenly_16 : decode cX9_loseEvenly 16 = .ok (.lstore 6, 2) := by decide +kernel
theorem dX9_loseEvenly_18 : decode cX9_loseEvenly 18 = .ok (.iconst 0, 1) := by decide +kernel
theorem dX9_loseEvenly_19 : decode cX9_loseEvenly 19 = .ok (.istore 8, 2) := by decide +kernel
theorem dX9_loseEvenly_21 : decode cX9_loseEvenly 21 = .ok (.iconst 0, 1) := by decide +kernel
theorem dX9_loseEvenly_22 : decode cX9_loseEvenly 22 = .ok (.istore 9, 2) := by decide +kernel
theorem dX9_loseEvenly_24 : decode cX9_loseEvenly 24 = .ok (.iload 9, 2) := by decide +kernel
theorem dX9_loseEvenly_26 : decode cX9_loseEvenly 26 = .ok (.aload_n 0, 1) := by decide +kernel
theorem dX9_loseEvenly_27 : decode cX9_loseEvenly 27 = .ok (.getfield 244, 3) := by decide +kernel
theorem dX9_loseEvenly_30 : decode cX9_loseEvenly 30 = .ok (.if_icmp .ge 56, 3) := by decide +kernel
theorem dX9_loseEvenly_33 : decode cX9_loseEvenly 33 = .ok (.lload 6, 2) := by decide +kernel
theorem dX9_loseEvenly_35 : decode cX9_loseEvenly 35 = .ok (.iload 4, 2) := by decide +kernel
theorem dX9_loseEvenly_37 : decode cX9_loseEvenly 37 = .ok (.iload 9, 2) := by decide +kernel
theorem dX9_loseEvenly_39 : decode cX9_loseEvenly 39 = .ok (.invokestatic 121, 3) := by decide +kernel
theorem dX9_loseEvenly_42 : decode cX9_loseEvenly 42 = .ok (.ifCond .eq 7, 3) := by decide +kernel
theorem dX9_loseEvenly_45 : decode cX9_loseEvenly 45 = .ok (.lconst 0, 1) := by decide +kernel
theorem dX9_loseEvenly_46 : decode cX9_loseEvenly 46 = .ok (.goto 11, 3) := by decide +kernel
theorem dX9_loseEvenly_49 : decode cX9_loseEvenly 49 = .ok (.aload_n 0, 1) := by decide +kernel
theorem dX9_loseEvenly_50 : decode cX9_loseEvenly 50 = .ok (.getfield 30, 3) := by decide +kernel
theorem dX9_loseEvenly_53 : decode cX9_loseEvenly 53 = .ok (.iload 9, 2) := by decide +kernel
theorem dX9_loseEvenly_55 : decode cX9_loseEvenly 55 = .ok (.iaload, 1) := by decide +kernel
theorem dX9_loseEvenly_56 : decode cX9_loseEvenly 56 = .ok (.i2l, 1) := by decide +kernel
theorem dX9_loseEvenly_57 : decode cX9_loseEvenly 57 = .ok (.ladd, 1) := by decide +kernel
theorem dX9_loseEvenly_58 : decode cX9_loseEvenly 58 = .ok (.lstore 6, 2) := by decide +kernel
theorem dX9_loseEvenly_60 : decode cX9_loseEvenly 60 = .ok (.iload 8, 2) := by decide +kernel
theorem dX9_loseEvenly_62 : decode cX9_loseEvenly 62 = .ok (.iload 4, 2) := by decide +kernel
theorem dX9_loseEvenly_64 : decode cX9_loseEvenly 64 = .ok (.iload 9, 2) := by decide +kernel
theorem dX9_loseEvenly_66 : decode cX9_loseEvenly 66 = .ok (.invokestatic 121, 3) := by decide +kernel
theorem dX9_loseEvenly_69 : decode cX9_loseEvenly 69 = .ok (.ifCond .eq 7, 3) := by decide +kernel
theorem dX9_loseEvenly_72 : decode cX9_loseEvenly 72 = .ok (.iconst 0, 1) := by decide +kernel
theorem dX9_loseEvenly_73 : decode cX9_loseEvenly 73 = .ok (.goto 4, 3) := by decide +kernel
theorem dX9_loseEvenly_76 : decode cX9_loseEvenly 76 = .ok (.iconst 1, 1) := by decide +kernel
theorem dX9_loseEvenly_77 : decode cX9_loseEvenly 77 = .ok (.iadd, 1) := by decide +kernel
theorem dX9_loseEvenly_78 : decode cX9_loseEvenly 78 = .ok (.istore 8, 2) := by decide +kernel
theorem dX9_loseEvenly_80 : decode cX9_loseEvenly 80 = .ok (.iinc 9 1, 3) := by decide +kernel
theorem dX9_loseEvenly_83 : decode cX9_loseEvenly 83 = .ok (.goto (-59), 3) := by decide +kernel
theorem dX9_loseEvenly_86 : decode cX9_loseEvenly 86 = .ok (.iconst 0, 1) := by decide +kernel
theorem dX9_loseEvenly_87 : decode cX9_loseEvenly 87 = .ok (.istore 9, 2) := by decide +kernel
theorem dX9_loseEvenly_89 : decode cX9_loseEvenly 89 = .ok (.iload 9, 2) := by decide +kernel
theorem dX9_loseEvenly_91 : decode cX9_loseEvenly 91 = .ok (.aload_n 0, 1) := by decide +kernel
theorem dX9_loseEvenly_92 : decode cX9_loseEvenly 92 = .ok (.getfield 244, 3) := by decide +kernel
theorem dX9_loseEvenly_95 : decode cX9_loseEvenly 95 = .ok (.if_icmp .ge 49, 3) := by decide +kernel
theorem dX9_loseEvenly_98 : decode cX9_loseEvenly 98 = .ok (.iload 4, 2) := by decide +kernel
theorem dX9_loseEvenly_100 : decode cX9_loseEvenly 100 = .ok (.iload 9, 2) := by decide +kernel
theorem dX9_loseEvenly_102 : decode cX9_loseEvenly 102 = .ok (.invokestatic 121, 3) := by decide +kernel
theorem dX9_loseEvenly_105 : decode cX9_loseEvenly 105 = .ok (.ifCond .ne 33, 3) := by decide +kernel
theorem dX9_loseEvenly_108 : decode cX9_loseEvenly 108 = .ok (.aload_n 0, 1) := by decide +kernel
theorem dX9_loseEvenly_109 : decode cX9_loseEvenly 109 = .ok (.getfield 30, 3) := by decide +kernel
theorem dX9_loseEvenly_112 : decode cX9_loseEvenly 112 = .ok (.iload 9, 2) := by decide +kernel
theorem dX9_loseEvenly_114 : decode cX9_loseEvenly 114 = .ok (.iaload, 1) := by decide +kernel
theorem dX9_loseEvenly_115 : decode cX9_loseEvenly 115 = .ok (.i2l, 1) := by decide +kernel
theorem dX9_loseEvenly_116 : decode cX9_loseEvenly 116 = .ok (.iload 8, 2) := by decide +kernel
theorem dX9_loseEvenly_118 : decode cX9_loseEvenly 118 = .ok (.i2l, 1) := by decide +kernel
theorem dX9_loseEvenly_119 : decode cX9_loseEvenly 119 = .ok (.lmul, 1) := by decide +kernel
theorem dX9_loseEvenly_120 : decode cX9_loseEvenly 120 = .ok (.lload 6, 2) := by decide +kernel
theorem dX9_loseEvenly_122 : decode cX9_loseEvenly 122 = .ok (.lcmp, 1) := by decide +kernel
theorem dX9_loseEvenly_123 : decode cX9_loseEvenly 123 = .ok (.ifCond .ge 15, 3) := by decide +kernel
theorem dX9_loseEvenly_126 : decode cX9_loseEvenly 126 = .ok (.iload 4, 2) := by decide +kernel
theorem dX9_loseEvenly_128 : decode cX9_loseEvenly 128 = .ok (.iconst 1, 1) := by decide +kernel
theorem dX9_loseEvenly_129 : decode cX9_loseEvenly 129 = .ok (.iload 9, 2) := by decide +kernel
theorem dX9_loseEvenly_131 : decode cX9_loseEvenly 131 = .ok (.ishl, 1) := by decide +kernel
theorem dX9_loseEvenly_132 : decode cX9_loseEvenly 132 = .ok (.ior, 1) := by decide +kernel
theorem dX9_loseEvenly_133 : decode cX9_loseEvenly 133 = .ok (.istore 4, 2) := by decide +kernel
theorem dX9_loseEvenly_135 : decode cX9_loseEvenly 135 = .ok (.iconst 1, 1) := by decide +kernel
theorem dX9_loseEvenly_136 : decode cX9_loseEvenly 136 = .ok (.istore 5, 2) := by decide +kernel
theorem dX9_loseEvenly_138 : decode cX9_loseEvenly 138 = .ok (.iinc 9 1, 3) := by decide +kernel
theorem dX9_loseEvenly_141 : decode cX9_loseEvenly 141 = .ok (.goto (-52), 3) := by decide +kernel
theorem dX9_loseEvenly_144 : decode cX9_loseEvenly 144 = .ok (.aload_n 0, 1) := by decide +kernel
theorem dX9_loseEvenly_145 : decode cX9_loseEvenly 145 = .ok (.aload_n 0, 1) := by decide +kernel
theorem dX9_loseEvenly_146 : decode cX9_loseEvenly 146 = .ok (.getfield 30, 3) := by decide +kernel
theorem dX9_loseEvenly_149 : decode cX9_loseEvenly 149 = .ok (.iload_n 1, 1) := by decide +kernel
theorem dX9_loseEvenly_150 : decode cX9_loseEvenly 150 = .ok (.iaload, 1) := by decide +kernel
theorem dX9_loseEvenly_151 : decode cX9_loseEvenly 151 = .ok (.i2l, 1) := by decide +kernel
theorem dX9_loseEvenly_152 : decode cX9_loseEvenly 152 = .ok (.iload 8, 2) := by decide +kernel
theorem dX9_loseEvenly_154 : decode cX9_loseEvenly 154 = .ok (.i2l, 1) := by decide +kernel
theorem dX9_loseEvenly_155 : decode cX9_loseEvenly 155 = .ok (.lmul, 1) := by decide +kernel
theorem dX9_loseEvenly_156 : decode cX9_loseEvenly 156 = .ok (.lload 6, 2) := by decide +kernel
theorem dX9_loseEvenly_158 : decode cX9_loseEvenly 158 = .ok (.lsub, 1) := by decide +kernel
theorem dX9_loseEvenly_159 : decode cX9_loseEvenly 159 = .ok (.putfield 252, 3) := by decide +kernel
theorem dX9_loseEvenly_162 : decode cX9_loseEvenly 162 = .ok (.aload_n 0, 1) := by decide +kernel
theorem dX9_loseEvenly_163 : decode cX9_loseEvenly 163 = .ok (.iload 8, 2) := by decide +kernel
theorem dX9_loseEvenly_165 : decode cX9_loseEvenly 165 = .ok (.i2l, 1) := by decide +kernel
theorem dX9_loseEvenly_166 : decode cX9_loseEvenly 166 = .ok (.putfield 255, 3) := by decide +kernel
theorem dX9_loseEvenly_169 : decode cX9_loseEvenly 169 = .ok (.goto (-163), 3) := by decide +kernel
theorem dX9_loseEvenly_172 : decode cX9_loseEvenly 172 = .ok (.aload_n 0, 1) := by decide +kernel
theorem dX9_loseEvenly_173 : decode cX9_loseEvenly 173 = .ok (.iload 4, 2) := by decide +kernel
theorem dX9_loseEvenly_175 : decode cX9_loseEvenly 175 = .ok (.iload_n 1, 1) := by decide +kernel
theorem dX9_loseEvenly_176 : decode cX9_loseEvenly 176 = .ok (.invokestatic 121, 3) := by decide +kernel
theorem dX9_loseEvenly_179 : decode cX9_loseEvenly 179 = .ok (.ifCond .eq 7, 3) := by decide +kernel
theorem dX9_loseEvenly_182 : decode cX9_loseEvenly 182 = .ok (.lconst 0, 1) := by decide +kernel
theorem dX9_loseEvenly_183 : decode cX9_loseEvenly 183 = .ok (.goto 7, 3) := by decide +kernel
theorem dX9_loseEvenly_186 : decode cX9_loseEvenly 186 = .ok (.aload_n 0, 1) := by decide +kernel
theorem dX9_loseEvenly_187 : decode cX9_loseEvenly 187 = .ok (.getfield 252, 3) := by decide +kernel
theorem dX9_loseEvenly_190 : decode cX9_loseEvenly 190 = .ok (.putfield 252, 3) := by decide +kernel
theorem dX9_loseEvenly_193 : decode cX9_loseEvenly 193 = .ok (.return_, 1) := by decide +kernel
theorem dX9_comes_0 : decode cX9_comes 0 = .ok (.lconst 0, 1) := by decide +kernel
theorem dX9_comes_1 : decode cX9_comes 1 = .ok (.lstore_n 2, 1) := by decide +kernel
theorem dX9_comes_2 : decode cX9_comes 2 = .ok (.iconst 1, 1) := by decide +kernel
theorem dX9_comes_3 : decode cX9_comes 3 = .ok (.istore 4, 2) := by decide +kernel
theorem dX9_comes_5 : decode cX9_comes 5 = .ok (.iconst 0, 1) := by decide +kernel
theorem dX9_comes_6 : decode cX9_comes 6 = .ok (.istore 5, 2) := by decide +kernel
theorem dX9_comes_8 : decode cX9_comes 8 = .ok (.iload 5, 2) := by decide +kernel
theorem dX9_comes_10 : decode cX9_comes 10 = .ok (.aload_n 0, 1) := by decide +kernel
theorem dX9_comes_11 : decode cX9_comes 11 = .ok (.getfield 244, 3) := by decide +kernel
theorem dX9_comes_14 : decode cX9_comes 14 = .ok (.if_icmp .ge 18, 3) := by decide +kernel
theorem dX9_comes_17 : decode cX9_comes 17 = .ok (.iload 4, 2) := by decide +kernel
theorem dX9_comes_19 : decode cX9_comes 19 = .ok (.aload_n 0, 1) := by decide +kernel
theorem dX9_comes_20 : decode cX9_comes 20 = .ok (.getfield 244, 3) := by decide +kernel
theorem dX9_comes_23 : decode cX9_comes 23 = .ok (.imul, 1) := by decide +kernel
theorem dX9_comes_24 : decode cX9_comes 24 = .ok (.istore 4, 2) := by decide +kernel
theorem dX9_comes_26 : decode cX9_comes 26 = .ok (.iinc 5 1, 3) := by decide +kernel
theorem dX9_comes_29 : decode cX9_comes 29 = .ok (.goto (-21), 3) := by decide +kernel
theorem dX9_comes_32 : decode cX9_comes 32 = .ok (.iconst 0, 1) := by decide +kernel
theorem dX9_comes_33 : decode cX9_comes 33 = .ok (.istore 5, 2) := by decide +kernel
theorem dX9_comes_35 : decode cX9_comes 35 = .ok (.iload 5, 2) := by decide +kernel
theorem dX9_comes_37 : decode cX9_comes 37 = .ok (.iload 4, 2) := by decide +kernel
theorem dX9_comes_39 : decode cX9_comes 39 = .ok (.if_icmp .ge 171, 3) := by decide +kernel
theorem dX9_comes_42 : decode cX9_comes 42 = .ok (.iload 5, 2) := by decide +kernel
theorem dX9_comes_44 : decode cX9_comes 44 = .ok (.istore 6, 2) := by decide +kernel
theorem dX9_comes_46 : decode cX9_comes 46 = .ok (.iconst 0, 1) := by decide +kernel
theorem dX9_comes_47 : decode cX9_comes 47 = .ok (.istore 7, 2) := by decide +kernel
theorem dX9_comes_49 : decode cX9_comes 49 = .ok (.iconst 0, 1) := by decide +kernel
theorem dX9_comes_50 : decode cX9_comes 50 = .ok (.istore 8, 2) := by decide +kernel
theorem dX9_comes_52 : decode cX9_comes 52 = .ok (.iload 8, 2) := by decide +kernel
theorem dX9_comes_54 : decode cX9_comes 54 = .ok (.aload_n 0, 1) := by decide +kernel
theorem dX9_comes_55 : decode cX9_comes 55 = .ok (.getfield 244, 3) := by decide +kernel
theorem dX9_comes_58 : decode cX9_comes 58 = .ok (.if_icmp .ge 46, 3) := by decide +kernel
theorem dX9_comes_61 : decode cX9_comes 61 = .ok (.aload_n 0, 1) := by decide +kernel
theorem dX9_comes_62 : decode cX9_comes 62 = .ok (.getfield 85, 3) := by decide +kernel
theorem dX9_comes_65 : decode cX9_comes 65 = .ok (.iload 8, 2) := by decide +kernel
theorem dX9_comes_67 : decode cX9_comes 67 = .ok (.iload 6, 2) := by decide +kernel
theorem dX9_comes_69 : decode cX9_comes 69 = .ok (.aload_n 0, 1) := by decide +kernel
theorem dX9_comes_70 : decode cX9_comes 70 = .ok (.getfield 244, 3) := by decide +kernel
theorem dX9_comes_73 : decode cX9_comes 73 = .ok (.irem, 1) := by decide +kernel
theorem dX9_comes_74 : decode cX9_comes 74 = .ok (.iastore, 1) := by decide +kernel
theorem dX9_comes_75 : decode cX9_comes 75 = .ok (.iload 6, 2) := by decide +kernel
theorem dX9_comes_77 : decode cX9_comes 77 = .ok (.aload_n 0, 1) := by decide +kernel
theorem dX9_comes_78 : decode cX9_comes 78 = .ok (.getfield 244, 3) := by decide +kernel
theorem dX9_comes_81 : decode cX9_comes 81 = .ok (.idiv, 1) := by decide +kernel
theorem dX9_comes_82 : decode cX9_comes 82 = .ok (.istore 6, 2) := by decide +kernel
theorem dX9_comes_84 : decode cX9_comes 84 = .ok (.iload 7, 2) := by decide +kernel
theorem dX9_comes_86 : decode cX9_comes 86 = .ok (.iconst 1, 1) := by decide +kernel
theorem dX9_comes_87 : decode cX9_comes 87 = .ok (.aload_n 0, 1) := by decide +kernel
theorem dX9_comes_88 : decode cX9_comes 88 = .ok (.getfield 85, 3) := by decide +kernel
theorem dX9_comes_91 : decode cX9_comes 91 = .ok (.iload 8, 2) := by decide +kernel
theorem dX9_comes_93 : decode cX9_comes 93 = .ok (.iaload, 1) := by decide +kernel
theorem dX9_comes_94 : decode cX9_comes 94 = .ok (.ishl, 1) := by decide +kernel
theorem dX9_comes_95 : decode cX9_comes 95 = .ok (.ior, 1) := by decide +kernel
theorem dX9_comes_96 : decode cX9_comes 96 = .ok (.istore 7, 2) := by decide +kernel
theorem dX9_comes_98 : decode cX9_comes 98 = .ok (.iinc 8 1, 3) := by decide +kernel
theorem dX9_comes_101 : decode cX9_comes 101 = .ok (.goto (-49), 3) := by decide +kernel
theorem dX9_comes_104 : decode cX9_comes 104 = .ok (.iload 7, 2) := by decide +kernel
theorem dX9_comes_106 : decode cX9_comes 106 = .ok (.invokestatic 114, 3) := by decide +kernel
theorem dX9_comes_109 : decode cX9_comes 109 = .ok (.aload_n 0, 1) := by decide +kernel
theorem dX9_comes_110 : decode cX9_comes 110 = .ok (.getfield 244, 3) := by decide +kernel
theorem dX9_comes_113 : decode cX9_comes 113 = .ok (.if_icmp .ne 91, 3) := by decide +kernel
theorem dX9_comes_116 : decode cX9_comes 116 = .ok (.aload_n 0, 1) := by decide +kernel
theorem dX9_comes_117 : decode cX9_comes 117 = .ok (.getfield 249, 3) := by decide +kernel
theorem dX9_comes_120 : decode cX9_comes 120 = .ok (.istore 8, 2) := by decide +kernel
theorem dX9_comes_122 : decode cX9_comes 122 = .ok (.iconst 0, 1) := by decide +kernel
theorem dX9_comes_123 : decode cX9_comes 123 = .ok (.istore 9, 2) := by decide +kernel
theorem dX9_comes_125 : decode cX9_comes 125 = .ok (.iload 9, 2) := by decide +kernel
theorem dX9_comes_127 : decode cX9_comes 127 = .ok (.aload_n 0, 1) := by decide +kernel
theorem dX9_comes_128 : decode cX9_comes 128 = .ok (.getfield 244, 3) := by decide +kernel
theorem dX9_comes_131 : decode cX9_comes 131 = .ok (.if_icmp .ge 73, 3) := by decide +kernel
theorem dX9_comes_134 : decode cX9_comes 134 = .ok (.aload_n 0, 1) := by decide +kernel
theorem dX9_comes_135 : decode cX9_comes 135 = .ok (.getfield 30, 3) := by decide +kernel
theorem dX9_comes_138 : decode cX9_comes 138 = .ok (.aload_n 0, 1) := by decide +kernel
theorem dX9_comes_139 : decode cX9_comes 139 = .ok (.getfield 85, 3) := by decide +kernel
theorem dX9_comes_142 : decode cX9_comes 142 = .ok (.iload 9, 2) := by decide +kernel
theorem dX9_comes_144 : decode cX9_comes 144 = .ok (.iaload, 1) := by decide +kernel
theorem dX9_comes_145 : decode cX9_comes 145 = .ok (.iaload, 1) := by decide +kernel
theorem dX9_comes_146 : decode cX9_comes 146 = .ok (.iload 8, 2) := by decide +kernel
theorem dX9_comes_148 : decode cX9_comes 148 = .ok (.if_icmp .ge 18, 3) := by decide +kernel
theorem dX9_comes_151 : decode cX9_comes 151 = .ok (.aload_n 0, 1) := by decide +kernel
theorem dX9_comes_152 : decode cX9_comes 152 = .ok (.getfield 30, 3) := by decide +kernel
theorem dX9_comes_155 : decode cX9_comes 155 = .ok (.aload_n 0, 1) := by decide +kernel
theorem dX9_comes_156 : decode cX9_comes 156 = .ok (.getfield 85, 3) := by decide +kernel
theorem dX9_comes_159 : decode cX9_comes 159 = .ok (.iload 9, 2) := by decide +kernel
theorem dX9_comes_161 : decode cX9_comes 161 = .ok (.iaload, 1) := by decide +kernel
theorem dX9_comes_162 : decode cX9_comes 162 = .ok (.iaload, 1) := by decide +kernel
theorem dX9_comes_163 : decode cX9_comes 163 = .ok (.goto 5, 3) := by decide +kernel
theorem dX9_comes_166 : decode cX9_comes 166 = .ok (.iload 8, 2) := by decide +kernel
theorem dX9_comes_168 : decode cX9_comes 168 = .ok (.istore 10, 2) := by decide +kernel
theorem dX9_comes_170 : decode cX9_comes 170 = .ok (.iload 8, 2) := by decide +kernel
theorem dX9_comes_172 : decode cX9_comes 172 = .ok (.iload 10, 2) := by decide +kernel
theorem dX9_comes_174 : decode cX9_comes 174 = .ok (.isub, 1) := by decide +kernel
theorem dX9_comes_175 : decode cX9_comes 175 = .ok (.istore 8, 2) := by decide +kernel
theorem dX9_comes_177 : decode cX9_comes 177 = .ok (.lload_n 2, 1) := by decide +kernel
theorem dX9_comes_178 : decode cX9_comes 178 = .ok (.aload_n 0, 1) := by decide +kernel
theorem dX9_comes_179 : decode cX9_comes 179 = .ok (.getfield 85, 3) := by decide +kernel
theorem dX9_comes_182 : decode cX9_comes 182 = .ok (.iload 9, 2) := by decide +kernel
theorem dX9_comes_184 : decode cX9_comes 184 = .ok (.iaload, 1) := by decide +kernel
theorem dX9_comes_185 : decode cX9_comes 185 = .ok (.iload_n 1, 1) := by decide +kernel
theorem dX9_comes_186 : decode cX9_comes 186 = .ok (.if_icmp .ne 9, 3) := by decide +kernel
theorem dX9_comes_189 : decode cX9_comes 189 = .ok (.iload 10, 2) := by decide +kernel
theorem dX9_comes_191 : decode cX9_comes 191 = .ok (.i2l, 1) := by decide +kernel
theorem dX9_comes_192 : decode cX9_comes 192 = .ok (.goto 4, 3) := by decide +kernel
theorem dX9_comes_195 : decode cX9_comes 195 = .ok (.lconst 0, 1) := by decide +kernel
theorem dX9_comes_196 : decode cX9_comes 196 = .ok (.ladd, 1) := by decide +kernel
theorem dX9_comes_197 : decode cX9_comes 197 = .ok (.lstore_n 2, 1) := by decide +kernel
theorem dX9_comes_198 : decode cX9_comes 198 = .ok (.iinc 9 1, 3) := by decide +kernel
theorem dX9_comes_201 : decode cX9_comes 201 = .ok (.goto (-76), 3) := by decide +kernel
theorem dX9_comes_204 : decode cX9_comes 204 = .ok (.iinc 5 1, 3) := by decide +kernel
theorem dX9_comes_207 : decode cX9_comes 207 = .ok (.goto (-172), 3) := by decide +kernel
theorem dX9_comes_210 : decode cX9_comes 210 = .ok (.lload_n 2, 1) := by decide +kernel
theorem dX9_comes_211 : decode cX9_comes 211 = .ok (.lreturn, 1) := by decide +kernel
theorem dX9_award_0 : decode cX9_award 0 = .ok (.iload_n 1, 1) := by decide +kernel
theorem dX9_award_1 : decode cX9_award 1 = .ok (.i2l, 1) := by decide +kernel
theorem dX9_award_2 : decode cX9_award 2 = .ok (.lconst 0, 1) := by decide +kernel
theorem dX9_award_3 : decode cX9_award 3 = .ok (.aload_n 0, 1) := by decide +kernel
theorem dX9_award_4 : decode cX9_award 4 = .ok (.getfield 244, 3) := by decide +kernel
theorem dX9_award_7 : decode cX9_award 7 = .ok (.iconst 1, 1) := by decide +kernel
theorem dX9_award_8 : decode cX9_award 8 = .ok (.isub, 1) := by decide +kernel
theorem dX9_award_9 : decode cX9_award 9 = .ok (.i2l, 1) := by decide +kernel
theorem dX9_award_10 : decode cX9_award 10 = .ok (.invokestatic 92, 3) := by decide +kernel
theorem dX9_award_13 : decode cX9_award 13 = .ok (.ifCond .eq 15, 3) := by decide +kernel
theorem dX9_award_16 : decode cX9_award 16 = .ok (.iload_n 2, 1) := by decide +kernel
theorem dX9_award_17 : decode cX9_award 17 = .ok (.i2l, 1) := by decide +kernel
theorem dX9_award_18 : decode cX9_award 18 = .ok (.lconst 0, 1) := by decide +kernel
theorem dX9_award_19 : decode cX9_award 19 = .ok (.ldc2_w 103, 3) := by decide +kernel
theorem dX9_award_22 : decode cX9_award 22 = .ok (.invokestatic 92, 3) := by decide +kernel
theorem dX9_award_25 : decode cX9_award 25 = .ok (.ifCond .ne 6, 3) := by decide +kernel
theorem dX9_award_28 : decode cX9_award 28 = .ok (.bipush (-2), 2) := by decide +kernel
theorem dX9_award_30 : decode cX9_award 30 = .ok (.ireturn, 1) := by decide +kernel
theorem dX9_award_31 : decode cX9_award 31 = .ok (.aload_n 0, 1) := by decide +kernel
theorem dX9_award_32 : decode cX9_award 32 = .ok (.invokevirtual 258, 3) := by decide +kernel
theorem dX9_award_35 : decode cX9_award 35 = .ok (.istore_n 3, 1) := by decide +kernel
theorem dX9_award_36 : decode cX9_award 36 = .ok (.aload_n 0, 1) := by decide +kernel
theorem dX9_award_37 : decode cX9_award 37 = .ok (.getfield 249, 3) := by decide +kernel
theorem dX9_award_40 : decode cX9_award 40 = .ok (.iload_n 3, 1) := by decide +kernel
theorem dX9_award_41 : decode cX9_award 41 = .ok (.if_icmp .le 6, 3) := by decide +kernel
theorem dX9_award_44 : decode cX9_award 44 = .ok (.bipush (-3), 2) := by decide +kernel
theorem dX9_award_46 : decode cX9_award 46 = .ok (.ireturn, 1) := by decide +kernel
theorem dX9_award_47 : decode cX9_award 47 = .ok (.iload_n 3, 1) := by decide +kernel
theorem dX9_award_48 : decode cX9_award 48 = .ok (.ifCond .ne 10, 3) := by decide +kernel
theorem dX9_award_51 : decode cX9_award 51 = .ok (.aload_n 0, 1) := by decide +kernel
theorem dX9_award_52 : decode cX9_award 52 = .ok (.lconst 0, 1) := by decide +kernel
theorem dX9_award_53 : decode cX9_award 53 = .ok (.lconst 1, 1) := by decide +kernel
theorem dX9_award_54 : decode cX9_award 54 = .ok (.invokevirtual 128, 3) := by decide +kernel
theorem dX9_award_57 : decode cX9_award 57 = .ok (.ireturn, 1) := by decide +kernel
theorem dX9_award_58 : decode cX9_award 58 = .ok (.iload_n 2, 1) := by decide +kernel
theorem dX9_award_59 : decode cX9_award 59 = .ok (.tableswitch 186 0 3 #[29, 49, 72, 95], 29) := by decide +kernel
theorem dX9_award_88 : decode cX9_award 88 = .ok (.aload_n 0, 1) := by decide +kernel
theorem dX9_award_89 : decode cX9_award 89 = .ok (.aload_n 0, 1) := by decide +kernel
theorem dX9_award_90 : decode cX9_award 90 = .ok (.getfield 249, 3) := by decide +kernel
theorem dX9_award_93 : decode cX9_award 93 = .ok (.i2l, 1) := by decide +kernel
theorem dX9_award_94 : decode cX9_award 94 = .ok (.aload_n 0, 1) := by decide +kernel
theorem dX9_award_95 : decode cX9_award 95 = .ok (.getfield 30, 3) := by decide +kernel
theorem dX9_award_98 : decode cX9_award 98 = .ok (.iload_n 1, 1) := by decide +kernel
theorem dX9_award_99 : decode cX9_award 99 = .ok (.iaload, 1) := by decide +kernel
theorem dX9_award_100 : decode cX9_award 100 = .ok (.i2l, 1) := by decide +kernel
theorem dX9_award_101 : decode cX9_award 101 = .ok (.lmul, 1) := by decide +kernel
theorem dX9_award_102 : decode cX9_award 102 = .ok (.iload_n 3, 1) := by decide +kernel
theorem dX9_award_103 : decode cX9_award 103 = .ok (.i2l, 1) := by decide +kernel
theorem dX9_award_104 : decode cX9_award 104 = .ok (.invokevirtual 128, 3) := by decide +kernel
theorem dX9_award_107 : decode cX9_award 107 = .ok (.ireturn, 1) := by decide +kernel
theorem dX9_award_108 : decode cX9_award 108 = .ok (.aload_n 0, 1) := by decide +kernel
theorem dX9_award_109 : decode cX9_award 109 = .ok (.iload_n 1, 1) := by decide +kernel
theorem dX9_award_110 : decode cX9_award 110 = .ok (.aload_n 0, 1) := by decide +kernel
theorem dX9_award_111 : decode cX9_award 111 = .ok (.getfield 249, 3) := by decide +kernel
theorem dX9_award_114 : decode cX9_award 114 = .ok (.i2l, 1) := by decide +kernel
theorem dX9_award_115 : decode cX9_award 115 = .ok (.invokevirtual 261, 3) := by decide +kernel
theorem dX9_award_118 : decode cX9_award 118 = .ok (.aload_n 0, 1) := by decide +kernel
theorem dX9_award_119 : decode cX9_award 119 = .ok (.aload_n 0, 1) := by decide +kernel
theorem dX9_award_120 : decode cX9_award 120 = .ok (.getfield 252, 3) := by decide +kernel
theorem dX9_award_123 : decode cX9_award 123 = .ok (.aload_n 0, 1) := by decide +kernel
theorem dX9_award_124 : decode cX9_award 124 = .ok (.getfield 255, 3) := by decide +kernel
theorem dX9_award_127 : decode cX9_award 127 = .ok (.invokevirtual 128, 3) := by decide +kernel
theorem dX9_award_130 : decode cX9_award 130 = .ok (.ireturn, 1) := by decide +kernel
theorem dX9_award_131 : decode cX9_award 131 = .ok (.aload_n 0, 1) := by decide +kernel
theorem dX9_award_132 : decode cX9_award 132 = .ok (.iload_n 1, 1) := by decide +kernel
theorem dX9_award_133 : decode cX9_award 133 = .ok (.aload_n 0, 1) := by decide +kernel
theorem dX9_award_134 : decode cX9_award 134 = .ok (.getfield 249, 3) := by decide +kernel
theorem dX9_award_137 : decode cX9_award 137 = .ok (.i2l, 1) := by decide +kernel
theorem dX9_award_138 : decode cX9_award 138 = .ok (.invokevirtual 265, 3) := by decide +kernel
theorem dX9_award_141 : decode cX9_award 141 = .ok (.aload_n 0, 1) := by decide +kernel
theorem dX9_award_142 : decode cX9_award 142 = .ok (.aload_n 0, 1) := by decide +kernel
theorem dX9_award_143 : decode cX9_award 143 = .ok (.getfield 252, 3) := by decide +kernel
theorem dX9_award_146 : decode cX9_award 146 = .ok (.aload_n 0, 1) := by decide +kernel
theorem dX9_award_147 : decode cX9_award 147 = .ok (.getfield 255, 3) := by decide +kernel
theorem dX9_award_150 : decode cX9_award 150 = .ok (.invokevirtual 128, 3) := by decide +kernel
theorem dX9_award_153 : decode cX9_award 153 = .ok (.ireturn, 1) := by decide +kernel
theorem dX9_award_154 : decode cX9_award 154 = .ok (.iconst 2, 1) := by decide +kernel
theorem dX9_award_155 : decode cX9_award 155 = .ok (.aload_n 0, 1) := by decide +kernel
theorem dX9_award_156 : decode cX9_award 156 = .ok (.getfield 249, 3) := by decide +kernel
theorem dX9_award_159 : decode cX9_award 159 = .ok (.imul, 1) := by decide +kernel
theorem dX9_award_160 : decode cX9_award 160 = .ok (.iload_n 3, 1) := by decide +kernel
theorem dX9_award_161 : decode cX9_award 161 = .ok (.if_icmp .gt 34, 3) := by decide +kernel
theorem dX9_award_164 : decode cX9_award 164 = .ok (.aload_n 0, 1) := by decide +kernel
theorem dX9_award_165 : decode cX9_award 165 = .ok (.iload_n 1, 1) := by decide +kernel
theorem dX9_award_166 : decode cX9_award 166 = .ok (.ldc2_w 268, 3) := by decide +kernel
theorem dX9_award_169 : decode cX9_award 169 = .ok (.aload_n 0, 1) := by decide +kernel
theorem dX9_award_170 : decode cX9_award 170 = .ok (.getfield 249, 3) := by decide +kernel
theorem dX9_award_173 : decode cX9_award 173 = .ok (.i2l, 1) := by decide +kernel
theorem dX9_award_174 : decode cX9_award 174 = .ok (.lmul, 1) := by decide +kernel
theorem dX9_award_175 : decode cX9_award 175 = .ok (.invokevirtual 261, 3) := by decide +kernel
theorem dX9_award_178 : decode cX9_award 178 = .ok (.aload_n 0, 1) := by decide +kernel
theorem dX9_award_179 : decode cX9_award 179 = .ok (.aload_n 0, 1) := by decide +kernel
theorem dX9_award_180 : decode cX9_award 180 = .ok (.getfield 252, 3) := by decide +kernel
theorem dX9_award_183 : decode cX9_award 183 = .ok (.ldc2_w 268, 3) := by decide +kernel
theorem dX9_award_186 : decode cX9_award 186 = .ok (.aload_n 0, 1) := by decide +kernel
theorem dX9_award_187 : decode cX9_award 187 = .ok (.getfield 255, 3) := by decide +kernel
theorem dX9_award_190 : decode cX9_award 190 = .ok (.lmul, 1) := by decide +kernel
theorem dX9_award_191 : decode cX9_award 191 = .ok (.invokevirtual 128, 3) := by decide +kernel
theorem dX9_award_194 : decode cX9_award 194 = .ok (.ireturn, 1) := by decide +kernel
theorem dX9_award_195 : decode cX9_award 195 = .ok (.aload_n 0, 1) := by decide +kernel
theorem dX9_award_196 : decode cX9_award 196 = .ok (.iload_n 1, 1) := by decide +kernel
theorem dX9_award_197 : decode cX9_award 197 = .ok (.ldc2_w 268, 3) := by decide +kernel
theorem dX9_award_200 : decode cX9_award 200 = .ok (.iload_n 3, 1) := by decide +kernel
theorem dX9_award_201 : decode cX9_award 201 = .ok (.aload_n 0, 1) := by decide +kernel
theorem dX9_award_202 : decode cX9_award 202 = .ok (.getfield 249, 3) := by decide +kernel
theorem dX9_award_205 : decode cX9_award 205 = .ok (.isub, 1) := by decide +kernel
theorem dX9_award_206 : decode cX9_award 206 = .ok (.i2l, 1) := by decide +kernel
theorem dX9_award_207 : decode cX9_award 207 = .ok (.lmul, 1) := by decide +kernel
theorem dX9_award_208 : decode cX9_award 208 = .ok (.invokevirtual 261, 3) := by decide +kernel
theorem dX9_award_211 : decode cX9_award 211 = .ok (.aload_n 0, 1) := by decide +kernel
theorem dX9_award_212 : decode cX9_award 212 = .ok (.ldc2_w 268, 3) := by decide +kernel
theorem dX9_award_215 : decode cX9_award 215 = .ok (.aload_n 0, 1) := by decide +kernel
theorem dX9_award_216 : decode cX9_award 216 = .ok (.getfield 30, 3) := by decide +kernel
theorem dX9_award_219 : decode cX9_award 219 = .ok (.iload_n 1, 1) := by decide +kernel
theorem dX9_award_220 : decode cX9_award 220 = .ok (.iaload, 1) := by decide +kernel
theorem dX9_award_221 : decode cX9_award 221 = .ok (.i2l, 1) := by decide +kernel
theorem dX9_award_222 : decode cX9_award 222 = .ok (.lmul, 1) := by decide +kernel
theorem dX9_award_223 : decode cX9_award 223 = .ok (.aload_n 0, 1) := by decide +kernel
theorem dX9_award_224 : decode cX9_award 224 = .ok (.getfield 255, 3) := by decide +kernel
theorem dX9_award_227 : decode cX9_award 227 = .ok (.lmul, 1) := by decide +kernel
theorem dX9_award_228 : decode cX9_award 228 = .ok (.aload_n 0, 1) := by decide +kernel
theorem dX9_award_229 : decode cX9_award 229 = .ok (.getfield 252, 3) := by decide +kernel
theorem dX9_award_232 : decode cX9_award 232 = .ok (.lsub, 1) := by decide +kernel
theorem dX9_award_233 : decode cX9_award 233 = .ok (.ldc2_w 268, 3) := by decide +kernel
theorem dX9_award_236 : decode cX9_award 236 = .ok (.aload_n 0, 1) := by decide +kernel
theorem dX9_award_237 : decode cX9_award 237 = .ok (.getfield 255, 3) := by decide +kernel
theorem dX9_award_240 : decode cX9_award 240 = .ok (.lmul, 1) := by decide +kernel
theorem dX9_award_241 : decode cX9_award 241 = .ok (.invokevirtual 128, 3) := by decide +kernel
theorem dX9_award_244 : decode cX9_award 244 = .ok (.ireturn, 1) := by decide +kernel
theorem dX9_award_245 : decode cX9_award 245 = .ok (.aload_n 0, 1) := by decide +kernel
theorem dX9_award_246 : decode cX9_award 246 = .ok (.aload_n 0, 1) := by decide +kernel
theorem dX9_award_247 : decode cX9_award 247 = .ok (.iload_n 1, 1) := by decide +kernel
theorem dX9_award_248 : decode cX9_award 248 = .ok (.invokevirtual 270, 3) := by decide +kernel
theorem dX9_award_251 : decode cX9_award 251 = .ok (.aload_n 0, 1) := by decide +kernel
theorem dX9_award_252 : decode cX9_award 252 = .ok (.getfield 244, 3) := by decide +kernel
theorem dX9_award_255 : decode cX9_award 255 = .ok (.invokestatic 125, 3) := by decide +kernel
theorem dX9_award_258 : decode cX9_award 258 = .ok (.i2l, 1) := by decide +kernel
theorem dX9_award_259 : decode cX9_award 259 = .ok (.invokevirtual 128, 3) := by decide +kernel
theorem dX9_award_262 : decode cX9_award 262 = .ok (.ireturn, 1) := by decide +kernel
theorem dX9_place_0 : decode cX9_place 0 = .ok (.iload_n 1, 1) := by decide +kernel
theorem dX9_place_1 : decode cX9_place 1 = .ok (.i2l, 1) := by decide +kernel
theorem dX9_place_2 : decode cX9_place 2 = .ok (.lconst 0, 1) := by decide +kernel
theorem dX9_place_3 : decode cX9_place 3 = .ok (.aload_n 0, 1) := by decide +kernel
theorem dX9_place_4 : decode cX9_place 4 = .ok (.getfield 33, 3) := by decide +kernel
theorem dX9_place_7 : decode cX9_place 7 = .ok (.iconst 1, 1) := by decide +kernel
theorem dX9_place_8 : decode cX9_place 8 = .ok (.isub, 1) := by decide +kernel
theorem dX9_place_9 : decode cX9_place 9 = .ok (.i2l, 1) := by decide +kernel
theorem dX9_place_10 : decode cX9_place 10 = .ok (.invokestatic 92, 3) := by decide +kernel
theorem dX9_place_13 : decode cX9_place 13 = .ok (.ifCond .eq 15, 3) := by decide +kernel
theorem dX9_place_16 : decode cX9_place 16 = .ok (.iload_n 2, 1) := by decide +kernel
theorem dX9_place_17 : decode cX9_place 17 = .ok (.i2l, 1) := by decide +kernel
theorem dX9_place_18 : decode cX9_place 18 = .ok (.lconst 0, 1) := by decide +kernel
theorem dX9_place_19 : decode cX9_place 19 = .ok (.ldc2_w 111, 3) := by decide +kernel
theorem dX9_place_22 : decode cX9_place 22 = .ok (.invokestatic 92, 3) := by decide +kernel
theorem dX9_place_25 : decode cX9_place 25 = .ok (.ifCond .ne 6, 3) := by decide +kernel
theorem dX9_place_28 : decode cX9_place 28 = .ok (.bipush (-2), 2) := by decide +kernel
theorem dX9_place_30 : decode cX9_place 30 = .ok (.ireturn, 1) := by decide +kernel
theorem dX9_place_31 : decode cX9_place 31 = .ok (.aload_n 0, 1) := by decide +kernel
theorem dX9_place_32 : decode cX9_place 32 = .ok (.getfield 33, 3) := by decide +kernel
theorem dX9_place_35 : decode cX9_place 35 = .ok (.bipush 10, 2) := by decide +kernel
theorem dX9_place_37 : decode cX9_place 37 = .ok (.if_icmp .ne 6, 3) := by decide +kernel
theorem dX9_place_40 : decode cX9_place 40 = .ok (.bipush (-4), 2) := by decide +kernel
theorem dX9_place_42 : decode cX9_place 42 = .ok (.ireturn, 1) := by decide +kernel
theorem dX9_place_43 : decode cX9_place 43 = .ok (.aload_n 0, 1) := by decide +kernel
theorem dX9_place_44 : decode cX9_place 44 = .ok (.getfield 36, 3) := by decide +kernel
theorem dX9_place_47 : decode cX9_place 47 = .ok (.aload_n 0, 1) := by decide +kernel
theorem dX9_place_48 : decode cX9_place 48 = .ok (.getfield 33, 3) := by decide +kernel
theorem dX9_place_51 : decode cX9_place 51 = .ok (.iload_n 1, 1) := by decide +kernel
theorem dX9_place_52 : decode cX9_place 52 = .ok (.iastore, 1) := by decide +kernel
theorem dX9_place_53 : decode cX9_place 53 = .ok (.aload_n 0, 1) := by decide +kernel
theorem dX9_place_54 : decode cX9_place 54 = .ok (.getfield 39, 3) := by decide +kernel
theorem dX9_place_57 : decode cX9_place 57 = .ok (.aload_n 0, 1) := by decide +kernel
theorem dX9_place_58 : decode cX9_place 58 = .ok (.getfield 33, 3) := by decide +kernel
theorem dX9_place_61 : decode cX9_place 61 = .ok (.iload_n 2, 1) := by decide +kernel
theorem dX9_place_62 : decode cX9_place 62 = .ok (.iastore, 1) := by decide +kernel
theorem dX9_place_63 : decode cX9_place 63 = .ok (.aload_n 0, 1) := by decide +kernel
theorem dX9_place_64 : decode cX9_place 64 = .ok (.dup, 1) := by decide +kernel
theorem dX9_place_65 : decode cX9_place 65 = .ok (.getfield 33, 3) := by decide +kernel
theorem dX9_place_68 : decode cX9_place 68 = .ok (.iconst 1, 1) := by decide +kernel
theorem dX9_place_69 : decode cX9_place 69 = .ok (.iadd, 1) := by decide +kernel
theorem dX9_place_70 : decode cX9_place 70 = .ok (.putfield 33, 3) := by decide +kernel
theorem dX9_place_73 : decode cX9_place 73 = .ok (.aload_n 0, 1) := by decide +kernel
theorem dX9_place_74 : decode cX9_place 74 = .ok (.getfield 33, 3) := by decide +kernel
theorem dX9_place_77 : decode cX9_place 77 = .ok (.iconst 1, 1) := by decide +kernel
theorem dX9_place_78 : decode cX9_place 78 = .ok (.isub, 1) := by decide +kernel
theorem dX9_place_79 : decode cX9_place 79 = .ok (.ireturn, 1) := by decide +kernel
theorem dX9_user_0 : decode cX9_user 0 = .ok (.iload_n 1, 1) := by decide +kernel
theorem dX9_user_1 : decode cX9_user 1 = .ok (.i2l, 1) := by decide +kernel
theorem dX9_user_2 : decode cX9_user 2 = .ok (.lconst 0, 1) := by decide +kernel
theorem dX9_user_3 : decode cX9_user 3 = .ok (.aload_n 0, 1) := by decide +kernel
theorem dX9_user_4 : decode cX9_user 4 = .ok (.getfield 33, 3) := by decide +kernel
theorem dX9_user_7 : decode cX9_user 7 = .ok (.iconst 1, 1) := by decide +kernel
theorem dX9_user_8 : decode cX9_user 8 = .ok (.isub, 1) := by decide +kernel
theorem dX9_user_9 : decode cX9_user 9 = .ok (.i2l, 1) := by decide +kernel
theorem dX9_user_10 : decode cX9_user 10 = .ok (.invokestatic 92, 3) := by decide +kernel
theorem dX9_user_13 : decode cX9_user 13 = .ok (.ifCond .ne 6, 3) := by decide +kernel
theorem dX9_user_16 : decode cX9_user 16 = .ok (.bipush (-2), 2) := by decide +kernel
theorem dX9_user_18 : decode cX9_user 18 = .ok (.ireturn, 1) := by decide +kernel
theorem dX9_user_19 : decode cX9_user 19 = .ok (.aload_n 0, 1) := by decide +kernel
theorem dX9_user_20 : decode cX9_user 20 = .ok (.getfield 274, 3) := by decide +kernel
theorem dX9_user_23 : decode cX9_user 23 = .ok (.bipush 8, 2) := by decide +kernel
theorem dX9_user_25 : decode cX9_user 25 = .ok (.if_icmp .ne 6, 3) := by decide +kernel
theorem dX9_user_28 : decode cX9_user 28 = .ok (.bipush (-4), 2) := by decide +kernel
theorem dX9_user_30 : decode cX9_user 30 = .ok (.ireturn, 1) := by decide +kernel
theorem dX9_user_31 : decode cX9_user 31 = .ok (.aload_n 0, 1) := by decide +kernel
theorem dX9_user_32 : decode cX9_user 32 = .ok (.getfield 42, 3) := by decide +kernel
theorem dX9_user_35 : decode cX9_user 35 = .ok (.aload_n 0, 1) := by decide +kernel
theorem dX9_user_36 : decode cX9_user 36 = .ok (.getfield 274, 3) := by decide +kernel
theorem dX9_user_39 : decode cX9_user 39 = .ok (.iload_n 1, 1) := by decide +kernel
theorem dX9_user_40 : decode cX9_user 40 = .ok (.iastore, 1) := by decide +kernel
theorem dX9_user_41 : decode cX9_user 41 = .ok (.aload_n 0, 1) := by decide +kernel
theorem dX9_user_42 : decode cX9_user 42 = .ok (.getfield 45, 3) := by decide +kernel
theorem dX9_user_45 : decode cX9_user 45 = .ok (.aload_n 0, 1) := by decide +kernel
theorem dX9_user_46 : decode cX9_user 46 = .ok (.getfield 274, 3) := by decide +kernel
theorem dX9_user_49 : decode cX9_user 49 = .ok (.iconst 0, 1) := by decide +kernel
theorem dX9_user_50 : decode cX9_user 50 = .ok (.iastore, 1) := by decide +kernel
theorem dX9_user_51 : decode cX9_user 51 = .ok (.aload_n 0, 1) := by decide +kernel
theorem dX9_user_52 : decode cX9_user 52 = .ok (.dup, 1) := by decide +kernel
theorem dX9_user_53 : decode cX9_user 53 = .ok (.getfield 274, 3) := by decide +kernel
theorem dX9_user_56 : decode cX9_user 56 = .ok (.iconst 1, 1) := by decide +kernel
theorem dX9_user_57 : decode cX9_user 57 = .ok (.iadd, 1) := by decide +kernel
theorem dX9_user_58 : decode cX9_user 58 = .ok (.putfield 274, 3) := by decide +kernel
theorem dX9_user_61 : decode cX9_user 61 = .ok (.aload_n 0, 1) := by decide +kernel
theorem dX9_user_62 : decode cX9_user 62 = .ok (.getfield 274, 3) := by decide +kernel
theorem dX9_user_65 : decode cX9_user 65 = .ok (.iconst 1, 1) := by decide +kernel
theorem dX9_user_66 : decode cX9_user 66 = .ok (.isub, 1) := by decide +kernel
theorem dX9_user_67 : decode cX9_user 67 = .ok (.ireturn, 1) := by decide +kernel
theorem dX9_isOnWay_0 : decode cX9_isOnWay 0 = .ok (.aload_n 0, 1) := by decide +kernel
theorem dX9_isOnWay_1 : decode cX9_isOnWay 1 = .ok (.getfield 42, 3) := by decide +kernel
theorem dX9_isOnWay_4 : decode cX9_isOnWay 4 = .ok (.iload_n 1, 1) := by decide +kernel
theorem dX9_isOnWay_5 : decode cX9_isOnWay 5 = .ok (.iaload, 1) := by decide +kernel
theorem dX9_isOnWay_6 : decode cX9_isOnWay 6 = .ok (.istore_n 3, 1) := by decide +kernel
theorem dX9_isOnWay_7 : decode cX9_isOnWay 7 = .ok (.iload_n 3, 1) := by decide +kernel
theorem dX9_isOnWay_8 : decode cX9_isOnWay 8 = .ok (.iload_n 2, 1) := by decide +kernel
theorem dX9_isOnWay_9 : decode cX9_isOnWay 9 = .ok (.if_icmp .le 13, 3) := by decide +kernel
theorem dX9_isOnWay_12 : decode cX9_isOnWay 12 = .ok (.aload_n 0, 1) := by decide +kernel
theorem dX9_isOnWay_13 : decode cX9_isOnWay 13 = .ok (.getfield 36, 3) := by decide +kernel
theorem dX9_isOnWay_16 : decode cX9_isOnWay 16 = .ok (.iload_n 3, 1) := by decide +kernel
theorem dX9_isOnWay_17 : decode cX9_isOnWay 17 = .ok (.iaload, 1) := by decide +kernel
theorem dX9_isOnWay_18 : decode cX9_isOnWay 18 = .ok (.istore_n 3, 1) := by decide +kernel
theorem dX9_isOnWay_19 : decode cX9_isOnWay 19 = .ok (.goto (-12), 3) := by decide +kernel
theorem dX9_isOnWay_22 : decode cX9_isOnWay 22 = .ok (.iload_n 3, 1) := by decide +kernel
theorem dX9_isOnWay_23 : decode cX9_isOnWay 23 = .ok (.iload_n 2, 1) := by decide +kernel
theorem dX9_isOnWay_24 : decode cX9_isOnWay 24 = .ok (.if_icmp .ne 7, 3) := by decide +kernel
theorem dX9_isOnWay_27 : decode cX9_isOnWay 27 = .ok (.iconst 1, 1) := by decide +kernel
theorem dX9_isOnWay_28 : decode cX9_isOnWay 28 = .ok (.goto 4, 3) := by decide +kernel
theorem dX9_isOnWay_31 : decode cX9_isOnWay 31 = .ok (.iconst 0, 1) := by decide +kernel
theorem dX9_isOnWay_32 : decode cX9_isOnWay 32 = .ok (.ireturn, 1) := by decide +kernel
theorem dX9_aloneOf_0 : decode cX9_aloneOf 0 = .ok (.iconst 0, 1) := by decide +kernel
theorem dX9_aloneOf_1 : decode cX9_aloneOf 1 = .ok (.istore_n 2, 1) := by decide +kernel
theorem dX9_aloneOf_2 : decode cX9_aloneOf 2 = .ok (.iconst 1, 1) := by decide +kernel
theorem dX9_aloneOf_3 : decode cX9_aloneOf 3 = .ok (.istore_n 3, 1) := by decide +kernel
theorem dX9_aloneOf_4 : decode cX9_aloneOf 4 = .ok (.iload_n 3, 1) := by decide +kernel
theorem dX9_aloneOf_5 : decode cX9_aloneOf 5 = .ok (.aload_n 0, 1) := by decide +kernel
theorem dX9_aloneOf_6 : decode cX9_aloneOf 6 = .ok (.getfield 33, 3) := by decide +kernel
theorem dX9_aloneOf_9 : decode cX9_aloneOf 9 = .ok (.if_icmp .ge 79, 3) := by decide +kernel
theorem dX9_aloneOf_12 : decode cX9_aloneOf 12 = .ok (.iconst 0, 1) := by decide +kernel
theorem dX9_aloneOf_13 : decode cX9_aloneOf 13 = .ok (.istore 4, 2) := by decide +kernel
theorem dX9_aloneOf_15 : decode cX9_aloneOf 15 = .ok (.iconst 0, 1) := by decide +kernel
theorem dX9_aloneOf_16 : decode cX9_aloneOf 16 = .ok (.istore 5, 2) := by decide +kernel
theorem dX9_aloneOf_18 : decode cX9_aloneOf 18 = .ok (.iload 5, 2) := by decide +kernel
theorem dX9_aloneOf_20 : decode cX9_aloneOf 20 = .ok (.aload_n 0, 1) := by decide +kernel
theorem dX9_aloneOf_21 : decode cX9_aloneOf 21 = .ok (.getfield 274, 3) := by decide +kernel
theorem dX9_aloneOf_24 : decode cX9_aloneOf 24 = .ok (.if_icmp .ge 40, 3) := by decide +kernel
theorem dX9_aloneOf_27 : decode cX9_aloneOf 27 = .ok (.iload 4, 2) := by decide +kernel
theorem dX9_aloneOf_29 : decode cX9_aloneOf 29 = .ok (.ifCond .ne 22, 3) := by decide +kernel
theorem dX9_aloneOf_32 : decode cX9_aloneOf 32 = .ok (.iload_n 1, 1) := by decide +kernel
theorem dX9_aloneOf_33 : decode cX9_aloneOf 33 = .ok (.iload 5, 2) := by decide +kernel
theorem dX9_aloneOf_35 : decode cX9_aloneOf 35 = .ok (.invokestatic 121, 3) := by decide +kernel
theorem dX9_aloneOf_38 : decode cX9_aloneOf 38 = .ok (.ifCond .eq 17, 3) := by decide +kernel
theorem dX9_aloneOf_41 : decode cX9_aloneOf 41 = .ok (.aload_n 0, 1) := by decide +kernel
theorem dX9_aloneOf_42 : decode cX9_aloneOf 42 = .ok (.iload 5, 2) := by decide +kernel
theorem dX9_aloneOf_44 : decode cX9_aloneOf 44 = .ok (.iload_n 3, 1) := by decide +kernel
theorem dX9_aloneOf_45 : decode cX9_aloneOf 45 = .ok (.invokevirtual 277, 3) := by decide +kernel
theorem dX9_aloneOf_48 : decode cX9_aloneOf 48 = .ok (.ifCond .eq 7, 3) := by decide +kernel
theorem dX9_aloneOf_51 : decode cX9_aloneOf 51 = .ok (.iconst 1, 1) := by decide +kernel
theorem dX9_aloneOf_52 : decode cX9_aloneOf 52 = .ok (.goto 4, 3) := by decide +kernel
theorem dX9_aloneOf_55 : decode cX9_aloneOf 55 = .ok (.iconst 0, 1) := by decide +kernel
theorem dX9_aloneOf_56 : decode cX9_aloneOf 56 = .ok (.istore 4, 2) := by decide +kernel
theorem dX9_aloneOf_58 : decode cX9_aloneOf 58 = .ok (.iinc 5 1, 3) := by decide +kernel
theorem dX9_aloneOf_61 : decode cX9_aloneOf 61 = .ok (.goto (-43), 3) := by decide +kernel
theorem dX9_aloneOf_64 : decode cX9_aloneOf 64 = .ok (.iload_n 2, 1) := by decide +kernel
theorem dX9_aloneOf_65 : decode cX9_aloneOf 65 = .ok (.iload 4, 2) := by decide +kernel
theorem dX9_aloneOf_67 : decode cX9_aloneOf 67 = .ok (.ifCond .eq 12, 3) := by decide +kernel
theorem dX9_aloneOf_70 : decode cX9_aloneOf 70 = .ok (.aload_n 0, 1) := by decide +kernel
theorem dX9_aloneOf_71 : decode cX9_aloneOf 71 = .ok (.getfield 39, 3) := by decide +kernel
theorem dX9_aloneOf_74 : decode cX9_aloneOf 74 = .ok (.iload_n 3, 1) := by decide +kernel
theorem dX9_aloneOf_75 : decode cX9_aloneOf 75 = .ok (.iaload, 1) := by decide +kernel
theorem dX9_aloneOf_76 : decode cX9_aloneOf 76 = .ok (.goto 4, 3) := by decide +kernel
theorem dX9_aloneOf_79 : decode cX9_aloneOf 79 = .ok (.iconst 0, 1) := by decide +kernel
theorem dX9_aloneOf_80 : decode cX9_aloneOf 80 = .ok (.iadd, 1) := by decide +kernel
theorem dX9_aloneOf_81 : decode cX9_aloneOf 81 = .ok (.istore_n 2, 1) := by decide +kernel
theorem dX9_aloneOf_82 : decode cX9_aloneOf 82 = .ok (.iinc 3 1, 3) := by decide +kernel
theorem dX9_aloneOf_85 : decode cX9_aloneOf 85 = .ok (.goto (-81), 3) := by decide +kernel
theorem dX9_aloneOf_88 : decode cX9_aloneOf 88 = .ok (.iload_n 2, 1) := by decide +kernel
theorem dX9_aloneOf_89 : decode cX9_aloneOf 89 = .ok (.ireturn, 1) := by decide +kernel
theorem dX9_alone_0 : decode cX9_alone 0 = .ok (.iload_n 1, 1) := by decide +kernel
theorem dX9_alone_1 : decode cX9_alone 1 = .ok (.i2l, 1) := by decide +kernel
theorem dX9_alone_2 : decode cX9_alone 2 = .ok (.lconst 0, 1) := by decide +kernel
theorem dX9_alone_3 : decode cX9_alone 3 = .ok (.iconst 1, 1) := by decide +kernel
theorem dX9_alone_4 : decode cX9_alone 4 = .ok (.aload_n 0, 1) := by decide +kernel
theorem dX9_alone_5 : decode cX9_alone 5 = .ok (.getfield 274, 3) := by decide +kernel
theorem dX9_alone_8 : decode cX9_alone 8 = .ok (.ishl, 1) := by decide +kernel
theorem dX9_alone_9 : decode cX9_alone 9 = .ok (.iconst 1, 1) := by decide +kernel
theorem dX9_alone_10 : decode cX9_alone 10 = .ok (.isub, 1) := by decide +kernel
theorem dX9_alone_11 : decode cX9_alone 11 = .ok (.i2l, 1) := by decide +kernel
theorem dX9_alone_12 : decode cX9_alone 12 = .ok (.invokestatic 92, 3) := by decide +kernel
theorem dX9_alone_15 : decode cX9_alone 15 = .ok (.ifCond .eq 11, 3) := by decide +kernel
theorem dX9_alone_18 : decode cX9_alone 18 = .ok (.aload_n 0, 1) := by decide +kernel
theorem dX9_alone_19 : decode cX9_alone 19 = .ok (.iload_n 1, 1) := by decide +kernel
theorem dX9_alone_20 : decode cX9_alone 20 = .ok (.invokevirtual 280, 3) := by decide +kernel
theorem dX9_alone_23 : decode cX9_alone 23 = .ok (.goto 5, 3) := by decide +kernel
theorem dX9_alone_26 : decode cX9_alone 26 = .ok (.bipush (-2), 2) := by decide +kernel
theorem dX9_alone_28 : decode cX9_alone 28 = .ok (.ireturn, 1) := by decide +kernel
theorem dX9_isUser_0 : decode cX9_isUser 0 = .ok (.iload_n 1, 1) := by decide +kernel
theorem dX9_isUser_1 : decode cX9_isUser 1 = .ok (.i2l, 1) := by decide +kernel
theorem dX9_isUser_2 : decode cX9_isUser 2 = .ok (.lconst 0, 1) := by decide +kernel
theorem dX9_isUser_3 : decode cX9_isUser 3 = .ok (.aload_n 0, 1) := by decide +kernel
theorem dX9_isUser_4 : decode cX9_isUser 4 = .ok (.getfield 274, 3) := by decide +kernel
theorem dX9_isUser_7 : decode cX9_isUser 7 = .ok (.iconst 1, 1) := by decide +kernel
theorem dX9_isUser_8 : decode cX9_isUser 8 = .ok (.isub, 1) := by decide +kernel
theorem dX9_isUser_9 : decode cX9_isUser 9 = .ok (.i2l, 1) := by decide +kernel
theorem dX9_isUser_10 : decode cX9_isUser 10 = .ok (.invokestatic 92, 3) := by decide +kernel
theorem dX9_isUser_13 : decode cX9_isUser 13 = .ok (.ireturn, 1) := by decide +kernel
theorem dX9_paid_0 : decode cX9_paid 0 = .ok (.aload_n 0, 1) := by decide +kernel
theorem dX9_paid_1 : decode cX9_paid 1 = .ok (.iload_n 1, 1) := by decide +kernel
theorem dX9_paid_2 : decode cX9_paid 2 = .ok (.invokevirtual 283, 3) := by decide +kernel
theorem dX9_paid_5 : decode cX9_paid 5 = .ok (.ifCond .ne 6, 3) := by decide +kernel
theorem dX9_paid_8 : decode cX9_paid 8 = .ok (.bipush (-2), 2) := by decide +kernel
theorem dX9_paid_10 : decode cX9_paid 10 = .ok (.ireturn, 1) := by decide +kernel
theorem dX9_paid_11 : decode cX9_paid 11 = .ok (.lconst 0, 1) := by decide +kernel
theorem dX9_paid_12 : decode cX9_paid 12 = .ok (.lstore_n 2, 1) := by decide +kernel
theorem dX9_paid_13 : decode cX9_paid 13 = .ok (.iconst 1, 1) := by decide +kernel
theorem dX9_paid_14 : decode cX9_paid 14 = .ok (.istore 4, 2) := by decide +kernel
theorem dX9_paid_16 : decode cX9_paid 16 = .ok (.iload 4, 2) := by decide +kernel
theorem dX9_paid_18 : decode cX9_paid 18 = .ok (.aload_n 0, 1) := by decide +kernel
theorem dX9_paid_19 : decode cX9_paid 19 = .ok (.getfield 33, 3) := by decide +kernel
theorem dX9_paid_22 : decode cX9_paid 22 = .ok (.if_icmp .ge 84, 3) := by decide +kernel
theorem dX9_paid_25 : decode cX9_paid 25 = .ok (.iconst 0, 1) := by decide +kernel
theorem dX9_paid_26 : decode cX9_paid 26 = .ok (.istore 5, 2) := by decide +kernel
theorem dX9_paid_28 : decode cX9_paid 28 = .ok (.iconst 0, 1) := by decide +kernel
theorem dX9_paid_29 : decode cX9_paid 29 = .ok (.istore 6, 2) := by decide +kernel
theorem dX9_paid_31 : decode cX9_paid 31 = .ok (.iload 6, 2) := by decide +kernel
theorem dX9_paid_33 : decode cX9_paid 33 = .ok (.aload_n 0, 1) := by decide +kernel
theorem dX9_paid_34 : decode cX9_paid 34 = .ok (.getfield 274, 3) := by decide +kernel
theorem dX9_paid_37 : decode cX9_paid 37 = .ok (.if_icmp .ge 30, 3) := by decide +kernel
theorem dX9_paid_40 : decode cX9_paid 40 = .ok (.iload 5, 2) := by decide +kernel
theorem dX9_paid_42 : decode cX9_paid 42 = .ok (.aload_n 0, 1) := by decide +kernel
theorem dX9_paid_43 : decode cX9_paid 43 = .ok (.iload 6, 2) := by decide +kernel
theorem dX9_paid_45 : decode cX9_paid 45 = .ok (.iload 4, 2) := by decide +kernel
theorem dX9_paid_47 : decode cX9_paid 47 = .ok (.invokevirtual 277, 3) := by decide +kernel
theorem dX9_paid_50 : decode cX9_paid 50 = .ok (.ifCond .eq 7, 3) := by decide +kernel
theorem dX9_paid_53 : decode cX9_paid 53 = .ok (.iconst 1, 1) := by decide +kernel
theorem dX9_paid_54 : decode cX9_paid 54 = .ok (.goto 4, 3) := by decide +kernel
theorem dX9_paid_57 : decode cX9_paid 57 = .ok (.iconst 0, 1) := by decide +kernel
theorem dX9_paid_58 : decode cX9_paid 58 = .ok (.iadd, 1) := by decide +kernel
theorem dX9_paid_59 : decode cX9_paid 59 = .ok (.istore 5, 2) := by decide +kernel
theorem dX9_paid_61 : decode cX9_paid 61 = .ok (.iinc 6 1, 3) := by decide +kernel
theorem dX9_paid_64 : decode cX9_paid 64 = .ok (.goto (-33), 3) := by decide +kernel
theorem dX9_paid_67 : decode cX9_paid 67 = .ok (.lload_n 2, 1) := by decide +kernel
theorem dX9_paid_68 : decode cX9_paid 68 = .ok (.aload_n 0, 1) := by decide +kernel
theorem dX9_paid_69 : decode cX9_paid 69 = .ok (.iload_n 1, 1) := by decide +kernel
theorem dX9_paid_70 : decode cX9_paid 70 = .ok (.iload 4, 2) := by decide +kernel
theorem dX9_paid_72 : decode cX9_paid 72 = .ok (.invokevirtual 277, 3) := by decide +kernel
theorem dX9_paid_75 : decode cX9_paid 75 = .ok (.ifCond .eq 22, 3) := by decide +kernel
theorem dX9_paid_78 : decode cX9_paid 78 = .ok (.ldc2_w 234, 3) := by decide +kernel
theorem dX9_paid_81 : decode cX9_paid 81 = .ok (.aload_n 0, 1) := by decide +kernel
theorem dX9_paid_82 : decode cX9_paid 82 = .ok (.getfield 39, 3) := by decide +kernel
theorem dX9_paid_85 : decode cX9_paid 85 = .ok (.iload 4, 2) := by decide +kernel
theorem dX9_paid_87 : decode cX9_paid 87 = .ok (.iaload, 1) := by decide +kernel
theorem dX9_paid_88 : decode cX9_paid 88 = .ok (.i2l, 1) := by decide +kernel
theorem dX9_paid_89 : decode cX9_paid 89 = .ok (.lmul, 1) := by decide +kernel
theorem dX9_paid_90 : decode cX9_paid 90 = .ok (.iload 5, 2) := by decide +kernel
theorem dX9_paid_92 : decode cX9_paid 92 = .ok (.i2l, 1) := by decide +kernel
theorem dX9_paid_93 : decode cX9_paid 93 = .ok (.ldiv, 1) := by decide +kernel
theorem dX9_paid_94 : decode cX9_paid 94 = .ok (.goto 4, 3) := by decide +kernel
theorem dX9_paid_97 : decode cX9_paid 97 = .ok (.lconst 0, 1) := by decide +kernel
theorem dX9_paid_98 : decode cX9_paid 98 = .ok (.ladd, 1) := by decide +kernel
theorem dX9_paid_99 : decode cX9_paid 99 = .ok (.lstore_n 2, 1) := by decide +kernel
theorem dX9_paid_100 : decode cX9_paid 100 = .ok (.iinc 4 1, 3) := by decide +kernel
theorem dX9_paid_103 : decode cX9_paid 103 = .ok (.goto (-87), 3) := by decide +kernel
theorem dX9_paid_106 : decode cX9_paid 106 = .ok (.aload_n 0, 1) := by decide +kernel
theorem dX9_paid_107 : decode cX9_paid 107 = .ok (.lload_n 2, 1) := by decide +kernel
theorem dX9_paid_108 : decode cX9_paid 108 = .ok (.ldc2_w 234, 3) := by decide +kernel
theorem dX9_paid_111 : decode cX9_paid 111 = .ok (.invokevirtual 128, 3) := by decide +kernel
theorem dX9_paid_114 : decode cX9_paid 114 = .ok (.ireturn, 1) := by decide +kernel
theorem dX9_pay_0 : decode cX9_pay 0 = .ok (.aload_n 0, 1) := by decide +kernel
theorem dX9_pay_1 : decode cX9_pay 1 = .ok (.iload_n 1, 1) := by decide +kernel
theorem dX9_pay_2 : decode cX9_pay 2 = .ok (.invokevirtual 283, 3) := by decide +kernel
theorem dX9_pay_5 : decode cX9_pay 5 = .ok (.ifCond .eq 15, 3) := by decide +kernel
theorem dX9_pay_8 : decode cX9_pay 8 = .ok (.iload_n 2, 1) := by decide +kernel
theorem dX9_pay_9 : decode cX9_pay 9 = .ok (.i2l, 1) := by decide +kernel
theorem dX9_pay_10 : decode cX9_pay 10 = .ok (.lconst 0, 1) := by decide +kernel
theorem dX9_pay_11 : decode cX9_pay 11 = .ok (.ldc2_w 201, 3) := by decide +kernel
theorem dX9_pay_14 : decode cX9_pay 14 = .ok (.invokestatic 92, 3) := by decide +kernel
theorem dX9_pay_17 : decode cX9_pay 17 = .ok (.ifCond .ne 6, 3) := by decide +kernel
theorem dX9_pay_20 : decode cX9_pay 20 = .ok (.bipush (-2), 2) := by decide +kernel
theorem dX9_pay_22 : decode cX9_pay 22 = .ok (.ireturn, 1) := by decide +kernel
theorem dX9_pay_23 : decode cX9_pay 23 = .ok (.aload_n 0, 1) := by decide +kernel
theorem dX9_pay_24 : decode cX9_pay 24 = .ok (.getfield 45, 3) := by decide +kernel
theorem dX9_pay_27 : decode cX9_pay 27 = .ok (.iload_n 1, 1) := by decide +kernel
theorem dX9_pay_28 : decode cX9_pay 28 = .ok (.iaload, 1) := by decide +kernel
theorem dX9_pay_29 : decode cX9_pay 29 = .ok (.istore_n 3, 1) := by decide +kernel
theorem dX9_pay_30 : decode cX9_pay 30 = .ok (.aload_n 0, 1) := by decide +kernel
theorem dX9_pay_31 : decode cX9_pay 31 = .ok (.getfield 45, 3) := by decide +kernel
theorem dX9_pay_34 : decode cX9_pay 34 = .ok (.iload_n 1, 1) := by decide +kernel
theorem dX9_pay_35 : decode cX9_pay 35 = .ok (.iload_n 2, 1) := by decide +kernel
theorem dX9_pay_36 : decode cX9_pay 36 = .ok (.iastore, 1) := by decide +kernel
theorem dX9_pay_37 : decode cX9_pay 37 = .ok (.iload_n 3, 1) := by decide +kernel
theorem dX9_pay_38 : decode cX9_pay 38 = .ok (.ireturn, 1) := by decide +kernel
theorem dX9_held_0 : decode cX9_held 0 = .ok (.iconst 1, 1) := by decide +kernel
theorem dX9_held_1 : decode cX9_held 1 = .ok (.istore_n 1, 1) := by decide +kernel
theorem dX9_held_2 : decode cX9_held 2 = .ok (.iload_n 1, 1) := by decide +kernel
theorem dX9_held_3 : decode cX9_held 3 = .ok (.iconst 1, 1) := by decide +kernel
theorem dX9_held_4 : decode cX9_held 4 = .ok (.aload_n 0, 1) := by decide +kernel
theorem dX9_held_5 : decode cX9_held 5 = .ok (.getfield 274, 3) := by decide +kernel
theorem dX9_held_8 : decode cX9_held 8 = .ok (.ishl, 1) := by decide +kernel
theorem dX9_held_9 : decode cX9_held 9 = .ok (.if_icmp .ge 59, 3) := by decide +kernel
theorem dX9_held_12 : decode cX9_held 12 = .ok (.iconst 0, 1) := by decide +kernel
theorem dX9_held_13 : decode cX9_held 13 = .ok (.istore_n 2, 1) := by decide +kernel
theorem dX9_held_14 : decode cX9_held 14 = .ok (.iconst 0, 1) := by decide +kernel
theorem dX9_held_15 : decode cX9_held 15 = .ok (.istore_n 3, 1) := by decide +kernel
theorem dX9_held_16 : decode cX9_held 16 = .ok (.iload_n 3, 1) := by decide +kernel
theorem dX9_held_17 : decode cX9_held 17 = .ok (.aload_n 0, 1) := by decide +kernel
theorem dX9_held_18 : decode cX9_held 18 = .ok (.getfield 274, 3) := by decide +kernel
theorem dX9_held_21 : decode cX9_held 21 = .ok (.if_icmp .ge 30, 3) := by decide +kernel
theorem dX9_held_24 : decode cX9_held 24 = .ok (.iload_n 2, 1) := by decide +kernel
theorem dX9_held_25 : decode cX9_held 25 = .ok (.iload_n 1, 1) := by decide +kernel
theorem dX9_held_26 : decode cX9_held 26 = .ok (.iload_n 3, 1) := by decide +kernel
theorem dX9_held_27 : decode cX9_held 27 = .ok (.invokestatic 121, 3) := by decide +kernel
theorem dX9_held_30 : decode cX9_held 30 = .ok (.ifCond .eq 12, 3) := by decide +kernel
theorem dX9_held_33 : decode cX9_held 33 = .ok (.aload_n 0, 1) := by decide +kernel
theorem dX9_held_34 : decode cX9_held 34 = .ok (.getfield 45, 3) := by decide +kernel
theorem dX9_held_37 : decode cX9_held 37 = .ok (.iload_n 3, 1) := by decide +kernel
theorem dX9_held_38 : decode cX9_held 38 = .ok (.iaload, 1) := by decide +kernel
theorem dX9_held_39 : decode cX9_held 39 = .ok (.goto 4, 3) := by decide +kernel
theorem dX9_held_42 : decode cX9_held 42 = .ok (.iconst 0, 1) := by decide +kernel
theorem dX9_held_43 : decode cX9_held 43 = .ok (.iadd, 1) := by decide +kernel
theorem dX9_held_44 : decode cX9_held 44 = .ok (.istore_n 2, 1) := by decide +kernel
theorem dX9_held_45 : decode cX9_held 45 = .ok (.iinc 3 1, 3) := by decide +kernel
theorem dX9_held_48 : decode cX9_held 48 = .ok (.goto (-32), 3) := by decide +kernel
theorem dX9_held_51 : decode cX9_held 51 = .ok (.iload_n 2, 1) := by decide +kernel
theorem dX9_held_52 : decode cX9_held 52 = .ok (.aload_n 0, 1) := by decide +kernel
theorem dX9_held_53 : decode cX9_held 53 = .ok (.iload_n 1, 1) := by decide +kernel
theorem dX9_held_54 : decode cX9_held 54 = .ok (.invokevirtual 280, 3) := by decide +kernel
theorem dX9_held_57 : decode cX9_held 57 = .ok (.if_icmp .le 5, 3) := by decide +kernel
theorem dX9_held_60 : decode cX9_held 60 = .ok (.iload_n 1, 1) := by decide +kernel
theorem dX9_held_61 : decode cX9_held 61 = .ok (.ireturn, 1) := by decide +kernel
theorem dX9_held_62 : decode cX9_held 62 = .ok (.iinc 1 1, 3) := by decide +kernel
theorem dX9_held_65 : decode cX9_held 65 = .ok (.goto (-63), 3) := by decide +kernel
theorem dX9_held_68 : decode cX9_held 68 = .ok (.iconst (-1), 1) := by decide +kernel
theorem dX9_held_69 : decode cX9_held 69 = .ok (.ireturn, 1) := by decide +kernel
theorem dX9_market_0 : decode cX9_market 0 = .ok (.iload_n 1, 1) := by decide +kernel
theorem dX9_market_1 : decode cX9_market 1 = .ok (.i2l, 1) := by decide +kernel
theorem dX9_market_2 : decode cX9_market 2 = .ok (.lconst 0, 1) := by decide +kernel
theorem dX9_market_3 : decode cX9_market 3 = .ok (.ldc2_w 103, 3) := by decide +kernel
theorem dX9_market_6 : decode cX9_market 6 = .ok (.invokestatic 92, 3) := by decide +kernel
theorem dX9_market_9 : decode cX9_market 9 = .ok (.ifCond .eq 15, 3) := by decide +kernel
theorem dX9_market_12 : decode cX9_market 12 = .ok (.iload_n 2, 1) := by decide +kernel
theorem dX9_market_13 : decode cX9_market 13 = .ok (.i2l, 1) := by decide +kernel
theorem dX9_market_14 : decode cX9_market 14 = .ok (.lconst 0, 1) := by decide +kernel
theorem dX9_market_15 : decode cX9_market 15 = .ok (.ldc2_w 103, 3) := by decide +kernel
theorem dX9_market_18 : decode cX9_market 18 = .ok (.invokestatic 92, 3) := by decide +kernel
theorem dX9_market_21 : decode cX9_market 21 = .ok (.ifCond .ne 6, 3) := by decide +kernel
theorem dX9_market_24 : decode cX9_market 24 = .ok (.bipush (-2), 2) := by decide +kernel
theorem dX9_market_26 : decode cX9_market 26 = .ok (.ireturn, 1) := by decide +kernel
theorem dX9_market_27 : decode cX9_market 27 = .ok (.aload_n 0, 1) := by decide +kernel
theorem dX9_market_28 : decode cX9_market 28 = .ok (.iload_n 1, 1) := by decide +kernel
theorem dX9_market_29 : decode cX9_market 29 = .ok (.putfield 286, 3) := by decide +kernel
theorem dX9_market_32 : decode cX9_market 32 = .ok (.aload_n 0, 1) := by decide +kernel
theorem dX9_market_33 : decode cX9_market 33 = .ok (.iload_n 2, 1) := by decide +kernel
theorem dX9_market_34 : decode cX9_market 34 = .ok (.putfield 289, 3) := by decide +kernel
theorem dX9_market_37 : decode cX9_market 37 = .ok (.iconst 0, 1) := by decide +kernel
theorem dX9_market_38 : decode cX9_market 38 = .ok (.istore_n 3, 1) := by decide +kernel
theorem dX9_market_39 : decode cX9_market 39 = .ok (.iload_n 3, 1) := by decide +kernel
theorem dX9_market_40 : decode cX9_market 40 = .ok (.bipush 16, 2) := by decide +kernel
theorem dX9_market_42 : decode cX9_market 42 = .ok (.if_icmp .ge 16, 3) := by decide +kernel
theorem dX9_market_45 : decode cX9_market 45 = .ok (.aload_n 0, 1) := by decide +kernel
theorem dX9_market_46 : decode cX9_market 46 = .ok (.getfield 48, 3) := by decide +kernel
theorem dX9_market_49 : decode cX9_market 49 = .ok (.iload_n 3, 1) := by decide +kernel
theorem dX9_market_50 : decode cX9_market 50 = .ok (.iconst 0, 1) := by decide +kernel
theorem dX9_market_51 : decode cX9_market 51 = .ok (.iastore, 1) := by decide +kernel
theorem dX9_market_52 : decode cX9_market 52 = .ok (.iinc 3 1, 3) := by decide +kernel
theorem dX9_market_55 : decode cX9_market 55 = .ok (.goto (-16), 3) := by decide +kernel
theorem dX9_market_58 : decode cX9_market 58 = .ok (.iconst 0, 1) := by decide +kernel
theorem dX9_market_59 : decode cX9_market 59 = .ok (.istore_n 3, 1) := by decide +kernel
theorem dX9_market_60 : decode cX9_market 60 = .ok (.iload_n 3, 1) := by decide +kernel
theorem dX9_market_61 : decode cX9_market 61 = .ok (.iconst 4, 1) := by decide +kernel
theorem dX9_market_62 : decode cX9_market 62 = .ok (.if_icmp .ge 16, 3) := by decide +kernel
theorem dX9_market_65 : decode cX9_market 65 = .ok (.aload_n 0, 1) := by decide +kernel
theorem dX9_market_66 : decode cX9_market 66 = .ok (.getfield 51, 3) := by decide +kernel
theorem dX9_market_69 : decode cX9_market 69 = .ok (.iload_n 3, 1) := by decide +kernel
theorem dX9_market_70 : decode cX9_market 70 = .ok (.iconst 0, 1) := by decide +kernel
theorem dX9_market_71 : decode cX9_market 71 = .ok (.iastore, 1) := by decide +kernel
theorem dX9_market_72 : decode cX9_market 72 = .ok (.iinc 3 1, 3) := by decide +kernel
theorem dX9_market_75 : decode cX9_market 75 = .ok (.goto (-15), 3) := by decide +kernel
theorem dX9_market_78 : decode cX9_market 78 = .ok (.iconst 1, 1) := by decide +kernel
theorem dX9_market_79 : decode cX9_market 79 = .ok (.ireturn, 1) := by decide +kernel
theorem dX9_gain_0 : decode cX9_gain 0 = .ok (.iload_n 1, 1) := by decide +kernel
theorem dX9_gain_1 : decode cX9_gain 1 = .ok (.i2l, 1) := by decide +kernel
theorem dX9_gain_2 : decode cX9_gain 2 = .ok (.lconst 0, 1) := by decide +kernel
theorem dX9_gain_3 : decode cX9_gain 3 = .ok (.aload_n 0, 1) := by decide +kernel
theorem dX9_gain_4 : decode cX9_gain 4 = .ok (.getfield 286, 3) := by decide +kernel
theorem dX9_gain_7 : decode cX9_gain 7 = .ok (.iconst 1, 1) := by decide +kernel
theorem dX9_gain_8 : decode cX9_gain 8 = .ok (.isub, 1) := by decide +kernel
theorem dX9_gain_9 : decode cX9_gain 9 = .ok (.i2l, 1) := by decide +kernel
theorem dX9_gain_10 : decode cX9_gain 10 = .ok (.invokestatic 92, 3) := by decide +kernel
theorem dX9_gain_13 : decode cX9_gain 13 = .ok (.ifCond .eq 31, 3) := by decide +kernel
theorem dX9_gain_16 : decode cX9_gain 16 = .ok (.iload_n 2, 1) := by decide +kernel
theorem dX9_gain_17 : decode cX9_gain 17 = .ok (.i2l, 1) := by decide +kernel
theorem dX9_gain_18 : decode cX9_gain 18 = .ok (.lconst 0, 1) := by decide +kernel
theorem dX9_gain_19 : decode cX9_gain 19 = .ok (.aload_n 0, 1) := by decide +kernel
theorem dX9_gain_20 : decode cX9_gain 20 = .ok (.getfield 289, 3) := by decide +kernel
theorem dX9_gain_23 : decode cX9_gain 23 = .ok (.iconst 1, 1) := by decide +kernel
theorem dX9_gain_24 : decode cX9_gain 24 = .ok (.isub, 1) := by decide +kernel
theorem dX9_gain_25 : decode cX9_gain 25 = .ok (.i2l, 1) := by decide +kernel
theorem dX9_gain_26 : decode cX9_gain 26 = .ok (.invokestatic 92, 3) := by decide +kernel
theorem dX9_gain_29 : decode cX9_gain 29 = .ok (.ifCond .eq 15, 3) := by decide +kernel
theorem dX9_gain_32 : decode cX9_gain 32 = .ok (.iload_n 3, 1) := by decide +kernel
theorem dX9_gain_33 : decode cX9_gain 33 = .ok (.i2l, 1) := by decide +kernel
theorem dX9_gain_34 : decode cX9_gain 34 = .ok (.lconst 0, 1) := by decide +kernel
theorem dX9_gain_35 : decode cX9_gain 35 = .ok (.ldc2_w 111, 3) := by decide +kernel
theorem dX9_gain_38 : decode cX9_gain 38 = .ok (.invokestatic 92, 3) := by decide +kernel
theorem dX9_gain_41 : decode cX9_gain 41 = .ok (.ifCond .ne 6, 3) := by decide +kernel
theorem dX9_gain_44 : decode cX9_gain 44 = .ok (.bipush (-2), 2) := by decide +kernel
theorem dX9_gain_46 : decode cX9_gain 46 = .ok (.ireturn, 1) := by decide +kernel
theorem dX9_gain_47 : decode cX9_gain 47 = .ok (.aload_n 0, 1) := by decide +kernel
theorem dX9_gain_48 : decode cX9_gain 48 = .ok (.getfield 48, 3) := by decide +kernel
theorem dX9_gain_51 : decode cX9_gain 51 = .ok (.iconst 4, 1) := by decide +kernel
theorem dX9_gain_52 : decode cX9_gain 52 = .ok (.iload_n 1, 1) := by decide +kernel
theorem dX9_gain_53 : decode cX9_gain 53 = .ok (.imul, 1) := by decide +kernel
theorem dX9_gain_54 : decode cX9_gain 54 = .ok (.iload_n 2, 1) := by decide +kernel
theorem dX9_gain_55 : decode cX9_gain 55 = .ok (.iadd, 1) := by decide +kernel
theorem dX9_gain_56 : decode cX9_gain 56 = .ok (.iaload, 1) := by decide +kernel
theorem dX9_gain_57 : decode cX9_gain 57 = .ok (.istore 4, 2) := by decide +kernel
theorem dX9_gain_59 : decode cX9_gain 59 = .ok (.aload_n 0, 1) := by decide +kernel
theorem dX9_gain_60 : decode cX9_gain 60 = .ok (.getfield 48, 3) := by decide +kernel
theorem dX9_gain_63 : decode cX9_gain 63 = .ok (.iconst 4, 1) := by decide +kernel
theorem dX9_gain_64 : decode cX9_gain 64 = .ok (.iload_n 1, 1) := by decide +kernel
theorem dX9_gain_65 : decode cX9_gain 65 = .ok (.imul, 1) := by decide +kernel
theorem dX9_gain_66 : decode cX9_gain 66 = .ok (.iload_n 2, 1) := by decide +kernel
theorem dX9_gain_67 : decode cX9_gain 67 = .ok (.iadd, 1) := by decide +kernel
theorem dX9_gain_68 : decode cX9_gain 68 = .ok (.iload_n 3, 1) := by decide +kernel
theorem dX9_gain_69 : decode cX9_gain 69 = .ok (.iastore, 1) := by decide +kernel
theorem dX9_gain_70 : decode cX9_gain 70 = .ok (.iload 4, 2) := by decide +kernel
theorem dX9_gain_72 : decode cX9_gain 72 = .ok (.ireturn, 1) := by decide +kernel
theorem dX9_mostOf_0 : decode cX9_mostOf 0 = .ok (.iconst (-1), 1) := by decide +kernel
theorem dX9_mostOf_1 : decode cX9_mostOf 1 = .ok (.istore_n 3, 1) := by decide +kernel
theorem dX9_mostOf_2 : decode cX9_mostOf 2 = .ok (.iconst 1, 1) := by decide +kernel
theorem dX9_mostOf_3 : decode cX9_mostOf 3 = .ok (.istore 4, 2) := by decide +kernel
theorem dX9_mostOf_5 : decode cX9_mostOf 5 = .ok (.iconst 0, 1) := by decide +kernel
theorem dX9_mostOf_6 : decode cX9_mostOf 6 = .ok (.istore 5, 2) := by decide +kernel
theorem dX9_mostOf_8 : decode cX9_mostOf 8 = .ok (.iload 5, 2) := by decide +kernel
theorem dX9_mostOf_10 : decode cX9_mostOf 10 = .ok (.aload_n 0, 1) := by decide +kernel
theorem dX9_mostOf_11 : decode cX9_mostOf 11 = .ok (.getfield 286, 3) := by decide +kernel
theorem dX9_mostOf_14 : decode cX9_mostOf 14 = .ok (.if_icmp .ge 15, 3) := by decide +kernel
theorem dX9_mostOf_17 : decode cX9_mostOf 17 = .ok (.iload 4, 2) := by decide +kernel
theorem dX9_mostOf_19 : decode cX9_mostOf 19 = .ok (.iconst 5, 1) := by decide +kernel
theorem dX9_mostOf_20 : decode cX9_mostOf 20 = .ok (.imul, 1) := by decide +kernel
theorem dX9_mostOf_21 : decode cX9_mostOf 21 = .ok (.istore 4, 2) := by decide +kernel
theorem dX9_mostOf_23 : decode cX9_mostOf 23 = .ok (.iinc 5 1, 3) := by decide +kernel
theorem dX9_mostOf_26 : decode cX9_mostOf 26 = .ok (.goto (-18), 3) := by decide +kernel
theorem dX9_mostOf_29 : decode cX9_mostOf 29 = .ok (.iconst 0, 1) := by decide +kernel
theorem dX9_mostOf_30 : decode cX9_mostOf 30 = .ok (.istore 5, 2) := by decide +kernel
theorem dX9_mostOf_32 : decode cX9_mostOf 32 = .ok (.iload 5, 2) := by decide +kernel
theorem dX9_mostOf_34 : decode cX9_mostOf 34 = .ok (.iload 4, 2) := by decide +kernel
theorem dX9_mostOf_36 : decode cX9_mostOf 36 = .ok (.if_icmp .ge 216, 3) := by decide +kernel
theorem dX9_mostOf_39 : decode cX9_mostOf 39 = .ok (.iload 5, 2) := by decide +kernel
theorem dX9_mostOf_41 : decode cX9_mostOf 41 = .ok (.istore 6, 2) := by decide +kernel
theorem dX9_mostOf_43 : decode cX9_mostOf 43 = .ok (.iconst 0, 1) := by decide +kernel
theorem dX9_mostOf_44 : decode cX9_mostOf 44 = .ok (.istore 7, 2) := by decide +kernel
theorem dX9_mostOf_46 : decode cX9_mostOf 46 = .ok (.iconst 0, 1) := by decide +kernel
theorem dX9_mostOf_47 : decode cX9_mostOf 47 = .ok (.istore 8, 2) := by decide +kernel
theorem dX9_mostOf_49 : decode cX9_mostOf 49 = .ok (.iconst 0, 1) := by decide +kernel
theorem dX9_mostOf_50 : decode cX9_mostOf 50 = .ok (.istore 9, 2) := by decide +kernel
theorem dX9_mostOf_52 : decode cX9_mostOf 52 = .ok (.iconst 1, 1) := by decide +kernel
theorem dX9_mostOf_53 : decode cX9_mostOf 53 = .ok (.istore 10, 2) := by decide +kernel
theorem dX9_mostOf_55 : decode cX9_mostOf 55 = .ok (.aload_n 0, 1) := by decide +kernel
theorem dX9_mostOf_56 : decode cX9_mostOf 56 = .ok (.getfield 286, 3) := by decide +kernel
theorem dX9_mostOf_59 : decode cX9_mostOf 59 = .ok (.iconst 1, 1) := by decide +kernel
theorem dX9_mostOf_60 : decode cX9_mostOf 60 = .ok (.isub, 1) := by decide +kernel
theorem dX9_mostOf_61 : decode cX9_mostOf 61 = .ok (.istore 11, 2) := by decide +kernel
theorem dX9_mostOf_63 : decode cX9_mostOf 63 = .ok (.iload 11, 2) := by decide +kernel
theorem dX9_mostOf_65 : decode cX9_mostOf 65 = .ok (.ifCond .lt 161, 3) := by decide +kernel
theorem dX9_mostOf_68 : decode cX9_mostOf 68 = .ok (.iload 6, 2) := by decide +kernel
theorem dX9_mostOf_70 : decode cX9_mostOf 70 = .ok (.iconst 5, 1) := by decide +kernel
theorem dX9_mostOf_71 : decode cX9_mostOf 71 = .ok (.irem, 1) := by decide +kernel
theorem dX9_mostOf_72 : decode cX9_mostOf 72 = .ok (.iconst 1, 1) := by decide +kernel
theorem dX9_mostOf_73 : decode cX9_mostOf 73 = .ok (.isub, 1) := by decide +kernel
theorem dX9_mostOf_74 : decode cX9_mostOf 74 = .ok (.istore 12, 2) := by decide +kernel
theorem dX9_mostOf_76 : decode cX9_mostOf 76 = .ok (.iload 6, 2) := by decide +kernel
theorem dX9_mostOf_78 : decode cX9_mostOf 78 = .ok (.iconst 5, 1) := by decide +kernel
theorem dX9_mostOf_79 : decode cX9_mostOf 79 = .ok (.idiv, 1) := by decide +kernel
theorem dX9_mostOf_80 : decode cX9_mostOf 80 = .ok (.istore 6, 2) := by decide +kernel
theorem dX9_mostOf_82 : decode cX9_mostOf 82 = .ok (.iload 12, 2) := by decide +kernel
theorem dX9_mostOf_84 : decode cX9_mostOf 84 = .ok (.ifCond .lt 136, 3) := by decide +kernel
theorem dX9_mostOf_87 : decode cX9_mostOf 87 = .ok (.iload 12, 2) := by decide +kernel
theorem dX9_mostOf_89 : decode cX9_mostOf 89 = .ok (.iload_n 1, 1) := by decide +kernel
theorem dX9_mostOf_90 : decode cX9_mostOf 90 = .ok (.if_icmp .ne 12, 3) := by decide +kernel
theorem dX9_mostOf_93 : decode cX9_mostOf 93 = .ok (.iload_n 2, 1) := by decide +kernel
theorem dX9_mostOf_94 : decode cX9_mostOf 94 = .ok (.iconst 1, 1) := by decide +kernel
theorem dX9_mostOf_95 : decode cX9_mostOf 95 = .ok (.if_icmp .ne 7, 3) := by decide +kernel
theorem dX9_mostOf_98 : decode cX9_mostOf 98 = .ok (.iconst 1, 1) := by decide +kernel
theorem dX9_mostOf_99 : decode cX9_mostOf 99 = .ok (.goto 4, 3) := by decide +kernel
theorem dX9_mostOf_102 : decode cX9_mostOf 102 = .ok (.iconst 0, 1) := by decide +kernel
theorem dX9_mostOf_103 : decode cX9_mostOf 103 = .ok (.istore 13, 2) := by decide +kernel
theorem dX9_mostOf_105 : decode cX9_mostOf 105 = .ok (.iload 10, 2) := by decide +kernel
theorem dX9_mostOf_107 : decode cX9_mostOf 107 = .ok (.ifCond .eq 52, 3) := by decide +kernel
theorem dX9_mostOf_110 : decode cX9_mostOf 110 = .ok (.iload 12, 2) := by decide +kernel
theorem dX9_mostOf_112 : decode cX9_mostOf 112 = .ok (.aload_n 0, 1) := by decide +kernel
theorem dX9_mostOf_113 : decode cX9_mostOf 113 = .ok (.getfield 289, 3) := by decide +kernel
theorem dX9_mostOf_116 : decode cX9_mostOf 116 = .ok (.if_icmp .ge 43, 3) := by decide +kernel
theorem dX9_mostOf_119 : decode cX9_mostOf 119 = .ok (.iload 12, 2) := by decide +kernel
theorem dX9_mostOf_121 : decode cX9_mostOf 121 = .ok (.iload_n 1, 1) := by decide +kernel
theorem dX9_mostOf_122 : decode cX9_mostOf 122 = .ok (.if_icmp .ne 8, 3) := by decide +kernel
theorem dX9_mostOf_125 : decode cX9_mostOf 125 = .ok (.iload_n 2, 1) := by decide +kernel
theorem dX9_mostOf_126 : decode cX9_mostOf 126 = .ok (.iconst (-1), 1) := by decide +kernel
theorem dX9_mostOf_127 : decode cX9_mostOf 127 = .ok (.if_icmp .eq 32, 3) := by decide +kernel
theorem dX9_mostOf_130 : decode cX9_mostOf 130 = .ok (.iload 8, 2) := by decide +kernel
theorem dX9_mostOf_132 : decode cX9_mostOf 132 = .ok (.iload 12, 2) := by decide +kernel
theorem dX9_mostOf_134 : decode cX9_mostOf 134 = .ok (.invokestatic 121, 3) := by decide +kernel
theorem dX9_mostOf_137 : decode cX9_mostOf 137 = .ok (.ifCond .eq 18, 3) := by decide +kernel
theorem dX9_mostOf_140 : decode cX9_mostOf 140 = .ok (.iload 13, 2) := by decide +kernel
theorem dX9_mostOf_142 : decode cX9_mostOf 142 = .ok (.ifCond .eq 17, 3) := by decide +kernel
theorem dX9_mostOf_145 : decode cX9_mostOf 145 = .ok (.iload 9, 2) := by decide +kernel
theorem dX9_mostOf_147 : decode cX9_mostOf 147 = .ok (.iload 12, 2) := by decide +kernel
theorem dX9_mostOf_149 : decode cX9_mostOf 149 = .ok (.invokestatic 121, 3) := by decide +kernel
theorem dX9_mostOf_152 : decode cX9_mostOf 152 = .ok (.ifCond .ne 7, 3) := by decide +kernel
theorem dX9_mostOf_155 : decode cX9_mostOf 155 = .ok (.iconst 1, 1) := by decide +kernel
theorem dX9_mostOf_156 : decode cX9_mostOf 156 = .ok (.goto 4, 3) := by decide +kernel
theorem dX9_mostOf_159 : decode cX9_mostOf 159 = .ok (.iconst 0, 1) := by decide +kernel
theorem dX9_mostOf_160 : decode cX9_mostOf 160 = .ok (.istore 10, 2) := by decide +kernel
theorem dX9_mostOf_162 : decode cX9_mostOf 162 = .ok (.iload 9, 2) := by decide +kernel
theorem dX9_mostOf_164 : decode cX9_mostOf 164 = .ok (.iload 8, 2) := by decide +kernel
theorem dX9_mostOf_166 : decode cX9_mostOf 166 = .ok (.iload 12, 2) := by decide +kernel
theorem dX9_mostOf_168 : decode cX9_mostOf 168 = .ok (.invokestatic 121, 3) := by decide +kernel
theorem dX9_mostOf_171 : decode cX9_mostOf 171 = .ok (.ifCond .eq 10, 3) := by decide +kernel
theorem dX9_mostOf_174 : decode cX9_mostOf 174 = .ok (.iconst 1, 1) := by decide +kernel
theorem dX9_mostOf_175 : decode cX9_mostOf 175 = .ok (.iload 12, 2) := by decide +kernel
theorem dX9_mostOf_177 : decode cX9_mostOf 177 = .ok (.ishl, 1) := by decide +kernel
theorem dX9_mostOf_178 : decode cX9_mostOf 178 = .ok (.goto 4, 3) := by decide +kernel
theorem dX9_mostOf_181 : decode cX9_mostOf 181 = .ok (.iconst 0, 1) := by decide +kernel
theorem dX9_mostOf_182 : decode cX9_mostOf 182 = .ok (.ior, 1) := by decide +kernel
theorem dX9_mostOf_183 : decode cX9_mostOf 183 = .ok (.istore 9, 2) := by decide +kernel
theorem dX9_mostOf_185 : decode cX9_mostOf 185 = .ok (.iload 8, 2) := by decide +kernel
theorem dX9_mostOf_187 : decode cX9_mostOf 187 = .ok (.iconst 1, 1) := by decide +kernel
theorem dX9_mostOf_188 : decode cX9_mostOf 188 = .ok (.iload 12, 2) := by decide +kernel
theorem dX9_mostOf_190 : decode cX9_mostOf 190 = .ok (.ishl, 1) := by decide +kernel
theorem dX9_mostOf_191 : decode cX9_mostOf 191 = .ok (.ior, 1) := by decide +kernel
theorem dX9_mostOf_192 : decode cX9_mostOf 192 = .ok (.istore 8, 2) := by decide +kernel
theorem dX9_mostOf_194 : decode cX9_mostOf 194 = .ok (.iload 7, 2) := by decide +kernel
theorem dX9_mostOf_196 : decode cX9_mostOf 196 = .ok (.iload 10, 2) := by decide +kernel
theorem dX9_mostOf_198 : decode cX9_mostOf 198 = .ok (.ifCond .eq 18, 3) := by decide +kernel
theorem dX9_mostOf_201 : decode cX9_mostOf 201 = .ok (.aload_n 0, 1) := by decide +kernel
theorem dX9_mostOf_202 : decode cX9_mostOf 202 = .ok (.getfield 48, 3) := by decide +kernel
theorem dX9_mostOf_205 : decode cX9_mostOf 205 = .ok (.iconst 4, 1) := by decide +kernel
theorem dX9_mostOf_206 : decode cX9_mostOf 206 = .ok (.iload 11, 2) := by decide +kernel
theorem dX9_mostOf_208 : decode cX9_mostOf 208 = .ok (.imul, 1) := by decide +kernel
theorem dX9_mostOf_209 : decode cX9_mostOf 209 = .ok (.iload 12, 2) := by decide +kernel
theorem dX9_mostOf_211 : decode cX9_mostOf 211 = .ok (.iadd, 1) := by decide +kernel
theorem dX9_mostOf_212 : decode cX9_mostOf 212 = .ok (.iaload, 1) := by decide +kernel
theorem dX9_mostOf_213 : decode cX9_mostOf 213 = .ok (.goto 4, 3) := by decide +kernel
theorem dX9_mostOf_216 : decode cX9_mostOf 216 = .ok (.iconst 0, 1) := by decide +kernel
theorem dX9_mostOf_217 : decode cX9_mostOf 217 = .ok (.iadd, 1) := by decide +kernel
theorem dX9_mostOf_218 : decode cX9_mostOf 218 = .ok (.istore 7, 2) := by decide +kernel
theorem dX9_mostOf_220 : decode cX9_mostOf 220 = .ok (.iinc 11 (-1), 3) := by decide +kernel
theorem dX9_mostOf_223 : decode cX9_mostOf 223 = .ok (.goto (-160), 3) := by decide +kernel
theorem dX9_mostOf_226 : decode cX9_mostOf 226 = .ok (.iload 10, 2) := by decide +kernel
theorem dX9_mostOf_228 : decode cX9_mostOf 228 = .ok (.ifCond .eq 18, 3) := by decide +kernel
theorem dX9_mostOf_231 : decode cX9_mostOf 231 = .ok (.iload 7, 2) := by decide +kernel
theorem dX9_mostOf_233 : decode cX9_mostOf 233 = .ok (.iload_n 3, 1) := by decide +kernel
theorem dX9_mostOf_234 : decode cX9_mostOf 234 = .ok (.if_icmp .le 12, 3) := by decide +kernel
theorem dX9_mostOf_237 : decode cX9_mostOf 237 = .ok (.iload 7, 2) := by decide +kernel
theorem dX9_mostOf_239 : decode cX9_mostOf 239 = .ok (.istore_n 3, 1) := by decide +kernel
theorem dX9_mostOf_240 : decode cX9_mostOf 240 = .ok (.aload_n 0, 1) := by decide +kernel
theorem dX9_mostOf_241 : decode cX9_mostOf 241 = .ok (.iload 5, 2) := by decide +kernel
theorem dX9_mostOf_243 : decode cX9_mostOf 243 = .ok (.putfield 292, 3) := by decide +kernel
theorem dX9_mostOf_246 : decode cX9_mostOf 246 = .ok (.iinc 5 1, 3) := by decide +kernel
theorem dX9_mostOf_249 : decode cX9_mostOf 249 = .ok (.goto (-217), 3) := by decide +kernel
theorem dX9_mostOf_252 : decode cX9_mostOf 252 = .ok (.iload_n 3, 1) := by decide +kernel
theorem dX9_mostOf_253 : decode cX9_mostOf 253 = .ok (.ireturn, 1) := by decide +kernel
theorem dX9_most_0 : decode cX9_most 0 = .ok (.iload_n 1, 1) := by decide +kernel
theorem dX9_most_1 : decode cX9_most 1 = .ok (.iconst (-1), 1) := by decide +kernel
theorem dX9_most_2 : decode cX9_most 2 = .ok (.if_icmp .eq 22, 3) := by decide +kernel
theorem dX9_most_5 : decode cX9_most 5 = .ok (.iload_n 1, 1) := by decide +kernel
theorem dX9_most_6 : decode cX9_most 6 = .ok (.i2l, 1) := by decide +kernel
theorem dX9_most_7 : decode cX9_most 7 = .ok (.lconst 0, 1) := by decide +kernel
theorem dX9_most_8 : decode cX9_most 8 = .ok (.aload_n 0, 1) := by decide +kernel
theorem dX9_most_9 : decode cX9_most 9 = .ok (.getfield 286, 3) := by decide +kernel
theorem dX9_most_12 : decode cX9_most 12 = .ok (.iconst 1, 1) := by decide +kernel
theorem dX9_most_13 : decode cX9_most 13 = .ok (.isub, 1) := by decide +kernel
theorem dX9_most_14 : decode cX9_most 14 = .ok (.i2l, 1) := by decide +kernel
theorem dX9_most_15 : decode cX9_most 15 = .ok (.invokestatic 92, 3) := by decide +kernel
theorem dX9_most_18 : decode cX9_most 18 = .ok (.ifCond .ne 6, 3) := by decide +kernel
theorem dX9_most_21 : decode cX9_most 21 = .ok (.bipush (-10), 2) := by decide +kernel
theorem dX9_most_23 : decode cX9_most 23 = .ok (.ireturn, 1) := by decide +kernel
theorem dX9_most_24 : decode cX9_most 24 = .ok (.aload_n 0, 1) := by decide +kernel
theorem dX9_most_25 : decode cX9_most 25 = .ok (.iconst (-1), 1) := by decide +kernel
theorem dX9_most_26 : decode cX9_most 26 = .ok (.iconst 0, 1) := by decide +kernel
theorem dX9_most_27 : decode cX9_most 27 = .ok (.invokevirtual 295, 3) := by decide +kernel
theorem dX9_most_30 : decode cX9_most 30 = .ok (.istore_n 2, 1) := by decide +kernel
theorem dX9_most_31 : decode cX9_most 31 = .ok (.iload_n 1, 1) := by decide +kernel
theorem dX9_most_32 : decode cX9_most 32 = .ok (.iconst (-1), 1) := by decide +kernel
theorem dX9_most_33 : decode cX9_most 33 = .ok (.if_icmp .ne 5, 3) := by decide +kernel
theorem dX9_most_36 : decode cX9_most 36 = .ok (.iload_n 2, 1) := by decide +kernel
theorem dX9_most_37 : decode cX9_most 37 = .ok (.ireturn, 1) := by decide +kernel
theorem dX9_most_38 : decode cX9_most 38 = .ok (.aload_n 0, 1) := by decide +kernel
theorem dX9_most_39 : decode cX9_most 39 = .ok (.getfield 292, 3) := by decide +kernel
theorem dX9_most_42 : decode cX9_most 42 = .ok (.istore_n 3, 1) := by decide +kernel
theorem dX9_most_43 : decode cX9_most 43 = .ok (.aload_n 0, 1) := by decide +kernel
theorem dX9_most_44 : decode cX9_most 44 = .ok (.getfield 286, 3) := by decide +kernel
theorem dX9_most_47 : decode cX9_most 47 = .ok (.iconst 1, 1) := by decide +kernel
theorem dX9_most_48 : decode cX9_most 48 = .ok (.isub, 1) := by decide +kernel
theorem dX9_most_49 : decode cX9_most 49 = .ok (.istore 4, 2) := by decide +kernel
theorem dX9_most_51 : decode cX9_most 51 = .ok (.iload 4, 2) := by decide +kernel
theorem dX9_most_53 : decode cX9_most 53 = .ok (.iload_n 1, 1) := by decide +kernel
theorem dX9_most_54 : decode cX9_most 54 = .ok (.if_icmp .le 13, 3) := by decide +kernel
theorem dX9_most_57 : decode cX9_most 57 = .ok (.iload_n 3, 1) := by decide +kernel
theorem dX9_most_58 : decode cX9_most 58 = .ok (.iconst 5, 1) := by decide +kernel
theorem dX9_most_59 : decode cX9_most 59 = .ok (.idiv, 1) := by decide +kernel
theorem dX9_most_60 : decode cX9_most 60 = .ok (.istore_n 3, 1) := by decide +kernel
theorem dX9_most_61 : decode cX9_most 61 = .ok (.iinc 4 (-1), 3) := by decide +kernel
theorem dX9_most_64 : decode cX9_most 64 = .ok (.goto (-13), 3) := by decide +kernel
theorem dX9_most_67 : decode cX9_most 67 = .ok (.iload_n 3, 1) := by decide +kernel
theorem dX9_most_68 : decode cX9_most 68 = .ok (.iconst 5, 1) := by decide +kernel
theorem dX9_most_69 : decode cX9_most 69 = .ok (.irem, 1) := by decide +kernel
theorem dX9_most_70 : decode cX9_most 70 = .ok (.iconst 1, 1) := by decide +kernel
theorem dX9_most_71 : decode cX9_most 71 = .ok (.isub, 1) := by decide +kernel
theorem dX9_most_72 : decode cX9_most 72 = .ok (.ireturn, 1) := by decide +kernel
theorem dX9_price_0 : decode cX9_price 0 = .ok (.iload_n 1, 1) := by decide +kernel
theorem dX9_price_1 : decode cX9_price 1 = .ok (.i2l, 1) := by decide +kernel
theorem dX9_price_2 : decode cX9_price 2 = .ok (.lconst 0, 1) := by decide +kernel
theorem dX9_price_3 : decode cX9_price 3 = .ok (.aload_n 0, 1) := by decide +kernel
theorem dX9_price_4 : decode cX9_price 4 = .ok (.getfield 289, 3) := by decide +kernel
theorem dX9_price_7 : decode cX9_price 7 = .ok (.iconst 1, 1) := by decide +kernel
theorem dX9_price_8 : decode cX9_price 8 = .ok (.isub, 1) := by decide +kernel
theorem dX9_price_9 : decode cX9_price 9 = .ok (.i2l, 1) := by decide +kernel
theorem dX9_price_10 : decode cX9_price 10 = .ok (.invokestatic 92, 3) := by decide +kernel
theorem dX9_price_13 : decode cX9_price 13 = .ok (.ifCond .eq 13, 3) := by decide +kernel
theorem dX9_price_16 : decode cX9_price 16 = .ok (.iload_n 2, 1) := by decide +kernel
theorem dX9_price_17 : decode cX9_price 17 = .ok (.i2l, 1) := by decide +kernel
theorem dX9_price_18 : decode cX9_price 18 = .ok (.lconst 0, 1) := by decide +kernel
theorem dX9_price_19 : decode cX9_price 19 = .ok (.lconst 1, 1) := by decide +kernel
theorem dX9_price_20 : decode cX9_price 20 = .ok (.invokestatic 92, 3) := by decide +kernel
theorem dX9_price_23 : decode cX9_price 23 = .ok (.ifCond .ne 6, 3) := by decide +kernel
theorem dX9_price_26 : decode cX9_price 26 = .ok (.bipush (-2), 2) := by decide +kernel
theorem dX9_price_28 : decode cX9_price 28 = .ok (.ireturn, 1) := by decide +kernel
theorem dX9_price_29 : decode cX9_price 29 = .ok (.aload_n 0, 1) := by decide +kernel
theorem dX9_price_30 : decode cX9_price 30 = .ok (.iconst (-1), 1) := by decide +kernel
theorem dX9_price_31 : decode cX9_price 31 = .ok (.iconst 0, 1) := by decide +kernel
theorem dX9_price_32 : decode cX9_price 32 = .ok (.invokevirtual 295, 3) := by decide +kernel
theorem dX9_price_35 : decode cX9_price 35 = .ok (.istore_n 3, 1) := by decide +kernel
theorem dX9_price_36 : decode cX9_price 36 = .ok (.iload_n 2, 1) := by decide +kernel
theorem dX9_price_37 : decode cX9_price 37 = .ok (.ifCond .ne 14, 3) := by decide +kernel
theorem dX9_price_40 : decode cX9_price 40 = .ok (.aload_n 0, 1) := by decide +kernel
theorem dX9_price_41 : decode cX9_price 41 = .ok (.iload_n 1, 1) := by decide +kernel
theorem dX9_price_42 : decode cX9_price 42 = .ok (.iconst 1, 1) := by decide +kernel
theorem dX9_price_43 : decode cX9_price 43 = .ok (.invokevirtual 295, 3) := by decide +kernel
theorem dX9_price_46 : decode cX9_price 46 = .ok (.iload_n 3, 1) := by decide +kernel
theorem dX9_price_47 : decode cX9_price 47 = .ok (.isub, 1) := by decide +kernel
theorem dX9_price_48 : decode cX9_price 48 = .ok (.goto 11, 3) := by decide +kernel
theorem dX9_price_51 : decode cX9_price 51 = .ok (.iload_n 3, 1) := by decide +kernel
theorem dX9_price_52 : decode cX9_price 52 = .ok (.aload_n 0, 1) := by decide +kernel
theorem dX9_price_53 : decode cX9_price 53 = .ok (.iload_n 1, 1) := by decide +kernel
theorem dX9_price_54 : decode cX9_price 54 = .ok (.iconst (-1), 1) := by decide +kernel
theorem dX9_price_55 : decode cX9_price 55 = .ok (.invokevirtual 295, 3) := by decide +kernel
theorem dX9_price_58 : decode cX9_price 58 = .ok (.isub, 1) := by decide +kernel
theorem dX9_price_59 : decode cX9_price 59 = .ok (.ireturn, 1) := by decide +kernel
theorem dX9_tell_0 : decode cX9_tell 0 = .ok (.iload_n 1, 1) := by decide +kernel
theorem dX9_tell_1 : decode cX9_tell 1 = .ok (.i2l, 1) := by decide +kernel
theorem dX9_tell_2 : decode cX9_tell 2 = .ok (.lconst 0, 1) := by decide +kernel
theorem dX9_tell_3 : decode cX9_tell 3 = .ok (.aload_n 0, 1) := by decide +kernel
theorem dX9_tell_4 : decode cX9_tell 4 = .ok (.getfield 289, 3) := by decide +kernel
theorem dX9_tell_7 : decode cX9_tell 7 = .ok (.iconst 1, 1) := by decide +kernel
theorem dX9_tell_8 : decode cX9_tell 8 = .ok (.isub, 1) := by decide +kernel
theorem dX9_tell_9 : decode cX9_tell 9 = .ok (.i2l, 1) := by decide +kernel
theorem dX9_tell_10 : decode cX9_tell 10 = .ok (.invokestatic 92, 3) := by decide +kernel
theorem dX9_tell_13 : decode cX9_tell 13 = .ok (.ifCond .eq 15, 3) := by decide +kernel
theorem dX9_tell_16 : decode cX9_tell 16 = .ok (.iload_n 2, 1) := by decide +kernel
theorem dX9_tell_17 : decode cX9_tell 17 = .ok (.i2l, 1) := by decide +kernel
theorem dX9_tell_18 : decode cX9_tell 18 = .ok (.lconst 0, 1) := by decide +kernel
theorem dX9_tell_19 : decode cX9_tell 19 = .ok (.ldc2_w 111, 3) := by decide +kernel
theorem dX9_tell_22 : decode cX9_tell 22 = .ok (.invokestatic 92, 3) := by decide +kernel
theorem dX9_tell_25 : decode cX9_tell 25 = .ok (.ifCond .ne 6, 3) := by decide +kernel
theorem dX9_tell_28 : decode cX9_tell 28 = .ok (.bipush (-2), 2) := by decide +kernel
theorem dX9_tell_30 : decode cX9_tell 30 = .ok (.ireturn, 1) := by decide +kernel
theorem dX9_tell_31 : decode cX9_tell 31 = .ok (.aload_n 0, 1) := by decide +kernel
theorem dX9_tell_32 : decode cX9_tell 32 = .ok (.getfield 51, 3) := by decide +kernel
theorem dX9_tell_35 : decode cX9_tell 35 = .ok (.iload_n 1, 1) := by decide +kernel
theorem dX9_tell_36 : decode cX9_tell 36 = .ok (.iaload, 1) := by decide +kernel
theorem dX9_tell_37 : decode cX9_tell 37 = .ok (.istore_n 3, 1) := by decide +kernel
theorem dX9_tell_38 : decode cX9_tell 38 = .ok (.aload_n 0, 1) := by decide +kernel
theorem dX9_tell_39 : decode cX9_tell 39 = .ok (.getfield 51, 3) := by decide +kernel
theorem dX9_tell_42 : decode cX9_tell 42 = .ok (.iload_n 1, 1) := by decide +kernel
theorem dX9_tell_43 : decode cX9_tell 43 = .ok (.iload_n 2, 1) := by decide +kernel
theorem dX9_tell_44 : decode cX9_tell 44 = .ok (.iastore, 1) := by decide +kernel
theorem dX9_tell_45 : decode cX9_tell 45 = .ok (.iload_n 3, 1) := by decide +kernel
theorem dX9_tell_46 : decode cX9_tell 46 = .ok (.ireturn, 1) := by decide +kernel
theorem dX9_clear_0 : decode cX9_clear 0 = .ok (.iconst 0, 1) := by decide +kernel
theorem dX9_clear_1 : decode cX9_clear 1 = .ok (.istore_n 1, 1) := by decide +kernel
theorem dX9_clear_2 : decode cX9_clear 2 = .ok (.iconst 0, 1) := by decide +kernel
theorem dX9_clear_3 : decode cX9_clear 3 = .ok (.istore_n 2, 1) := by decide +kernel
theorem dX9_clear_4 : decode cX9_clear 4 = .ok (.iload_n 2, 1) := by decide +kernel
theorem dX9_clear_5 : decode cX9_clear 5 = .ok (.aload_n 0, 1) := by decide +kernel
theorem dX9_clear_6 : decode cX9_clear 6 = .ok (.getfield 289, 3) := by decide +kernel
theorem dX9_clear_9 : decode cX9_clear 9 = .ok (.if_icmp .ge 18, 3) := by decide +kernel
theorem dX9_clear_12 : decode cX9_clear 12 = .ok (.iload_n 1, 1) := by decide +kernel
theorem dX9_clear_13 : decode cX9_clear 13 = .ok (.aload_n 0, 1) := by decide +kernel
theorem dX9_clear_14 : decode cX9_clear 14 = .ok (.getfield 51, 3) := by decide +kernel
theorem dX9_clear_17 : decode cX9_clear 17 = .ok (.iload_n 2, 1) := by decide +kernel
theorem dX9_clear_18 : decode cX9_clear 18 = .ok (.iaload, 1) := by decide +kernel
theorem dX9_clear_19 : decode cX9_clear 19 = .ok (.iadd, 1) := by decide +kernel
theorem dX9_clear_20 : decode cX9_clear 20 = .ok (.istore_n 1, 1) := by decide +kernel
theorem dX9_clear_21 : decode cX9_clear 21 = .ok (.iinc 2 1, 3) := by decide +kernel
theorem dX9_clear_24 : decode cX9_clear 24 = .ok (.goto (-20), 3) := by decide +kernel
theorem dX9_clear_27 : decode cX9_clear 27 = .ok (.iconst 0, 1) := by decide +kernel
theorem dX9_clear_28 : decode cX9_clear 28 = .ok (.istore_n 2, 1) := by decide +kernel
theorem dX9_clear_29 : decode cX9_clear 29 = .ok (.iload_n 2, 1) := by decide +kernel
theorem dX9_clear_30 : decode cX9_clear 30 = .ok (.aload_n 0, 1) := by decide +kernel
theorem dX9_clear_31 : decode cX9_clear 31 = .ok (.getfield 286, 3) := by decide +kernel
theorem dX9_clear_34 : decode cX9_clear 34 = .ok (.if_icmp .ge 67, 3) := by decide +kernel
theorem dX9_clear_37 : decode cX9_clear 37 = .ok (.iconst 0, 1) := by decide +kernel
theorem dX9_clear_38 : decode cX9_clear 38 = .ok (.istore_n 3, 1) := by decide +kernel
theorem dX9_clear_39 : decode cX9_clear 39 = .ok (.iconst 0, 1) := by decide +kernel
theorem dX9_clear_40 : decode cX9_clear 40 = .ok (.istore 4, 2) := by decide +kernel
theorem dX9_clear_42 : decode cX9_clear 42 = .ok (.iload 4, 2) := by decide +kernel
theorem dX9_clear_44 : decode cX9_clear 44 = .ok (.aload_n 0, 1) := by decide +kernel
theorem dX9_clear_45 : decode cX9_clear 45 = .ok (.getfield 289, 3) := by decide +kernel
theorem dX9_clear_48 : decode cX9_clear 48 = .ok (.if_icmp .ge 43, 3) := by decide +kernel
theorem dX9_clear_51 : decode cX9_clear 51 = .ok (.aload_n 0, 1) := by decide +kernel
theorem dX9_clear_52 : decode cX9_clear 52 = .ok (.getfield 48, 3) := by decide +kernel
theorem dX9_clear_55 : decode cX9_clear 55 = .ok (.iconst 4, 1) := by decide +kernel
theorem dX9_clear_56 : decode cX9_clear 56 = .ok (.iload_n 2, 1) := by decide +kernel
theorem dX9_clear_57 : decode cX9_clear 57 = .ok (.imul, 1) := by decide +kernel
theorem dX9_clear_58 : decode cX9_clear 58 = .ok (.iload 4, 2) := by decide +kernel
theorem dX9_clear_60 : decode cX9_clear 60 = .ok (.iadd, 1) := by decide +kernel
theorem dX9_clear_61 : decode cX9_clear 61 = .ok (.iaload, 1) := by decide +kernel
theorem dX9_clear_62 : decode cX9_clear 62 = .ok (.aload_n 0, 1) := by decide +kernel
theorem dX9_clear_63 : decode cX9_clear 63 = .ok (.getfield 51, 3) := by decide +kernel
theorem dX9_clear_66 : decode cX9_clear 66 = .ok (.iload 4, 2) := by decide +kernel
theorem dX9_clear_68 : decode cX9_clear 68 = .ok (.iaload, 1) := by decide +kernel
theorem dX9_clear_69 : decode cX9_clear 69 = .ok (.isub, 1) := by decide +kernel
theorem dX9_clear_70 : decode cX9_clear 70 = .ok (.istore 5, 2) := by decide +kernel
theorem dX9_clear_72 : decode cX9_clear 72 = .ok (.iload 5, 2) := by decide +kernel
theorem dX9_clear_74 : decode cX9_clear 74 = .ok (.iload_n 3, 1) := by decide +kernel
theorem dX9_clear_75 : decode cX9_clear 75 = .ok (.if_icmp .le 8, 3) := by decide +kernel
theorem dX9_clear_78 : decode cX9_clear 78 = .ok (.iload 5, 2) := by decide +kernel
theorem dX9_clear_80 : decode cX9_clear 80 = .ok (.goto 4, 3) := by decide +kernel
theorem dX9_clear_83 : decode cX9_clear 83 = .ok (.iload_n 3, 1) := by decide +kernel
theorem dX9_clear_84 : decode cX9_clear 84 = .ok (.istore_n 3, 1) := by decide +kernel
theorem dX9_clear_85 : decode cX9_clear 85 = .ok (.iinc 4 1, 3) := by decide +kernel
theorem dX9_clear_88 : decode cX9_clear 88 = .ok (.goto (-46), 3) := by decide +kernel
theorem dX9_clear_91 : decode cX9_clear 91 = .ok (.iload_n 1, 1) := by decide +kernel
theorem dX9_clear_92 : decode cX9_clear 92 = .ok (.iload_n 3, 1) := by decide +kernel
theorem dX9_clear_93 : decode cX9_clear 93 = .ok (.iadd, 1) := by decide +kernel
theorem dX9_clear_94 : decode cX9_clear 94 = .ok (.istore_n 1, 1) := by decide +kernel
theorem dX9_clear_95 : decode cX9_clear 95 = .ok (.iinc 2 1, 3) := by decide +kernel
theorem dX9_clear_98 : decode cX9_clear 98 = .ok (.goto (-69), 3) := by decide +kernel
theorem dX9_clear_101 : decode cX9_clear 101 = .ok (.iload_n 1, 1) := by decide +kernel
theorem dX9_clear_102 : decode cX9_clear 102 = .ok (.aload_n 0, 1) := by decide +kernel
theorem dX9_clear_103 : decode cX9_clear 103 = .ok (.iconst (-1), 1) := by decide +kernel
theorem dX9_clear_104 : decode cX9_clear 104 = .ok (.iconst 0, 1) := by decide +kernel
theorem dX9_clear_105 : decode cX9_clear 105 = .ok (.invokevirtual 295, 3) := by decide +kernel
theorem dX9_clear_108 : decode cX9_clear 108 = .ok (.if_icmp .ne 7, 3) := by decide +kernel
theorem dX9_clear_111 : decode cX9_clear 111 = .ok (.iconst 1, 1) := by decide +kernel
theorem dX9_clear_112 : decode cX9_clear 112 = .ok (.goto 4, 3) := by decide +kernel
theorem dX9_clear_115 : decode cX9_clear 115 = .ok (.iconst 0, 1) := by decide +kernel
theorem dX9_clear_116 : decode cX9_clear 116 = .ok (.ireturn, 1) := by decide +kernel
theorem dX9_count_0 : decode cX9_count 0 = .ok (.iload_n 1, 1) := by decide +kernel
theorem dX9_count_1 : decode cX9_count 1 = .ok (.tableswitch 78 0 6 #[43, 48, 53, 58, 63, 68, 73], 43) := by decide +kernel
theorem dX9_count_44 : decode cX9_count 44 = .ok (.aload_n 0, 1) := by decide +kernel
theorem dX9_count_45 : decode cX9_count 45 = .ok (.getfield 7, 3) := by decide +kernel
theorem dX9_count_48 : decode cX9_count 48 = .ok (.ireturn, 1) := by decide +kernel
theorem dX9_count_49 : decode cX9_count 49 = .ok (.aload_n 0, 1) := by decide +kernel
theorem dX9_count_50 : decode cX9_count 50 = .ok (.getfield 215, 3) := by decide +kernel
theorem dX9_count_53 : decode cX9_count 53 = .ok (.ireturn, 1) := by decide +kernel
theorem dX9_count_54 : decode cX9_count 54 = .ok (.aload_n 0, 1) := by decide +kernel
theorem dX9_count_55 : decode cX9_count 55 = .ok (.getfield 244, 3) := by decide +kernel
theorem dX9_count_58 : decode cX9_count 58 = .ok (.ireturn, 1) := by decide +kernel
theorem dX9_count_59 : decode cX9_count 59 = .ok (.aload_n 0, 1) := by decide +kernel
theorem dX9_count_60 : decode cX9_count 60 = .ok (.getfield 33, 3) := by decide +kernel
theorem dX9_count_63 : decode cX9_count 63 = .ok (.ireturn, 1) := by decide +kernel
theorem dX9_count_64 : decode cX9_count 64 = .ok (.aload_n 0, 1) := by decide +kernel
theorem dX9_count_65 : decode cX9_count 65 = .ok (.getfield 274, 3) := by decide +kernel
theorem dX9_count_68 : decode cX9_count 68 = .ok (.ireturn, 1) := by decide +kernel
theorem dX9_count_69 : decode cX9_count 69 = .ok (.aload_n 0, 1) := by decide +kernel
theorem dX9_count_70 : decode cX9_count 70 = .ok (.getfield 286, 3) := by decide +kernel
theorem dX9_count_73 : decode cX9_count 73 = .ok (.ireturn, 1) := by decide +kernel
theorem dX9_count_74 : decode cX9_count 74 = .ok (.aload_n 0, 1) := by decide +kernel
theorem dX9_count_75 : decode cX9_count 75 = .ok (.getfield 289, 3) := by decide +kernel
theorem dX9_count_78 : decode cX9_count 78 = .ok (.ireturn, 1) := by decide +kernel
theorem dX9_count_79 : decode cX9_count 79 = .ok (.bipush (-2), 2) := by decide +kernel
theorem dX9_count_81 : decode cX9_count 81 = .ok (.ireturn, 1) := by decide +kernel
theorem dX9_add_0 : decode cX9_add 0 = .ok (.aload_n 0, 1) := by decide +kernel
theorem dX9_add_1 : decode cX9_add 1 = .ok (.ldc2_w 298, 3) := by decide +kernel
theorem dX9_add_4 : decode cX9_add 4 = .ok (.aload_n 0, 1) := by decide +kernel
theorem dX9_add_5 : decode cX9_add 5 = .ok (.getfield 300, 3) := by decide +kernel
theorem dX9_add_8 : decode cX9_add 8 = .ok (.lmul, 1) := by decide +kernel
theorem dX9_add_9 : decode cX9_add 9 = .ok (.lload_n 1, 1) := by decide +kernel
theorem dX9_add_10 : decode cX9_add 10 = .ok (.ladd, 1) := by decide +kernel
theorem dX9_add_11 : decode cX9_add 11 = .ok (.putfield 300, 3) := by decide +kernel
theorem dX9_add_14 : decode cX9_add 14 = .ok (.return_, 1) := by decide +kernel
theorem dX9_digest_0 : decode cX9_digest 0 = .ok (.aload_n 0, 1) := by decide +kernel
theorem dX9_digest_1 : decode cX9_digest 1 = .ok (.ldc2_w 303, 3) := by decide +kernel
theorem dX9_digest_4 : decode cX9_digest 4 = .ok (.putfield 300, 3) := by decide +kernel
theorem dX9_digest_7 : decode cX9_digest 7 = .ok (.iconst 0, 1) := by decide +kernel
theorem dX9_digest_8 : decode cX9_digest 8 = .ok (.istore_n 1, 1) := by decide +kernel
theorem dX9_digest_9 : decode cX9_digest 9 = .ok (.iload_n 1, 1) := by decide +kernel
theorem dX9_digest_10 : decode cX9_digest 10 = .ok (.bipush 7, 2) := by decide +kernel
theorem dX9_digest_12 : decode cX9_digest 12 = .ok (.if_icmp .ge 19, 3) := by decide +kernel
theorem dX9_digest_15 : decode cX9_digest 15 = .ok (.aload_n 0, 1) := by decide +kernel
theorem dX9_digest_16 : decode cX9_digest 16 = .ok (.aload_n 0, 1) := by decide +kernel
theorem dX9_digest_17 : decode cX9_digest 17 = .ok (.iload_n 1, 1) := by decide +kernel
theorem dX9_digest_18 : decode cX9_digest 18 = .ok (.invokevirtual 305, 3) := by decide +kernel
theorem dX9_digest_21 : decode cX9_digest 21 = .ok (.i2l, 1) := by decide +kernel
theorem dX9_digest_22 : decode cX9_digest 22 = .ok (.invokevirtual 308, 3) := by decide +kernel
theorem dX9_digest_25 : decode cX9_digest 25 = .ok (.iinc 1 1, 3) := by decide +kernel
theorem dX9_digest_28 : decode cX9_digest 28 = .ok (.goto (-19), 3) := by decide +kernel
theorem dX9_digest_31 : decode cX9_digest 31 = .ok (.iconst 1, 1) := by decide +kernel
theorem dX9_digest_32 : decode cX9_digest 32 = .ok (.istore_n 1, 1) := by decide +kernel
theorem dX9_digest_33 : decode cX9_digest 33 = .ok (.iload_n 1, 1) := by decide +kernel
theorem dX9_digest_34 : decode cX9_digest 34 = .ok (.aload_n 0, 1) := by decide +kernel
theorem dX9_digest_35 : decode cX9_digest 35 = .ok (.invokevirtual 88, 3) := by decide +kernel
theorem dX9_digest_38 : decode cX9_digest 38 = .ok (.if_icmp .gt 20, 3) := by decide +kernel
theorem dX9_digest_41 : decode cX9_digest 41 = .ok (.aload_n 0, 1) := by decide +kernel
theorem dX9_digest_42 : decode cX9_digest 42 = .ok (.aload_n 0, 1) := by decide +kernel
theorem dX9_digest_43 : decode cX9_digest 43 = .ok (.getfield 13, 3) := by decide +kernel
theorem dX9_digest_46 : decode cX9_digest 46 = .ok (.iload_n 1, 1) := by decide +kernel
theorem dX9_digest_47 : decode cX9_digest 47 = .ok (.iaload, 1) := by decide +kernel
theorem dX9_digest_48 : decode cX9_digest 48 = .ok (.i2l, 1) := by decide +kernel
theorem dX9_digest_49 : decode cX9_digest 49 = .ok (.invokevirtual 308, 3) := by decide +kernel
theorem dX9_digest_52 : decode cX9_digest 52 = .ok (.iinc 1 1, 3) := by decide +kernel
theorem dX9_digest_55 : decode cX9_digest 55 = .ok (.goto (-22), 3) := by decide +kernel
theorem dX9_digest_58 : decode cX9_digest 58 = .ok (.iconst 0, 1) := by decide +kernel
theorem dX9_digest_59 : decode cX9_digest 59 = .ok (.istore_n 1, 1) := by decide +kernel
theorem dX9_digest_60 : decode cX9_digest 60 = .ok (.iload_n 1, 1) := by decide +kernel
theorem dX9_digest_61 : decode cX9_digest 61 = .ok (.iconst 2, 1) := by decide +kernel
theorem dX9_digest_62 : decode cX9_digest 62 = .ok (.if_icmp .ge 40, 3) := by decide +kernel
theorem dX9_digest_65 : decode cX9_digest 65 = .ok (.iconst 0, 1) := by decide +kernel
theorem dX9_digest_66 : decode cX9_digest 66 = .ok (.istore_n 2, 1) := by decide +kernel
theorem dX9_digest_67 : decode cX9_digest 67 = .ok (.iload_n 2, 1) := by decide +kernel
theorem dX9_digest_68 : decode cX9_digest 68 = .ok (.aload_n 0, 1) := by decide +kernel
theorem dX9_digest_69 : decode cX9_digest 69 = .ok (.getfield 7, 3) := by decide +kernel
theorem dX9_digest_72 : decode cX9_digest 72 = .ok (.if_icmp .ge 24, 3) := by decide +kernel
theorem dX9_digest_75 : decode cX9_digest 75 = .ok (.aload_n 0, 1) := by decide +kernel
theorem dX9_digest_76 : decode cX9_digest 76 = .ok (.aload_n 0, 1) := by decide +kernel
theorem dX9_digest_77 : decode cX9_digest 77 = .ok (.getfield 17, 3) := by decide +kernel
theorem dX9_digest_80 : decode cX9_digest 80 = .ok (.iconst 4, 1) := by decide +kernel
theorem dX9_digest_81 : decode cX9_digest 81 = .ok (.iload_n 1, 1) := by decide +kernel
theorem dX9_digest_82 : decode cX9_digest 82 = .ok (.imul, 1) := by decide +kernel
theorem dX9_digest_83 : decode cX9_digest 83 = .ok (.iload_n 2, 1) := by decide +kernel
theorem dX9_digest_84 : decode cX9_digest 84 = .ok (.iadd, 1) := by decide +kernel
theorem dX9_digest_85 : decode cX9_digest 85 = .ok (.iaload, 1) := by decide +kernel
theorem dX9_digest_86 : decode cX9_digest 86 = .ok (.i2l, 1) := by decide +kernel
theorem dX9_digest_87 : decode cX9_digest 87 = .ok (.invokevirtual 308, 3) := by decide +kernel
theorem dX9_digest_90 : decode cX9_digest 90 = .ok (.iinc 2 1, 3) := by decide +kernel
theorem dX9_digest_93 : decode cX9_digest 93 = .ok (.goto (-26), 3) := by decide +kernel
theorem dX9_digest_96 : decode cX9_digest 96 = .ok (.iinc 1 1, 3) := by decide +kernel
theorem dX9_digest_99 : decode cX9_digest 99 = .ok (.goto (-39), 3) := by decide +kernel
theorem dX9_digest_102 : decode cX9_digest 102 = .ok (.iconst 0, 1) := by decide +kernel
theorem dX9_digest_103 : decode cX9_digest 103 = .ok (.istore_n 1, 1) := by decide +kernel
theorem dX9_digest_104 : decode cX9_digest 104 = .ok (.iload_n 1, 1) := by decide +kernel
theorem dX9_digest_105 : decode cX9_digest 105 = .ok (.aload_n 0, 1) := by decide +kernel
theorem dX9_digest_106 : decode cX9_digest 106 = .ok (.getfield 215, 3) := by decide +kernel
theorem dX9_digest_109 : decode cX9_digest 109 = .ok (.if_icmp .ge 20, 3) := by decide +kernel
theorem dX9_digest_112 : decode cX9_digest 112 = .ok (.aload_n 0, 1) := by decide +kernel
theorem dX9_digest_113 : decode cX9_digest 113 = .ok (.aload_n 0, 1) := by decide +kernel
theorem dX9_digest_114 : decode cX9_digest 114 = .ok (.getfield 24, 3) := by decide +kernel
theorem dX9_digest_117 : decode cX9_digest 117 = .ok (.iload_n 1, 1) := by decide +kernel
theorem dX9_digest_118 : decode cX9_digest 118 = .ok (.iaload, 1) := by decide +kernel
theorem dX9_digest_119 : decode cX9_digest 119 = .ok (.i2l, 1) := by decide +kernel
theorem dX9_digest_120 : decode cX9_digest 120 = .ok (.invokevirtual 308, 3) := by decide +kernel
theorem dX9_digest_123 : decode cX9_digest 123 = .ok (.iinc 1 1, 3) := by decide +kernel
theorem dX9_digest_126 : decode cX9_digest 126 = .ok (.goto (-22), 3) := by decide +kernel
theorem dX9_digest_129 : decode cX9_digest 129 = .ok (.aload_n 0, 1) := by decide +kernel
theorem dX9_digest_130 : decode cX9_digest 130 = .ok (.aload_n 0, 1) := by decide +kernel
theorem dX9_digest_131 : decode cX9_digest 131 = .ok (.getfield 27, 3) := by decide +kernel
theorem dX9_digest_134 : decode cX9_digest 134 = .ok (.i2l, 1) := by decide +kernel
theorem dX9_digest_135 : decode cX9_digest 135 = .ok (.invokevirtual 308, 3) := by decide +kernel
theorem dX9_digest_138 : decode cX9_digest 138 = .ok (.iconst 0, 1) := by decide +kernel
theorem dX9_digest_139 : decode cX9_digest 139 = .ok (.istore_n 1, 1) := by decide +kernel
theorem dX9_digest_140 : decode cX9_digest 140 = .ok (.iload_n 1, 1) := by decide +kernel
theorem dX9_digest_141 : decode cX9_digest 141 = .ok (.aload_n 0, 1) := by decide +kernel
theorem dX9_digest_142 : decode cX9_digest 142 = .ok (.getfield 244, 3) := by decide +kernel
theorem dX9_digest_145 : decode cX9_digest 145 = .ok (.if_icmp .ge 20, 3) := by decide +kernel
theorem dX9_digest_148 : decode cX9_digest 148 = .ok (.aload_n 0, 1) := by decide +kernel
theorem dX9_digest_149 : decode cX9_digest 149 = .ok (.aload_n 0, 1) := by decide +kernel
theorem dX9_digest_150 : decode cX9_digest 150 = .ok (.getfield 30, 3) := by decide +kernel
theorem dX9_digest_153 : decode cX9_digest 153 = .ok (.iload_n 1, 1) := by decide +kernel
theorem dX9_digest_154 : decode cX9_digest 154 = .ok (.iaload, 1) := by decide +kernel
theorem dX9_digest_155 : decode cX9_digest 155 = .ok (.i2l, 1) := by decide +kernel
theorem dX9_digest_156 : decode cX9_digest 156 = .ok (.invokevirtual 308, 3) := by decide +kernel
theorem dX9_digest_159 : decode cX9_digest 159 = .ok (.iinc 1 1, 3) := by decide +kernel
theorem dX9_digest_162 : decode cX9_digest 162 = .ok (.goto (-22), 3) := by decide +kernel
theorem dX9_digest_165 : decode cX9_digest 165 = .ok (.aload_n 0, 1) := by decide +kernel
theorem dX9_digest_166 : decode cX9_digest 166 = .ok (.aload_n 0, 1) := by decide +kernel
theorem dX9_digest_167 : decode cX9_digest 167 = .ok (.getfield 249, 3) := by decide +kernel
theorem dX9_digest_170 : decode cX9_digest 170 = .ok (.i2l, 1) := by decide +kernel
theorem dX9_digest_171 : decode cX9_digest 171 = .ok (.invokevirtual 308, 3) := by decide +kernel
theorem dX9_digest_174 : decode cX9_digest 174 = .ok (.iconst 1, 1) := by decide +kernel
theorem dX9_digest_175 : decode cX9_digest 175 = .ok (.istore_n 1, 1) := by decide +kernel
theorem dX9_digest_176 : decode cX9_digest 176 = .ok (.iload_n 1, 1) := by decide +kernel
theorem dX9_digest_177 : decode cX9_digest 177 = .ok (.aload_n 0, 1) := by decide +kernel
theorem dX9_digest_178 : decode cX9_digest 178 = .ok (.getfield 33, 3) := by decide +kernel
theorem dX9_digest_181 : decode cX9_digest 181 = .ok (.if_icmp .ge 31, 3) := by decide +kernel
theorem dX9_digest_184 : decode cX9_digest 184 = .ok (.aload_n 0, 1) := by decide +kernel
theorem dX9_digest_185 : decode cX9_digest 185 = .ok (.aload_n 0, 1) := by decide +kernel
theorem dX9_digest_186 : decode cX9_digest 186 = .ok (.getfield 36, 3) := by decide +kernel
theorem dX9_digest_189 : decode cX9_digest 189 = .ok (.iload_n 1, 1) := by decide +kernel
theorem dX9_digest_190 : decode cX9_digest 190 = .ok (.iaload, 1) := by decide +kernel
theorem dX9_digest_191 : decode cX9_digest 191 = .ok (.i2l, 1) := by decide +kernel
theorem dX9_digest_192 : decode cX9_digest 192 = .ok (.invokevirtual 308, 3) := by decide +kernel
theorem dX9_digest_195 : decode cX9_digest 195 = .ok (.aload_n 0, 1) := by decide +kernel
theorem dX9_digest_196 : decode cX9_digest 196 = .ok (.aload_n 0, 1) := by decide +kernel
theorem dX9_digest_197 : decode cX9_digest 197 = .ok (.getfield 39, 3) := by decide +kernel
theorem dX9_digest_200 : decode cX9_digest 200 = .ok (.iload_n 1, 1) := by decide +kernel
theorem dX9_digest_201 : decode cX9_digest 201 = .ok (.iaload, 1) := by decide +kernel
theorem dX9_digest_202 : decode cX9_digest 202 = .ok (.i2l, 1) := by decide +kernel
theorem dX9_digest_203 : decode cX9_digest 203 = .ok (.invokevirtual 308, 3) := by decide +kernel
theorem dX9_digest_206 : decode cX9_digest 206 = .ok (.iinc 1 1, 3) := by decide +kernel
theorem dX9_digest_209 : decode cX9_digest 209 = .ok (.goto (-33), 3) := by decide +kernel
theorem dX9_digest_212 : decode cX9_digest 212 = .ok (.iconst 0, 1) := by decide +kernel
theorem dX9_digest_213 : decode cX9_digest 213 = .ok (.istore_n 1, 1) := by decide +kernel
theorem dX9_digest_214 : decode cX9_digest 214 = .ok (.iload_n 1, 1) := by decide +kernel
theorem dX9_digest_215 : decode cX9_digest 215 = .ok (.aload_n 0, 1) := by decide +kernel
theorem dX9_digest_216 : decode cX9_digest 216 = .ok (.getfield 274, 3) := by decide +kernel
theorem dX9_digest_219 : decode cX9_digest 219 = .ok (.if_icmp .ge 31, 3) := by decide +kernel
theorem dX9_digest_222 : decode cX9_digest 222 = .ok (.aload_n 0, 1) := by decide +kernel
theorem dX9_digest_223 : decode cX9_digest 223 = .ok (.aload_n 0, 1) := by decide +kernel
theorem dX9_digest_224 : decode cX9_digest 224 = .ok (.getfield 42, 3) := by decide +kernel
theorem dX9_digest_227 : decode cX9_digest 227 = .ok (.iload_n 1, 1) := by decide +kernel
theorem dX9_digest_228 : decode cX9_digest 228 = .ok (.iaload, 1) := by decide +kernel
theorem dX9_digest_229 : decode cX9_digest 229 = .ok (.i2l, 1) := by decide +kernel
theorem dX9_digest_230 : decode cX9_digest 230 = .ok (.invokevirtual 308, 3) := by decide +kernel
theorem dX9_digest_233 : decode cX9_digest 233 = .ok (.aload_n 0, 1) := by decide +kernel
theorem dX9_digest_234 : decode cX9_digest 234 = .ok (.aload_n 0, 1) := by decide +kernel
theorem dX9_digest_235 : decode cX9_digest 235 = .ok (.getfield 45, 3) := by decide +kernel
theorem dX9_digest_238 : decode cX9_digest 238 = .ok (.iload_n 1, 1) := by decide +kernel
theorem dX9_digest_239 : decode cX9_digest 239 = .ok (.iaload, 1) := by decide +kernel
theorem dX9_digest_240 : decode cX9_digest 240 = .ok (.i2l, 1) := by decide +kernel
theorem dX9_digest_241 : decode cX9_digest 241 = .ok (.invokevirtual 308, 3) := by decide +kernel
theorem dX9_digest_244 : decode cX9_digest 244 = .ok (.iinc 1 1, 3) := by decide +kernel
theorem dX9_digest_247 : decode cX9_digest 247 = .ok (.goto (-33), 3) := by decide +kernel
theorem dX9_digest_250 : decode cX9_digest 250 = .ok (.iconst 0, 1) := by decide +kernel
theorem dX9_digest_251 : decode cX9_digest 251 = .ok (.istore_n 1, 1) := by decide +kernel
theorem dX9_digest_252 : decode cX9_digest 252 = .ok (.iload_n 1, 1) := by decide +kernel
theorem dX9_digest_253 : decode cX9_digest 253 = .ok (.aload_n 0, 1) := by decide +kernel
theorem dX9_digest_254 : decode cX9_digest 254 = .ok (.getfield 286, 3) := by decide +kernel
theorem dX9_digest_257 : decode cX9_digest 257 = .ok (.if_icmp .ge 40, 3) := by decide +kernel
theorem dX9_digest_260 : decode cX9_digest 260 = .ok (.iconst 0, 1) := by decide +kernel
theorem dX9_digest_261 : decode cX9_digest 261 = .ok (.istore_n 2, 1) := by decide +kernel
theorem dX9_digest_262 : decode cX9_digest 262 = .ok (.iload_n 2, 1) := by decide +kernel
theorem dX9_digest_263 : decode cX9_digest 263 = .ok (.aload_n 0, 1) := by decide +kernel
theorem dX9_digest_264 : decode cX9_digest 264 = .ok (.getfield 289, 3) := by decide +kernel
theorem dX9_digest_267 : decode cX9_digest 267 = .ok (.if_icmp .ge 24, 3) := by decide +kernel
theorem dX9_digest_270 : decode cX9_digest 270 = .ok (.aload_n 0, 1) := by decide +kernel
theorem dX9_digest_271 : decode cX9_digest 271 = .ok (.aload_n 0, 1) := by decide +kernel
theorem dX9_digest_272 : decode cX9_digest 272 = .ok (.getfield 48, 3) := by decide +kernel
theorem dX9_digest_275 : decode cX9_digest 275 = .ok (.iconst 4, 1) := by decide +kernel
theorem dX9_digest_276 : decode cX9_digest 276 = .ok (.iload_n 1, 1) := by decide +kernel
theorem dX9_digest_277 : decode cX9_digest 277 = .ok (.imul, 1) := by decide +kernel
theorem dX9_digest_278 : decode cX9_digest 278 = .ok (.iload_n 2, 1) := by decide +kernel
theorem dX9_digest_279 : decode cX9_digest 279 = .ok (.iadd, 1) := by decide +kernel
theorem dX9_digest_280 : decode cX9_digest 280 = .ok (.iaload, 1) := by decide +kernel
theorem dX9_digest_281 : decode cX9_digest 281 = .ok (.i2l, 1) := by decide +kernel
theorem dX9_digest_282 : decode cX9_digest 282 = .ok (.invokevirtual 308, 3) := by decide +kernel
theorem dX9_digest_285 : decode cX9_digest 285 = .ok (.iinc 2 1, 3) := by decide +kernel
theorem dX9_digest_288 : decode cX9_digest 288 = .ok (.goto (-26), 3) := by decide +kernel
theorem dX9_digest_291 : decode cX9_digest 291 = .ok (.iinc 1 1, 3) := by decide +kernel
theorem dX9_digest_294 : decode cX9_digest 294 = .ok (.goto (-42), 3) := by decide +kernel
theorem dX9_digest_297 : decode cX9_digest 297 = .ok (.iconst 0, 1) := by decide +kernel
theorem dX9_digest_298 : decode cX9_digest 298 = .ok (.istore_n 1, 1) := by decide +kernel
theorem dX9_digest_299 : decode cX9_digest 299 = .ok (.iload_n 1, 1) := by decide +kernel
theorem dX9_digest_300 : decode cX9_digest 300 = .ok (.aload_n 0, 1) := by decide +kernel
theorem dX9_digest_301 : decode cX9_digest 301 = .ok (.getfield 289, 3) := by decide +kernel
theorem dX9_digest_304 : decode cX9_digest 304 = .ok (.if_icmp .ge 20, 3) := by decide +kernel
theorem dX9_digest_307 : decode cX9_digest 307 = .ok (.aload_n 0, 1) := by decide +kernel
theorem dX9_digest_308 : decode cX9_digest 308 = .ok (.aload_n 0, 1) := by decide +kernel
theorem dX9_digest_309 : decode cX9_digest 309 = .ok (.getfield 51, 3) := by decide +kernel
theorem dX9_digest_312 : decode cX9_digest 312 = .ok (.iload_n 1, 1) := by decide +kernel
theorem dX9_digest_313 : decode cX9_digest 313 = .ok (.iaload, 1) := by decide +kernel
theorem dX9_digest_314 : decode cX9_digest 314 = .ok (.i2l, 1) := by decide +kernel
theorem dX9_digest_315 : decode cX9_digest 315 = .ok (.invokevirtual 308, 3) := by decide +kernel
theorem dX9_digest_318 : decode cX9_digest 318 = .ok (.iinc 1 1, 3) := by decide +kernel
theorem dX9_digest_321 : decode cX9_digest 321 = .ok (.goto (-22), 3) := by decide +kernel
theorem dX9_digest_324 : decode cX9_digest 324 = .ok (.aload_n 0, 1) := by decide +kernel
theorem dX9_digest_325 : decode cX9_digest 325 = .ok (.aload_n 0, 1) := by decide +kernel
theorem dX9_digest_326 : decode cX9_digest 326 = .ok (.getfield 100, 3) := by decide +kernel
theorem dX9_digest_329 : decode cX9_digest 329 = .ok (.invokevirtual 308, 3) := by decide +kernel
theorem dX9_digest_332 : decode cX9_digest 332 = .ok (.aload_n 0, 1) := by decide +kernel
theorem dX9_digest_333 : decode cX9_digest 333 = .ok (.aload_n 0, 1) := by decide +kernel
theorem dX9_digest_334 : decode cX9_digest 334 = .ok (.getfield 20, 3) := by decide +kernel
theorem dX9_digest_337 : decode cX9_digest 337 = .ok (.invokevirtual 308, 3) := by decide +kernel
theorem dX9_digest_340 : decode cX9_digest 340 = .ok (.aload_n 0, 1) := by decide +kernel
theorem dX9_digest_341 : decode cX9_digest 341 = .ok (.getfield 300, 3) := by decide +kernel
theorem dX9_digest_344 : decode cX9_digest 344 = .ok (.lreturn, 1) := by decide +kernel
