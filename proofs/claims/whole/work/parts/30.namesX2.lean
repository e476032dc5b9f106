theorem dX2_isNone_0 : decode cX2_isNone 0 = .ok (.lload_n 0, 1) := by decide +kernel
theorem dX2_isNone_1 : decode cX2_isNone 1 = .ok (.ldc2_w 9, 3) := by decide +kernel
theorem dX2_isNone_4 : decode cX2_isNone 4 = .ok (.land, 1) := by decide +kernel
theorem dX2_isNone_5 : decode cX2_isNone 5 = .ok (.ldc2_w 13, 3) := by decide +kernel
theorem dX2_isNone_8 : decode cX2_isNone 8 = .ok (.lcmp, 1) := by decide +kernel
theorem dX2_isNone_9 : decode cX2_isNone 9 = .ok (.ifCond .le 7, 3) := by decide +kernel
theorem dX2_isNone_12 : decode cX2_isNone 12 = .ok (.iconst 1, 1) := by decide +kernel
theorem dX2_isNone_13 : decode cX2_isNone 13 = .ok (.goto 4, 3) := by decide +kernel
theorem dX2_isNone_16 : decode cX2_isNone 16 = .ok (.iconst 0, 1) := by decide +kernel
theorem dX2_isNone_17 : decode cX2_isNone 17 = .ok (.ireturn, 1) := by decide +kernel
theorem dX2_isInfinite_0 : decode cX2_isInfinite 0 = .ok (.lload_n 0, 1) := by decide +kernel
theorem dX2_isInfinite_1 : decode cX2_isInfinite 1 = .ok (.ldc2_w 9, 3) := by decide +kernel
theorem dX2_isInfinite_4 : decode cX2_isInfinite 4 = .ok (.land, 1) := by decide +kernel
theorem dX2_isInfinite_5 : decode cX2_isInfinite 5 = .ok (.ldc2_w 13, 3) := by decide +kernel
theorem dX2_isInfinite_8 : decode cX2_isInfinite 8 = .ok (.lcmp, 1) := by decide +kernel
theorem dX2_isInfinite_9 : decode cX2_isInfinite 9 = .ok (.ifCond .ne 7, 3) := by decide +kernel
theorem dX2_isInfinite_12 : decode cX2_isInfinite 12 = .ok (.iconst 1, 1) := by decide +kernel
theorem dX2_isInfinite_13 : decode cX2_isInfinite 13 = .ok (.goto 4, 3) := by decide +kernel
theorem dX2_isInfinite_16 : decode cX2_isInfinite 16 = .ok (.iconst 0, 1) := by decide +kernel
theorem dX2_isInfinite_17 : decode cX2_isInfinite 17 = .ok (.ireturn, 1) := by decide +kernel
theorem dX2_isZero_0 : decode cX2_isZero 0 = .ok (.lload_n 0, 1) := by decide +kernel
theorem dX2_isZero_1 : decode cX2_isZero 1 = .ok (.ldc2_w 9, 3) := by decide +kernel
theorem dX2_isZero_4 : decode cX2_isZero 4 = .ok (.land, 1) := by decide +kernel
theorem dX2_isZero_5 : decode cX2_isZero 5 = .ok (.lconst 0, 1) := by decide +kernel
theorem dX2_isZero_6 : decode cX2_isZero 6 = .ok (.lcmp, 1) := by decide +kernel
theorem dX2_isZero_7 : decode cX2_isZero 7 = .ok (.ifCond .ne 7, 3) := by decide +kernel
theorem dX2_isZero_10 : decode cX2_isZero 10 = .ok (.iconst 1, 1) := by decide +kernel
theorem dX2_isZero_11 : decode cX2_isZero 11 = .ok (.goto 4, 3) := by decide +kernel
theorem dX2_isZero_14 : decode cX2_isZero 14 = .ok (.iconst 0, 1) := by decide +kernel
theorem dX2_isZero_15 : decode cX2_isZero 15 = .ok (.ireturn, 1) := by decide +kernel
theorem dX2_negative_0 : decode cX2_negative 0 = .ok (.lload_n 0, 1) := by decide +kernel
theorem dX2_negative_1 : decode cX2_negative 1 = .ok (.ldc2_w 15, 3) := by decide +kernel
theorem dX2_negative_4 : decode cX2_negative 4 = .ok (.lxor, 1) := by decide +kernel
theorem dX2_negative_5 : decode cX2_negative 5 = .ok (.lreturn, 1) := by decide +kernel
theorem dX2_exponent_0 : decode cX2_exponent 0 = .ok (.lload_n 0, 1) := by decide +kernel
theorem dX2_exponent_1 : decode cX2_exponent 1 = .ok (.bipush 52, 2) := by decide +kernel
theorem dX2_exponent_3 : decode cX2_exponent 3 = .ok (.lshr, 1) := by decide +kernel
theorem dX2_exponent_4 : decode cX2_exponent 4 = .ok (.ldc2_w 17, 3) := by decide +kernel
theorem dX2_exponent_7 : decode cX2_exponent 7 = .ok (.land, 1) := by decide +kernel
theorem dX2_exponent_8 : decode cX2_exponent 8 = .ok (.l2i, 1) := by decide +kernel
theorem dX2_exponent_9 : decode cX2_exponent 9 = .ok (.istore_n 2, 1) := by decide +kernel
theorem dX2_exponent_10 : decode cX2_exponent 10 = .ok (.iload_n 2, 1) := by decide +kernel
theorem dX2_exponent_11 : decode cX2_exponent 11 = .ok (.ifCond .le 9, 3) := by decide +kernel
theorem dX2_exponent_14 : decode cX2_exponent 14 = .ok (.iload_n 2, 1) := by decide +kernel
theorem dX2_exponent_15 : decode cX2_exponent 15 = .ok (.sipush 1075, 3) := by decide +kernel
theorem dX2_exponent_18 : decode cX2_exponent 18 = .ok (.isub, 1) := by decide +kernel
theorem dX2_exponent_19 : decode cX2_exponent 19 = .ok (.ireturn, 1) := by decide +kernel
theorem dX2_exponent_20 : decode cX2_exponent 20 = .ok (.sipush (-1074), 3) := by decide +kernel
theorem dX2_exponent_23 : decode cX2_exponent 23 = .ok (.istore_n 3, 1) := by decide +kernel
theorem dX2_exponent_24 : decode cX2_exponent 24 = .ok (.lload_n 0, 1) := by decide +kernel
theorem dX2_exponent_25 : decode cX2_exponent 25 = .ok (.ldc2_w 19, 3) := by decide +kernel
theorem dX2_exponent_28 : decode cX2_exponent 28 = .ok (.land, 1) := by decide +kernel
theorem dX2_exponent_29 : decode cX2_exponent 29 = .ok (.lstore 4, 2) := by decide +kernel
theorem dX2_exponent_31 : decode cX2_exponent 31 = .ok (.lload 4, 2) := by decide +kernel
theorem dX2_exponent_33 : decode cX2_exponent 33 = .ok (.ldc2_w 21, 3) := by decide +kernel
theorem dX2_exponent_36 : decode cX2_exponent 36 = .ok (.lcmp, 1) := by decide +kernel
theorem dX2_exponent_37 : decode cX2_exponent 37 = .ok (.ifCond .ge 15, 3) := by decide +kernel
theorem dX2_exponent_40 : decode cX2_exponent 40 = .ok (.iinc 3 (-1), 3) := by decide +kernel
theorem dX2_exponent_43 : decode cX2_exponent 43 = .ok (.lload 4, 2) := by decide +kernel
theorem dX2_exponent_45 : decode cX2_exponent 45 = .ok (.iconst 1, 1) := by decide +kernel
theorem dX2_exponent_46 : decode cX2_exponent 46 = .ok (.lshl, 1) := by decide +kernel
theorem dX2_exponent_47 : decode cX2_exponent 47 = .ok (.lstore 4, 2) := by decide +kernel
theorem dX2_exponent_49 : decode cX2_exponent 49 = .ok (.goto (-18), 3) := by decide +kernel
theorem dX2_exponent_52 : decode cX2_exponent 52 = .ok (.iload_n 3, 1) := by decide +kernel
theorem dX2_exponent_53 : decode cX2_exponent 53 = .ok (.ireturn, 1) := by decide +kernel
theorem dX2_significand_0 : decode cX2_significand 0 = .ok (.lload_n 0, 1) := by decide +kernel
theorem dX2_significand_1 : decode cX2_significand 1 = .ok (.ldc2_w 19, 3) := by decide +kernel
theorem dX2_significand_4 : decode cX2_significand 4 = .ok (.land, 1) := by decide +kernel
theorem dX2_significand_5 : decode cX2_significand 5 = .ok (.lstore_n 2, 1) := by decide +kernel
theorem dX2_significand_6 : decode cX2_significand 6 = .ok (.lload_n 0, 1) := by decide +kernel
theorem dX2_significand_7 : decode cX2_significand 7 = .ok (.bipush 52, 2) := by decide +kernel
theorem dX2_significand_9 : decode cX2_significand 9 = .ok (.lshr, 1) := by decide +kernel
theorem dX2_significand_10 : decode cX2_significand 10 = .ok (.ldc2_w 17, 3) := by decide +kernel
theorem dX2_significand_13 : decode cX2_significand 13 = .ok (.land, 1) := by decide +kernel
theorem dX2_significand_14 : decode cX2_significand 14 = .ok (.lconst 0, 1) := by decide +kernel
theorem dX2_significand_15 : decode cX2_significand 15 = .ok (.lcmp, 1) := by decide +kernel
theorem dX2_significand_16 : decode cX2_significand 16 = .ok (.ifCond .le 9, 3) := by decide +kernel
theorem dX2_significand_19 : decode cX2_significand 19 = .ok (.lload_n 2, 1) := by decide +kernel
theorem dX2_significand_20 : decode cX2_significand 20 = .ok (.ldc2_w 21, 3) := by decide +kernel
theorem dX2_significand_23 : decode cX2_significand 23 = .ok (.lor, 1) := by decide +kernel
theorem dX2_significand_24 : decode cX2_significand 24 = .ok (.lreturn, 1) := by decide +kernel
theorem dX2_significand_25 : decode cX2_significand 25 = .ok (.lload_n 2, 1) := by decide +kernel
theorem dX2_significand_26 : decode cX2_significand 26 = .ok (.ldc2_w 21, 3) := by decide +kernel
theorem dX2_significand_29 : decode cX2_significand 29 = .ok (.lcmp, 1) := by decide +kernel
theorem dX2_significand_30 : decode cX2_significand 30 = .ok (.ifCond .ge 10, 3) := by decide +kernel
theorem dX2_significand_33 : decode cX2_significand 33 = .ok (.lload_n 2, 1) := by decide +kernel
theorem dX2_significand_34 : decode cX2_significand 34 = .ok (.iconst 1, 1) := by decide +kernel
theorem dX2_significand_35 : decode cX2_significand 35 = .ok (.lshl, 1) := by decide +kernel
theorem dX2_significand_36 : decode cX2_significand 36 = .ok (.lstore_n 2, 1) := by decide +kernel
theorem dX2_significand_37 : decode cX2_significand 37 = .ok (.goto (-12), 3) := by decide +kernel
theorem dX2_significand_40 : decode cX2_significand 40 = .ok (.lload_n 2, 1) := by decide +kernel
theorem dX2_significand_41 : decode cX2_significand 41 = .ok (.lreturn, 1) := by decide +kernel
theorem dX2_rounded_0 : decode cX2_rounded 0 = .ok (.lload_n 0, 1) := by decide +kernel
theorem dX2_rounded_1 : decode cX2_rounded 1 = .ok (.lstore 6, 2) := by decide +kernel
theorem dX2_rounded_3 : decode cX2_rounded 3 = .ok (.iload_n 2, 1) := by decide +kernel
theorem dX2_rounded_4 : decode cX2_rounded 4 = .ok (.istore 8, 2) := by decide +kernel
theorem dX2_rounded_6 : decode cX2_rounded 6 = .ok (.lload 6, 2) := by decide +kernel
theorem dX2_rounded_8 : decode cX2_rounded 8 = .ok (.ldc2_w 23, 3) := by decide +kernel
theorem dX2_rounded_11 : decode cX2_rounded 11 = .ok (.lcmp, 1) := by decide +kernel
theorem dX2_rounded_12 : decode cX2_rounded 12 = .ok (.ifCond .ge 15, 3) := by decide +kernel
theorem dX2_rounded_15 : decode cX2_rounded 15 = .ok (.lload 6, 2) := by decide +kernel
theorem dX2_rounded_17 : decode cX2_rounded 17 = .ok (.iconst 1, 1) := by decide +kernel
theorem dX2_rounded_18 : decode cX2_rounded 18 = .ok (.lshl, 1) := by decide +kernel
theorem dX2_rounded_19 : decode cX2_rounded 19 = .ok (.lstore 6, 2) := by decide +kernel
theorem dX2_rounded_21 : decode cX2_rounded 21 = .ok (.iinc 8 (-1), 3) := by decide +kernel
theorem dX2_rounded_24 : decode cX2_rounded 24 = .ok (.goto (-18), 3) := by decide +kernel
theorem dX2_rounded_27 : decode cX2_rounded 27 = .ok (.iload 8, 2) := by decide +kernel
theorem dX2_rounded_29 : decode cX2_rounded 29 = .ok (.bipush 61, 2) := by decide +kernel
theorem dX2_rounded_31 : decode cX2_rounded 31 = .ok (.iadd, 1) := by decide +kernel
theorem dX2_rounded_32 : decode cX2_rounded 32 = .ok (.iload 5, 2) := by decide +kernel
theorem dX2_rounded_34 : decode cX2_rounded 34 = .ok (.iadd, 1) := by decide +kernel
theorem dX2_rounded_35 : decode cX2_rounded 35 = .ok (.istore 9, 2) := by decide +kernel
theorem dX2_rounded_37 : decode cX2_rounded 37 = .ok (.iconst 2, 1) := by decide +kernel
theorem dX2_rounded_38 : decode cX2_rounded 38 = .ok (.iload 5, 2) := by decide +kernel
theorem dX2_rounded_40 : decode cX2_rounded 40 = .ok (.imul, 1) := by decide +kernel
theorem dX2_rounded_41 : decode cX2_rounded 41 = .ok (.iconst 1, 1) := by decide +kernel
theorem dX2_rounded_42 : decode cX2_rounded 42 = .ok (.iadd, 1) := by decide +kernel
theorem dX2_rounded_43 : decode cX2_rounded 43 = .ok (.istore 10, 2) := by decide +kernel
theorem dX2_rounded_45 : decode cX2_rounded 45 = .ok (.iload 9, 2) := by decide +kernel
theorem dX2_rounded_47 : decode cX2_rounded 47 = .ok (.iload 10, 2) := by decide +kernel
theorem dX2_rounded_49 : decode cX2_rounded 49 = .ok (.if_icmp .lt 12, 3) := by decide +kernel
theorem dX2_rounded_52 : decode cX2_rounded 52 = .ok (.iload 10, 2) := by decide +kernel
theorem dX2_rounded_54 : decode cX2_rounded 54 = .ok (.i2l, 1) := by decide +kernel
theorem dX2_rounded_55 : decode cX2_rounded 55 = .ok (.iload 4, 2) := by decide +kernel
theorem dX2_rounded_57 : decode cX2_rounded 57 = .ok (.iconst 1, 1) := by decide +kernel
theorem dX2_rounded_58 : decode cX2_rounded 58 = .ok (.isub, 1) := by decide +kernel
theorem dX2_rounded_59 : decode cX2_rounded 59 = .ok (.lshl, 1) := by decide +kernel
theorem dX2_rounded_60 : decode cX2_rounded 60 = .ok (.lreturn, 1) := by decide +kernel
theorem dX2_rounded_61 : decode cX2_rounded 61 = .ok (.bipush 62, 2) := by decide +kernel
theorem dX2_rounded_63 : decode cX2_rounded 63 = .ok (.iload 4, 2) := by decide +kernel
theorem dX2_rounded_65 : decode cX2_rounded 65 = .ok (.isub, 1) := by decide +kernel
theorem dX2_rounded_66 : decode cX2_rounded 66 = .ok (.istore 11, 2) := by decide +kernel
theorem dX2_rounded_68 : decode cX2_rounded 68 = .ok (.iload 9, 2) := by decide +kernel
theorem dX2_rounded_70 : decode cX2_rounded 70 = .ok (.ifCond .gt 12, 3) := by decide +kernel
theorem dX2_rounded_73 : decode cX2_rounded 73 = .ok (.iload 11, 2) := by decide +kernel
theorem dX2_rounded_75 : decode cX2_rounded 75 = .ok (.iconst 1, 1) := by decide +kernel
theorem dX2_rounded_76 : decode cX2_rounded 76 = .ok (.iadd, 1) := by decide +kernel
theorem dX2_rounded_77 : decode cX2_rounded 77 = .ok (.iload 9, 2) := by decide +kernel
theorem dX2_rounded_79 : decode cX2_rounded 79 = .ok (.isub, 1) := by decide +kernel
theorem dX2_rounded_80 : decode cX2_rounded 80 = .ok (.istore 11, 2) := by decide +kernel
theorem dX2_rounded_82 : decode cX2_rounded 82 = .ok (.iload 11, 2) := by decide +kernel
theorem dX2_rounded_84 : decode cX2_rounded 84 = .ok (.bipush 62, 2) := by decide +kernel
theorem dX2_rounded_86 : decode cX2_rounded 86 = .ok (.if_icmp .le 5, 3) := by decide +kernel
theorem dX2_rounded_89 : decode cX2_rounded 89 = .ok (.lconst 0, 1) := by decide +kernel
theorem dX2_rounded_90 : decode cX2_rounded 90 = .ok (.lreturn, 1) := by decide +kernel
theorem dX2_rounded_91 : decode cX2_rounded 91 = .ok (.lload 6, 2) := by decide +kernel
theorem dX2_rounded_93 : decode cX2_rounded 93 = .ok (.iload 11, 2) := by decide +kernel
theorem dX2_rounded_95 : decode cX2_rounded 95 = .ok (.lushr, 1) := by decide +kernel
theorem dX2_rounded_96 : decode cX2_rounded 96 = .ok (.lstore 12, 2) := by decide +kernel
theorem dX2_rounded_98 : decode cX2_rounded 98 = .ok (.lload 6, 2) := by decide +kernel
theorem dX2_rounded_100 : decode cX2_rounded 100 = .ok (.lconst 1, 1) := by decide +kernel
theorem dX2_rounded_101 : decode cX2_rounded 101 = .ok (.iload 11, 2) := by decide +kernel
theorem dX2_rounded_103 : decode cX2_rounded 103 = .ok (.lshl, 1) := by decide +kernel
theorem dX2_rounded_104 : decode cX2_rounded 104 = .ok (.lconst 1, 1) := by decide +kernel
theorem dX2_rounded_105 : decode cX2_rounded 105 = .ok (.lsub, 1) := by decide +kernel
theorem dX2_rounded_106 : decode cX2_rounded 106 = .ok (.land, 1) := by decide +kernel
theorem dX2_rounded_107 : decode cX2_rounded 107 = .ok (.lstore 14, 2) := by decide +kernel
theorem dX2_rounded_109 : decode cX2_rounded 109 = .ok (.lconst 1, 1) := by decide +kernel
theorem dX2_rounded_110 : decode cX2_rounded 110 = .ok (.iload 11, 2) := by decide +kernel
theorem dX2_rounded_112 : decode cX2_rounded 112 = .ok (.iconst 1, 1) := by decide +kernel
theorem dX2_rounded_113 : decode cX2_rounded 113 = .ok (.isub, 1) := by decide +kernel
theorem dX2_rounded_114 : decode cX2_rounded 114 = .ok (.lshl, 1) := by decide +kernel
theorem dX2_rounded_115 : decode cX2_rounded 115 = .ok (.lstore 16, 2) := by decide +kernel
theorem dX2_rounded_117 : decode cX2_rounded 117 = .ok (.lload 14, 2) := by decide +kernel
theorem dX2_rounded_119 : decode cX2_rounded 119 = .ok (.lload 16, 2) := by decide +kernel
theorem dX2_rounded_121 : decode cX2_rounded 121 = .ok (.lcmp, 1) := by decide +kernel
theorem dX2_rounded_122 : decode cX2_rounded 122 = .ok (.ifCond .gt 24, 3) := by decide +kernel
theorem dX2_rounded_125 : decode cX2_rounded 125 = .ok (.lload 14, 2) := by decide +kernel
theorem dX2_rounded_127 : decode cX2_rounded 127 = .ok (.lload 16, 2) := by decide +kernel
theorem dX2_rounded_129 : decode cX2_rounded 129 = .ok (.lcmp, 1) := by decide +kernel
theorem dX2_rounded_130 : decode cX2_rounded 130 = .ok (.ifCond .ne 22, 3) := by decide +kernel
theorem dX2_rounded_133 : decode cX2_rounded 133 = .ok (.iload_n 3, 1) := by decide +kernel
theorem dX2_rounded_134 : decode cX2_rounded 134 = .ok (.ifCond .ne 12, 3) := by decide +kernel
theorem dX2_rounded_137 : decode cX2_rounded 137 = .ok (.lload 12, 2) := by decide +kernel
theorem dX2_rounded_139 : decode cX2_rounded 139 = .ok (.lconst 1, 1) := by decide +kernel
theorem dX2_rounded_140 : decode cX2_rounded 140 = .ok (.land, 1) := by decide +kernel
theorem dX2_rounded_141 : decode cX2_rounded 141 = .ok (.lconst 1, 1) := by decide +kernel
theorem dX2_rounded_142 : decode cX2_rounded 142 = .ok (.lcmp, 1) := by decide +kernel
theorem dX2_rounded_143 : decode cX2_rounded 143 = .ok (.ifCond .ne 9, 3) := by decide +kernel
theorem dX2_rounded_146 : decode cX2_rounded 146 = .ok (.lload 12, 2) := by decide +kernel
theorem dX2_rounded_148 : decode cX2_rounded 148 = .ok (.lconst 1, 1) := by decide +kernel
theorem dX2_rounded_149 : decode cX2_rounded 149 = .ok (.ladd, 1) := by decide +kernel
theorem dX2_rounded_150 : decode cX2_rounded 150 = .ok (.lstore 12, 2) := by decide +kernel
theorem dX2_rounded_152 : decode cX2_rounded 152 = .ok (.iload 9, 2) := by decide +kernel
theorem dX2_rounded_154 : decode cX2_rounded 154 = .ok (.ifCond .gt 8, 3) := by decide +kernel
theorem dX2_rounded_157 : decode cX2_rounded 157 = .ok (.lload 12, 2) := by decide +kernel
theorem dX2_rounded_159 : decode cX2_rounded 159 = .ok (.goto 16, 3) := by decide +kernel
theorem dX2_rounded_162 : decode cX2_rounded 162 = .ok (.iload 9, 2) := by decide +kernel
theorem dX2_rounded_164 : decode cX2_rounded 164 = .ok (.iconst 1, 1) := by decide +kernel
theorem dX2_rounded_165 : decode cX2_rounded 165 = .ok (.isub, 1) := by decide +kernel
theorem dX2_rounded_166 : decode cX2_rounded 166 = .ok (.i2l, 1) := by decide +kernel
theorem dX2_rounded_167 : decode cX2_rounded 167 = .ok (.iload 4, 2) := by decide +kernel
theorem dX2_rounded_169 : decode cX2_rounded 169 = .ok (.iconst 1, 1) := by decide +kernel
theorem dX2_rounded_170 : decode cX2_rounded 170 = .ok (.isub, 1) := by decide +kernel
theorem dX2_rounded_171 : decode cX2_rounded 171 = .ok (.lshl, 1) := by decide +kernel
theorem dX2_rounded_172 : decode cX2_rounded 172 = .ok (.lload 12, 2) := by decide +kernel
theorem dX2_rounded_174 : decode cX2_rounded 174 = .ok (.ladd, 1) := by decide +kernel
theorem dX2_rounded_175 : decode cX2_rounded 175 = .ok (.lreturn, 1) := by decide +kernel
set_option maxRecDepth 20000 in
theorem ggX2_made_X2_rounded : GoodIn wsX2_made wsX2_rounded := goodIn_r _ [5, 6] (by decide +kernel) (by decide +kernel)
set_option maxRecDepth 20000 in
theorem gX2_made_X2_rounded : GoodIn wsX2_made (va_wsS RX2 25 yX2_rounded wsX2_rounded) := goodIn_app (goodIn_of _ (by decide +kernel)) ggX2_made_X2_rounded
theorem dX2_made_0 : decode cX2_made 0 = .ok (.lload_n 1, 1) := by decide +kernel
theorem dX2_made_1 : decode cX2_made 1 = .ok (.iload_n 3, 1) := by decide +kernel
theorem dX2_made_2 : decode cX2_made 2 = .ok (.iload 4, 2) := by decide +kernel
theorem dX2_made_4 : decode cX2_made 4 = .ok (.bipush 53, 2) := by decide +kernel
theorem dX2_made_6 : decode cX2_made 6 = .ok (.sipush 1023, 3) := by decide +kernel
theorem dX2_made_9 : decode cX2_made 9 = .ok (.invokestatic 25, 3) := by decide +kernel
theorem dX2_made_12 : decode cX2_made 12 = .ok (.lstore 5, 2) := by decide +kernel
theorem dX2_made_14 : decode cX2_made 14 = .ok (.iload_n 0, 1) := by decide +kernel
theorem dX2_made_15 : decode cX2_made 15 = .ok (.ifCond .eq 12, 3) := by decide +kernel
theorem dX2_made_18 : decode cX2_made 18 = .ok (.lload 5, 2) := by decide +kernel
theorem dX2_made_20 : decode cX2_made 20 = .ok (.ldc2_w 15, 3) := by decide +kernel
theorem dX2_made_23 : decode cX2_made 23 = .ok (.lor, 1) := by decide +kernel
theorem dX2_made_24 : decode cX2_made 24 = .ok (.goto 5, 3) := by decide +kernel
theorem dX2_made_27 : decode cX2_made 27 = .ok (.lload 5, 2) := by decide +kernel
theorem dX2_made_29 : decode cX2_made 29 = .ok (.lreturn, 1) := by decide +kernel
set_option maxRecDepth 20000 in
theorem ggX2_add_X2_isInfinite : GoodIn wsX2_add wsX2_isInfinite := goodIn_r _ [4, 5, 6] (by decide +kernel) (by decide +kernel)
set_option maxRecDepth 20000 in
theorem gX2_add_X2_isInfinite : GoodIn wsX2_add (va_wsS RX2 29 yX2_isInfinite wsX2_isInfinite) := goodIn_app (goodIn_of _ (by decide +kernel)) ggX2_add_X2_isInfinite
set_option maxRecDepth 20000 in
theorem ggX2_add_X2_isZero : GoodIn wsX2_add wsX2_isZero := goodIn_r _ [9, 5] (by decide +kernel) (by decide +kernel)
set_option maxRecDepth 20000 in
theorem gX2_add_X2_isZero : GoodIn wsX2_add (va_wsS RX2 33 yX2_isZero wsX2_isZero) := goodIn_app (goodIn_of _ (by decide +kernel)) ggX2_add_X2_isZero
set_option maxRecDepth 20000 in
theorem ggX2_add_X2_exponent : GoodIn wsX2_add wsX2_exponent := goodIn_r _ [12, 13, 14, 15] (by decide +kernel) (by decide +kernel)
set_option maxRecDepth 20000 in
theorem gX2_add_X2_exponent : GoodIn wsX2_add (va_wsS RX2 36 yX2_exponent wsX2_exponent) := goodIn_app (goodIn_of _ (by decide +kernel)) ggX2_add_X2_exponent
set_option maxRecDepth 20000 in
theorem ggX2_add_X2_significand : GoodIn wsX2_add wsX2_significand := goodIn_r _ [18, 14, 13, 15] (by decide +kernel) (by decide +kernel)
set_option maxRecDepth 20000 in
theorem gX2_add_X2_significand : GoodIn wsX2_add (va_wsS RX2 40 yX2_significand wsX2_significand) := goodIn_app (goodIn_of _ (by decide +kernel)) ggX2_add_X2_significand
set_option maxRecDepth 20000 in
theorem ggX2_add_X2_made : GoodIn wsX2_add wsX2_made := goodIn_r _ [21, 22, 23, 24, 3, 25, 26] (by decide +kernel) (by decide +kernel)
set_option maxRecDepth 20000 in
theorem gX2_add_X2_made : GoodIn wsX2_add (va_wsS RX2 44 yX2_made wsX2_made) := goodIn_app (goodIn_of _ (by decide +kernel)) ggX2_add_X2_made
theorem dX2_add_0 : decode cX2_add 0 = .ok (.lload_n 0, 1) := by decide +kernel
theorem dX2_add_1 : decode cX2_add 1 = .ok (.invokestatic 29, 3) := by decide +kernel
theorem dX2_add_4 : decode cX2_add 4 = .ok (.ifCond .ne 10, 3) := by decide +kernel
theorem dX2_add_7 : decode cX2_add 7 = .ok (.lload_n 2, 1) := by decide +kernel
theorem dX2_add_8 : decode cX2_add 8 = .ok (.invokestatic 33, 3) := by decide +kernel
theorem dX2_add_11 : decode cX2_add 11 = .ok (.ifCond .eq 25, 3) := by decide +kernel
theorem dX2_add_14 : decode cX2_add 14 = .ok (.lload_n 0, 1) := by decide +kernel
theorem dX2_add_15 : decode cX2_add 15 = .ok (.invokestatic 33, 3) := by decide +kernel
theorem dX2_add_18 : decode cX2_add 18 = .ok (.ifCond .eq 16, 3) := by decide +kernel
theorem dX2_add_21 : decode cX2_add 21 = .ok (.lload_n 2, 1) := by decide +kernel
theorem dX2_add_22 : decode cX2_add 22 = .ok (.invokestatic 33, 3) := by decide +kernel
theorem dX2_add_25 : decode cX2_add 25 = .ok (.ifCond .eq 9, 3) := by decide +kernel
theorem dX2_add_28 : decode cX2_add 28 = .ok (.lload_n 0, 1) := by decide +kernel
theorem dX2_add_29 : decode cX2_add 29 = .ok (.lload_n 2, 1) := by decide +kernel
theorem dX2_add_30 : decode cX2_add 30 = .ok (.land, 1) := by decide +kernel
theorem dX2_add_31 : decode cX2_add 31 = .ok (.goto 4, 3) := by decide +kernel
theorem dX2_add_34 : decode cX2_add 34 = .ok (.lload_n 0, 1) := by decide +kernel
theorem dX2_add_35 : decode cX2_add 35 = .ok (.lreturn, 1) := by decide +kernel
theorem dX2_add_36 : decode cX2_add 36 = .ok (.lload_n 2, 1) := by decide +kernel
theorem dX2_add_37 : decode cX2_add 37 = .ok (.invokestatic 29, 3) := by decide +kernel
theorem dX2_add_40 : decode cX2_add 40 = .ok (.ifCond .ne 10, 3) := by decide +kernel
theorem dX2_add_43 : decode cX2_add 43 = .ok (.lload_n 0, 1) := by decide +kernel
theorem dX2_add_44 : decode cX2_add 44 = .ok (.invokestatic 33, 3) := by decide +kernel
theorem dX2_add_47 : decode cX2_add 47 = .ok (.ifCond .eq 5, 3) := by decide +kernel
theorem dX2_add_50 : decode cX2_add 50 = .ok (.lload_n 2, 1) := by decide +kernel
theorem dX2_add_51 : decode cX2_add 51 = .ok (.lreturn, 1) := by decide +kernel
theorem dX2_add_52 : decode cX2_add 52 = .ok (.lload_n 0, 1) := by decide +kernel
theorem dX2_add_53 : decode cX2_add 53 = .ok (.invokestatic 36, 3) := by decide +kernel
theorem dX2_add_56 : decode cX2_add 56 = .ok (.lload_n 2, 1) := by decide +kernel
theorem dX2_add_57 : decode cX2_add 57 = .ok (.invokestatic 36, 3) := by decide +kernel
theorem dX2_add_60 : decode cX2_add 60 = .ok (.if_icmp .gt 26, 3) := by decide +kernel
theorem dX2_add_63 : decode cX2_add 63 = .ok (.lload_n 0, 1) := by decide +kernel
theorem dX2_add_64 : decode cX2_add 64 = .ok (.invokestatic 36, 3) := by decide +kernel
theorem dX2_add_67 : decode cX2_add 67 = .ok (.lload_n 2, 1) := by decide +kernel
theorem dX2_add_68 : decode cX2_add 68 = .ok (.invokestatic 36, 3) := by decide +kernel
theorem dX2_add_71 : decode cX2_add 71 = .ok (.if_icmp .ne 19, 3) := by decide +kernel
theorem dX2_add_74 : decode cX2_add 74 = .ok (.lload_n 0, 1) := by decide +kernel
theorem dX2_add_75 : decode cX2_add 75 = .ok (.invokestatic 40, 3) := by decide +kernel
theorem dX2_add_78 : decode cX2_add 78 = .ok (.lload_n 2, 1) := by decide +kernel
theorem dX2_add_79 : decode cX2_add 79 = .ok (.invokestatic 40, 3) := by decide +kernel
theorem dX2_add_82 : decode cX2_add 82 = .ok (.lcmp, 1) := by decide +kernel
theorem dX2_add_83 : decode cX2_add 83 = .ok (.ifCond .lt 7, 3) := by decide +kernel
theorem dX2_add_86 : decode cX2_add 86 = .ok (.iconst 1, 1) := by decide +kernel
theorem dX2_add_87 : decode cX2_add 87 = .ok (.goto 4, 3) := by decide +kernel
theorem dX2_add_90 : decode cX2_add 90 = .ok (.iconst 0, 1) := by decide +kernel
theorem dX2_add_91 : decode cX2_add 91 = .ok (.istore 4, 2) := by decide +kernel
theorem dX2_add_93 : decode cX2_add 93 = .ok (.iload 4, 2) := by decide +kernel
theorem dX2_add_95 : decode cX2_add 95 = .ok (.ifCond .eq 7, 3) := by decide +kernel
theorem dX2_add_98 : decode cX2_add 98 = .ok (.lload_n 0, 1) := by decide +kernel
theorem dX2_add_99 : decode cX2_add 99 = .ok (.goto 4, 3) := by decide +kernel
theorem dX2_add_102 : decode cX2_add 102 = .ok (.lload_n 2, 1) := by decide +kernel
theorem dX2_add_103 : decode cX2_add 103 = .ok (.lstore 5, 2) := by decide +kernel
theorem dX2_add_105 : decode cX2_add 105 = .ok (.iload 4, 2) := by decide +kernel
theorem dX2_add_107 : decode cX2_add 107 = .ok (.ifCond .eq 7, 3) := by decide +kernel
theorem dX2_add_110 : decode cX2_add 110 = .ok (.lload_n 2, 1) := by decide +kernel
theorem dX2_add_111 : decode cX2_add 111 = .ok (.goto 4, 3) := by decide +kernel
theorem dX2_add_114 : decode cX2_add 114 = .ok (.lload_n 0, 1) := by decide +kernel
theorem dX2_add_115 : decode cX2_add 115 = .ok (.lstore 7, 2) := by decide +kernel
theorem dX2_add_117 : decode cX2_add 117 = .ok (.lload 5, 2) := by decide +kernel
theorem dX2_add_119 : decode cX2_add 119 = .ok (.invokestatic 36, 3) := by decide +kernel
theorem dX2_add_122 : decode cX2_add 122 = .ok (.bipush 8, 2) := by decide +kernel
theorem dX2_add_124 : decode cX2_add 124 = .ok (.isub, 1) := by decide +kernel
theorem dX2_add_125 : decode cX2_add 125 = .ok (.istore 9, 2) := by decide +kernel
theorem dX2_add_127 : decode cX2_add 127 = .ok (.lload 5, 2) := by decide +kernel
theorem dX2_add_129 : decode cX2_add 129 = .ok (.invokestatic 36, 3) := by decide +kernel
theorem dX2_add_132 : decode cX2_add 132 = .ok (.lload 7, 2) := by decide +kernel
theorem dX2_add_134 : decode cX2_add 134 = .ok (.invokestatic 36, 3) := by decide +kernel
theorem dX2_add_137 : decode cX2_add 137 = .ok (.isub, 1) := by decide +kernel
theorem dX2_add_138 : decode cX2_add 138 = .ok (.istore 10, 2) := by decide +kernel
theorem dX2_add_140 : decode cX2_add 140 = .ok (.lload 5, 2) := by decide +kernel
theorem dX2_add_142 : decode cX2_add 142 = .ok (.invokestatic 40, 3) := by decide +kernel
theorem dX2_add_145 : decode cX2_add 145 = .ok (.bipush 8, 2) := by decide +kernel
theorem dX2_add_147 : decode cX2_add 147 = .ok (.lshl, 1) := by decide +kernel
theorem dX2_add_148 : decode cX2_add 148 = .ok (.lstore 11, 2) := by decide +kernel
theorem dX2_add_150 : decode cX2_add 150 = .ok (.lload 7, 2) := by decide +kernel
theorem dX2_add_152 : decode cX2_add 152 = .ok (.invokestatic 40, 3) := by decide +kernel
theorem dX2_add_155 : decode cX2_add 155 = .ok (.bipush 8, 2) := by decide +kernel
theorem dX2_add_157 : decode cX2_add 157 = .ok (.lshl, 1) := by decide +kernel
theorem dX2_add_158 : decode cX2_add 158 = .ok (.lstore 13, 2) := by decide +kernel
theorem dX2_add_160 : decode cX2_add 160 = .ok (.iload 10, 2) := by decide +kernel
theorem dX2_add_162 : decode cX2_add 162 = .ok (.bipush 62, 2) := by decide +kernel
theorem dX2_add_164 : decode cX2_add 164 = .ok (.if_icmp .le 7, 3) := by decide +kernel
theorem dX2_add_167 : decode cX2_add 167 = .ok (.lconst 0, 1) := by decide +kernel
theorem dX2_add_168 : decode cX2_add 168 = .ok (.goto 8, 3) := by decide +kernel
theorem dX2_add_171 : decode cX2_add 171 = .ok (.lload 13, 2) := by decide +kernel
theorem dX2_add_173 : decode cX2_add 173 = .ok (.iload 10, 2) := by decide +kernel
theorem dX2_add_175 : decode cX2_add 175 = .ok (.lushr, 1) := by decide +kernel
theorem dX2_add_176 : decode cX2_add 176 = .ok (.lstore 15, 2) := by decide +kernel
theorem dX2_add_178 : decode cX2_add 178 = .ok (.iload 10, 2) := by decide +kernel
theorem dX2_add_180 : decode cX2_add 180 = .ok (.bipush 62, 2) := by decide +kernel
theorem dX2_add_182 : decode cX2_add 182 = .ok (.if_icmp .gt 14, 3) := by decide +kernel
theorem dX2_add_185 : decode cX2_add 185 = .ok (.lload 15, 2) := by decide +kernel
theorem dX2_add_187 : decode cX2_add 187 = .ok (.iload 10, 2) := by decide +kernel
theorem dX2_add_189 : decode cX2_add 189 = .ok (.lshl, 1) := by decide +kernel
theorem dX2_add_190 : decode cX2_add 190 = .ok (.lload 13, 2) := by decide +kernel
theorem dX2_add_192 : decode cX2_add 192 = .ok (.lcmp, 1) := by decide +kernel
theorem dX2_add_193 : decode cX2_add 193 = .ok (.ifCond .eq 7, 3) := by decide +kernel
theorem dX2_add_196 : decode cX2_add 196 = .ok (.iconst 1, 1) := by decide +kernel
theorem dX2_add_197 : decode cX2_add 197 = .ok (.goto 4, 3) := by decide +kernel
theorem dX2_add_200 : decode cX2_add 200 = .ok (.iconst 0, 1) := by decide +kernel
theorem dX2_add_201 : decode cX2_add 201 = .ok (.istore 17, 2) := by decide +kernel
theorem dX2_add_203 : decode cX2_add 203 = .ok (.lload 5, 2) := by decide +kernel
theorem dX2_add_205 : decode cX2_add 205 = .ok (.lconst 0, 1) := by decide +kernel
theorem dX2_add_206 : decode cX2_add 206 = .ok (.lcmp, 1) := by decide +kernel
theorem dX2_add_207 : decode cX2_add 207 = .ok (.ifCond .ge 7, 3) := by decide +kernel
theorem dX2_add_210 : decode cX2_add 210 = .ok (.iconst 1, 1) := by decide +kernel
theorem dX2_add_211 : decode cX2_add 211 = .ok (.goto 4, 3) := by decide +kernel
theorem dX2_add_214 : decode cX2_add 214 = .ok (.iconst 0, 1) := by decide +kernel
theorem dX2_add_215 : decode cX2_add 215 = .ok (.lload 7, 2) := by decide +kernel
theorem dX2_add_217 : decode cX2_add 217 = .ok (.lconst 0, 1) := by decide +kernel
theorem dX2_add_218 : decode cX2_add 218 = .ok (.lcmp, 1) := by decide +kernel
theorem dX2_add_219 : decode cX2_add 219 = .ok (.ifCond .ge 7, 3) := by decide +kernel
theorem dX2_add_222 : decode cX2_add 222 = .ok (.iconst 1, 1) := by decide +kernel
theorem dX2_add_223 : decode cX2_add 223 = .ok (.goto 4, 3) := by decide +kernel
theorem dX2_add_226 : decode cX2_add 226 = .ok (.iconst 0, 1) := by decide +kernel
theorem dX2_add_227 : decode cX2_add 227 = .ok (.if_icmp .ne 28, 3) := by decide +kernel
theorem dX2_add_230 : decode cX2_add 230 = .ok (.lload 5, 2) := by decide +kernel
theorem dX2_add_232 : decode cX2_add 232 = .ok (.lconst 0, 1) := by decide +kernel
theorem dX2_add_233 : decode cX2_add 233 = .ok (.lcmp, 1) := by decide +kernel
theorem dX2_add_234 : decode cX2_add 234 = .ok (.ifCond .ge 7, 3) := by decide +kernel
theorem dX2_add_237 : decode cX2_add 237 = .ok (.iconst 1, 1) := by decide +kernel
theorem dX2_add_238 : decode cX2_add 238 = .ok (.goto 4, 3) := by decide +kernel
theorem dX2_add_241 : decode cX2_add 241 = .ok (.iconst 0, 1) := by decide +kernel
theorem dX2_add_242 : decode cX2_add 242 = .ok (.lload 11, 2) := by decide +kernel
theorem dX2_add_244 : decode cX2_add 244 = .ok (.lload 15, 2) := by decide +kernel
theorem dX2_add_246 : decode cX2_add 246 = .ok (.ladd, 1) := by decide +kernel
theorem dX2_add_247 : decode cX2_add 247 = .ok (.iload 9, 2) := by decide +kernel
theorem dX2_add_249 : decode cX2_add 249 = .ok (.iload 17, 2) := by decide +kernel
theorem dX2_add_251 : decode cX2_add 251 = .ok (.invokestatic 44, 3) := by decide +kernel
theorem dX2_add_254 : decode cX2_add 254 = .ok (.lreturn, 1) := by decide +kernel
theorem dX2_add_255 : decode cX2_add 255 = .ok (.lload 11, 2) := by decide +kernel
theorem dX2_add_257 : decode cX2_add 257 = .ok (.lload 15, 2) := by decide +kernel
theorem dX2_add_259 : decode cX2_add 259 = .ok (.lsub, 1) := by decide +kernel
theorem dX2_add_260 : decode cX2_add 260 = .ok (.iload 17, 2) := by decide +kernel
theorem dX2_add_262 : decode cX2_add 262 = .ok (.ifCond .eq 7, 3) := by decide +kernel
theorem dX2_add_265 : decode cX2_add 265 = .ok (.iconst 1, 1) := by decide +kernel
theorem dX2_add_266 : decode cX2_add 266 = .ok (.goto 4, 3) := by decide +kernel
theorem dX2_add_269 : decode cX2_add 269 = .ok (.iconst 0, 1) := by decide +kernel
theorem dX2_add_270 : decode cX2_add 270 = .ok (.i2l, 1) := by decide +kernel
theorem dX2_add_271 : decode cX2_add 271 = .ok (.lsub, 1) := by decide +kernel
theorem dX2_add_272 : decode cX2_add 272 = .ok (.lstore 18, 2) := by decide +kernel
theorem dX2_add_274 : decode cX2_add 274 = .ok (.lload 18, 2) := by decide +kernel
theorem dX2_add_276 : decode cX2_add 276 = .ok (.lconst 0, 1) := by decide +kernel
theorem dX2_add_277 : decode cX2_add 277 = .ok (.lcmp, 1) := by decide +kernel
theorem dX2_add_278 : decode cX2_add 278 = .ok (.ifCond .ne 12, 3) := by decide +kernel
theorem dX2_add_281 : decode cX2_add 281 = .ok (.iload 17, 2) := by decide +kernel
theorem dX2_add_283 : decode cX2_add 283 = .ok (.ifCond .ne 7, 3) := by decide +kernel
theorem dX2_add_286 : decode cX2_add 286 = .ok (.lconst 0, 1) := by decide +kernel
theorem dX2_add_287 : decode cX2_add 287 = .ok (.goto 24, 3) := by decide +kernel
theorem dX2_add_290 : decode cX2_add 290 = .ok (.lload 5, 2) := by decide +kernel
theorem dX2_add_292 : decode cX2_add 292 = .ok (.lconst 0, 1) := by decide +kernel
theorem dX2_add_293 : decode cX2_add 293 = .ok (.lcmp, 1) := by decide +kernel
theorem dX2_add_294 : decode cX2_add 294 = .ok (.ifCond .ge 7, 3) := by decide +kernel
theorem dX2_add_297 : decode cX2_add 297 = .ok (.iconst 1, 1) := by decide +kernel
theorem dX2_add_298 : decode cX2_add 298 = .ok (.goto 4, 3) := by decide +kernel
theorem dX2_add_301 : decode cX2_add 301 = .ok (.iconst 0, 1) := by decide +kernel
theorem dX2_add_302 : decode cX2_add 302 = .ok (.lload 18, 2) := by decide +kernel
theorem dX2_add_304 : decode cX2_add 304 = .ok (.iload 9, 2) := by decide +kernel
theorem dX2_add_306 : decode cX2_add 306 = .ok (.iload 17, 2) := by decide +kernel
theorem dX2_add_308 : decode cX2_add 308 = .ok (.invokestatic 44, 3) := by decide +kernel
theorem dX2_add_311 : decode cX2_add 311 = .ok (.lreturn, 1) := by decide +kernel
set_option maxRecDepth 20000 in
theorem ggX2_multiply_X2_isInfinite : GoodIn wsX2_multiply wsX2_isInfinite := goodIn_r _ [8, 9, 2] (by decide +kernel) (by decide +kernel)
set_option maxRecDepth 20000 in
theorem gX2_multiply_X2_isInfinite : GoodIn wsX2_multiply (va_wsS RX2 29 yX2_isInfinite wsX2_isInfinite) := goodIn_app (goodIn_of _ (by decide +kernel)) ggX2_multiply_X2_isInfinite
set_option maxRecDepth 20000 in
theorem ggX2_multiply_X2_isZero : GoodIn wsX2_multiply wsX2_isZero := goodIn_r _ [12, 9] (by decide +kernel) (by decide +kernel)
set_option maxRecDepth 20000 in
theorem gX2_multiply_X2_isZero : GoodIn wsX2_multiply (va_wsS RX2 33 yX2_isZero wsX2_isZero) := goodIn_app (goodIn_of _ (by decide +kernel)) ggX2_multiply_X2_isZero
set_option maxRecDepth 20000 in
theorem ggX2_multiply_X2_significand : GoodIn wsX2_multiply wsX2_significand := goodIn_r _ [15, 16, 17, 18] (by decide +kernel) (by decide +kernel)
set_option maxRecDepth 20000 in
theorem gX2_multiply_X2_significand : GoodIn wsX2_multiply (va_wsS RX2 40 yX2_significand wsX2_significand) := goodIn_app (goodIn_of _ (by decide +kernel)) ggX2_multiply_X2_significand
set_option maxRecDepth 20000 in
theorem ggX2_multiply_X2_exponent : GoodIn wsX2_multiply wsX2_exponent := goodIn_r _ [21, 17, 16, 18] (by decide +kernel) (by decide +kernel)
set_option maxRecDepth 20000 in
theorem gX2_multiply_X2_exponent : GoodIn wsX2_multiply (va_wsS RX2 36 yX2_exponent wsX2_exponent) := goodIn_app (goodIn_of _ (by decide +kernel)) ggX2_multiply_X2_exponent
set_option maxRecDepth 20000 in
theorem ggX2_multiply_X2_made : GoodIn wsX2_multiply wsX2_made := goodIn_r _ [24, 1, 25, 26, 7, 27, 28] (by decide +kernel) (by decide +kernel)
set_option maxRecDepth 20000 in
theorem gX2_multiply_X2_made : GoodIn wsX2_multiply (va_wsS RX2 44 yX2_made wsX2_made) := goodIn_app (goodIn_of _ (by decide +kernel)) ggX2_multiply_X2_made
theorem dX2_multiply_0 : decode cX2_multiply 0 = .ok (.lload_n 0, 1) := by decide +kernel
theorem dX2_multiply_1 : decode cX2_multiply 1 = .ok (.lload_n 2, 1) := by decide +kernel
theorem dX2_multiply_2 : decode cX2_multiply 2 = .ok (.lxor, 1) := by decide +kernel
theorem dX2_multiply_3 : decode cX2_multiply 3 = .ok (.ldc2_w 15, 3) := by decide +kernel
theorem dX2_multiply_6 : decode cX2_multiply 6 = .ok (.land, 1) := by decide +kernel
theorem dX2_multiply_7 : decode cX2_multiply 7 = .ok (.lstore 4, 2) := by decide +kernel
theorem dX2_multiply_9 : decode cX2_multiply 9 = .ok (.lload_n 0, 1) := by decide +kernel
theorem dX2_multiply_10 : decode cX2_multiply 10 = .ok (.invokestatic 29, 3) := by decide +kernel
theorem dX2_multiply_13 : decode cX2_multiply 13 = .ok (.ifCond .ne 10, 3) := by decide +kernel
theorem dX2_multiply_16 : decode cX2_multiply 16 = .ok (.lload_n 2, 1) := by decide +kernel
theorem dX2_multiply_17 : decode cX2_multiply 17 = .ok (.invokestatic 29, 3) := by decide +kernel
theorem dX2_multiply_20 : decode cX2_multiply 20 = .ok (.ifCond .eq 10, 3) := by decide +kernel
theorem dX2_multiply_23 : decode cX2_multiply 23 = .ok (.lload 4, 2) := by decide +kernel
theorem dX2_multiply_25 : decode cX2_multiply 25 = .ok (.ldc2_w 13, 3) := by decide +kernel
theorem dX2_multiply_28 : decode cX2_multiply 28 = .ok (.lor, 1) := by decide +kernel
theorem dX2_multiply_29 : decode cX2_multiply 29 = .ok (.lreturn, 1) := by decide +kernel
theorem dX2_multiply_30 : decode cX2_multiply 30 = .ok (.lload_n 0, 1) := by decide +kernel
theorem dX2_multiply_31 : decode cX2_multiply 31 = .ok (.invokestatic 33, 3) := by decide +kernel
theorem dX2_multiply_34 : decode cX2_multiply 34 = .ok (.ifCond .ne 10, 3) := by decide +kernel
theorem dX2_multiply_37 : decode cX2_multiply 37 = .ok (.lload_n 2, 1) := by decide +kernel
theorem dX2_multiply_38 : decode cX2_multiply 38 = .ok (.invokestatic 33, 3) := by decide +kernel
theorem dX2_multiply_41 : decode cX2_multiply 41 = .ok (.ifCond .eq 6, 3) := by decide +kernel
theorem dX2_multiply_44 : decode cX2_multiply 44 = .ok (.lload 4, 2) := by decide +kernel
theorem dX2_multiply_46 : decode cX2_multiply 46 = .ok (.lreturn, 1) := by decide +kernel
theorem dX2_multiply_47 : decode cX2_multiply 47 = .ok (.lload_n 0, 1) := by decide +kernel
theorem dX2_multiply_48 : decode cX2_multiply 48 = .ok (.invokestatic 40, 3) := by decide +kernel
theorem dX2_multiply_51 : decode cX2_multiply 51 = .ok (.lstore 6, 2) := by decide +kernel
theorem dX2_multiply_53 : decode cX2_multiply 53 = .ok (.lload_n 2, 1) := by decide +kernel
theorem dX2_multiply_54 : decode cX2_multiply 54 = .ok (.invokestatic 40, 3) := by decide +kernel
theorem dX2_multiply_57 : decode cX2_multiply 57 = .ok (.lstore 8, 2) := by decide +kernel
theorem dX2_multiply_59 : decode cX2_multiply 59 = .ok (.ldc2_w 48, 3) := by decide +kernel
theorem dX2_multiply_62 : decode cX2_multiply 62 = .ok (.lstore 10, 2) := by decide +kernel
theorem dX2_multiply_64 : decode cX2_multiply 64 = .ok (.lload 6, 2) := by decide +kernel
theorem dX2_multiply_66 : decode cX2_multiply 66 = .ok (.lload 10, 2) := by decide +kernel
theorem dX2_multiply_68 : decode cX2_multiply 68 = .ok (.land, 1) := by decide +kernel
theorem dX2_multiply_69 : decode cX2_multiply 69 = .ok (.lload 8, 2) := by decide +kernel
theorem dX2_multiply_71 : decode cX2_multiply 71 = .ok (.lload 10, 2) := by decide +kernel
theorem dX2_multiply_73 : decode cX2_multiply 73 = .ok (.land, 1) := by decide +kernel
theorem dX2_multiply_74 : decode cX2_multiply 74 = .ok (.lmul, 1) := by decide +kernel
theorem dX2_multiply_75 : decode cX2_multiply 75 = .ok (.lstore 12, 2) := by decide +kernel
theorem dX2_multiply_77 : decode cX2_multiply 77 = .ok (.lload 6, 2) := by decide +kernel
theorem dX2_multiply_79 : decode cX2_multiply 79 = .ok (.bipush 27, 2) := by decide +kernel
theorem dX2_multiply_81 : decode cX2_multiply 81 = .ok (.lushr, 1) := by decide +kernel
theorem dX2_multiply_82 : decode cX2_multiply 82 = .ok (.lload 8, 2) := by decide +kernel
theorem dX2_multiply_84 : decode cX2_multiply 84 = .ok (.lload 10, 2) := by decide +kernel
theorem dX2_multiply_86 : decode cX2_multiply 86 = .ok (.land, 1) := by decide +kernel
theorem dX2_multiply_87 : decode cX2_multiply 87 = .ok (.lmul, 1) := by decide +kernel
theorem dX2_multiply_88 : decode cX2_multiply 88 = .ok (.lload 6, 2) := by decide +kernel
theorem dX2_multiply_90 : decode cX2_multiply 90 = .ok (.lload 10, 2) := by decide +kernel
theorem dX2_multiply_92 : decode cX2_multiply 92 = .ok (.land, 1) := by decide +kernel
theorem dX2_multiply_93 : decode cX2_multiply 93 = .ok (.lload 8, 2) := by decide +kernel
theorem dX2_multiply_95 : decode cX2_multiply 95 = .ok (.bipush 27, 2) := by decide +kernel
theorem dX2_multiply_97 : decode cX2_multiply 97 = .ok (.lushr, 1) := by decide +kernel
theorem dX2_multiply_98 : decode cX2_multiply 98 = .ok (.lmul, 1) := by decide +kernel
theorem dX2_multiply_99 : decode cX2_multiply 99 = .ok (.ladd, 1) := by decide +kernel
theorem dX2_multiply_100 : decode cX2_multiply 100 = .ok (.lload 12, 2) := by decide +kernel
theorem dX2_multiply_102 : decode cX2_multiply 102 = .ok (.bipush 27, 2) := by decide +kernel
theorem dX2_multiply_104 : decode cX2_multiply 104 = .ok (.lushr, 1) := by decide +kernel
theorem dX2_multiply_105 : decode cX2_multiply 105 = .ok (.ladd, 1) := by decide +kernel
theorem dX2_multiply_106 : decode cX2_multiply 106 = .ok (.lstore 14, 2) := by decide +kernel
theorem dX2_multiply_108 : decode cX2_multiply 108 = .ok (.lload 6, 2) := by decide +kernel
theorem dX2_multiply_110 : decode cX2_multiply 110 = .ok (.bipush 27, 2) := by decide +kernel
theorem dX2_multiply_112 : decode cX2_multiply 112 = .ok (.lushr, 1) := by decide +kernel
theorem dX2_multiply_113 : decode cX2_multiply 113 = .ok (.lload 8, 2) := by decide +kernel
theorem dX2_multiply_115 : decode cX2_multiply 115 = .ok (.bipush 27, 2) := by decide +kernel
theorem dX2_multiply_117 : decode cX2_multiply 117 = .ok (.lushr, 1) := by decide +kernel
theorem dX2_multiply_118 : decode cX2_multiply 118 = .ok (.lmul, 1) := by decide +kernel
theorem dX2_multiply_119 : decode cX2_multiply 119 = .ok (.lload 14, 2) := by decide +kernel
theorem dX2_multiply_121 : decode cX2_multiply 121 = .ok (.bipush 27, 2) := by decide +kernel
theorem dX2_multiply_123 : decode cX2_multiply 123 = .ok (.lushr, 1) := by decide +kernel
theorem dX2_multiply_124 : decode cX2_multiply 124 = .ok (.ladd, 1) := by decide +kernel
theorem dX2_multiply_125 : decode cX2_multiply 125 = .ok (.lstore 16, 2) := by decide +kernel
theorem dX2_multiply_127 : decode cX2_multiply 127 = .ok (.lload 14, 2) := by decide +kernel
theorem dX2_multiply_129 : decode cX2_multiply 129 = .ok (.lload 10, 2) := by decide +kernel
theorem dX2_multiply_131 : decode cX2_multiply 131 = .ok (.land, 1) := by decide +kernel
theorem dX2_multiply_132 : decode cX2_multiply 132 = .ok (.lstore 18, 2) := by decide +kernel
theorem dX2_multiply_134 : decode cX2_multiply 134 = .ok (.lload 12, 2) := by decide +kernel
theorem dX2_multiply_136 : decode cX2_multiply 136 = .ok (.lload 10, 2) := by decide +kernel
theorem dX2_multiply_138 : decode cX2_multiply 138 = .ok (.land, 1) := by decide +kernel
theorem dX2_multiply_139 : decode cX2_multiply 139 = .ok (.lconst 0, 1) := by decide +kernel
theorem dX2_multiply_140 : decode cX2_multiply 140 = .ok (.lcmp, 1) := by decide +kernel
theorem dX2_multiply_141 : decode cX2_multiply 141 = .ok (.ifCond .ne 14, 3) := by decide +kernel
theorem dX2_multiply_144 : decode cX2_multiply 144 = .ok (.lload 18, 2) := by decide +kernel
theorem dX2_multiply_146 : decode cX2_multiply 146 = .ok (.ldc2_w 50, 3) := by decide +kernel
theorem dX2_multiply_149 : decode cX2_multiply 149 = .ok (.land, 1) := by decide +kernel
theorem dX2_multiply_150 : decode cX2_multiply 150 = .ok (.lconst 0, 1) := by decide +kernel
theorem dX2_multiply_151 : decode cX2_multiply 151 = .ok (.lcmp, 1) := by decide +kernel
theorem dX2_multiply_152 : decode cX2_multiply 152 = .ok (.ifCond .eq 7, 3) := by decide +kernel
theorem dX2_multiply_155 : decode cX2_multiply 155 = .ok (.iconst 1, 1) := by decide +kernel
theorem dX2_multiply_156 : decode cX2_multiply 156 = .ok (.goto 4, 3) := by decide +kernel
theorem dX2_multiply_159 : decode cX2_multiply 159 = .ok (.iconst 0, 1) := by decide +kernel
theorem dX2_multiply_160 : decode cX2_multiply 160 = .ok (.istore 20, 2) := by decide +kernel
theorem dX2_multiply_162 : decode cX2_multiply 162 = .ok (.lload 4, 2) := by decide +kernel
theorem dX2_multiply_164 : decode cX2_multiply 164 = .ok (.lconst 0, 1) := by decide +kernel
theorem dX2_multiply_165 : decode cX2_multiply 165 = .ok (.lcmp, 1) := by decide +kernel
theorem dX2_multiply_166 : decode cX2_multiply 166 = .ok (.ifCond .eq 7, 3) := by decide +kernel
theorem dX2_multiply_169 : decode cX2_multiply 169 = .ok (.iconst 1, 1) := by decide +kernel
theorem dX2_multiply_170 : decode cX2_multiply 170 = .ok (.goto 4, 3) := by decide +kernel
theorem dX2_multiply_173 : decode cX2_multiply 173 = .ok (.iconst 0, 1) := by decide +kernel
theorem dX2_multiply_174 : decode cX2_multiply 174 = .ok (.lload 16, 2) := by decide +kernel
theorem dX2_multiply_176 : decode cX2_multiply 176 = .ok (.bipush 8, 2) := by decide +kernel
theorem dX2_multiply_178 : decode cX2_multiply 178 = .ok (.lshl, 1) := by decide +kernel
theorem dX2_multiply_179 : decode cX2_multiply 179 = .ok (.lload 18, 2) := by decide +kernel
theorem dX2_multiply_181 : decode cX2_multiply 181 = .ok (.bipush 19, 2) := by decide +kernel
theorem dX2_multiply_183 : decode cX2_multiply 183 = .ok (.lushr, 1) := by decide +kernel
theorem dX2_multiply_184 : decode cX2_multiply 184 = .ok (.lor, 1) := by decide +kernel
theorem dX2_multiply_185 : decode cX2_multiply 185 = .ok (.lload_n 0, 1) := by decide +kernel
theorem dX2_multiply_186 : decode cX2_multiply 186 = .ok (.invokestatic 36, 3) := by decide +kernel
theorem dX2_multiply_189 : decode cX2_multiply 189 = .ok (.lload_n 2, 1) := by decide +kernel
theorem dX2_multiply_190 : decode cX2_multiply 190 = .ok (.invokestatic 36, 3) := by decide +kernel
theorem dX2_multiply_193 : decode cX2_multiply 193 = .ok (.iadd, 1) := by decide +kernel
theorem dX2_multiply_194 : decode cX2_multiply 194 = .ok (.bipush 46, 2) := by decide +kernel
theorem dX2_multiply_196 : decode cX2_multiply 196 = .ok (.iadd, 1) := by decide +kernel
theorem dX2_multiply_197 : decode cX2_multiply 197 = .ok (.iload 20, 2) := by decide +kernel
theorem dX2_multiply_199 : decode cX2_multiply 199 = .ok (.invokestatic 44, 3) := by decide +kernel
theorem dX2_multiply_202 : decode cX2_multiply 202 = .ok (.lreturn, 1) := by decide +kernel
set_option maxRecDepth 20000 in
theorem ggX2_divide_X2_isInfinite : GoodIn wsX2_divide wsX2_isInfinite := goodIn_r _ [6, 7, 2] (by decide +kernel) (by decide +kernel)
set_option maxRecDepth 20000 in
theorem gX2_divide_X2_isInfinite : GoodIn wsX2_divide (va_wsS RX2 29 yX2_isInfinite wsX2_isInfinite) := goodIn_app (goodIn_of _ (by decide +kernel)) ggX2_divide_X2_isInfinite
set_option maxRecDepth 20000 in
theorem ggX2_divide_X2_isZero : GoodIn wsX2_divide wsX2_isZero := goodIn_r _ [10, 7] (by decide +kernel) (by decide +kernel)
set_option maxRecDepth 20000 in
theorem gX2_divide_X2_isZero : GoodIn wsX2_divide (va_wsS RX2 33 yX2_isZero wsX2_isZero) := goodIn_app (goodIn_of _ (by decide +kernel)) ggX2_divide_X2_isZero
set_option maxRecDepth 20000 in
theorem ggX2_divide_X2_significand : GoodIn wsX2_divide wsX2_significand := goodIn_r _ [13, 14, 15, 16] (by decide +kernel) (by decide +kernel)
set_option maxRecDepth 20000 in
theorem gX2_divide_X2_significand : GoodIn wsX2_divide (va_wsS RX2 40 yX2_significand wsX2_significand) := goodIn_app (goodIn_of _ (by decide +kernel)) ggX2_divide_X2_significand
set_option maxRecDepth 20000 in
theorem ggX2_divide_X2_exponent : GoodIn wsX2_divide wsX2_exponent := goodIn_r _ [19, 15, 14, 16] (by decide +kernel) (by decide +kernel)
set_option maxRecDepth 20000 in
theorem gX2_divide_X2_exponent : GoodIn wsX2_divide (va_wsS RX2 36 yX2_exponent wsX2_exponent) := goodIn_app (goodIn_of _ (by decide +kernel)) ggX2_divide_X2_exponent
set_option maxRecDepth 20000 in
theorem ggX2_divide_X2_made : GoodIn wsX2_divide wsX2_made := goodIn_r _ [22, 1, 23, 24, 5, 25, 26] (by decide +kernel) (by decide +kernel)
set_option maxRecDepth 20000 in
theorem gX2_divide_X2_made : GoodIn wsX2_divide (va_wsS RX2 44 yX2_made wsX2_made) := goodIn_app (goodIn_of _ (by decide +kernel)) ggX2_divide_X2_made
theorem dX2_divide_0 : decode cX2_divide 0 = .ok (.lload_n 0, 1) := by decide +kernel
theorem dX2_divide_1 : decode cX2_divide 1 = .ok (.lload_n 2, 1) := by decide +kernel
theorem dX2_divide_2 : decode cX2_divide 2 = .ok (.lxor, 1) := by decide +kernel
theorem dX2_divide_3 : decode cX2_divide 3 = .ok (.ldc2_w 15, 3) := by decide +kernel
theorem dX2_divide_6 : decode cX2_divide 6 = .ok (.land, 1) := by decide +kernel
theorem dX2_divide_7 : decode cX2_divide 7 = .ok (.lstore 4, 2) := by decide +kernel
theorem dX2_divide_9 : decode cX2_divide 9 = .ok (.lload_n 0, 1) := by decide +kernel
theorem dX2_divide_10 : decode cX2_divide 10 = .ok (.invokestatic 29, 3) := by decide +kernel
theorem dX2_divide_13 : decode cX2_divide 13 = .ok (.ifCond .ne 10, 3) := by decide +kernel
theorem dX2_divide_16 : decode cX2_divide 16 = .ok (.lload_n 2, 1) := by decide +kernel
theorem dX2_divide_17 : decode cX2_divide 17 = .ok (.invokestatic 33, 3) := by decide +kernel
theorem dX2_divide_20 : decode cX2_divide 20 = .ok (.ifCond .eq 10, 3) := by decide +kernel
theorem dX2_divide_23 : decode cX2_divide 23 = .ok (.lload 4, 2) := by decide +kernel
theorem dX2_divide_25 : decode cX2_divide 25 = .ok (.ldc2_w 13, 3) := by decide +kernel
theorem dX2_divide_28 : decode cX2_divide 28 = .ok (.lor, 1) := by decide +kernel
theorem dX2_divide_29 : decode cX2_divide 29 = .ok (.lreturn, 1) := by decide +kernel
theorem dX2_divide_30 : decode cX2_divide 30 = .ok (.lload_n 0, 1) := by decide +kernel
theorem dX2_divide_31 : decode cX2_divide 31 = .ok (.invokestatic 33, 3) := by decide +kernel
theorem dX2_divide_34 : decode cX2_divide 34 = .ok (.ifCond .ne 10, 3) := by decide +kernel
theorem dX2_divide_37 : decode cX2_divide 37 = .ok (.lload_n 2, 1) := by decide +kernel
theorem dX2_divide_38 : decode cX2_divide 38 = .ok (.invokestatic 29, 3) := by decide +kernel
theorem dX2_divide_41 : decode cX2_divide 41 = .ok (.ifCond .eq 6, 3) := by decide +kernel
theorem dX2_divide_44 : decode cX2_divide 44 = .ok (.lload 4, 2) := by decide +kernel
theorem dX2_divide_46 : decode cX2_divide 46 = .ok (.lreturn, 1) := by decide +kernel
theorem dX2_divide_47 : decode cX2_divide 47 = .ok (.lload_n 0, 1) := by decide +kernel
theorem dX2_divide_48 : decode cX2_divide 48 = .ok (.invokestatic 40, 3) := by decide +kernel
theorem dX2_divide_51 : decode cX2_divide 51 = .ok (.lstore 6, 2) := by decide +kernel
theorem dX2_divide_53 : decode cX2_divide 53 = .ok (.lload_n 2, 1) := by decide +kernel
theorem dX2_divide_54 : decode cX2_divide 54 = .ok (.invokestatic 40, 3) := by decide +kernel
theorem dX2_divide_57 : decode cX2_divide 57 = .ok (.lstore 8, 2) := by decide +kernel
theorem dX2_divide_59 : decode cX2_divide 59 = .ok (.lconst 0, 1) := by decide +kernel
theorem dX2_divide_60 : decode cX2_divide 60 = .ok (.lstore 10, 2) := by decide +kernel
theorem dX2_divide_62 : decode cX2_divide 62 = .ok (.iconst 0, 1) := by decide +kernel
theorem dX2_divide_63 : decode cX2_divide 63 = .ok (.istore 12, 2) := by decide +kernel
theorem dX2_divide_65 : decode cX2_divide 65 = .ok (.iload 12, 2) := by decide +kernel
theorem dX2_divide_67 : decode cX2_divide 67 = .ok (.bipush 57, 2) := by decide +kernel
theorem dX2_divide_69 : decode cX2_divide 69 = .ok (.if_icmp .ge 42, 3) := by decide +kernel
theorem dX2_divide_72 : decode cX2_divide 72 = .ok (.lload 10, 2) := by decide +kernel
theorem dX2_divide_74 : decode cX2_divide 74 = .ok (.iconst 1, 1) := by decide +kernel
theorem dX2_divide_75 : decode cX2_divide 75 = .ok (.lshl, 1) := by decide +kernel
theorem dX2_divide_76 : decode cX2_divide 76 = .ok (.lstore 10, 2) := by decide +kernel
theorem dX2_divide_78 : decode cX2_divide 78 = .ok (.lload 6, 2) := by decide +kernel
theorem dX2_divide_80 : decode cX2_divide 80 = .ok (.lload 8, 2) := by decide +kernel
theorem dX2_divide_82 : decode cX2_divide 82 = .ok (.lcmp, 1) := by decide +kernel
theorem dX2_divide_83 : decode cX2_divide 83 = .ok (.ifCond .lt 16, 3) := by decide +kernel
theorem dX2_divide_86 : decode cX2_divide 86 = .ok (.lload 6, 2) := by decide +kernel
theorem dX2_divide_88 : decode cX2_divide 88 = .ok (.lload 8, 2) := by decide +kernel
theorem dX2_divide_90 : decode cX2_divide 90 = .ok (.lsub, 1) := by decide +kernel
theorem dX2_divide_91 : decode cX2_divide 91 = .ok (.lstore 6, 2) := by decide +kernel
theorem dX2_divide_93 : decode cX2_divide 93 = .ok (.lload 10, 2) := by decide +kernel
theorem dX2_divide_95 : decode cX2_divide 95 = .ok (.lconst 1, 1) := by decide +kernel
theorem dX2_divide_96 : decode cX2_divide 96 = .ok (.lor, 1) := by decide +kernel
theorem dX2_divide_97 : decode cX2_divide 97 = .ok (.lstore 10, 2) := by decide +kernel
theorem dX2_divide_99 : decode cX2_divide 99 = .ok (.lload 6, 2) := by decide +kernel
theorem dX2_divide_101 : decode cX2_divide 101 = .ok (.iconst 1, 1) := by decide +kernel
theorem dX2_divide_102 : decode cX2_divide 102 = .ok (.lshl, 1) := by decide +kernel
theorem dX2_divide_103 : decode cX2_divide 103 = .ok (.lstore 6, 2) := by decide +kernel
theorem dX2_divide_105 : decode cX2_divide 105 = .ok (.iinc 12 1, 3) := by decide +kernel
theorem dX2_divide_108 : decode cX2_divide 108 = .ok (.goto (-43), 3) := by decide +kernel
theorem dX2_divide_111 : decode cX2_divide 111 = .ok (.lload 4, 2) := by decide +kernel
theorem dX2_divide_113 : decode cX2_divide 113 = .ok (.lconst 0, 1) := by decide +kernel
theorem dX2_divide_114 : decode cX2_divide 114 = .ok (.lcmp, 1) := by decide +kernel
theorem dX2_divide_115 : decode cX2_divide 115 = .ok (.ifCond .eq 7, 3) := by decide +kernel
theorem dX2_divide_118 : decode cX2_divide 118 = .ok (.iconst 1, 1) := by decide +kernel
theorem dX2_divide_119 : decode cX2_divide 119 = .ok (.goto 4, 3) := by decide +kernel
theorem dX2_divide_122 : decode cX2_divide 122 = .ok (.iconst 0, 1) := by decide +kernel
theorem dX2_divide_123 : decode cX2_divide 123 = .ok (.lload 10, 2) := by decide +kernel
theorem dX2_divide_125 : decode cX2_divide 125 = .ok (.lload_n 0, 1) := by decide +kernel
theorem dX2_divide_126 : decode cX2_divide 126 = .ok (.invokestatic 36, 3) := by decide +kernel
theorem dX2_divide_129 : decode cX2_divide 129 = .ok (.lload_n 2, 1) := by decide +kernel
theorem dX2_divide_130 : decode cX2_divide 130 = .ok (.invokestatic 36, 3) := by decide +kernel
theorem dX2_divide_133 : decode cX2_divide 133 = .ok (.isub, 1) := by decide +kernel
theorem dX2_divide_134 : decode cX2_divide 134 = .ok (.bipush 56, 2) := by decide +kernel
theorem dX2_divide_136 : decode cX2_divide 136 = .ok (.isub, 1) := by decide +kernel
theorem dX2_divide_137 : decode cX2_divide 137 = .ok (.lload 6, 2) := by decide +kernel
theorem dX2_divide_139 : decode cX2_divide 139 = .ok (.lconst 0, 1) := by decide +kernel
theorem dX2_divide_140 : decode cX2_divide 140 = .ok (.lcmp, 1) := by decide +kernel
theorem dX2_divide_141 : decode cX2_divide 141 = .ok (.ifCond .eq 7, 3) := by decide +kernel
theorem dX2_divide_144 : decode cX2_divide 144 = .ok (.iconst 1, 1) := by decide +kernel
theorem dX2_divide_145 : decode cX2_divide 145 = .ok (.goto 4, 3) := by decide +kernel
theorem dX2_divide_148 : decode cX2_divide 148 = .ok (.iconst 0, 1) := by decide +kernel
theorem dX2_divide_149 : decode cX2_divide 149 = .ok (.invokestatic 44, 3) := by decide +kernel
theorem dX2_divide_152 : decode cX2_divide 152 = .ok (.lreturn, 1) := by decide +kernel
set_option maxRecDepth 20000 in
theorem ggX2_compare_X2_isZero : GoodIn wsX2_compare wsX2_isZero := goodIn_r _ [5, 1] (by decide +kernel) (by decide +kernel)
set_option maxRecDepth 20000 in
theorem gX2_compare_X2_isZero : GoodIn wsX2_compare (va_wsS RX2 33 yX2_isZero wsX2_isZero) := goodIn_app (goodIn_of _ (by decide +kernel)) ggX2_compare_X2_isZero
theorem dX2_compare_0 : decode cX2_compare 0 = .ok (.lload_n 0, 1) := by decide +kernel
theorem dX2_compare_1 : decode cX2_compare 1 = .ok (.invokestatic 33, 3) := by decide +kernel
theorem dX2_compare_4 : decode cX2_compare 4 = .ok (.ifCond .eq 12, 3) := by decide +kernel
theorem dX2_compare_7 : decode cX2_compare 7 = .ok (.lload_n 2, 1) := by decide +kernel
theorem dX2_compare_8 : decode cX2_compare 8 = .ok (.invokestatic 33, 3) := by decide +kernel
theorem dX2_compare_11 : decode cX2_compare 11 = .ok (.ifCond .eq 5, 3) := by decide +kernel
theorem dX2_compare_14 : decode cX2_compare 14 = .ok (.iconst 0, 1) := by decide +kernel
theorem dX2_compare_15 : decode cX2_compare 15 = .ok (.ireturn, 1) := by decide +kernel
theorem dX2_compare_16 : decode cX2_compare 16 = .ok (.lload_n 0, 1) := by decide +kernel
theorem dX2_compare_17 : decode cX2_compare 17 = .ok (.lconst 0, 1) := by decide +kernel
theorem dX2_compare_18 : decode cX2_compare 18 = .ok (.lcmp, 1) := by decide +kernel
theorem dX2_compare_19 : decode cX2_compare 19 = .ok (.ifCond .ge 11, 3) := by decide +kernel
theorem dX2_compare_22 : decode cX2_compare 22 = .ok (.lload_n 0, 1) := by decide +kernel
theorem dX2_compare_23 : decode cX2_compare 23 = .ok (.ldc2_w 9, 3) := by decide +kernel
theorem dX2_compare_26 : decode cX2_compare 26 = .ok (.lxor, 1) := by decide +kernel
theorem dX2_compare_27 : decode cX2_compare 27 = .ok (.goto 4, 3) := by decide +kernel
theorem dX2_compare_30 : decode cX2_compare 30 = .ok (.lload_n 0, 1) := by decide +kernel
theorem dX2_compare_31 : decode cX2_compare 31 = .ok (.lstore 4, 2) := by decide +kernel
theorem dX2_compare_33 : decode cX2_compare 33 = .ok (.lload_n 2, 1) := by decide +kernel
theorem dX2_compare_34 : decode cX2_compare 34 = .ok (.lconst 0, 1) := by decide +kernel
theorem dX2_compare_35 : decode cX2_compare 35 = .ok (.lcmp, 1) := by decide +kernel
theorem dX2_compare_36 : decode cX2_compare 36 = .ok (.ifCond .ge 11, 3) := by decide +kernel
theorem dX2_compare_39 : decode cX2_compare 39 = .ok (.lload_n 2, 1) := by decide +kernel
theorem dX2_compare_40 : decode cX2_compare 40 = .ok (.ldc2_w 9, 3) := by decide +kernel
theorem dX2_compare_43 : decode cX2_compare 43 = .ok (.lxor, 1) := by decide +kernel
theorem dX2_compare_44 : decode cX2_compare 44 = .ok (.goto 4, 3) := by decide +kernel
theorem dX2_compare_47 : decode cX2_compare 47 = .ok (.lload_n 2, 1) := by decide +kernel
theorem dX2_compare_48 : decode cX2_compare 48 = .ok (.lstore 6, 2) := by decide +kernel
theorem dX2_compare_50 : decode cX2_compare 50 = .ok (.lload 4, 2) := by decide +kernel
theorem dX2_compare_52 : decode cX2_compare 52 = .ok (.lload 6, 2) := by decide +kernel
theorem dX2_compare_54 : decode cX2_compare 54 = .ok (.lcmp, 1) := by decide +kernel
theorem dX2_compare_55 : decode cX2_compare 55 = .ok (.ifCond .ge 7, 3) := by decide +kernel
theorem dX2_compare_58 : decode cX2_compare 58 = .ok (.iconst (-1), 1) := by decide +kernel
theorem dX2_compare_59 : decode cX2_compare 59 = .ok (.goto 16, 3) := by decide +kernel
theorem dX2_compare_62 : decode cX2_compare 62 = .ok (.lload 4, 2) := by decide +kernel
theorem dX2_compare_64 : decode cX2_compare 64 = .ok (.lload 6, 2) := by decide +kernel
theorem dX2_compare_66 : decode cX2_compare 66 = .ok (.lcmp, 1) := by decide +kernel
theorem dX2_compare_67 : decode cX2_compare 67 = .ok (.ifCond .le 7, 3) := by decide +kernel
theorem dX2_compare_70 : decode cX2_compare 70 = .ok (.iconst 1, 1) := by decide +kernel
theorem dX2_compare_71 : decode cX2_compare 71 = .ok (.goto 4, 3) := by decide +kernel
theorem dX2_compare_74 : decode cX2_compare 74 = .ok (.iconst 0, 1) := by decide +kernel
theorem dX2_compare_75 : decode cX2_compare 75 = .ok (.ireturn, 1) := by decide +kernel
set_option maxRecDepth 20000 in
theorem ggX2_of_X2_made : GoodIn wsX2_of wsX2_made := goodIn_r _ [6, 7, 8, 9, 5, 10, 11] (by decide +kernel) (by decide +kernel)
set_option maxRecDepth 20000 in
theorem gX2_of_X2_made : GoodIn wsX2_of (va_wsS RX2 44 yX2_made wsX2_made) := goodIn_app (goodIn_of _ (by decide +kernel)) ggX2_of_X2_made
theorem dX2_of_0 : decode cX2_of 0 = .ok (.lload_n 0, 1) := by decide +kernel
theorem dX2_of_1 : decode cX2_of 1 = .ok (.lconst 0, 1) := by decide +kernel
theorem dX2_of_2 : decode cX2_of 2 = .ok (.lcmp, 1) := by decide +kernel
theorem dX2_of_3 : decode cX2_of 3 = .ok (.ifCond .ne 5, 3) := by decide +kernel
theorem dX2_of_6 : decode cX2_of 6 = .ok (.lconst 0, 1) := by decide +kernel
theorem dX2_of_7 : decode cX2_of 7 = .ok (.lreturn, 1) := by decide +kernel
theorem dX2_of_8 : decode cX2_of 8 = .ok (.lload_n 0, 1) := by decide +kernel
theorem dX2_of_9 : decode cX2_of 9 = .ok (.lconst 0, 1) := by decide +kernel
theorem dX2_of_10 : decode cX2_of 10 = .ok (.lcmp, 1) := by decide +kernel
theorem dX2_of_11 : decode cX2_of 11 = .ok (.ifCond .ge 11, 3) := by decide +kernel
theorem dX2_of_14 : decode cX2_of 14 = .ok (.iload_n 2, 1) := by decide +kernel
theorem dX2_of_15 : decode cX2_of 15 = .ok (.ifCond .ne 7, 3) := by decide +kernel
theorem dX2_of_18 : decode cX2_of 18 = .ok (.iconst 1, 1) := by decide +kernel
theorem dX2_of_19 : decode cX2_of 19 = .ok (.goto 4, 3) := by decide +kernel
theorem dX2_of_22 : decode cX2_of 22 = .ok (.iconst 0, 1) := by decide +kernel
theorem dX2_of_23 : decode cX2_of 23 = .ok (.istore_n 3, 1) := by decide +kernel
theorem dX2_of_24 : decode cX2_of 24 = .ok (.iload_n 3, 1) := by decide +kernel
theorem dX2_of_25 : decode cX2_of 25 = .ok (.ifCond .eq 8, 3) := by decide +kernel
theorem dX2_of_28 : decode cX2_of 28 = .ok (.lload_n 0, 1) := by decide +kernel
theorem dX2_of_29 : decode cX2_of 29 = .ok (.lneg, 1) := by decide +kernel
theorem dX2_of_30 : decode cX2_of 30 = .ok (.goto 4, 3) := by decide +kernel
theorem dX2_of_33 : decode cX2_of 33 = .ok (.lload_n 0, 1) := by decide +kernel
theorem dX2_of_34 : decode cX2_of 34 = .ok (.lstore 4, 2) := by decide +kernel
theorem dX2_of_36 : decode cX2_of 36 = .ok (.lload 4, 2) := by decide +kernel
theorem dX2_of_38 : decode cX2_of 38 = .ok (.lconst 0, 1) := by decide +kernel
theorem dX2_of_39 : decode cX2_of 39 = .ok (.lcmp, 1) := by decide +kernel
theorem dX2_of_40 : decode cX2_of 40 = .ok (.ifCond .le 21, 3) := by decide +kernel
theorem dX2_of_43 : decode cX2_of 43 = .ok (.lload 4, 2) := by decide +kernel
theorem dX2_of_45 : decode cX2_of 45 = .ok (.ldc2_w 52, 3) := by decide +kernel
theorem dX2_of_48 : decode cX2_of 48 = .ok (.lcmp, 1) := by decide +kernel
theorem dX2_of_49 : decode cX2_of 49 = .ok (.ifCond .ge 12, 3) := by decide +kernel
theorem dX2_of_52 : decode cX2_of 52 = .ok (.iload_n 3, 1) := by decide +kernel
theorem dX2_of_53 : decode cX2_of 53 = .ok (.lload 4, 2) := by decide +kernel
theorem dX2_of_55 : decode cX2_of 55 = .ok (.iconst 0, 1) := by decide +kernel
theorem dX2_of_56 : decode cX2_of 56 = .ok (.iconst 0, 1) := by decide +kernel
theorem dX2_of_57 : decode cX2_of 57 = .ok (.invokestatic 44, 3) := by decide +kernel
theorem dX2_of_60 : decode cX2_of 60 = .ok (.lreturn, 1) := by decide +kernel
theorem dX2_of_61 : decode cX2_of 61 = .ok (.iload_n 3, 1) := by decide +kernel
theorem dX2_of_62 : decode cX2_of 62 = .ok (.lload 4, 2) := by decide +kernel
theorem dX2_of_64 : decode cX2_of 64 = .ok (.iconst 2, 1) := by decide +kernel
theorem dX2_of_65 : decode cX2_of 65 = .ok (.lushr, 1) := by decide +kernel
theorem dX2_of_66 : decode cX2_of 66 = .ok (.iconst 2, 1) := by decide +kernel
theorem dX2_of_67 : decode cX2_of 67 = .ok (.lload 4, 2) := by decide +kernel
theorem dX2_of_69 : decode cX2_of 69 = .ok (.ldc2_w 54, 3) := by decide +kernel
theorem dX2_of_72 : decode cX2_of 72 = .ok (.land, 1) := by decide +kernel
theorem dX2_of_73 : decode cX2_of 73 = .ok (.lconst 0, 1) := by decide +kernel
theorem dX2_of_74 : decode cX2_of 74 = .ok (.lcmp, 1) := by decide +kernel
theorem dX2_of_75 : decode cX2_of 75 = .ok (.ifCond .eq 7, 3) := by decide +kernel
theorem dX2_of_78 : decode cX2_of 78 = .ok (.iconst 1, 1) := by decide +kernel
theorem dX2_of_79 : decode cX2_of 79 = .ok (.goto 4, 3) := by decide +kernel
theorem dX2_of_82 : decode cX2_of 82 = .ok (.iconst 0, 1) := by decide +kernel
theorem dX2_of_83 : decode cX2_of 83 = .ok (.invokestatic 44, 3) := by decide +kernel
theorem dX2_of_86 : decode cX2_of 86 = .ok (.lreturn, 1) := by decide +kernel
set_option maxRecDepth 20000 in
theorem ggX2_floatOf_X2_rounded : GoodIn wsX2_floatOf wsX2_rounded := goodIn_r _ [7, 8] (by decide +kernel) (by decide +kernel)
set_option maxRecDepth 20000 in
theorem gX2_floatOf_X2_rounded : GoodIn wsX2_floatOf (va_wsS RX2 25 yX2_rounded wsX2_rounded) := goodIn_app (goodIn_of _ (by decide +kernel)) ggX2_floatOf_X2_rounded
set_option maxRecDepth 20000 in
theorem ggX2_floatOf_X2_wide : GoodIn wsX2_floatOf wsX2_wide := goodIn_r _ [11, 12, 13, 14, 15, 4, 5, 6, 7, 8] (by decide +kernel) (by decide +kernel)
set_option maxRecDepth 20000 in
theorem gX2_floatOf_X2_wide : GoodIn wsX2_floatOf (va_wsS RX2 59 yX2_wide wsX2_wide) := goodIn_app (goodIn_of _ (by decide +kernel)) ggX2_floatOf_X2_wide
theorem dX2_floatOf_0 : decode cX2_floatOf 0 = .ok (.lload_n 0, 1) := by decide +kernel
theorem dX2_floatOf_1 : decode cX2_floatOf 1 = .ok (.lconst 0, 1) := by decide +kernel
theorem dX2_floatOf_2 : decode cX2_floatOf 2 = .ok (.lcmp, 1) := by decide +kernel
theorem dX2_floatOf_3 : decode cX2_floatOf 3 = .ok (.ifCond .ne 5, 3) := by decide +kernel
theorem dX2_floatOf_6 : decode cX2_floatOf 6 = .ok (.lconst 0, 1) := by decide +kernel
theorem dX2_floatOf_7 : decode cX2_floatOf 7 = .ok (.lreturn, 1) := by decide +kernel
theorem dX2_floatOf_8 : decode cX2_floatOf 8 = .ok (.lload_n 0, 1) := by decide +kernel
theorem dX2_floatOf_9 : decode cX2_floatOf 9 = .ok (.lconst 0, 1) := by decide +kernel
theorem dX2_floatOf_10 : decode cX2_floatOf 10 = .ok (.lcmp, 1) := by decide +kernel
theorem dX2_floatOf_11 : decode cX2_floatOf 11 = .ok (.ifCond .ge 11, 3) := by decide +kernel
theorem dX2_floatOf_14 : decode cX2_floatOf 14 = .ok (.iload_n 2, 1) := by decide +kernel
theorem dX2_floatOf_15 : decode cX2_floatOf 15 = .ok (.ifCond .ne 7, 3) := by decide +kernel
theorem dX2_floatOf_18 : decode cX2_floatOf 18 = .ok (.iconst 1, 1) := by decide +kernel
theorem dX2_floatOf_19 : decode cX2_floatOf 19 = .ok (.goto 4, 3) := by decide +kernel
theorem dX2_floatOf_22 : decode cX2_floatOf 22 = .ok (.iconst 0, 1) := by decide +kernel
theorem dX2_floatOf_23 : decode cX2_floatOf 23 = .ok (.istore_n 3, 1) := by decide +kernel
theorem dX2_floatOf_24 : decode cX2_floatOf 24 = .ok (.iload_n 3, 1) := by decide +kernel
theorem dX2_floatOf_25 : decode cX2_floatOf 25 = .ok (.ifCond .eq 8, 3) := by decide +kernel
theorem dX2_floatOf_28 : decode cX2_floatOf 28 = .ok (.lload_n 0, 1) := by decide +kernel
theorem dX2_floatOf_29 : decode cX2_floatOf 29 = .ok (.lneg, 1) := by decide +kernel
theorem dX2_floatOf_30 : decode cX2_floatOf 30 = .ok (.goto 4, 3) := by decide +kernel
theorem dX2_floatOf_33 : decode cX2_floatOf 33 = .ok (.lload_n 0, 1) := by decide +kernel
theorem dX2_floatOf_34 : decode cX2_floatOf 34 = .ok (.lstore 4, 2) := by decide +kernel
theorem dX2_floatOf_36 : decode cX2_floatOf 36 = .ok (.lload 4, 2) := by decide +kernel
theorem dX2_floatOf_38 : decode cX2_floatOf 38 = .ok (.lconst 0, 1) := by decide +kernel
theorem dX2_floatOf_39 : decode cX2_floatOf 39 = .ok (.lcmp, 1) := by decide +kernel
theorem dX2_floatOf_40 : decode cX2_floatOf 40 = .ok (.ifCond .le 16, 3) := by decide +kernel
theorem dX2_floatOf_43 : decode cX2_floatOf 43 = .ok (.lload 4, 2) := by decide +kernel
theorem dX2_floatOf_45 : decode cX2_floatOf 45 = .ok (.ldc2_w 52, 3) := by decide +kernel
theorem dX2_floatOf_48 : decode cX2_floatOf 48 = .ok (.lcmp, 1) := by decide +kernel
theorem dX2_floatOf_49 : decode cX2_floatOf 49 = .ok (.ifCond .ge 7, 3) := by decide +kernel
theorem dX2_floatOf_52 : decode cX2_floatOf 52 = .ok (.iconst 1, 1) := by decide +kernel
theorem dX2_floatOf_53 : decode cX2_floatOf 53 = .ok (.goto 4, 3) := by decide +kernel
theorem dX2_floatOf_56 : decode cX2_floatOf 56 = .ok (.iconst 0, 1) := by decide +kernel
theorem dX2_floatOf_57 : decode cX2_floatOf 57 = .ok (.istore 6, 2) := by decide +kernel
theorem dX2_floatOf_59 : decode cX2_floatOf 59 = .ok (.iload 6, 2) := by decide +kernel
theorem dX2_floatOf_61 : decode cX2_floatOf 61 = .ok (.ifCond .eq 8, 3) := by decide +kernel
theorem dX2_floatOf_64 : decode cX2_floatOf 64 = .ok (.lload 4, 2) := by decide +kernel
theorem dX2_floatOf_66 : decode cX2_floatOf 66 = .ok (.goto 7, 3) := by decide +kernel
theorem dX2_floatOf_69 : decode cX2_floatOf 69 = .ok (.lload 4, 2) := by decide +kernel
theorem dX2_floatOf_71 : decode cX2_floatOf 71 = .ok (.iconst 2, 1) := by decide +kernel
theorem dX2_floatOf_72 : decode cX2_floatOf 72 = .ok (.lushr, 1) := by decide +kernel
theorem dX2_floatOf_73 : decode cX2_floatOf 73 = .ok (.iload 6, 2) := by decide +kernel
theorem dX2_floatOf_75 : decode cX2_floatOf 75 = .ok (.ifCond .eq 7, 3) := by decide +kernel
theorem dX2_floatOf_78 : decode cX2_floatOf 78 = .ok (.iconst 0, 1) := by decide +kernel
theorem dX2_floatOf_79 : decode cX2_floatOf 79 = .ok (.goto 4, 3) := by decide +kernel
theorem dX2_floatOf_82 : decode cX2_floatOf 82 = .ok (.iconst 2, 1) := by decide +kernel
theorem dX2_floatOf_83 : decode cX2_floatOf 83 = .ok (.iload 6, 2) := by decide +kernel
theorem dX2_floatOf_85 : decode cX2_floatOf 85 = .ok (.ifCond .ne 18, 3) := by decide +kernel
theorem dX2_floatOf_88 : decode cX2_floatOf 88 = .ok (.lload 4, 2) := by decide +kernel
theorem dX2_floatOf_90 : decode cX2_floatOf 90 = .ok (.ldc2_w 54, 3) := by decide +kernel
theorem dX2_floatOf_93 : decode cX2_floatOf 93 = .ok (.land, 1) := by decide +kernel
theorem dX2_floatOf_94 : decode cX2_floatOf 94 = .ok (.lconst 0, 1) := by decide +kernel
theorem dX2_floatOf_95 : decode cX2_floatOf 95 = .ok (.lcmp, 1) := by decide +kernel
theorem dX2_floatOf_96 : decode cX2_floatOf 96 = .ok (.ifCond .eq 7, 3) := by decide +kernel
theorem dX2_floatOf_99 : decode cX2_floatOf 99 = .ok (.iconst 1, 1) := by decide +kernel
theorem dX2_floatOf_100 : decode cX2_floatOf 100 = .ok (.goto 4, 3) := by decide +kernel
theorem dX2_floatOf_103 : decode cX2_floatOf 103 = .ok (.iconst 0, 1) := by decide +kernel
theorem dX2_floatOf_104 : decode cX2_floatOf 104 = .ok (.bipush 24, 2) := by decide +kernel
theorem dX2_floatOf_106 : decode cX2_floatOf 106 = .ok (.bipush 127, 2) := by decide +kernel
theorem dX2_floatOf_108 : decode cX2_floatOf 108 = .ok (.invokestatic 25, 3) := by decide +kernel
theorem dX2_floatOf_111 : decode cX2_floatOf 111 = .ok (.lstore 7, 2) := by decide +kernel
theorem dX2_floatOf_113 : decode cX2_floatOf 113 = .ok (.lload 7, 2) := by decide +kernel
theorem dX2_floatOf_115 : decode cX2_floatOf 115 = .ok (.l2i, 1) := by decide +kernel
theorem dX2_floatOf_116 : decode cX2_floatOf 116 = .ok (.iload_n 3, 1) := by decide +kernel
theorem dX2_floatOf_117 : decode cX2_floatOf 117 = .ok (.ifCond .eq 8, 3) := by decide +kernel
theorem dX2_floatOf_120 : decode cX2_floatOf 120 = .ok (.ldc 58, 2) := by decide +kernel
theorem dX2_floatOf_122 : decode cX2_floatOf 122 = .ok (.goto 4, 3) := by decide +kernel
theorem dX2_floatOf_125 : decode cX2_floatOf 125 = .ok (.iconst 0, 1) := by decide +kernel
theorem dX2_floatOf_126 : decode cX2_floatOf 126 = .ok (.ior, 1) := by decide +kernel
theorem dX2_floatOf_127 : decode cX2_floatOf 127 = .ok (.invokestatic 59, 3) := by decide +kernel
theorem dX2_floatOf_130 : decode cX2_floatOf 130 = .ok (.lreturn, 1) := by decide +kernel
set_option maxRecDepth 20000 in
theorem ggX2_narrow_X2_isInfinite : GoodIn wsX2_narrow wsX2_isInfinite := goodIn_r _ [6, 7, 8] (by decide +kernel) (by decide +kernel)
set_option maxRecDepth 20000 in
theorem gX2_narrow_X2_isInfinite : GoodIn wsX2_narrow (va_wsS RX2 29 yX2_isInfinite wsX2_isInfinite) := goodIn_app (goodIn_of _ (by decide +kernel)) ggX2_narrow_X2_isInfinite
set_option maxRecDepth 20000 in
theorem ggX2_narrow_X2_isZero : GoodIn wsX2_narrow wsX2_isZero := goodIn_r _ [11, 7] (by decide +kernel) (by decide +kernel)
set_option maxRecDepth 20000 in
theorem gX2_narrow_X2_isZero : GoodIn wsX2_narrow (va_wsS RX2 33 yX2_isZero wsX2_isZero) := goodIn_app (goodIn_of _ (by decide +kernel)) ggX2_narrow_X2_isZero
set_option maxRecDepth 20000 in
theorem ggX2_narrow_X2_significand : GoodIn wsX2_narrow wsX2_significand := goodIn_r _ [14, 15, 16, 17] (by decide +kernel) (by decide +kernel)
set_option maxRecDepth 20000 in
theorem gX2_narrow_X2_significand : GoodIn wsX2_narrow (va_wsS RX2 40 yX2_significand wsX2_significand) := goodIn_app (goodIn_of _ (by decide +kernel)) ggX2_narrow_X2_significand
set_option maxRecDepth 20000 in
theorem ggX2_narrow_X2_exponent : GoodIn wsX2_narrow wsX2_exponent := goodIn_r _ [20, 16, 15, 17] (by decide +kernel) (by decide +kernel)
set_option maxRecDepth 20000 in
theorem gX2_narrow_X2_exponent : GoodIn wsX2_narrow (va_wsS RX2 36 yX2_exponent wsX2_exponent) := goodIn_app (goodIn_of _ (by decide +kernel)) ggX2_narrow_X2_exponent
set_option maxRecDepth 20000 in
theorem ggX2_narrow_X2_rounded : GoodIn wsX2_narrow wsX2_rounded := goodIn_r _ [23, 24] (by decide +kernel) (by decide +kernel)
set_option maxRecDepth 20000 in
theorem gX2_narrow_X2_rounded : GoodIn wsX2_narrow (va_wsS RX2 25 yX2_rounded wsX2_rounded) := goodIn_app (goodIn_of _ (by decide +kernel)) ggX2_narrow_X2_rounded
theorem dX2_narrow_0 : decode cX2_narrow 0 = .ok (.lload_n 0, 1) := by decide +kernel
theorem dX2_narrow_1 : decode cX2_narrow 1 = .ok (.lconst 0, 1) := by decide +kernel
theorem dX2_narrow_2 : decode cX2_narrow 2 = .ok (.lcmp, 1) := by decide +kernel
theorem dX2_narrow_3 : decode cX2_narrow 3 = .ok (.ifCond .ge 8, 3) := by decide +kernel
theorem dX2_narrow_6 : decode cX2_narrow 6 = .ok (.ldc 58, 2) := by decide +kernel
theorem dX2_narrow_8 : decode cX2_narrow 8 = .ok (.goto 4, 3) := by decide +kernel
theorem dX2_narrow_11 : decode cX2_narrow 11 = .ok (.iconst 0, 1) := by decide +kernel
theorem dX2_narrow_12 : decode cX2_narrow 12 = .ok (.istore_n 2, 1) := by decide +kernel
theorem dX2_narrow_13 : decode cX2_narrow 13 = .ok (.lload_n 0, 1) := by decide +kernel
theorem dX2_narrow_14 : decode cX2_narrow 14 = .ok (.invokestatic 29, 3) := by decide +kernel
theorem dX2_narrow_17 : decode cX2_narrow 17 = .ok (.ifCond .eq 8, 3) := by decide +kernel
theorem dX2_narrow_20 : decode cX2_narrow 20 = .ok (.iload_n 2, 1) := by decide +kernel
theorem dX2_narrow_21 : decode cX2_narrow 21 = .ok (.ldc 63, 2) := by decide +kernel
theorem dX2_narrow_23 : decode cX2_narrow 23 = .ok (.ior, 1) := by decide +kernel
theorem dX2_narrow_24 : decode cX2_narrow 24 = .ok (.ireturn, 1) := by decide +kernel
theorem dX2_narrow_25 : decode cX2_narrow 25 = .ok (.lload_n 0, 1) := by decide +kernel
theorem dX2_narrow_26 : decode cX2_narrow 26 = .ok (.invokestatic 33, 3) := by decide +kernel
theorem dX2_narrow_29 : decode cX2_narrow 29 = .ok (.ifCond .eq 5, 3) := by decide +kernel
theorem dX2_narrow_32 : decode cX2_narrow 32 = .ok (.iload_n 2, 1) := by decide +kernel
theorem dX2_narrow_33 : decode cX2_narrow 33 = .ok (.ireturn, 1) := by decide +kernel
theorem dX2_narrow_34 : decode cX2_narrow 34 = .ok (.lload_n 0, 1) := by decide +kernel
theorem dX2_narrow_35 : decode cX2_narrow 35 = .ok (.invokestatic 40, 3) := by decide +kernel
theorem dX2_narrow_38 : decode cX2_narrow 38 = .ok (.lload_n 0, 1) := by decide +kernel
theorem dX2_narrow_39 : decode cX2_narrow 39 = .ok (.invokestatic 36, 3) := by decide +kernel
theorem dX2_narrow_42 : decode cX2_narrow 42 = .ok (.iconst 0, 1) := by decide +kernel
theorem dX2_narrow_43 : decode cX2_narrow 43 = .ok (.bipush 24, 2) := by decide +kernel
theorem dX2_narrow_45 : decode cX2_narrow 45 = .ok (.bipush 127, 2) := by decide +kernel
theorem dX2_narrow_47 : decode cX2_narrow 47 = .ok (.invokestatic 25, 3) := by decide +kernel
theorem dX2_narrow_50 : decode cX2_narrow 50 = .ok (.l2i, 1) := by decide +kernel
theorem dX2_narrow_51 : decode cX2_narrow 51 = .ok (.iload_n 2, 1) := by decide +kernel
theorem dX2_narrow_52 : decode cX2_narrow 52 = .ok (.ior, 1) := by decide +kernel
theorem dX2_narrow_53 : decode cX2_narrow 53 = .ok (.ireturn, 1) := by decide +kernel
set_option maxRecDepth 20000 in
theorem ggX2_wide_X2_rounded : GoodIn wsX2_wide wsX2_rounded := goodIn_r _ [8, 9] (by decide +kernel) (by decide +kernel)
set_option maxRecDepth 20000 in
theorem gX2_wide_X2_rounded : GoodIn wsX2_wide (va_wsS RX2 25 yX2_rounded wsX2_rounded) := goodIn_app (goodIn_of _ (by decide +kernel)) ggX2_wide_X2_rounded
theorem dX2_wide_0 : decode cX2_wide 0 = .ok (.iload_n 0, 1) := by decide +kernel
theorem dX2_wide_1 : decode cX2_wide 1 = .ok (.ifCond .ge 9, 3) := by decide +kernel
theorem dX2_wide_4 : decode cX2_wide 4 = .ok (.ldc2_w 15, 3) := by decide +kernel
theorem dX2_wide_7 : decode cX2_wide 7 = .ok (.goto 4, 3) := by decide +kernel
theorem dX2_wide_10 : decode cX2_wide 10 = .ok (.lconst 0, 1) := by decide +kernel
theorem dX2_wide_11 : decode cX2_wide 11 = .ok (.lstore_n 1, 1) := by decide +kernel
theorem dX2_wide_12 : decode cX2_wide 12 = .ok (.iload_n 0, 1) := by decide +kernel
theorem dX2_wide_13 : decode cX2_wide 13 = .ok (.bipush 23, 2) := by decide +kernel
theorem dX2_wide_15 : decode cX2_wide 15 = .ok (.ishr, 1) := by decide +kernel
theorem dX2_wide_16 : decode cX2_wide 16 = .ok (.sipush 255, 3) := by decide +kernel
theorem dX2_wide_19 : decode cX2_wide 19 = .ok (.iand, 1) := by decide +kernel
theorem dX2_wide_20 : decode cX2_wide 20 = .ok (.istore_n 3, 1) := by decide +kernel
theorem dX2_wide_21 : decode cX2_wide 21 = .ok (.iload_n 0, 1) := by decide +kernel
theorem dX2_wide_22 : decode cX2_wide 22 = .ok (.ldc 64, 2) := by decide +kernel
theorem dX2_wide_24 : decode cX2_wide 24 = .ok (.iand, 1) := by decide +kernel
theorem dX2_wide_25 : decode cX2_wide 25 = .ok (.i2l, 1) := by decide +kernel
theorem dX2_wide_26 : decode cX2_wide 26 = .ok (.lstore 4, 2) := by decide +kernel
theorem dX2_wide_28 : decode cX2_wide 28 = .ok (.iload_n 3, 1) := by decide +kernel
theorem dX2_wide_29 : decode cX2_wide 29 = .ok (.sipush 255, 3) := by decide +kernel
theorem dX2_wide_32 : decode cX2_wide 32 = .ok (.if_icmp .ne 12, 3) := by decide +kernel
theorem dX2_wide_35 : decode cX2_wide 35 = .ok (.lload_n 1, 1) := by decide +kernel
theorem dX2_wide_36 : decode cX2_wide 36 = .ok (.ldc2_w 13, 3) := by decide +kernel
theorem dX2_wide_39 : decode cX2_wide 39 = .ok (.lor, 1) := by decide +kernel
theorem dX2_wide_40 : decode cX2_wide 40 = .ok (.lload 4, 2) := by decide +kernel
theorem dX2_wide_42 : decode cX2_wide 42 = .ok (.lor, 1) := by decide +kernel
theorem dX2_wide_43 : decode cX2_wide 43 = .ok (.lreturn, 1) := by decide +kernel
theorem dX2_wide_44 : decode cX2_wide 44 = .ok (.iload_n 3, 1) := by decide +kernel
theorem dX2_wide_45 : decode cX2_wide 45 = .ok (.ifCond .ne 12, 3) := by decide +kernel
theorem dX2_wide_48 : decode cX2_wide 48 = .ok (.lload 4, 2) := by decide +kernel
theorem dX2_wide_50 : decode cX2_wide 50 = .ok (.lconst 0, 1) := by decide +kernel
theorem dX2_wide_51 : decode cX2_wide 51 = .ok (.lcmp, 1) := by decide +kernel
theorem dX2_wide_52 : decode cX2_wide 52 = .ok (.ifCond .ne 5, 3) := by decide +kernel
theorem dX2_wide_55 : decode cX2_wide 55 = .ok (.lload_n 1, 1) := by decide +kernel
theorem dX2_wide_56 : decode cX2_wide 56 = .ok (.lreturn, 1) := by decide +kernel
theorem dX2_wide_57 : decode cX2_wide 57 = .ok (.iload_n 3, 1) := by decide +kernel
theorem dX2_wide_58 : decode cX2_wide 58 = .ok (.ifCond .ne 8, 3) := by decide +kernel
theorem dX2_wide_61 : decode cX2_wide 61 = .ok (.lload 4, 2) := by decide +kernel
theorem dX2_wide_63 : decode cX2_wide 63 = .ok (.goto 9, 3) := by decide +kernel
theorem dX2_wide_66 : decode cX2_wide 66 = .ok (.lload 4, 2) := by decide +kernel
theorem dX2_wide_68 : decode cX2_wide 68 = .ok (.ldc2_w 65, 3) := by decide +kernel
theorem dX2_wide_71 : decode cX2_wide 71 = .ok (.lor, 1) := by decide +kernel
theorem dX2_wide_72 : decode cX2_wide 72 = .ok (.iload_n 3, 1) := by decide +kernel
theorem dX2_wide_73 : decode cX2_wide 73 = .ok (.ifCond .ne 7, 3) := by decide +kernel
theorem dX2_wide_76 : decode cX2_wide 76 = .ok (.iconst 1, 1) := by decide +kernel
theorem dX2_wide_77 : decode cX2_wide 77 = .ok (.goto 4, 3) := by decide +kernel
theorem dX2_wide_80 : decode cX2_wide 80 = .ok (.iload_n 3, 1) := by decide +kernel
theorem dX2_wide_81 : decode cX2_wide 81 = .ok (.sipush 150, 3) := by decide +kernel
theorem dX2_wide_84 : decode cX2_wide 84 = .ok (.isub, 1) := by decide +kernel
theorem dX2_wide_85 : decode cX2_wide 85 = .ok (.iconst 0, 1) := by decide +kernel
theorem dX2_wide_86 : decode cX2_wide 86 = .ok (.bipush 53, 2) := by decide +kernel
theorem dX2_wide_88 : decode cX2_wide 88 = .ok (.sipush 1023, 3) := by decide +kernel
theorem dX2_wide_91 : decode cX2_wide 91 = .ok (.invokestatic 25, 3) := by decide +kernel
theorem dX2_wide_94 : decode cX2_wide 94 = .ok (.lstore 6, 2) := by decide +kernel
theorem dX2_wide_96 : decode cX2_wide 96 = .ok (.lload_n 1, 1) := by decide +kernel
theorem dX2_wide_97 : decode cX2_wide 97 = .ok (.lload 6, 2) := by decide +kernel
theorem dX2_wide_99 : decode cX2_wide 99 = .ok (.lor, 1) := by decide +kernel
theorem dX2_wide_100 : decode cX2_wide 100 = .ok (.lreturn, 1) := by decide +kernel
set_option maxRecDepth 20000 in
theorem ggX2_cut_X2_isZero : GoodIn wsX2_cut wsX2_isZero := goodIn_r _ [4, 5] (by decide +kernel) (by decide +kernel)
set_option maxRecDepth 20000 in
theorem gX2_cut_X2_isZero : GoodIn wsX2_cut (va_wsS RX2 33 yX2_isZero wsX2_isZero) := goodIn_app (goodIn_of _ (by decide +kernel)) ggX2_cut_X2_isZero
set_option maxRecDepth 20000 in
theorem ggX2_cut_X2_exponent : GoodIn wsX2_cut wsX2_exponent := goodIn_r _ [8, 9, 10, 11] (by decide +kernel) (by decide +kernel)
set_option maxRecDepth 20000 in
theorem gX2_cut_X2_exponent : GoodIn wsX2_cut (va_wsS RX2 36 yX2_exponent wsX2_exponent) := goodIn_app (goodIn_of _ (by decide +kernel)) ggX2_cut_X2_exponent
set_option maxRecDepth 20000 in
theorem ggX2_cut_X2_significand : GoodIn wsX2_cut wsX2_significand := goodIn_r _ [14, 10, 9, 11] (by decide +kernel) (by decide +kernel)
set_option maxRecDepth 20000 in
theorem gX2_cut_X2_significand : GoodIn wsX2_cut (va_wsS RX2 40 yX2_significand wsX2_significand) := goodIn_app (goodIn_of _ (by decide +kernel)) ggX2_cut_X2_significand
theorem dX2_cut_0 : decode cX2_cut 0 = .ok (.lload_n 0, 1) := by decide +kernel
theorem dX2_cut_1 : decode cX2_cut 1 = .ok (.invokestatic 33, 3) := by decide +kernel
theorem dX2_cut_4 : decode cX2_cut 4 = .ok (.ifCond .eq 5, 3) := by decide +kernel
theorem dX2_cut_7 : decode cX2_cut 7 = .ok (.lconst 0, 1) := by decide +kernel
theorem dX2_cut_8 : decode cX2_cut 8 = .ok (.lreturn, 1) := by decide +kernel
theorem dX2_cut_9 : decode cX2_cut 9 = .ok (.lload_n 0, 1) := by decide +kernel
theorem dX2_cut_10 : decode cX2_cut 10 = .ok (.invokestatic 36, 3) := by decide +kernel
theorem dX2_cut_13 : decode cX2_cut 13 = .ok (.istore_n 2, 1) := by decide +kernel
theorem dX2_cut_14 : decode cX2_cut 14 = .ok (.lload_n 0, 1) := by decide +kernel
theorem dX2_cut_15 : decode cX2_cut 15 = .ok (.invokestatic 40, 3) := by decide +kernel
theorem dX2_cut_18 : decode cX2_cut 18 = .ok (.lstore_n 3, 1) := by decide +kernel
theorem dX2_cut_19 : decode cX2_cut 19 = .ok (.iload_n 2, 1) := by decide +kernel
theorem dX2_cut_20 : decode cX2_cut 20 = .ok (.ifCond .lt 9, 3) := by decide +kernel
theorem dX2_cut_23 : decode cX2_cut 23 = .ok (.lload_n 3, 1) := by decide +kernel
theorem dX2_cut_24 : decode cX2_cut 24 = .ok (.iload_n 2, 1) := by decide +kernel
theorem dX2_cut_25 : decode cX2_cut 25 = .ok (.lshl, 1) := by decide +kernel
theorem dX2_cut_26 : decode cX2_cut 26 = .ok (.goto 17, 3) := by decide +kernel
theorem dX2_cut_29 : decode cX2_cut 29 = .ok (.iload_n 2, 1) := by decide +kernel
theorem dX2_cut_30 : decode cX2_cut 30 = .ok (.bipush (-52), 2) := by decide +kernel
theorem dX2_cut_32 : decode cX2_cut 32 = .ok (.if_icmp .ge 7, 3) := by decide +kernel
theorem dX2_cut_35 : decode cX2_cut 35 = .ok (.lconst 0, 1) := by decide +kernel
theorem dX2_cut_36 : decode cX2_cut 36 = .ok (.goto 7, 3) := by decide +kernel
theorem dX2_cut_39 : decode cX2_cut 39 = .ok (.lload_n 3, 1) := by decide +kernel
theorem dX2_cut_40 : decode cX2_cut 40 = .ok (.iload_n 2, 1) := by decide +kernel
theorem dX2_cut_41 : decode cX2_cut 41 = .ok (.ineg, 1) := by decide +kernel
theorem dX2_cut_42 : decode cX2_cut 42 = .ok (.lushr, 1) := by decide +kernel
theorem dX2_cut_43 : decode cX2_cut 43 = .ok (.lreturn, 1) := by decide +kernel
set_option maxRecDepth 20000 in
theorem ggX2_isGreat_X2_isInfinite : GoodIn wsX2_isGreat wsX2_isInfinite := goodIn_r _ [4, 5, 6] (by decide +kernel) (by decide +kernel)
set_option maxRecDepth 20000 in
theorem gX2_isGreat_X2_isInfinite : GoodIn wsX2_isGreat (va_wsS RX2 29 yX2_isInfinite wsX2_isInfinite) := goodIn_app (goodIn_of _ (by decide +kernel)) ggX2_isGreat_X2_isInfinite
set_option maxRecDepth 20000 in
theorem ggX2_isGreat_X2_isZero : GoodIn wsX2_isGreat wsX2_isZero := goodIn_r _ [9, 5] (by decide +kernel) (by decide +kernel)
set_option maxRecDepth 20000 in
theorem gX2_isGreat_X2_isZero : GoodIn wsX2_isGreat (va_wsS RX2 33 yX2_isZero wsX2_isZero) := goodIn_app (goodIn_of _ (by decide +kernel)) ggX2_isGreat_X2_isZero
set_option maxRecDepth 20000 in
theorem ggX2_isGreat_X2_exponent : GoodIn wsX2_isGreat wsX2_exponent := goodIn_r _ [12, 13, 14, 15] (by decide +kernel) (by decide +kernel)
set_option maxRecDepth 20000 in
theorem gX2_isGreat_X2_exponent : GoodIn wsX2_isGreat (va_wsS RX2 36 yX2_exponent wsX2_exponent) := goodIn_app (goodIn_of _ (by decide +kernel)) ggX2_isGreat_X2_exponent
theorem dX2_isGreat_0 : decode cX2_isGreat 0 = .ok (.lload_n 0, 1) := by decide +kernel
theorem dX2_isGreat_1 : decode cX2_isGreat 1 = .ok (.invokestatic 29, 3) := by decide +kernel
theorem dX2_isGreat_4 : decode cX2_isGreat 4 = .ok (.ifCond .ne 19, 3) := by decide +kernel
theorem dX2_isGreat_7 : decode cX2_isGreat 7 = .ok (.lload_n 0, 1) := by decide +kernel
theorem dX2_isGreat_8 : decode cX2_isGreat 8 = .ok (.invokestatic 33, 3) := by decide +kernel
theorem dX2_isGreat_11 : decode cX2_isGreat 11 = .ok (.ifCond .ne 16, 3) := by decide +kernel
theorem dX2_isGreat_14 : decode cX2_isGreat 14 = .ok (.lload_n 0, 1) := by decide +kernel
theorem dX2_isGreat_15 : decode cX2_isGreat 15 = .ok (.invokestatic 36, 3) := by decide +kernel
theorem dX2_isGreat_18 : decode cX2_isGreat 18 = .ok (.bipush 11, 2) := by decide +kernel
theorem dX2_isGreat_20 : decode cX2_isGreat 20 = .ok (.if_icmp .le 7, 3) := by decide +kernel
theorem dX2_isGreat_23 : decode cX2_isGreat 23 = .ok (.iconst 1, 1) := by decide +kernel
theorem dX2_isGreat_24 : decode cX2_isGreat 24 = .ok (.goto 4, 3) := by decide +kernel
theorem dX2_isGreat_27 : decode cX2_isGreat 27 = .ok (.iconst 0, 1) := by decide +kernel
theorem dX2_isGreat_28 : decode cX2_isGreat 28 = .ok (.ireturn, 1) := by decide +kernel
