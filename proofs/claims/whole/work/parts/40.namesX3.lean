theorem dX3_init_0 : decode cX3_init 0 = .ok (.aload_n 0, 1) := by decide +kernel
theorem dX3_init_1 : decode cX3_init 1 = .ok (.invokespecial 1, 3) := by decide +kernel
theorem dX3_init_4 : decode cX3_init 4 = .ok (.return_, 1) := by decide +kernel
theorem dX3_failed_0 : decode cX3_failed 0 = .ok (.aload_n 0, 1) := by decide +kernel
theorem dX3_failed_1 : decode cX3_failed 1 = .ok (.getfield 7, 3) := by decide +kernel
theorem dX3_failed_4 : decode cX3_failed 4 = .ok (.ireturn, 1) := by decide +kernel
theorem dX3_isNumber_0 : decode cX3_isNumber 0 = .ok (.iload_n 0, 1) := by decide +kernel
theorem dX3_isNumber_1 : decode cX3_isNumber 1 = .ok (.iconst 1, 1) := by decide +kernel
theorem dX3_isNumber_2 : decode cX3_isNumber 2 = .ok (.if_icmp .lt 13, 3) := by decide +kernel
theorem dX3_isNumber_5 : decode cX3_isNumber 5 = .ok (.iload_n 0, 1) := by decide +kernel
theorem dX3_isNumber_6 : decode cX3_isNumber 6 = .ok (.bipush 7, 2) := by decide +kernel
theorem dX3_isNumber_8 : decode cX3_isNumber 8 = .ok (.if_icmp .gt 7, 3) := by decide +kernel
theorem dX3_isNumber_11 : decode cX3_isNumber 11 = .ok (.iconst 1, 1) := by decide +kernel
theorem dX3_isNumber_12 : decode cX3_isNumber 12 = .ok (.goto 4, 3) := by decide +kernel
theorem dX3_isNumber_15 : decode cX3_isNumber 15 = .ok (.iconst 0, 1) := by decide +kernel
theorem dX3_isNumber_16 : decode cX3_isNumber 16 = .ok (.ireturn, 1) := by decide +kernel
set_option maxRecDepth 20000 in
theorem ggX3_hasBits_X2_wide : GoodIn wsX3_hasBits wsX2_wide := goodIn_r _ [12, 13, 14, 15, 16, 17, 18, 11, 19, 20] (by decide +kernel) (by decide +kernel)
set_option maxRecDepth 20000 in
theorem gX3_hasBits_X2_wide : GoodIn wsX3_hasBits (va_wsS RX3 31 yX2_wide wsX2_wide) := goodIn_app (goodIn_of _ (by decide +kernel)) ggX3_hasBits_X2_wide
set_option maxRecDepth 20000 in
theorem ggX3_hasBits_X2_isNone : GoodIn wsX3_hasBits wsX2_isNone := goodIn_r _ [23, 24, 15] (by decide +kernel) (by decide +kernel)
set_option maxRecDepth 20000 in
theorem gX3_hasBits_X2_isNone : GoodIn wsX3_hasBits (va_wsS RX3 37 yX2_isNone wsX2_isNone) := goodIn_app (goodIn_of _ (by decide +kernel)) ggX3_hasBits_X2_isNone
theorem dX3_hasBits_0 : decode cX3_hasBits 0 = .ok (.iload_n 0, 1) := by decide +kernel
theorem dX3_hasBits_1 : decode cX3_hasBits 1 = .ok (.tableswitch 197 0 7 #[47, 65, 87, 109, 129, 151, 153, 184], 47) := by decide +kernel
theorem dX3_hasBits_48 : decode cX3_hasBits 48 = .ok (.lload_n 1, 1) := by decide +kernel
theorem dX3_hasBits_49 : decode cX3_hasBits 49 = .ok (.lconst 0, 1) := by decide +kernel
theorem dX3_hasBits_50 : decode cX3_hasBits 50 = .ok (.lcmp, 1) := by decide +kernel
theorem dX3_hasBits_51 : decode cX3_hasBits 51 = .ok (.ifCond .eq 9, 3) := by decide +kernel
theorem dX3_hasBits_54 : decode cX3_hasBits 54 = .ok (.lload_n 1, 1) := by decide +kernel
theorem dX3_hasBits_55 : decode cX3_hasBits 55 = .ok (.lconst 1, 1) := by decide +kernel
theorem dX3_hasBits_56 : decode cX3_hasBits 56 = .ok (.lcmp, 1) := by decide +kernel
theorem dX3_hasBits_57 : decode cX3_hasBits 57 = .ok (.ifCond .ne 7, 3) := by decide +kernel
theorem dX3_hasBits_60 : decode cX3_hasBits 60 = .ok (.iconst 1, 1) := by decide +kernel
theorem dX3_hasBits_61 : decode cX3_hasBits 61 = .ok (.goto 4, 3) := by decide +kernel
theorem dX3_hasBits_64 : decode cX3_hasBits 64 = .ok (.iconst 0, 1) := by decide +kernel
theorem dX3_hasBits_65 : decode cX3_hasBits 65 = .ok (.ireturn, 1) := by decide +kernel
theorem dX3_hasBits_66 : decode cX3_hasBits 66 = .ok (.lload_n 1, 1) := by decide +kernel
theorem dX3_hasBits_67 : decode cX3_hasBits 67 = .ok (.ldc2_w 13, 3) := by decide +kernel
theorem dX3_hasBits_70 : decode cX3_hasBits 70 = .ok (.lcmp, 1) := by decide +kernel
theorem dX3_hasBits_71 : decode cX3_hasBits 71 = .ok (.ifCond .lt 15, 3) := by decide +kernel
theorem dX3_hasBits_74 : decode cX3_hasBits 74 = .ok (.lload_n 1, 1) := by decide +kernel
theorem dX3_hasBits_75 : decode cX3_hasBits 75 = .ok (.ldc2_w 15, 3) := by decide +kernel
theorem dX3_hasBits_78 : decode cX3_hasBits 78 = .ok (.lcmp, 1) := by decide +kernel
theorem dX3_hasBits_79 : decode cX3_hasBits 79 = .ok (.ifCond .gt 7, 3) := by decide +kernel
theorem dX3_hasBits_82 : decode cX3_hasBits 82 = .ok (.iconst 1, 1) := by decide +kernel
theorem dX3_hasBits_83 : decode cX3_hasBits 83 = .ok (.goto 4, 3) := by decide +kernel
theorem dX3_hasBits_86 : decode cX3_hasBits 86 = .ok (.iconst 0, 1) := by decide +kernel
theorem dX3_hasBits_87 : decode cX3_hasBits 87 = .ok (.ireturn, 1) := by decide +kernel
theorem dX3_hasBits_88 : decode cX3_hasBits 88 = .ok (.lload_n 1, 1) := by decide +kernel
theorem dX3_hasBits_89 : decode cX3_hasBits 89 = .ok (.ldc2_w 17, 3) := by decide +kernel
theorem dX3_hasBits_92 : decode cX3_hasBits 92 = .ok (.lcmp, 1) := by decide +kernel
theorem dX3_hasBits_93 : decode cX3_hasBits 93 = .ok (.ifCond .lt 15, 3) := by decide +kernel
theorem dX3_hasBits_96 : decode cX3_hasBits 96 = .ok (.lload_n 1, 1) := by decide +kernel
theorem dX3_hasBits_97 : decode cX3_hasBits 97 = .ok (.ldc2_w 19, 3) := by decide +kernel
theorem dX3_hasBits_100 : decode cX3_hasBits 100 = .ok (.lcmp, 1) := by decide +kernel
theorem dX3_hasBits_101 : decode cX3_hasBits 101 = .ok (.ifCond .gt 7, 3) := by decide +kernel
theorem dX3_hasBits_104 : decode cX3_hasBits 104 = .ok (.iconst 1, 1) := by decide +kernel
theorem dX3_hasBits_105 : decode cX3_hasBits 105 = .ok (.goto 4, 3) := by decide +kernel
theorem dX3_hasBits_108 : decode cX3_hasBits 108 = .ok (.iconst 0, 1) := by decide +kernel
theorem dX3_hasBits_109 : decode cX3_hasBits 109 = .ok (.ireturn, 1) := by decide +kernel
theorem dX3_hasBits_110 : decode cX3_hasBits 110 = .ok (.lload_n 1, 1) := by decide +kernel
theorem dX3_hasBits_111 : decode cX3_hasBits 111 = .ok (.lconst 0, 1) := by decide +kernel
theorem dX3_hasBits_112 : decode cX3_hasBits 112 = .ok (.lcmp, 1) := by decide +kernel
theorem dX3_hasBits_113 : decode cX3_hasBits 113 = .ok (.ifCond .lt 15, 3) := by decide +kernel
theorem dX3_hasBits_116 : decode cX3_hasBits 116 = .ok (.lload_n 1, 1) := by decide +kernel
theorem dX3_hasBits_117 : decode cX3_hasBits 117 = .ok (.ldc2_w 21, 3) := by decide +kernel
theorem dX3_hasBits_120 : decode cX3_hasBits 120 = .ok (.lcmp, 1) := by decide +kernel
theorem dX3_hasBits_121 : decode cX3_hasBits 121 = .ok (.ifCond .gt 7, 3) := by decide +kernel
theorem dX3_hasBits_124 : decode cX3_hasBits 124 = .ok (.iconst 1, 1) := by decide +kernel
theorem dX3_hasBits_125 : decode cX3_hasBits 125 = .ok (.goto 4, 3) := by decide +kernel
theorem dX3_hasBits_128 : decode cX3_hasBits 128 = .ok (.iconst 0, 1) := by decide +kernel
theorem dX3_hasBits_129 : decode cX3_hasBits 129 = .ok (.ireturn, 1) := by decide +kernel
theorem dX3_hasBits_130 : decode cX3_hasBits 130 = .ok (.lload_n 1, 1) := by decide +kernel
theorem dX3_hasBits_131 : decode cX3_hasBits 131 = .ok (.ldc2_w 25, 3) := by decide +kernel
theorem dX3_hasBits_134 : decode cX3_hasBits 134 = .ok (.lcmp, 1) := by decide +kernel
theorem dX3_hasBits_135 : decode cX3_hasBits 135 = .ok (.ifCond .lt 15, 3) := by decide +kernel
theorem dX3_hasBits_138 : decode cX3_hasBits 138 = .ok (.lload_n 1, 1) := by decide +kernel
theorem dX3_hasBits_139 : decode cX3_hasBits 139 = .ok (.ldc2_w 27, 3) := by decide +kernel
theorem dX3_hasBits_142 : decode cX3_hasBits 142 = .ok (.lcmp, 1) := by decide +kernel
theorem dX3_hasBits_143 : decode cX3_hasBits 143 = .ok (.ifCond .gt 7, 3) := by decide +kernel
theorem dX3_hasBits_146 : decode cX3_hasBits 146 = .ok (.iconst 1, 1) := by decide +kernel
theorem dX3_hasBits_147 : decode cX3_hasBits 147 = .ok (.goto 4, 3) := by decide +kernel
theorem dX3_hasBits_150 : decode cX3_hasBits 150 = .ok (.iconst 0, 1) := by decide +kernel
theorem dX3_hasBits_151 : decode cX3_hasBits 151 = .ok (.ireturn, 1) := by decide +kernel
theorem dX3_hasBits_152 : decode cX3_hasBits 152 = .ok (.iconst 1, 1) := by decide +kernel
theorem dX3_hasBits_153 : decode cX3_hasBits 153 = .ok (.ireturn, 1) := by decide +kernel
theorem dX3_hasBits_154 : decode cX3_hasBits 154 = .ok (.lload_n 1, 1) := by decide +kernel
theorem dX3_hasBits_155 : decode cX3_hasBits 155 = .ok (.lconst 0, 1) := by decide +kernel
theorem dX3_hasBits_156 : decode cX3_hasBits 156 = .ok (.lcmp, 1) := by decide +kernel
theorem dX3_hasBits_157 : decode cX3_hasBits 157 = .ok (.ifCond .lt 26, 3) := by decide +kernel
theorem dX3_hasBits_160 : decode cX3_hasBits 160 = .ok (.lload_n 1, 1) := by decide +kernel
theorem dX3_hasBits_161 : decode cX3_hasBits 161 = .ok (.ldc2_w 29, 3) := by decide +kernel
theorem dX3_hasBits_164 : decode cX3_hasBits 164 = .ok (.lcmp, 1) := by decide +kernel
theorem dX3_hasBits_165 : decode cX3_hasBits 165 = .ok (.ifCond .gt 18, 3) := by decide +kernel
theorem dX3_hasBits_168 : decode cX3_hasBits 168 = .ok (.lload_n 1, 1) := by decide +kernel
theorem dX3_hasBits_169 : decode cX3_hasBits 169 = .ok (.l2i, 1) := by decide +kernel
theorem dX3_hasBits_170 : decode cX3_hasBits 170 = .ok (.invokestatic 31, 3) := by decide +kernel
theorem dX3_hasBits_173 : decode cX3_hasBits 173 = .ok (.invokestatic 37, 3) := by decide +kernel
theorem dX3_hasBits_176 : decode cX3_hasBits 176 = .ok (.ifCond .ne 7, 3) := by decide +kernel
theorem dX3_hasBits_179 : decode cX3_hasBits 179 = .ok (.iconst 1, 1) := by decide +kernel
theorem dX3_hasBits_180 : decode cX3_hasBits 180 = .ok (.goto 4, 3) := by decide +kernel
theorem dX3_hasBits_183 : decode cX3_hasBits 183 = .ok (.iconst 0, 1) := by decide +kernel
theorem dX3_hasBits_184 : decode cX3_hasBits 184 = .ok (.ireturn, 1) := by decide +kernel
theorem dX3_hasBits_185 : decode cX3_hasBits 185 = .ok (.lload_n 1, 1) := by decide +kernel
theorem dX3_hasBits_186 : decode cX3_hasBits 186 = .ok (.invokestatic 37, 3) := by decide +kernel
theorem dX3_hasBits_189 : decode cX3_hasBits 189 = .ok (.ifCond .ne 7, 3) := by decide +kernel
theorem dX3_hasBits_192 : decode cX3_hasBits 192 = .ok (.iconst 1, 1) := by decide +kernel
theorem dX3_hasBits_193 : decode cX3_hasBits 193 = .ok (.goto 4, 3) := by decide +kernel
theorem dX3_hasBits_196 : decode cX3_hasBits 196 = .ok (.iconst 0, 1) := by decide +kernel
theorem dX3_hasBits_197 : decode cX3_hasBits 197 = .ok (.ireturn, 1) := by decide +kernel
theorem dX3_hasBits_198 : decode cX3_hasBits 198 = .ok (.iconst 0, 1) := by decide +kernel
theorem dX3_hasBits_199 : decode cX3_hasBits 199 = .ok (.ireturn, 1) := by decide +kernel
theorem dX3_isWider_0 : decode cX3_isWider 0 = .ok (.iload_n 0, 1) := by decide +kernel
theorem dX3_isWider_1 : decode cX3_isWider 1 = .ok (.tableswitch 125 1 6 #[39, 61, 61, 78, 95, 113], 39) := by decide +kernel
theorem dX3_isWider_40 : decode cX3_isWider 40 = .ok (.iload_n 1, 1) := by decide +kernel
theorem dX3_isWider_41 : decode cX3_isWider 41 = .ok (.iconst 2, 1) := by decide +kernel
theorem dX3_isWider_42 : decode cX3_isWider 42 = .ok (.if_icmp .eq 14, 3) := by decide +kernel
theorem dX3_isWider_45 : decode cX3_isWider 45 = .ok (.iload_n 1, 1) := by decide +kernel
theorem dX3_isWider_46 : decode cX3_isWider 46 = .ok (.iconst 4, 1) := by decide +kernel
theorem dX3_isWider_47 : decode cX3_isWider 47 = .ok (.if_icmp .lt 13, 3) := by decide +kernel
theorem dX3_isWider_50 : decode cX3_isWider 50 = .ok (.iload_n 1, 1) := by decide +kernel
theorem dX3_isWider_51 : decode cX3_isWider 51 = .ok (.bipush 7, 2) := by decide +kernel
theorem dX3_isWider_53 : decode cX3_isWider 53 = .ok (.if_icmp .gt 7, 3) := by decide +kernel
theorem dX3_isWider_56 : decode cX3_isWider 56 = .ok (.iconst 1, 1) := by decide +kernel
theorem dX3_isWider_57 : decode cX3_isWider 57 = .ok (.goto 4, 3) := by decide +kernel
theorem dX3_isWider_60 : decode cX3_isWider 60 = .ok (.iconst 0, 1) := by decide +kernel
theorem dX3_isWider_61 : decode cX3_isWider 61 = .ok (.ireturn, 1) := by decide +kernel
theorem dX3_isWider_62 : decode cX3_isWider 62 = .ok (.iload_n 1, 1) := by decide +kernel
theorem dX3_isWider_63 : decode cX3_isWider 63 = .ok (.iconst 4, 1) := by decide +kernel
theorem dX3_isWider_64 : decode cX3_isWider 64 = .ok (.if_icmp .lt 13, 3) := by decide +kernel
theorem dX3_isWider_67 : decode cX3_isWider 67 = .ok (.iload_n 1, 1) := by decide +kernel
theorem dX3_isWider_68 : decode cX3_isWider 68 = .ok (.bipush 7, 2) := by decide +kernel
theorem dX3_isWider_70 : decode cX3_isWider 70 = .ok (.if_icmp .gt 7, 3) := by decide +kernel
theorem dX3_isWider_73 : decode cX3_isWider 73 = .ok (.iconst 1, 1) := by decide +kernel
theorem dX3_isWider_74 : decode cX3_isWider 74 = .ok (.goto 4, 3) := by decide +kernel
theorem dX3_isWider_77 : decode cX3_isWider 77 = .ok (.iconst 0, 1) := by decide +kernel
theorem dX3_isWider_78 : decode cX3_isWider 78 = .ok (.ireturn, 1) := by decide +kernel
theorem dX3_isWider_79 : decode cX3_isWider 79 = .ok (.iload_n 1, 1) := by decide +kernel
theorem dX3_isWider_80 : decode cX3_isWider 80 = .ok (.iconst 5, 1) := by decide +kernel
theorem dX3_isWider_81 : decode cX3_isWider 81 = .ok (.if_icmp .lt 13, 3) := by decide +kernel
theorem dX3_isWider_84 : decode cX3_isWider 84 = .ok (.iload_n 1, 1) := by decide +kernel
theorem dX3_isWider_85 : decode cX3_isWider 85 = .ok (.bipush 7, 2) := by decide +kernel
theorem dX3_isWider_87 : decode cX3_isWider 87 = .ok (.if_icmp .gt 7, 3) := by decide +kernel
theorem dX3_isWider_90 : decode cX3_isWider 90 = .ok (.iconst 1, 1) := by decide +kernel
theorem dX3_isWider_91 : decode cX3_isWider 91 = .ok (.goto 4, 3) := by decide +kernel
theorem dX3_isWider_94 : decode cX3_isWider 94 = .ok (.iconst 0, 1) := by decide +kernel
theorem dX3_isWider_95 : decode cX3_isWider 95 = .ok (.ireturn, 1) := by decide +kernel
theorem dX3_isWider_96 : decode cX3_isWider 96 = .ok (.iload_n 1, 1) := by decide +kernel
theorem dX3_isWider_97 : decode cX3_isWider 97 = .ok (.bipush 6, 2) := by decide +kernel
theorem dX3_isWider_99 : decode cX3_isWider 99 = .ok (.if_icmp .eq 9, 3) := by decide +kernel
theorem dX3_isWider_102 : decode cX3_isWider 102 = .ok (.iload_n 1, 1) := by decide +kernel
theorem dX3_isWider_103 : decode cX3_isWider 103 = .ok (.bipush 7, 2) := by decide +kernel
theorem dX3_isWider_105 : decode cX3_isWider 105 = .ok (.if_icmp .ne 7, 3) := by decide +kernel
theorem dX3_isWider_108 : decode cX3_isWider 108 = .ok (.iconst 1, 1) := by decide +kernel
theorem dX3_isWider_109 : decode cX3_isWider 109 = .ok (.goto 4, 3) := by decide +kernel
theorem dX3_isWider_112 : decode cX3_isWider 112 = .ok (.iconst 0, 1) := by decide +kernel
theorem dX3_isWider_113 : decode cX3_isWider 113 = .ok (.ireturn, 1) := by decide +kernel
theorem dX3_isWider_114 : decode cX3_isWider 114 = .ok (.iload_n 1, 1) := by decide +kernel
theorem dX3_isWider_115 : decode cX3_isWider 115 = .ok (.bipush 7, 2) := by decide +kernel
theorem dX3_isWider_117 : decode cX3_isWider 117 = .ok (.if_icmp .ne 7, 3) := by decide +kernel
theorem dX3_isWider_120 : decode cX3_isWider 120 = .ok (.iconst 1, 1) := by decide +kernel
theorem dX3_isWider_121 : decode cX3_isWider 121 = .ok (.goto 4, 3) := by decide +kernel
theorem dX3_isWider_124 : decode cX3_isWider 124 = .ok (.iconst 0, 1) := by decide +kernel
theorem dX3_isWider_125 : decode cX3_isWider 125 = .ok (.ireturn, 1) := by decide +kernel
theorem dX3_isWider_126 : decode cX3_isWider 126 = .ok (.iconst 0, 1) := by decide +kernel
theorem dX3_isWider_127 : decode cX3_isWider 127 = .ok (.ireturn, 1) := by decide +kernel
set_option maxRecDepth 20000 in
theorem ggX3_widened_X2_wide : GoodIn wsX3_widened wsX2_wide := goodIn_r _ [5, 6, 7, 8, 9, 10, 11, 4, 12, 13] (by decide +kernel) (by decide +kernel)
set_option maxRecDepth 20000 in
theorem gX3_widened_X2_wide : GoodIn wsX3_widened (va_wsS RX3 31 yX2_wide wsX2_wide) := goodIn_app (goodIn_of _ (by decide +kernel)) ggX3_widened_X2_wide
set_option maxRecDepth 20000 in
theorem ggX3_widened_X2_of : GoodIn wsX3_widened wsX2_of := goodIn_r _ [16, 17, 18, 19, 20, 4, 21, 6, 10, 11, 12, 13] (by decide +kernel) (by decide +kernel)
set_option maxRecDepth 20000 in
theorem gX3_widened_X2_of : GoodIn wsX3_widened (va_wsS RX3 41 yX2_of wsX2_of) := goodIn_app (goodIn_of _ (by decide +kernel)) ggX3_widened_X2_of
set_option maxRecDepth 20000 in
theorem ggX3_widened_X2_floatOf : GoodIn wsX3_widened wsX2_floatOf := goodIn_r _ [24, 17, 18, 25, 10, 11, 4, 12, 13, 26, 3, 5, 6, 7, 8, 9] (by decide +kernel) (by decide +kernel)
set_option maxRecDepth 20000 in
theorem gX3_widened_X2_floatOf : GoodIn wsX3_widened (va_wsS RX3 45 yX2_floatOf wsX2_floatOf) := goodIn_app (goodIn_of _ (by decide +kernel)) ggX3_widened_X2_floatOf
set_option maxRecDepth 20000 in
theorem ggX3_widened_X2_narrow : GoodIn wsX3_widened wsX2_narrow := goodIn_r _ [29, 25, 30, 31, 32, 4, 33, 34, 8, 35, 36, 37, 38, 39, 40, 41, 42, 43, 44, 45, 46, 10, 11, 12, 13] (by decide +kernel) (by decide +kernel)
set_option maxRecDepth 20000 in
theorem gX3_widened_X2_narrow : GoodIn wsX3_widened (va_wsS RX3 48 yX2_narrow wsX2_narrow) := goodIn_app (goodIn_of _ (by decide +kernel)) ggX3_widened_X2_narrow
theorem dX3_widened_0 : decode cX3_widened 0 = .ok (.iload_n 2, 1) := by decide +kernel
theorem dX3_widened_1 : decode cX3_widened 1 = .ok (.iload_n 3, 1) := by decide +kernel
theorem dX3_widened_2 : decode cX3_widened 2 = .ok (.if_icmp .eq 14, 3) := by decide +kernel
theorem dX3_widened_5 : decode cX3_widened 5 = .ok (.iload_n 2, 1) := by decide +kernel
theorem dX3_widened_6 : decode cX3_widened 6 = .ok (.iconst 1, 1) := by decide +kernel
theorem dX3_widened_7 : decode cX3_widened 7 = .ok (.if_icmp .lt 9, 3) := by decide +kernel
theorem dX3_widened_10 : decode cX3_widened 10 = .ok (.iload_n 2, 1) := by decide +kernel
theorem dX3_widened_11 : decode cX3_widened 11 = .ok (.bipush 7, 2) := by decide +kernel
theorem dX3_widened_13 : decode cX3_widened 13 = .ok (.if_icmp .le 5, 3) := by decide +kernel
theorem dX3_widened_16 : decode cX3_widened 16 = .ok (.lload_n 0, 1) := by decide +kernel
theorem dX3_widened_17 : decode cX3_widened 17 = .ok (.lreturn, 1) := by decide +kernel
theorem dX3_widened_18 : decode cX3_widened 18 = .ok (.iload_n 3, 1) := by decide +kernel
theorem dX3_widened_19 : decode cX3_widened 19 = .ok (.bipush 7, 2) := by decide +kernel
theorem dX3_widened_21 : decode cX3_widened 21 = .ok (.if_icmp .ne 23, 3) := by decide +kernel
theorem dX3_widened_24 : decode cX3_widened 24 = .ok (.iload_n 2, 1) := by decide +kernel
theorem dX3_widened_25 : decode cX3_widened 25 = .ok (.bipush 6, 2) := by decide +kernel
theorem dX3_widened_27 : decode cX3_widened 27 = .ok (.if_icmp .ne 11, 3) := by decide +kernel
theorem dX3_widened_30 : decode cX3_widened 30 = .ok (.lload_n 0, 1) := by decide +kernel
theorem dX3_widened_31 : decode cX3_widened 31 = .ok (.l2i, 1) := by decide +kernel
theorem dX3_widened_32 : decode cX3_widened 32 = .ok (.invokestatic 31, 3) := by decide +kernel
theorem dX3_widened_35 : decode cX3_widened 35 = .ok (.goto 8, 3) := by decide +kernel
theorem dX3_widened_38 : decode cX3_widened 38 = .ok (.lload_n 0, 1) := by decide +kernel
theorem dX3_widened_39 : decode cX3_widened 39 = .ok (.iconst 0, 1) := by decide +kernel
theorem dX3_widened_40 : decode cX3_widened 40 = .ok (.invokestatic 41, 3) := by decide +kernel
theorem dX3_widened_43 : decode cX3_widened 43 = .ok (.lreturn, 1) := by decide +kernel
theorem dX3_widened_44 : decode cX3_widened 44 = .ok (.iload_n 3, 1) := by decide +kernel
theorem dX3_widened_45 : decode cX3_widened 45 = .ok (.bipush 6, 2) := by decide +kernel
theorem dX3_widened_47 : decode cX3_widened 47 = .ok (.if_icmp .ne 17, 3) := by decide +kernel
theorem dX3_widened_50 : decode cX3_widened 50 = .ok (.lload_n 0, 1) := by decide +kernel
theorem dX3_widened_51 : decode cX3_widened 51 = .ok (.iconst 0, 1) := by decide +kernel
theorem dX3_widened_52 : decode cX3_widened 52 = .ok (.invokestatic 45, 3) := by decide +kernel
theorem dX3_widened_55 : decode cX3_widened 55 = .ok (.invokestatic 48, 3) := by decide +kernel
theorem dX3_widened_58 : decode cX3_widened 58 = .ok (.i2l, 1) := by decide +kernel
theorem dX3_widened_59 : decode cX3_widened 59 = .ok (.ldc2_w 29, 3) := by decide +kernel
theorem dX3_widened_62 : decode cX3_widened 62 = .ok (.land, 1) := by decide +kernel
theorem dX3_widened_63 : decode cX3_widened 63 = .ok (.lreturn, 1) := by decide +kernel
theorem dX3_widened_64 : decode cX3_widened 64 = .ok (.lload_n 0, 1) := by decide +kernel
theorem dX3_widened_65 : decode cX3_widened 65 = .ok (.lreturn, 1) := by decide +kernel
set_option maxRecDepth 20000 in
theorem ggX3_casted_X3_widened : GoodIn wsX3_casted wsX3_widened := goodIn_r _ [5, 1, 6, 7, 8, 9, 10, 11, 12, 13, 14, 15, 16, 17, 18, 19, 20, 21, 22, 23, 24, 25, 26, 27, 28, 29, 30, 31, 32, 33, 34, 35, 36, 37, 38, 39, 40, 41, 42, 43, 44, 45, 46, 47, 48, 49, 50] (by decide +kernel) (by decide +kernel)
set_option maxRecDepth 20000 in
theorem gX3_casted_X3_widened : GoodIn wsX3_casted (va_wsS RX3 52 yX3_widened wsX3_widened) := goodIn_app (goodIn_of _ (by decide +kernel)) ggX3_casted_X3_widened
set_option maxRecDepth 20000 in
theorem ggX3_casted_X2_narrow : GoodIn wsX3_casted wsX2_narrow := goodIn_r _ [33, 29, 34, 35, 36, 8, 37, 38, 12, 39, 40, 41, 42, 43, 44, 45, 46, 47, 48, 49, 50, 14, 15, 16, 17] (by decide +kernel) (by decide +kernel)
set_option maxRecDepth 20000 in
theorem gX3_casted_X2_narrow : GoodIn wsX3_casted (va_wsS RX3 48 yX2_narrow wsX2_narrow) := goodIn_app (goodIn_of _ (by decide +kernel)) ggX3_casted_X2_narrow
set_option maxRecDepth 20000 in
theorem ggX3_casted_X2_wide : GoodIn wsX3_casted wsX2_wide := goodIn_r _ [9, 10, 11, 12, 13, 14, 15, 8, 16, 17] (by decide +kernel) (by decide +kernel)
set_option maxRecDepth 20000 in
theorem gX3_casted_X2_wide : GoodIn wsX3_casted (va_wsS RX3 31 yX2_wide wsX2_wide) := goodIn_app (goodIn_of _ (by decide +kernel)) ggX3_casted_X2_wide
set_option maxRecDepth 20000 in
theorem ggX3_casted_X3_cut : GoodIn wsX3_casted wsX3_cut := goodIn_r _ [53, 54, 55, 56, 57, 8, 58, 35, 36, 37, 38, 12, 39, 40, 41, 48, 49, 50, 46, 45, 47, 59, 60, 61, 42, 43, 44] (by decide +kernel) (by decide +kernel)
set_option maxRecDepth 20000 in
theorem gX3_casted_X3_cut : GoodIn wsX3_casted (va_wsS RX3 56 yX3_cut wsX3_cut) := goodIn_app (goodIn_of _ (by decide +kernel)) ggX3_casted_X3_cut
theorem dX3_casted_0 : decode cX3_casted 0 = .ok (.iload_n 2, 1) := by decide +kernel
theorem dX3_casted_1 : decode cX3_casted 1 = .ok (.iload_n 3, 1) := by decide +kernel
theorem dX3_casted_2 : decode cX3_casted 2 = .ok (.if_icmp .ne 5, 3) := by decide +kernel
theorem dX3_casted_5 : decode cX3_casted 5 = .ok (.lload_n 0, 1) := by decide +kernel
theorem dX3_casted_6 : decode cX3_casted 6 = .ok (.lreturn, 1) := by decide +kernel
theorem dX3_casted_7 : decode cX3_casted 7 = .ok (.iload_n 3, 1) := by decide +kernel
theorem dX3_casted_8 : decode cX3_casted 8 = .ok (.bipush 7, 2) := by decide +kernel
theorem dX3_casted_10 : decode cX3_casted 10 = .ok (.if_icmp .eq 15, 3) := by decide +kernel
theorem dX3_casted_13 : decode cX3_casted 13 = .ok (.iload_n 3, 1) := by decide +kernel
theorem dX3_casted_14 : decode cX3_casted 14 = .ok (.bipush 6, 2) := by decide +kernel
theorem dX3_casted_16 : decode cX3_casted 16 = .ok (.if_icmp .ne 16, 3) := by decide +kernel
theorem dX3_casted_19 : decode cX3_casted 19 = .ok (.iload_n 2, 1) := by decide +kernel
theorem dX3_casted_20 : decode cX3_casted 20 = .ok (.bipush 6, 2) := by decide +kernel
theorem dX3_casted_22 : decode cX3_casted 22 = .ok (.if_icmp .ge 10, 3) := by decide +kernel
theorem dX3_casted_25 : decode cX3_casted 25 = .ok (.lload_n 0, 1) := by decide +kernel
theorem dX3_casted_26 : decode cX3_casted 26 = .ok (.iload_n 2, 1) := by decide +kernel
theorem dX3_casted_27 : decode cX3_casted 27 = .ok (.iload_n 3, 1) := by decide +kernel
theorem dX3_casted_28 : decode cX3_casted 28 = .ok (.invokestatic 52, 3) := by decide +kernel
theorem dX3_casted_31 : decode cX3_casted 31 = .ok (.lreturn, 1) := by decide +kernel
theorem dX3_casted_32 : decode cX3_casted 32 = .ok (.iload_n 3, 1) := by decide +kernel
theorem dX3_casted_33 : decode cX3_casted 33 = .ok (.bipush 6, 2) := by decide +kernel
theorem dX3_casted_35 : decode cX3_casted 35 = .ok (.if_icmp .ne 13, 3) := by decide +kernel
theorem dX3_casted_38 : decode cX3_casted 38 = .ok (.lload_n 0, 1) := by decide +kernel
theorem dX3_casted_39 : decode cX3_casted 39 = .ok (.invokestatic 48, 3) := by decide +kernel
theorem dX3_casted_42 : decode cX3_casted 42 = .ok (.i2l, 1) := by decide +kernel
theorem dX3_casted_43 : decode cX3_casted 43 = .ok (.ldc2_w 29, 3) := by decide +kernel
theorem dX3_casted_46 : decode cX3_casted 46 = .ok (.land, 1) := by decide +kernel
theorem dX3_casted_47 : decode cX3_casted 47 = .ok (.lreturn, 1) := by decide +kernel
theorem dX3_casted_48 : decode cX3_casted 48 = .ok (.lload_n 0, 1) := by decide +kernel
theorem dX3_casted_49 : decode cX3_casted 49 = .ok (.lstore 4, 2) := by decide +kernel
theorem dX3_casted_51 : decode cX3_casted 51 = .ok (.iload_n 2, 1) := by decide +kernel
theorem dX3_casted_52 : decode cX3_casted 52 = .ok (.bipush 6, 2) := by decide +kernel
theorem dX3_casted_54 : decode cX3_casted 54 = .ok (.if_icmp .eq 9, 3) := by decide +kernel
theorem dX3_casted_57 : decode cX3_casted 57 = .ok (.iload_n 2, 1) := by decide +kernel
theorem dX3_casted_58 : decode cX3_casted 58 = .ok (.bipush 7, 2) := by decide +kernel
theorem dX3_casted_60 : decode cX3_casted 60 = .ok (.if_icmp .ne 33, 3) := by decide +kernel
theorem dX3_casted_63 : decode cX3_casted 63 = .ok (.iload_n 2, 1) := by decide +kernel
theorem dX3_casted_64 : decode cX3_casted 64 = .ok (.bipush 6, 2) := by decide +kernel
theorem dX3_casted_66 : decode cX3_casted 66 = .ok (.if_icmp .ne 11, 3) := by decide +kernel
theorem dX3_casted_69 : decode cX3_casted 69 = .ok (.lload_n 0, 1) := by decide +kernel
theorem dX3_casted_70 : decode cX3_casted 70 = .ok (.l2i, 1) := by decide +kernel
theorem dX3_casted_71 : decode cX3_casted 71 = .ok (.invokestatic 31, 3) := by decide +kernel
theorem dX3_casted_74 : decode cX3_casted 74 = .ok (.goto 4, 3) := by decide +kernel
theorem dX3_casted_77 : decode cX3_casted 77 = .ok (.lload_n 0, 1) := by decide +kernel
theorem dX3_casted_78 : decode cX3_casted 78 = .ok (.iload_n 3, 1) := by decide +kernel
theorem dX3_casted_79 : decode cX3_casted 79 = .ok (.iconst 5, 1) := by decide +kernel
theorem dX3_casted_80 : decode cX3_casted 80 = .ok (.if_icmp .ne 7, 3) := by decide +kernel
theorem dX3_casted_83 : decode cX3_casted 83 = .ok (.iconst 1, 1) := by decide +kernel
theorem dX3_casted_84 : decode cX3_casted 84 = .ok (.goto 4, 3) := by decide +kernel
theorem dX3_casted_87 : decode cX3_casted 87 = .ok (.iconst 0, 1) := by decide +kernel
theorem dX3_casted_88 : decode cX3_casted 88 = .ok (.invokestatic 56, 3) := by decide +kernel
theorem dX3_casted_91 : decode cX3_casted 91 = .ok (.lstore 4, 2) := by decide +kernel
theorem dX3_casted_93 : decode cX3_casted 93 = .ok (.iload_n 3, 1) := by decide +kernel
theorem dX3_casted_94 : decode cX3_casted 94 = .ok (.tableswitch 53 1 4 #[30, 36, 42, 48], 30) := by decide +kernel
theorem dX3_casted_124 : decode cX3_casted 124 = .ok (.lload 4, 2) := by decide +kernel
theorem dX3_casted_126 : decode cX3_casted 126 = .ok (.l2i, 1) := by decide +kernel
theorem dX3_casted_127 : decode cX3_casted 127 = .ok (.i2b, 1) := by decide +kernel
theorem dX3_casted_128 : decode cX3_casted 128 = .ok (.i2l, 1) := by decide +kernel
theorem dX3_casted_129 : decode cX3_casted 129 = .ok (.lreturn, 1) := by decide +kernel
theorem dX3_casted_130 : decode cX3_casted 130 = .ok (.lload 4, 2) := by decide +kernel
theorem dX3_casted_132 : decode cX3_casted 132 = .ok (.l2i, 1) := by decide +kernel
theorem dX3_casted_133 : decode cX3_casted 133 = .ok (.i2s, 1) := by decide +kernel
theorem dX3_casted_134 : decode cX3_casted 134 = .ok (.i2l, 1) := by decide +kernel
theorem dX3_casted_135 : decode cX3_casted 135 = .ok (.lreturn, 1) := by decide +kernel
theorem dX3_casted_136 : decode cX3_casted 136 = .ok (.lload 4, 2) := by decide +kernel
theorem dX3_casted_138 : decode cX3_casted 138 = .ok (.l2i, 1) := by decide +kernel
theorem dX3_casted_139 : decode cX3_casted 139 = .ok (.i2c, 1) := by decide +kernel
theorem dX3_casted_140 : decode cX3_casted 140 = .ok (.i2l, 1) := by decide +kernel
theorem dX3_casted_141 : decode cX3_casted 141 = .ok (.lreturn, 1) := by decide +kernel
theorem dX3_casted_142 : decode cX3_casted 142 = .ok (.lload 4, 2) := by decide +kernel
theorem dX3_casted_144 : decode cX3_casted 144 = .ok (.l2i, 1) := by decide +kernel
theorem dX3_casted_145 : decode cX3_casted 145 = .ok (.i2l, 1) := by decide +kernel
theorem dX3_casted_146 : decode cX3_casted 146 = .ok (.lreturn, 1) := by decide +kernel
theorem dX3_casted_147 : decode cX3_casted 147 = .ok (.lload 4, 2) := by decide +kernel
theorem dX3_casted_149 : decode cX3_casted 149 = .ok (.lreturn, 1) := by decide +kernel
set_option maxRecDepth 20000 in
theorem ggX3_cut_X2_isGreat : GoodIn wsX3_cut wsX2_isGreat := goodIn_r _ [6, 7, 8, 5, 9, 10, 11, 12, 13, 14, 15, 16, 17, 18, 19, 20] (by decide +kernel) (by decide +kernel)
set_option maxRecDepth 20000 in
theorem gX3_cut_X2_isGreat : GoodIn wsX3_cut (va_wsS RX3 63 yX2_isGreat wsX2_isGreat) := goodIn_app (goodIn_of _ (by decide +kernel)) ggX3_cut_X2_isGreat
set_option maxRecDepth 20000 in
theorem ggX3_cut_X2_cut : GoodIn wsX3_cut wsX2_cut := goodIn_r _ [23, 12, 13, 5, 14, 10, 15, 16, 17, 18, 19, 20, 24, 25, 26] (by decide +kernel) (by decide +kernel)
set_option maxRecDepth 20000 in
theorem gX3_cut_X2_cut : GoodIn wsX3_cut (va_wsS RX3 66 yX2_cut wsX2_cut) := goodIn_app (goodIn_of _ (by decide +kernel)) ggX3_cut_X2_cut
theorem dX3_cut_0 : decode cX3_cut 0 = .ok (.iload_n 2, 1) := by decide +kernel
theorem dX3_cut_1 : decode cX3_cut 1 = .ok (.ifCond .eq 9, 3) := by decide +kernel
theorem dX3_cut_4 : decode cX3_cut 4 = .ok (.ldc2_w 61, 3) := by decide +kernel
theorem dX3_cut_7 : decode cX3_cut 7 = .ok (.goto 6, 3) := by decide +kernel
theorem dX3_cut_10 : decode cX3_cut 10 = .ok (.ldc2_w 27, 3) := by decide +kernel
theorem dX3_cut_13 : decode cX3_cut 13 = .ok (.lstore_n 3, 1) := by decide +kernel
theorem dX3_cut_14 : decode cX3_cut 14 = .ok (.lload_n 0, 1) := by decide +kernel
theorem dX3_cut_15 : decode cX3_cut 15 = .ok (.lconst 0, 1) := by decide +kernel
theorem dX3_cut_16 : decode cX3_cut 16 = .ok (.lcmp, 1) := by decide +kernel
theorem dX3_cut_17 : decode cX3_cut 17 = .ok (.ifCond .ge 7, 3) := by decide +kernel
theorem dX3_cut_20 : decode cX3_cut 20 = .ok (.iconst 1, 1) := by decide +kernel
theorem dX3_cut_21 : decode cX3_cut 21 = .ok (.goto 4, 3) := by decide +kernel
theorem dX3_cut_24 : decode cX3_cut 24 = .ok (.iconst 0, 1) := by decide +kernel
theorem dX3_cut_25 : decode cX3_cut 25 = .ok (.istore 5, 2) := by decide +kernel
theorem dX3_cut_27 : decode cX3_cut 27 = .ok (.lload_n 0, 1) := by decide +kernel
theorem dX3_cut_28 : decode cX3_cut 28 = .ok (.invokestatic 63, 3) := by decide +kernel
theorem dX3_cut_31 : decode cX3_cut 31 = .ok (.istore 6, 2) := by decide +kernel
theorem dX3_cut_33 : decode cX3_cut 33 = .ok (.iload 6, 2) := by decide +kernel
theorem dX3_cut_35 : decode cX3_cut 35 = .ok (.ifCond .eq 7, 3) := by decide +kernel
theorem dX3_cut_38 : decode cX3_cut 38 = .ok (.lconst 0, 1) := by decide +kernel
theorem dX3_cut_39 : decode cX3_cut 39 = .ok (.goto 7, 3) := by decide +kernel
theorem dX3_cut_42 : decode cX3_cut 42 = .ok (.lload_n 0, 1) := by decide +kernel
theorem dX3_cut_43 : decode cX3_cut 43 = .ok (.invokestatic 66, 3) := by decide +kernel
theorem dX3_cut_46 : decode cX3_cut 46 = .ok (.lstore 7, 2) := by decide +kernel
theorem dX3_cut_48 : decode cX3_cut 48 = .ok (.iload 6, 2) := by decide +kernel
theorem dX3_cut_50 : decode cX3_cut 50 = .ok (.ifCond .ne 17, 3) := by decide +kernel
theorem dX3_cut_53 : decode cX3_cut 53 = .ok (.lload 7, 2) := by decide +kernel
theorem dX3_cut_55 : decode cX3_cut 55 = .ok (.lconst 0, 1) := by decide +kernel
theorem dX3_cut_56 : decode cX3_cut 56 = .ok (.lcmp, 1) := by decide +kernel
theorem dX3_cut_57 : decode cX3_cut 57 = .ok (.ifCond .lt 10, 3) := by decide +kernel
theorem dX3_cut_60 : decode cX3_cut 60 = .ok (.lload 7, 2) := by decide +kernel
theorem dX3_cut_62 : decode cX3_cut 62 = .ok (.lload_n 3, 1) := by decide +kernel
theorem dX3_cut_63 : decode cX3_cut 63 = .ok (.lcmp, 1) := by decide +kernel
theorem dX3_cut_64 : decode cX3_cut 64 = .ok (.ifCond .le 7, 3) := by decide +kernel
theorem dX3_cut_67 : decode cX3_cut 67 = .ok (.iconst 1, 1) := by decide +kernel
theorem dX3_cut_68 : decode cX3_cut 68 = .ok (.goto 4, 3) := by decide +kernel
theorem dX3_cut_71 : decode cX3_cut 71 = .ok (.iconst 0, 1) := by decide +kernel
theorem dX3_cut_72 : decode cX3_cut 72 = .ok (.istore 6, 2) := by decide +kernel
theorem dX3_cut_74 : decode cX3_cut 74 = .ok (.iload 6, 2) := by decide +kernel
theorem dX3_cut_76 : decode cX3_cut 76 = .ok (.ifCond .eq 17, 3) := by decide +kernel
theorem dX3_cut_79 : decode cX3_cut 79 = .ok (.iload 5, 2) := by decide +kernel
theorem dX3_cut_81 : decode cX3_cut 81 = .ok (.ifCond .eq 10, 3) := by decide +kernel
theorem dX3_cut_84 : decode cX3_cut 84 = .ok (.lload_n 3, 1) := by decide +kernel
theorem dX3_cut_85 : decode cX3_cut 85 = .ok (.lneg, 1) := by decide +kernel
theorem dX3_cut_86 : decode cX3_cut 86 = .ok (.lconst 1, 1) := by decide +kernel
theorem dX3_cut_87 : decode cX3_cut 87 = .ok (.lsub, 1) := by decide +kernel
theorem dX3_cut_88 : decode cX3_cut 88 = .ok (.goto 4, 3) := by decide +kernel
theorem dX3_cut_91 : decode cX3_cut 91 = .ok (.lload_n 3, 1) := by decide +kernel
theorem dX3_cut_92 : decode cX3_cut 92 = .ok (.lreturn, 1) := by decide +kernel
theorem dX3_cut_93 : decode cX3_cut 93 = .ok (.iload 5, 2) := by decide +kernel
theorem dX3_cut_95 : decode cX3_cut 95 = .ok (.ifCond .eq 9, 3) := by decide +kernel
theorem dX3_cut_98 : decode cX3_cut 98 = .ok (.lload 7, 2) := by decide +kernel
theorem dX3_cut_100 : decode cX3_cut 100 = .ok (.lneg, 1) := by decide +kernel
theorem dX3_cut_101 : decode cX3_cut 101 = .ok (.goto 5, 3) := by decide +kernel
theorem dX3_cut_104 : decode cX3_cut 104 = .ok (.lload 7, 2) := by decide +kernel
theorem dX3_cut_106 : decode cX3_cut 106 = .ok (.lreturn, 1) := by decide +kernel
set_option maxRecDepth 20000 in
theorem ggX3_rest_X2_isInfinite : GoodIn wsX3_rest wsX2_isInfinite := goodIn_r _ [5, 6, 7] (by decide +kernel) (by decide +kernel)
set_option maxRecDepth 20000 in
theorem gX3_rest_X2_isInfinite : GoodIn wsX3_rest (va_wsS RX3 69 yX2_isInfinite wsX2_isInfinite) := goodIn_app (goodIn_of _ (by decide +kernel)) ggX3_rest_X2_isInfinite
set_option maxRecDepth 20000 in
theorem ggX3_rest_X2_isZero : GoodIn wsX3_rest wsX2_isZero := goodIn_r _ [10, 6] (by decide +kernel) (by decide +kernel)
set_option maxRecDepth 20000 in
theorem gX3_rest_X2_isZero : GoodIn wsX3_rest (va_wsS RX3 72 yX2_isZero wsX2_isZero) := goodIn_app (goodIn_of _ (by decide +kernel)) ggX3_rest_X2_isZero
set_option maxRecDepth 20000 in
theorem ggX3_rest_X2_significand : GoodIn wsX3_rest wsX2_significand := goodIn_r _ [12, 13, 14, 15] (by decide +kernel) (by decide +kernel)
set_option maxRecDepth 20000 in
theorem gX3_rest_X2_significand_n75 : GoodIn wsX3_rest (wsX2_significand) := ggX3_rest_X2_significand
set_option maxRecDepth 20000 in
theorem ggX3_rest_X2_exponent : GoodIn wsX3_rest wsX2_exponent := goodIn_r _ [17, 14, 13, 15] (by decide +kernel) (by decide +kernel)
set_option maxRecDepth 20000 in
theorem gX3_rest_X2_exponent_n78 : GoodIn wsX3_rest (wsX2_exponent) := ggX3_rest_X2_exponent
set_option maxRecDepth 20000 in
theorem ggX3_rest_X2_made : GoodIn wsX3_rest wsX2_made := goodIn_r _ [19, 20, 21, 22, 4, 23, 24] (by decide +kernel) (by decide +kernel)
set_option maxRecDepth 20000 in
theorem gX3_rest_X2_made_n83 : GoodIn wsX3_rest (wsX2_made) := ggX3_rest_X2_made
theorem dX3_rest_0 : decode cX3_rest 0 = .ok (.lload_n 2, 1) := by decide +kernel
theorem dX3_rest_1 : decode cX3_rest 1 = .ok (.invokestatic 69, 3) := by decide +kernel
theorem dX3_rest_4 : decode cX3_rest 4 = .ok (.ifCond .ne 10, 3) := by decide +kernel
theorem dX3_rest_7 : decode cX3_rest 7 = .ok (.lload_n 0, 1) := by decide +kernel
theorem dX3_rest_8 : decode cX3_rest 8 = .ok (.invokestatic 72, 3) := by decide +kernel
theorem dX3_rest_11 : decode cX3_rest 11 = .ok (.ifCond .eq 5, 3) := by decide +kernel
theorem dX3_rest_14 : decode cX3_rest 14 = .ok (.lload_n 0, 1) := by decide +kernel
theorem dX3_rest_15 : decode cX3_rest 15 = .ok (.lreturn, 1) := by decide +kernel
theorem dX3_rest_16 : decode cX3_rest 16 = .ok (.lload_n 0, 1) := by decide +kernel
theorem dX3_rest_17 : decode cX3_rest 17 = .ok (.invokestatic 75, 3) := by decide +kernel
theorem dX3_rest_20 : decode cX3_rest 20 = .ok (.lstore 4, 2) := by decide +kernel
theorem dX3_rest_22 : decode cX3_rest 22 = .ok (.lload_n 2, 1) := by decide +kernel
theorem dX3_rest_23 : decode cX3_rest 23 = .ok (.invokestatic 75, 3) := by decide +kernel
theorem dX3_rest_26 : decode cX3_rest 26 = .ok (.lstore 6, 2) := by decide +kernel
theorem dX3_rest_28 : decode cX3_rest 28 = .ok (.lload_n 0, 1) := by decide +kernel
theorem dX3_rest_29 : decode cX3_rest 29 = .ok (.invokestatic 78, 3) := by decide +kernel
theorem dX3_rest_32 : decode cX3_rest 32 = .ok (.istore 8, 2) := by decide +kernel
theorem dX3_rest_34 : decode cX3_rest 34 = .ok (.lload_n 2, 1) := by decide +kernel
theorem dX3_rest_35 : decode cX3_rest 35 = .ok (.invokestatic 78, 3) := by decide +kernel
theorem dX3_rest_38 : decode cX3_rest 38 = .ok (.istore 9, 2) := by decide +kernel
theorem dX3_rest_40 : decode cX3_rest 40 = .ok (.lload_n 0, 1) := by decide +kernel
theorem dX3_rest_41 : decode cX3_rest 41 = .ok (.ldc2_w 81, 3) := by decide +kernel
theorem dX3_rest_44 : decode cX3_rest 44 = .ok (.land, 1) := by decide +kernel
theorem dX3_rest_45 : decode cX3_rest 45 = .ok (.lstore 10, 2) := by decide +kernel
theorem dX3_rest_47 : decode cX3_rest 47 = .ok (.iload 8, 2) := by decide +kernel
theorem dX3_rest_49 : decode cX3_rest 49 = .ok (.iload 9, 2) := by decide +kernel
theorem dX3_rest_51 : decode cX3_rest 51 = .ok (.if_icmp .ge 5, 3) := by decide +kernel
theorem dX3_rest_54 : decode cX3_rest 54 = .ok (.lload_n 0, 1) := by decide +kernel
theorem dX3_rest_55 : decode cX3_rest 55 = .ok (.lreturn, 1) := by decide +kernel
theorem dX3_rest_56 : decode cX3_rest 56 = .ok (.lload 4, 2) := by decide +kernel
theorem dX3_rest_58 : decode cX3_rest 58 = .ok (.lload 6, 2) := by decide +kernel
theorem dX3_rest_60 : decode cX3_rest 60 = .ok (.lrem, 1) := by decide +kernel
theorem dX3_rest_61 : decode cX3_rest 61 = .ok (.lstore 12, 2) := by decide +kernel
theorem dX3_rest_63 : decode cX3_rest 63 = .ok (.iload 8, 2) := by decide +kernel
theorem dX3_rest_65 : decode cX3_rest 65 = .ok (.istore 14, 2) := by decide +kernel
theorem dX3_rest_67 : decode cX3_rest 67 = .ok (.iload 14, 2) := by decide +kernel
theorem dX3_rest_69 : decode cX3_rest 69 = .ok (.iload 9, 2) := by decide +kernel
theorem dX3_rest_71 : decode cX3_rest 71 = .ok (.if_icmp .le 18, 3) := by decide +kernel
theorem dX3_rest_74 : decode cX3_rest 74 = .ok (.lload 12, 2) := by decide +kernel
theorem dX3_rest_76 : decode cX3_rest 76 = .ok (.iconst 1, 1) := by decide +kernel
theorem dX3_rest_77 : decode cX3_rest 77 = .ok (.lshl, 1) := by decide +kernel
theorem dX3_rest_78 : decode cX3_rest 78 = .ok (.lload 6, 2) := by decide +kernel
theorem dX3_rest_80 : decode cX3_rest 80 = .ok (.lrem, 1) := by decide +kernel
theorem dX3_rest_81 : decode cX3_rest 81 = .ok (.lstore 12, 2) := by decide +kernel
theorem dX3_rest_83 : decode cX3_rest 83 = .ok (.iinc 14 (-1), 3) := by decide +kernel
theorem dX3_rest_86 : decode cX3_rest 86 = .ok (.goto (-19), 3) := by decide +kernel
theorem dX3_rest_89 : decode cX3_rest 89 = .ok (.lload 12, 2) := by decide +kernel
theorem dX3_rest_91 : decode cX3_rest 91 = .ok (.lconst 0, 1) := by decide +kernel
theorem dX3_rest_92 : decode cX3_rest 92 = .ok (.lcmp, 1) := by decide +kernel
theorem dX3_rest_93 : decode cX3_rest 93 = .ok (.ifCond .ne 6, 3) := by decide +kernel
theorem dX3_rest_96 : decode cX3_rest 96 = .ok (.lload 10, 2) := by decide +kernel
theorem dX3_rest_98 : decode cX3_rest 98 = .ok (.lreturn, 1) := by decide +kernel
theorem dX3_rest_99 : decode cX3_rest 99 = .ok (.lload 10, 2) := by decide +kernel
theorem dX3_rest_101 : decode cX3_rest 101 = .ok (.iconst 0, 1) := by decide +kernel
theorem dX3_rest_102 : decode cX3_rest 102 = .ok (.lload 12, 2) := by decide +kernel
theorem dX3_rest_104 : decode cX3_rest 104 = .ok (.iload 9, 2) := by decide +kernel
theorem dX3_rest_106 : decode cX3_rest 106 = .ok (.iconst 0, 1) := by decide +kernel
theorem dX3_rest_107 : decode cX3_rest 107 = .ok (.invokestatic 83, 3) := by decide +kernel
theorem dX3_rest_110 : decode cX3_rest 110 = .ok (.lor, 1) := by decide +kernel
theorem dX3_rest_111 : decode cX3_rest 111 = .ok (.lreturn, 1) := by decide +kernel
set_option maxRecDepth 20000 in
theorem ggX3_has_X3_hasBits : GoodIn wsX3_has wsX3_hasBits := goodIn_r _ [4, 5, 6, 7, 8, 9, 10, 11, 12, 13, 14, 15, 16, 17, 18, 19, 20, 21, 22, 23, 24, 25, 26, 27, 28] (by decide +kernel) (by decide +kernel)
set_option maxRecDepth 20000 in
theorem gX3_has_X3_hasBits : GoodIn wsX3_has (va_wsS RX3 87 yX3_hasBits wsX3_hasBits) := goodIn_app (goodIn_of _ (by decide +kernel)) ggX3_has_X3_hasBits
theorem dX3_has_0 : decode cX3_has 0 = .ok (.iload_n 1, 1) := by decide +kernel
theorem dX3_has_1 : decode cX3_has 1 = .ok (.lload_n 2, 1) := by decide +kernel
theorem dX3_has_2 : decode cX3_has 2 = .ok (.invokestatic 87, 3) := by decide +kernel
theorem dX3_has_5 : decode cX3_has 5 = .ok (.ireturn, 1) := by decide +kernel
set_option maxRecDepth 20000 in
theorem ggX3_widens_X3_isWider : GoodIn wsX3_widens wsX3_isWider := goodIn_r _ [4] (by decide +kernel) (by decide +kernel)
set_option maxRecDepth 20000 in
theorem gX3_widens_X3_isWider : GoodIn wsX3_widens (va_wsS RX3 91 yX3_isWider wsX3_isWider) := goodIn_app (goodIn_of _ (by decide +kernel)) ggX3_widens_X3_isWider
theorem dX3_widens_0 : decode cX3_widens 0 = .ok (.iload_n 1, 1) := by decide +kernel
theorem dX3_widens_1 : decode cX3_widens 1 = .ok (.ifCond .lt 36, 3) := by decide +kernel
theorem dX3_widens_4 : decode cX3_widens 4 = .ok (.iload_n 1, 1) := by decide +kernel
theorem dX3_widens_5 : decode cX3_widens 5 = .ok (.bipush 7, 2) := by decide +kernel
theorem dX3_widens_7 : decode cX3_widens 7 = .ok (.if_icmp .gt 30, 3) := by decide +kernel
theorem dX3_widens_10 : decode cX3_widens 10 = .ok (.iload_n 1, 1) := by decide +kernel
theorem dX3_widens_11 : decode cX3_widens 11 = .ok (.iload_n 2, 1) := by decide +kernel
theorem dX3_widens_12 : decode cX3_widens 12 = .ok (.if_icmp .eq 21, 3) := by decide +kernel
theorem dX3_widens_15 : decode cX3_widens 15 = .ok (.iload_n 2, 1) := by decide +kernel
theorem dX3_widens_16 : decode cX3_widens 16 = .ok (.ifCond .lt 21, 3) := by decide +kernel
theorem dX3_widens_19 : decode cX3_widens 19 = .ok (.iload_n 2, 1) := by decide +kernel
theorem dX3_widens_20 : decode cX3_widens 20 = .ok (.bipush 7, 2) := by decide +kernel
theorem dX3_widens_22 : decode cX3_widens 22 = .ok (.if_icmp .gt 15, 3) := by decide +kernel
theorem dX3_widens_25 : decode cX3_widens 25 = .ok (.iload_n 1, 1) := by decide +kernel
theorem dX3_widens_26 : decode cX3_widens 26 = .ok (.iload_n 2, 1) := by decide +kernel
theorem dX3_widens_27 : decode cX3_widens 27 = .ok (.invokestatic 91, 3) := by decide +kernel
theorem dX3_widens_30 : decode cX3_widens 30 = .ok (.ifCond .eq 7, 3) := by decide +kernel
theorem dX3_widens_33 : decode cX3_widens 33 = .ok (.iconst 1, 1) := by decide +kernel
theorem dX3_widens_34 : decode cX3_widens 34 = .ok (.goto 4, 3) := by decide +kernel
theorem dX3_widens_37 : decode cX3_widens 37 = .ok (.iconst 0, 1) := by decide +kernel
theorem dX3_widens_38 : decode cX3_widens 38 = .ok (.ireturn, 1) := by decide +kernel
set_option maxRecDepth 20000 in
theorem ggX3_cast_X3_isNumber : GoodIn wsX3_cast wsX3_isNumber := goodIn_r _ [5] (by decide +kernel) (by decide +kernel)
set_option maxRecDepth 20000 in
theorem gX3_cast_X3_isNumber : GoodIn wsX3_cast (va_wsS RX3 95 yX3_isNumber wsX3_isNumber) := goodIn_app (goodIn_of _ (by decide +kernel)) ggX3_cast_X3_isNumber
set_option maxRecDepth 20000 in
theorem ggX3_cast_X3_hasBits : GoodIn wsX3_cast wsX3_hasBits := goodIn_r _ [8, 9, 10, 11, 12, 13, 14, 15, 16, 17, 18, 19, 20, 21, 22, 23, 24, 25, 26, 27, 28, 29, 30, 31, 32] (by decide +kernel) (by decide +kernel)
set_option maxRecDepth 20000 in
theorem gX3_cast_X3_hasBits : GoodIn wsX3_cast (va_wsS RX3 87 yX3_hasBits wsX3_hasBits) := goodIn_app (goodIn_of _ (by decide +kernel)) ggX3_cast_X3_hasBits
set_option maxRecDepth 20000 in
theorem ggX3_cast_X3_casted : GoodIn wsX3_cast wsX3_casted := goodIn_r _ [35, 16, 36, 37, 4, 38, 17, 18, 19, 20, 21, 22, 23, 24, 25, 26, 27, 28, 39, 40, 41, 42, 43, 44, 45, 46, 47, 48, 49, 50, 51, 52, 53, 54, 55, 56, 57, 58, 32, 59, 60, 61, 62, 63, 64, 65, 66, 67, 68, 69, 70, 71, 72, 73, 74, 15, 75, 76, 77, 78, 79, 80] (by decide +kernel) (by decide +kernel)
set_option maxRecDepth 20000 in
theorem gX3_cast_X3_casted : GoodIn wsX3_cast (va_wsS RX3 99 yX3_casted wsX3_casted) := goodIn_app (goodIn_of _ (by decide +kernel)) ggX3_cast_X3_casted
theorem dX3_cast_0 : decode cX3_cast 0 = .ok (.iload_n 1, 1) := by decide +kernel
theorem dX3_cast_1 : decode cX3_cast 1 = .ok (.iload_n 2, 1) := by decide +kernel
theorem dX3_cast_2 : decode cX3_cast 2 = .ok (.if_icmp .eq 17, 3) := by decide +kernel
theorem dX3_cast_5 : decode cX3_cast 5 = .ok (.iload_n 1, 1) := by decide +kernel
theorem dX3_cast_6 : decode cX3_cast 6 = .ok (.invokestatic 95, 3) := by decide +kernel
theorem dX3_cast_9 : decode cX3_cast 9 = .ok (.ifCond .eq 22, 3) := by decide +kernel
theorem dX3_cast_12 : decode cX3_cast 12 = .ok (.iload_n 2, 1) := by decide +kernel
theorem dX3_cast_13 : decode cX3_cast 13 = .ok (.invokestatic 95, 3) := by decide +kernel
theorem dX3_cast_16 : decode cX3_cast 16 = .ok (.ifCond .eq 15, 3) := by decide +kernel
theorem dX3_cast_19 : decode cX3_cast 19 = .ok (.iload_n 1, 1) := by decide +kernel
theorem dX3_cast_20 : decode cX3_cast 20 = .ok (.lload_n 3, 1) := by decide +kernel
theorem dX3_cast_21 : decode cX3_cast 21 = .ok (.invokestatic 87, 3) := by decide +kernel
theorem dX3_cast_24 : decode cX3_cast 24 = .ok (.ifCond .eq 7, 3) := by decide +kernel
theorem dX3_cast_27 : decode cX3_cast 27 = .ok (.iconst 1, 1) := by decide +kernel
theorem dX3_cast_28 : decode cX3_cast 28 = .ok (.goto 4, 3) := by decide +kernel
theorem dX3_cast_31 : decode cX3_cast 31 = .ok (.iconst 0, 1) := by decide +kernel
theorem dX3_cast_32 : decode cX3_cast 32 = .ok (.istore 5, 2) := by decide +kernel
theorem dX3_cast_34 : decode cX3_cast 34 = .ok (.aload_n 0, 1) := by decide +kernel
theorem dX3_cast_35 : decode cX3_cast 35 = .ok (.iload 5, 2) := by decide +kernel
theorem dX3_cast_37 : decode cX3_cast 37 = .ok (.ifCond .eq 7, 3) := by decide +kernel
theorem dX3_cast_40 : decode cX3_cast 40 = .ok (.iconst 0, 1) := by decide +kernel
theorem dX3_cast_41 : decode cX3_cast 41 = .ok (.goto 4, 3) := by decide +kernel
theorem dX3_cast_44 : decode cX3_cast 44 = .ok (.iconst 1, 1) := by decide +kernel
theorem dX3_cast_45 : decode cX3_cast 45 = .ok (.putfield 7, 3) := by decide +kernel
theorem dX3_cast_48 : decode cX3_cast 48 = .ok (.iload 5, 2) := by decide +kernel
theorem dX3_cast_50 : decode cX3_cast 50 = .ok (.ifCond .eq 12, 3) := by decide +kernel
theorem dX3_cast_53 : decode cX3_cast 53 = .ok (.lload_n 3, 1) := by decide +kernel
theorem dX3_cast_54 : decode cX3_cast 54 = .ok (.iload_n 1, 1) := by decide +kernel
theorem dX3_cast_55 : decode cX3_cast 55 = .ok (.iload_n 2, 1) := by decide +kernel
theorem dX3_cast_56 : decode cX3_cast 56 = .ok (.invokestatic 99, 3) := by decide +kernel
theorem dX3_cast_59 : decode cX3_cast 59 = .ok (.goto 4, 3) := by decide +kernel
theorem dX3_cast_62 : decode cX3_cast 62 = .ok (.lconst 0, 1) := by decide +kernel
theorem dX3_cast_63 : decode cX3_cast 63 = .ok (.lreturn, 1) := by decide +kernel
set_option maxRecDepth 20000 in
theorem ggX3_areNumbers_X3_isNumber : GoodIn wsX3_areNumbers wsX3_isNumber := goodIn_r _ [4] (by decide +kernel) (by decide +kernel)
set_option maxRecDepth 20000 in
theorem gX3_areNumbers_X3_isNumber : GoodIn wsX3_areNumbers (va_wsS RX3 95 yX3_isNumber wsX3_isNumber) := goodIn_app (goodIn_of _ (by decide +kernel)) ggX3_areNumbers_X3_isNumber
set_option maxRecDepth 20000 in
theorem ggX3_areNumbers_X3_hasBits : GoodIn wsX3_areNumbers wsX3_hasBits := goodIn_r _ [7, 8, 9, 10, 11, 12, 13, 14, 15, 16, 17, 18, 19, 20, 21, 22, 23, 24, 25, 26, 27, 28, 29, 30, 31] (by decide +kernel) (by decide +kernel)
set_option maxRecDepth 20000 in
theorem gX3_areNumbers_X3_hasBits : GoodIn wsX3_areNumbers (va_wsS RX3 87 yX3_hasBits wsX3_hasBits) := goodIn_app (goodIn_of _ (by decide +kernel)) ggX3_areNumbers_X3_hasBits
theorem dX3_areNumbers_0 : decode cX3_areNumbers 0 = .ok (.iload_n 1, 1) := by decide +kernel
theorem dX3_areNumbers_1 : decode cX3_areNumbers 1 = .ok (.invokestatic 95, 3) := by decide +kernel
theorem dX3_areNumbers_4 : decode cX3_areNumbers 4 = .ok (.ifCond .eq 33, 3) := by decide +kernel
theorem dX3_areNumbers_7 : decode cX3_areNumbers 7 = .ok (.iload 4, 2) := by decide +kernel
theorem dX3_areNumbers_9 : decode cX3_areNumbers 9 = .ok (.invokestatic 95, 3) := by decide +kernel
theorem dX3_areNumbers_12 : decode cX3_areNumbers 12 = .ok (.ifCond .eq 25, 3) := by decide +kernel
theorem dX3_areNumbers_15 : decode cX3_areNumbers 15 = .ok (.iload_n 1, 1) := by decide +kernel
theorem dX3_areNumbers_16 : decode cX3_areNumbers 16 = .ok (.lload_n 2, 1) := by decide +kernel
theorem dX3_areNumbers_17 : decode cX3_areNumbers 17 = .ok (.invokestatic 87, 3) := by decide +kernel
theorem dX3_areNumbers_20 : decode cX3_areNumbers 20 = .ok (.ifCond .eq 17, 3) := by decide +kernel
theorem dX3_areNumbers_23 : decode cX3_areNumbers 23 = .ok (.iload 4, 2) := by decide +kernel
theorem dX3_areNumbers_25 : decode cX3_areNumbers 25 = .ok (.lload 5, 2) := by decide +kernel
theorem dX3_areNumbers_27 : decode cX3_areNumbers 27 = .ok (.invokestatic 87, 3) := by decide +kernel
theorem dX3_areNumbers_30 : decode cX3_areNumbers 30 = .ok (.ifCond .eq 7, 3) := by decide +kernel
theorem dX3_areNumbers_33 : decode cX3_areNumbers 33 = .ok (.iconst 1, 1) := by decide +kernel
theorem dX3_areNumbers_34 : decode cX3_areNumbers 34 = .ok (.goto 4, 3) := by decide +kernel
theorem dX3_areNumbers_37 : decode cX3_areNumbers 37 = .ok (.iconst 0, 1) := by decide +kernel
theorem dX3_areNumbers_38 : decode cX3_areNumbers 38 = .ok (.ireturn, 1) := by decide +kernel
set_option maxRecDepth 20000 in
theorem ggX3_work_X3_areNumbers : GoodIn wsX3_work wsX3_areNumbers := goodIn_r _ [11, 12, 13, 10, 14, 15, 16, 17, 18, 19, 20, 21, 22, 23, 24, 6, 25, 26, 27, 28, 29, 30, 31, 32, 33, 34, 35, 36, 37, 38, 39, 40] (by decide +kernel) (by decide +kernel)
set_option maxRecDepth 20000 in
theorem gX3_work_X3_areNumbers : GoodIn wsX3_work (wsV RX3 102 RX3 yX3_areNumbers wsX3_areNumbers) := goodIn_app (goodIn_of _ (by decide +kernel)) ggX3_work_X3_areNumbers
set_option maxRecDepth 20000 in
theorem ggX3_work_X3_widened : GoodIn wsX3_work wsX3_widened := goodIn_r _ [43, 6, 25, 26, 27, 28, 29, 30, 31, 32, 33, 34, 35, 36, 44, 45, 46, 47, 48, 49, 50, 51, 52, 53, 54, 55, 56, 57, 58, 59, 60, 61, 62, 63, 40, 64, 65, 66, 67, 68, 69, 70, 71, 72, 73, 74, 75] (by decide +kernel) (by decide +kernel)
set_option maxRecDepth 20000 in
theorem gX3_work_X3_widened : GoodIn wsX3_work (va_wsS RX3 52 yX3_widened wsX3_widened) := goodIn_app (goodIn_of _ (by decide +kernel)) ggX3_work_X3_widened
set_option maxRecDepth 20000 in
theorem ggX3_work_X3_whole : GoodIn wsX3_work wsX3_whole := goodIn_r _ [79, 1, 80, 105] (by decide +kernel) (by decide +kernel)
set_option maxRecDepth 20000 in
theorem gX3_work_X3_whole : GoodIn wsX3_work (wsV RX3 112 RX3 yX3_whole wsX3_whole) := goodIn_app (goodIn_of _ (by decide +kernel)) ggX3_work_X3_whole
set_option maxRecDepth 20000 in
theorem ggX3_work_X2_wide : GoodIn wsX3_work wsX2_wide := goodIn_r _ [28, 29, 30, 31, 32, 33, 34, 27, 35, 36] (by decide +kernel) (by decide +kernel)
set_option maxRecDepth 20000 in
theorem gX3_work_X2_wide : GoodIn wsX3_work (va_wsS RX3 31 yX2_wide wsX2_wide) := goodIn_app (goodIn_of _ (by decide +kernel)) ggX3_work_X2_wide
set_option maxRecDepth 20000 in
theorem ggX3_work_X3_floating : GoodIn wsX3_work wsX3_floating := goodIn_r _ [84, 1, 85, 62, 27, 63, 40, 31, 86, 87, 88, 29, 89, 65, 66, 90, 91, 92, 61, 64, 73, 74, 75, 71, 70, 72, 67, 68, 69, 49, 50, 51, 33, 34, 35, 36, 93, 94, 95, 96, 97, 98, 99, 100, 101, 102, 10, 103, 104, 105] (by decide +kernel) (by decide +kernel)
set_option maxRecDepth 20000 in
theorem gX3_work_X3_floating : GoodIn wsX3_work (wsV RX3 116 RX3 yX3_floating wsX3_floating) := goodIn_app (goodIn_of _ (by decide +kernel)) ggX3_work_X3_floating
set_option maxRecDepth 20000 in
theorem ggX3_work_X2_narrow : GoodIn wsX3_work wsX2_narrow := goodIn_r _ [59, 55, 60, 61, 62, 27, 63, 40, 31, 64, 65, 66, 67, 68, 69, 70, 71, 72, 73, 74, 75, 33, 34, 35, 36] (by decide +kernel) (by decide +kernel)
set_option maxRecDepth 20000 in
theorem gX3_work_X2_narrow : GoodIn wsX3_work (va_wsS RX3 48 yX2_narrow wsX2_narrow) := goodIn_app (goodIn_of _ (by decide +kernel)) ggX3_work_X2_narrow
theorem dX3_work_0 : decode cX3_work 0 = .ok (.aload_n 0, 1) := by decide +kernel
theorem dX3_work_1 : decode cX3_work 1 = .ok (.iload_n 1, 1) := by decide +kernel
theorem dX3_work_2 : decode cX3_work 2 = .ok (.iconst 1, 1) := by decide +kernel
theorem dX3_work_3 : decode cX3_work 3 = .ok (.if_icmp .lt 25, 3) := by decide +kernel
theorem dX3_work_6 : decode cX3_work 6 = .ok (.iload_n 1, 1) := by decide +kernel
theorem dX3_work_7 : decode cX3_work 7 = .ok (.iconst 5, 1) := by decide +kernel
theorem dX3_work_8 : decode cX3_work 8 = .ok (.if_icmp .gt 20, 3) := by decide +kernel
theorem dX3_work_11 : decode cX3_work 11 = .ok (.aload_n 0, 1) := by decide +kernel
theorem dX3_work_12 : decode cX3_work 12 = .ok (.iload_n 2, 1) := by decide +kernel
theorem dX3_work_13 : decode cX3_work 13 = .ok (.lload_n 3, 1) := by decide +kernel
theorem dX3_work_14 : decode cX3_work 14 = .ok (.iload 5, 2) := by decide +kernel
theorem dX3_work_16 : decode cX3_work 16 = .ok (.lload 6, 2) := by decide +kernel
theorem dX3_work_18 : decode cX3_work 18 = .ok (.invokevirtual 102, 3) := by decide +kernel
theorem dX3_work_21 : decode cX3_work 21 = .ok (.ifCond .eq 7, 3) := by decide +kernel
theorem dX3_work_24 : decode cX3_work 24 = .ok (.iconst 0, 1) := by decide +kernel
theorem dX3_work_25 : decode cX3_work 25 = .ok (.goto 4, 3) := by decide +kernel
theorem dX3_work_28 : decode cX3_work 28 = .ok (.iconst 1, 1) := by decide +kernel
theorem dX3_work_29 : decode cX3_work 29 = .ok (.putfield 7, 3) := by decide +kernel
theorem dX3_work_32 : decode cX3_work 32 = .ok (.aload_n 0, 1) := by decide +kernel
theorem dX3_work_33 : decode cX3_work 33 = .ok (.getfield 7, 3) := by decide +kernel
theorem dX3_work_36 : decode cX3_work 36 = .ok (.ifCond .le 5, 3) := by decide +kernel
theorem dX3_work_39 : decode cX3_work 39 = .ok (.lconst 0, 1) := by decide +kernel
theorem dX3_work_40 : decode cX3_work 40 = .ok (.lreturn, 1) := by decide +kernel
theorem dX3_work_41 : decode cX3_work 41 = .ok (.iconst 4, 1) := by decide +kernel
theorem dX3_work_42 : decode cX3_work 42 = .ok (.iload_n 2, 1) := by decide +kernel
theorem dX3_work_43 : decode cX3_work 43 = .ok (.iload 5, 2) := by decide +kernel
theorem dX3_work_45 : decode cX3_work 45 = .ok (.invokestatic 106, 3) := by decide +kernel
theorem dX3_work_48 : decode cX3_work 48 = .ok (.invokestatic 106, 3) := by decide +kernel
theorem dX3_work_51 : decode cX3_work 51 = .ok (.istore 8, 2) := by decide +kernel
theorem dX3_work_53 : decode cX3_work 53 = .ok (.lload_n 3, 1) := by decide +kernel
theorem dX3_work_54 : decode cX3_work 54 = .ok (.iload_n 2, 1) := by decide +kernel
theorem dX3_work_55 : decode cX3_work 55 = .ok (.iload 8, 2) := by decide +kernel
theorem dX3_work_57 : decode cX3_work 57 = .ok (.invokestatic 52, 3) := by decide +kernel
theorem dX3_work_60 : decode cX3_work 60 = .ok (.lstore 9, 2) := by decide +kernel
theorem dX3_work_62 : decode cX3_work 62 = .ok (.lload 6, 2) := by decide +kernel
theorem dX3_work_64 : decode cX3_work 64 = .ok (.iload 5, 2) := by decide +kernel
theorem dX3_work_66 : decode cX3_work 66 = .ok (.iload 8, 2) := by decide +kernel
theorem dX3_work_68 : decode cX3_work 68 = .ok (.invokestatic 52, 3) := by decide +kernel
theorem dX3_work_71 : decode cX3_work 71 = .ok (.lstore 11, 2) := by decide +kernel
theorem dX3_work_73 : decode cX3_work 73 = .ok (.iload 8, 2) := by decide +kernel
theorem dX3_work_75 : decode cX3_work 75 = .ok (.bipush 6, 2) := by decide +kernel
theorem dX3_work_77 : decode cX3_work 77 = .ok (.if_icmp .ge 15, 3) := by decide +kernel
theorem dX3_work_80 : decode cX3_work 80 = .ok (.aload_n 0, 1) := by decide +kernel
theorem dX3_work_81 : decode cX3_work 81 = .ok (.iload_n 1, 1) := by decide +kernel
theorem dX3_work_82 : decode cX3_work 82 = .ok (.iload 8, 2) := by decide +kernel
theorem dX3_work_84 : decode cX3_work 84 = .ok (.lload 9, 2) := by decide +kernel
theorem dX3_work_86 : decode cX3_work 86 = .ok (.lload 11, 2) := by decide +kernel
theorem dX3_work_88 : decode cX3_work 88 = .ok (.invokevirtual 112, 3) := by decide +kernel
theorem dX3_work_91 : decode cX3_work 91 = .ok (.lreturn, 1) := by decide +kernel
theorem dX3_work_92 : decode cX3_work 92 = .ok (.iload 8, 2) := by decide +kernel
theorem dX3_work_94 : decode cX3_work 94 = .ok (.bipush 6, 2) := by decide +kernel
theorem dX3_work_96 : decode cX3_work 96 = .ok (.if_icmp .ne 23, 3) := by decide +kernel
theorem dX3_work_99 : decode cX3_work 99 = .ok (.aload_n 0, 1) := by decide +kernel
theorem dX3_work_100 : decode cX3_work 100 = .ok (.iload_n 1, 1) := by decide +kernel
theorem dX3_work_101 : decode cX3_work 101 = .ok (.lload 9, 2) := by decide +kernel
theorem dX3_work_103 : decode cX3_work 103 = .ok (.l2i, 1) := by decide +kernel
theorem dX3_work_104 : decode cX3_work 104 = .ok (.invokestatic 31, 3) := by decide +kernel
theorem dX3_work_107 : decode cX3_work 107 = .ok (.lload 11, 2) := by decide +kernel
theorem dX3_work_109 : decode cX3_work 109 = .ok (.l2i, 1) := by decide +kernel
theorem dX3_work_110 : decode cX3_work 110 = .ok (.invokestatic 31, 3) := by decide +kernel
theorem dX3_work_113 : decode cX3_work 113 = .ok (.invokevirtual 116, 3) := by decide +kernel
theorem dX3_work_116 : decode cX3_work 116 = .ok (.goto 12, 3) := by decide +kernel
theorem dX3_work_119 : decode cX3_work 119 = .ok (.aload_n 0, 1) := by decide +kernel
theorem dX3_work_120 : decode cX3_work 120 = .ok (.iload_n 1, 1) := by decide +kernel
theorem dX3_work_121 : decode cX3_work 121 = .ok (.lload 9, 2) := by decide +kernel
theorem dX3_work_123 : decode cX3_work 123 = .ok (.lload 11, 2) := by decide +kernel
theorem dX3_work_125 : decode cX3_work 125 = .ok (.invokevirtual 116, 3) := by decide +kernel
theorem dX3_work_128 : decode cX3_work 128 = .ok (.lstore 13, 2) := by decide +kernel
theorem dX3_work_130 : decode cX3_work 130 = .ok (.aload_n 0, 1) := by decide +kernel
theorem dX3_work_131 : decode cX3_work 131 = .ok (.getfield 7, 3) := by decide +kernel
theorem dX3_work_134 : decode cX3_work 134 = .ok (.ifCond .le 5, 3) := by decide +kernel
theorem dX3_work_137 : decode cX3_work 137 = .ok (.lconst 0, 1) := by decide +kernel
theorem dX3_work_138 : decode cX3_work 138 = .ok (.lreturn, 1) := by decide +kernel
theorem dX3_work_139 : decode cX3_work 139 = .ok (.iload 8, 2) := by decide +kernel
theorem dX3_work_141 : decode cX3_work 141 = .ok (.bipush 6, 2) := by decide +kernel
theorem dX3_work_143 : decode cX3_work 143 = .ok (.if_icmp .ne 16, 3) := by decide +kernel
theorem dX3_work_146 : decode cX3_work 146 = .ok (.lload 13, 2) := by decide +kernel
theorem dX3_work_148 : decode cX3_work 148 = .ok (.invokestatic 48, 3) := by decide +kernel
theorem dX3_work_151 : decode cX3_work 151 = .ok (.i2l, 1) := by decide +kernel
theorem dX3_work_152 : decode cX3_work 152 = .ok (.ldc2_w 29, 3) := by decide +kernel
theorem dX3_work_155 : decode cX3_work 155 = .ok (.land, 1) := by decide +kernel
theorem dX3_work_156 : decode cX3_work 156 = .ok (.goto 5, 3) := by decide +kernel
theorem dX3_work_159 : decode cX3_work 159 = .ok (.lload 13, 2) := by decide +kernel
theorem dX3_work_161 : decode cX3_work 161 = .ok (.lreturn, 1) := by decide +kernel
theorem dX3_whole_0 : decode cX3_whole 0 = .ok (.iload_n 1, 1) := by decide +kernel
theorem dX3_whole_1 : decode cX3_whole 1 = .ok (.iconst 3, 1) := by decide +kernel
theorem dX3_whole_2 : decode cX3_whole 2 = .ok (.if_icmp .le 18, 3) := by decide +kernel
theorem dX3_whole_5 : decode cX3_whole 5 = .ok (.lload 5, 2) := by decide +kernel
theorem dX3_whole_7 : decode cX3_whole 7 = .ok (.lconst 0, 1) := by decide +kernel
theorem dX3_whole_8 : decode cX3_whole 8 = .ok (.lcmp, 1) := by decide +kernel
theorem dX3_whole_9 : decode cX3_whole 9 = .ok (.ifCond .ne 11, 3) := by decide +kernel
theorem dX3_whole_12 : decode cX3_whole 12 = .ok (.aload_n 0, 1) := by decide +kernel
theorem dX3_whole_13 : decode cX3_whole 13 = .ok (.bipush 8, 2) := by decide +kernel
theorem dX3_whole_15 : decode cX3_whole 15 = .ok (.putfield 7, 3) := by decide +kernel
theorem dX3_whole_18 : decode cX3_whole 18 = .ok (.lconst 0, 1) := by decide +kernel
theorem dX3_whole_19 : decode cX3_whole 19 = .ok (.lreturn, 1) := by decide +kernel
theorem dX3_whole_20 : decode cX3_whole 20 = .ok (.iload_n 1, 1) := by decide +kernel
theorem dX3_whole_21 : decode cX3_whole 21 = .ok (.iconst 1, 1) := by decide +kernel
theorem dX3_whole_22 : decode cX3_whole 22 = .ok (.if_icmp .ne 12, 3) := by decide +kernel
theorem dX3_whole_25 : decode cX3_whole 25 = .ok (.lload_n 3, 1) := by decide +kernel
theorem dX3_whole_26 : decode cX3_whole 26 = .ok (.lload 5, 2) := by decide +kernel
theorem dX3_whole_28 : decode cX3_whole 28 = .ok (.ladd, 1) := by decide +kernel
theorem dX3_whole_29 : decode cX3_whole 29 = .ok (.lstore 7, 2) := by decide +kernel
theorem dX3_whole_31 : decode cX3_whole 31 = .ok (.goto 78, 3) := by decide +kernel
theorem dX3_whole_34 : decode cX3_whole 34 = .ok (.iload_n 1, 1) := by decide +kernel
theorem dX3_whole_35 : decode cX3_whole 35 = .ok (.iconst 2, 1) := by decide +kernel
theorem dX3_whole_36 : decode cX3_whole 36 = .ok (.if_icmp .ne 12, 3) := by decide +kernel
theorem dX3_whole_39 : decode cX3_whole 39 = .ok (.lload_n 3, 1) := by decide +kernel
theorem dX3_whole_40 : decode cX3_whole 40 = .ok (.lload 5, 2) := by decide +kernel
theorem dX3_whole_42 : decode cX3_whole 42 = .ok (.lsub, 1) := by decide +kernel
theorem dX3_whole_43 : decode cX3_whole 43 = .ok (.lstore 7, 2) := by decide +kernel
theorem dX3_whole_45 : decode cX3_whole 45 = .ok (.goto 64, 3) := by decide +kernel
theorem dX3_whole_48 : decode cX3_whole 48 = .ok (.iload_n 1, 1) := by decide +kernel
theorem dX3_whole_49 : decode cX3_whole 49 = .ok (.iconst 3, 1) := by decide +kernel
theorem dX3_whole_50 : decode cX3_whole 50 = .ok (.if_icmp .ne 12, 3) := by decide +kernel
theorem dX3_whole_53 : decode cX3_whole 53 = .ok (.lload_n 3, 1) := by decide +kernel
theorem dX3_whole_54 : decode cX3_whole 54 = .ok (.lload 5, 2) := by decide +kernel
theorem dX3_whole_56 : decode cX3_whole 56 = .ok (.lmul, 1) := by decide +kernel
theorem dX3_whole_57 : decode cX3_whole 57 = .ok (.lstore 7, 2) := by decide +kernel
theorem dX3_whole_59 : decode cX3_whole 59 = .ok (.goto 50, 3) := by decide +kernel
theorem dX3_whole_62 : decode cX3_whole 62 = .ok (.iload_n 1, 1) := by decide +kernel
theorem dX3_whole_63 : decode cX3_whole 63 = .ok (.iconst 4, 1) := by decide +kernel
theorem dX3_whole_64 : decode cX3_whole 64 = .ok (.if_icmp .ne 26, 3) := by decide +kernel
theorem dX3_whole_67 : decode cX3_whole 67 = .ok (.lload 5, 2) := by decide +kernel
theorem dX3_whole_69 : decode cX3_whole 69 = .ok (.ldc2_w 120, 3) := by decide +kernel
theorem dX3_whole_72 : decode cX3_whole 72 = .ok (.lcmp, 1) := by decide +kernel
theorem dX3_whole_73 : decode cX3_whole 73 = .ok (.ifCond .ne 8, 3) := by decide +kernel
theorem dX3_whole_76 : decode cX3_whole 76 = .ok (.lload_n 3, 1) := by decide +kernel
theorem dX3_whole_77 : decode cX3_whole 77 = .ok (.lneg, 1) := by decide +kernel
theorem dX3_whole_78 : decode cX3_whole 78 = .ok (.goto 7, 3) := by decide +kernel
theorem dX3_whole_81 : decode cX3_whole 81 = .ok (.lload_n 3, 1) := by decide +kernel
theorem dX3_whole_82 : decode cX3_whole 82 = .ok (.lload 5, 2) := by decide +kernel
theorem dX3_whole_84 : decode cX3_whole 84 = .ok (.ldiv, 1) := by decide +kernel
theorem dX3_whole_85 : decode cX3_whole 85 = .ok (.lstore 7, 2) := by decide +kernel
theorem dX3_whole_87 : decode cX3_whole 87 = .ok (.goto 22, 3) := by decide +kernel
theorem dX3_whole_90 : decode cX3_whole 90 = .ok (.lload 5, 2) := by decide +kernel
theorem dX3_whole_92 : decode cX3_whole 92 = .ok (.ldc2_w 120, 3) := by decide +kernel
theorem dX3_whole_95 : decode cX3_whole 95 = .ok (.lcmp, 1) := by decide +kernel
theorem dX3_whole_96 : decode cX3_whole 96 = .ok (.ifCond .ne 7, 3) := by decide +kernel
theorem dX3_whole_99 : decode cX3_whole 99 = .ok (.lconst 0, 1) := by decide +kernel
theorem dX3_whole_100 : decode cX3_whole 100 = .ok (.goto 7, 3) := by decide +kernel
theorem dX3_whole_103 : decode cX3_whole 103 = .ok (.lload_n 3, 1) := by decide +kernel
theorem dX3_whole_104 : decode cX3_whole 104 = .ok (.lload 5, 2) := by decide +kernel
theorem dX3_whole_106 : decode cX3_whole 106 = .ok (.lrem, 1) := by decide +kernel
theorem dX3_whole_107 : decode cX3_whole 107 = .ok (.lstore 7, 2) := by decide +kernel
theorem dX3_whole_109 : decode cX3_whole 109 = .ok (.iload_n 2, 1) := by decide +kernel
theorem dX3_whole_110 : decode cX3_whole 110 = .ok (.iconst 4, 1) := by decide +kernel
theorem dX3_whole_111 : decode cX3_whole 111 = .ok (.if_icmp .ne 10, 3) := by decide +kernel
theorem dX3_whole_114 : decode cX3_whole 114 = .ok (.lload 7, 2) := by decide +kernel
theorem dX3_whole_116 : decode cX3_whole 116 = .ok (.l2i, 1) := by decide +kernel
theorem dX3_whole_117 : decode cX3_whole 117 = .ok (.i2l, 1) := by decide +kernel
theorem dX3_whole_118 : decode cX3_whole 118 = .ok (.goto 5, 3) := by decide +kernel
theorem dX3_whole_121 : decode cX3_whole 121 = .ok (.lload 7, 2) := by decide +kernel
theorem dX3_whole_123 : decode cX3_whole 123 = .ok (.lreturn, 1) := by decide +kernel
set_option maxRecDepth 20000 in
theorem ggX3_floating_X2_isInfinite : GoodIn wsX3_floating wsX2_isInfinite := goodIn_r _ [5, 6, 7] (by decide +kernel) (by decide +kernel)
set_option maxRecDepth 20000 in
theorem gX3_floating_X2_isInfinite : GoodIn wsX3_floating (va_wsS RX3 69 yX2_isInfinite wsX2_isInfinite) := goodIn_app (goodIn_of _ (by decide +kernel)) ggX3_floating_X2_isInfinite
set_option maxRecDepth 20000 in
theorem ggX3_floating_X2_negative : GoodIn wsX3_floating wsX2_negative := goodIn_r _ [10, 11] (by decide +kernel) (by decide +kernel)
set_option maxRecDepth 20000 in
theorem gX3_floating_X2_negative : GoodIn wsX3_floating (va_wsS RX3 122 yX2_negative wsX2_negative) := goodIn_app (goodIn_of _ (by decide +kernel)) ggX3_floating_X2_negative
set_option maxRecDepth 20000 in
theorem ggX3_floating_X2_isZero : GoodIn wsX3_floating wsX2_isZero := goodIn_r _ [14, 6] (by decide +kernel) (by decide +kernel)
set_option maxRecDepth 20000 in
theorem gX3_floating_X2_isZero : GoodIn wsX3_floating (va_wsS RX3 72 yX2_isZero wsX2_isZero) := goodIn_app (goodIn_of _ (by decide +kernel)) ggX3_floating_X2_isZero
set_option maxRecDepth 20000 in
theorem ggX3_floating_X2_add : GoodIn wsX3_floating wsX2_add := goodIn_r _ [17, 18, 3, 4, 5, 6, 7, 19, 13, 14, 20, 21, 22, 23, 24, 25, 26, 27, 28, 29, 30, 31, 11, 32, 33, 34, 35] (by decide +kernel) (by decide +kernel)
set_option maxRecDepth 20000 in
theorem gX3_floating_X2_add : GoodIn wsX3_floating (va_wsS RX3 125 yX2_add wsX2_add) := goodIn_app (goodIn_of _ (by decide +kernel)) ggX3_floating_X2_add
set_option maxRecDepth 20000 in
theorem ggX3_floating_X2_multiply : GoodIn wsX3_floating wsX2_multiply := goodIn_r _ [38, 11, 7, 39, 40, 18, 3, 4, 5, 6, 19, 13, 14, 26, 27, 28, 24, 23, 25, 20, 21, 22, 29, 30, 31, 32, 33, 34, 35] (by decide +kernel) (by decide +kernel)
set_option maxRecDepth 20000 in
theorem gX3_floating_X2_multiply : GoodIn wsX3_floating (va_wsS RX3 129 yX2_multiply wsX2_multiply) := goodIn_app (goodIn_of _ (by decide +kernel)) ggX3_floating_X2_multiply
set_option maxRecDepth 20000 in
theorem ggX3_floating_X2_divide : GoodIn wsX3_floating wsX2_divide := goodIn_r _ [43, 11, 7, 18, 3, 4, 5, 6, 19, 13, 14, 26, 27, 28, 24, 23, 25, 20, 21, 22, 29, 30, 31, 32, 33, 34, 35] (by decide +kernel) (by decide +kernel)
set_option maxRecDepth 20000 in
theorem gX3_floating_X2_divide : GoodIn wsX3_floating (va_wsS RX3 132 yX2_divide wsX2_divide) := goodIn_app (goodIn_of _ (by decide +kernel)) ggX3_floating_X2_divide
set_option maxRecDepth 20000 in
theorem ggX3_floating_X3_rest : GoodIn wsX3_floating wsX3_rest := goodIn_r _ [47, 48, 2, 3, 4, 5, 6, 7, 12, 13, 14, 27, 28, 24, 23, 25, 21, 22, 30, 31, 11, 32, 33, 34, 35] (by decide +kernel) (by decide +kernel)
set_option maxRecDepth 20000 in
theorem gX3_floating_X3_rest : GoodIn wsX3_floating (va_wsS RX3 135 yX3_rest wsX3_rest) := goodIn_app (goodIn_of _ (by decide +kernel)) ggX3_floating_X3_rest
theorem dX3_floating_0 : decode cX3_floating 0 = .ok (.lload_n 2, 1) := by decide +kernel
theorem dX3_floating_1 : decode cX3_floating 1 = .ok (.invokestatic 69, 3) := by decide +kernel
theorem dX3_floating_4 : decode cX3_floating 4 = .ok (.istore 6, 2) := by decide +kernel
theorem dX3_floating_6 : decode cX3_floating 6 = .ok (.lload 4, 2) := by decide +kernel
theorem dX3_floating_8 : decode cX3_floating 8 = .ok (.invokestatic 69, 3) := by decide +kernel
theorem dX3_floating_11 : decode cX3_floating 11 = .ok (.istore 7, 2) := by decide +kernel
theorem dX3_floating_13 : decode cX3_floating 13 = .ok (.iload_n 1, 1) := by decide +kernel
theorem dX3_floating_14 : decode cX3_floating 14 = .ok (.iconst 2, 1) := by decide +kernel
theorem dX3_floating_15 : decode cX3_floating 15 = .ok (.if_icmp .ne 11, 3) := by decide +kernel
theorem dX3_floating_18 : decode cX3_floating 18 = .ok (.lload 4, 2) := by decide +kernel
theorem dX3_floating_20 : decode cX3_floating 20 = .ok (.invokestatic 122, 3) := by decide +kernel
theorem dX3_floating_23 : decode cX3_floating 23 = .ok (.goto 5, 3) := by decide +kernel
theorem dX3_floating_26 : decode cX3_floating 26 = .ok (.lload 4, 2) := by decide +kernel
theorem dX3_floating_28 : decode cX3_floating 28 = .ok (.lstore 8, 2) := by decide +kernel
theorem dX3_floating_30 : decode cX3_floating 30 = .ok (.iload_n 1, 1) := by decide +kernel
theorem dX3_floating_31 : decode cX3_floating 31 = .ok (.iconst 3, 1) := by decide +kernel
theorem dX3_floating_32 : decode cX3_floating 32 = .ok (.if_icmp .ge 30, 3) := by decide +kernel
theorem dX3_floating_35 : decode cX3_floating 35 = .ok (.iload 6, 2) := by decide +kernel
theorem dX3_floating_37 : decode cX3_floating 37 = .ok (.ifCond .eq 19, 3) := by decide +kernel
theorem dX3_floating_40 : decode cX3_floating 40 = .ok (.iload 7, 2) := by decide +kernel
theorem dX3_floating_42 : decode cX3_floating 42 = .ok (.ifCond .eq 14, 3) := by decide +kernel
theorem dX3_floating_45 : decode cX3_floating 45 = .ok (.lload_n 2, 1) := by decide +kernel
theorem dX3_floating_46 : decode cX3_floating 46 = .ok (.lload 8, 2) := by decide +kernel
theorem dX3_floating_48 : decode cX3_floating 48 = .ok (.lcmp, 1) := by decide +kernel
theorem dX3_floating_49 : decode cX3_floating 49 = .ok (.ifCond .eq 7, 3) := by decide +kernel
theorem dX3_floating_52 : decode cX3_floating 52 = .ok (.iconst 1, 1) := by decide +kernel
theorem dX3_floating_53 : decode cX3_floating 53 = .ok (.goto 4, 3) := by decide +kernel
theorem dX3_floating_56 : decode cX3_floating 56 = .ok (.iconst 0, 1) := by decide +kernel
theorem dX3_floating_57 : decode cX3_floating 57 = .ok (.istore 10, 2) := by decide +kernel
theorem dX3_floating_59 : decode cX3_floating 59 = .ok (.goto 103, 3) := by decide +kernel
theorem dX3_floating_62 : decode cX3_floating 62 = .ok (.iload_n 1, 1) := by decide +kernel
theorem dX3_floating_63 : decode cX3_floating 63 = .ok (.iconst 3, 1) := by decide +kernel
theorem dX3_floating_64 : decode cX3_floating 64 = .ok (.if_icmp .ne 38, 3) := by decide +kernel
theorem dX3_floating_67 : decode cX3_floating 67 = .ok (.iload 6, 2) := by decide +kernel
theorem dX3_floating_69 : decode cX3_floating 69 = .ok (.ifCond .eq 11, 3) := by decide +kernel
theorem dX3_floating_72 : decode cX3_floating 72 = .ok (.lload 4, 2) := by decide +kernel
theorem dX3_floating_74 : decode cX3_floating 74 = .ok (.invokestatic 72, 3) := by decide +kernel
theorem dX3_floating_77 : decode cX3_floating 77 = .ok (.ifCond .ne 15, 3) := by decide +kernel
theorem dX3_floating_80 : decode cX3_floating 80 = .ok (.iload 7, 2) := by decide +kernel
theorem dX3_floating_82 : decode cX3_floating 82 = .ok (.ifCond .eq 14, 3) := by decide +kernel
theorem dX3_floating_85 : decode cX3_floating 85 = .ok (.lload_n 2, 1) := by decide +kernel
theorem dX3_floating_86 : decode cX3_floating 86 = .ok (.invokestatic 72, 3) := by decide +kernel
theorem dX3_floating_89 : decode cX3_floating 89 = .ok (.ifCond .eq 7, 3) := by decide +kernel
theorem dX3_floating_92 : decode cX3_floating 92 = .ok (.iconst 1, 1) := by decide +kernel
theorem dX3_floating_93 : decode cX3_floating 93 = .ok (.goto 4, 3) := by decide +kernel
theorem dX3_floating_96 : decode cX3_floating 96 = .ok (.iconst 0, 1) := by decide +kernel
theorem dX3_floating_97 : decode cX3_floating 97 = .ok (.istore 10, 2) := by decide +kernel
theorem dX3_floating_99 : decode cX3_floating 99 = .ok (.goto 63, 3) := by decide +kernel
theorem dX3_floating_102 : decode cX3_floating 102 = .ok (.iload_n 1, 1) := by decide +kernel
theorem dX3_floating_103 : decode cX3_floating 103 = .ok (.iconst 4, 1) := by decide +kernel
theorem dX3_floating_104 : decode cX3_floating 104 = .ok (.if_icmp .ne 38, 3) := by decide +kernel
theorem dX3_floating_107 : decode cX3_floating 107 = .ok (.iload 6, 2) := by decide +kernel
theorem dX3_floating_109 : decode cX3_floating 109 = .ok (.ifCond .eq 8, 3) := by decide +kernel
theorem dX3_floating_112 : decode cX3_floating 112 = .ok (.iload 7, 2) := by decide +kernel
theorem dX3_floating_114 : decode cX3_floating 114 = .ok (.ifCond .ne 18, 3) := by decide +kernel
theorem dX3_floating_117 : decode cX3_floating 117 = .ok (.lload_n 2, 1) := by decide +kernel
theorem dX3_floating_118 : decode cX3_floating 118 = .ok (.invokestatic 72, 3) := by decide +kernel
theorem dX3_floating_121 : decode cX3_floating 121 = .ok (.ifCond .eq 15, 3) := by decide +kernel
theorem dX3_floating_124 : decode cX3_floating 124 = .ok (.lload 4, 2) := by decide +kernel
theorem dX3_floating_126 : decode cX3_floating 126 = .ok (.invokestatic 72, 3) := by decide +kernel
theorem dX3_floating_129 : decode cX3_floating 129 = .ok (.ifCond .eq 7, 3) := by decide +kernel
theorem dX3_floating_132 : decode cX3_floating 132 = .ok (.iconst 1, 1) := by decide +kernel
theorem dX3_floating_133 : decode cX3_floating 133 = .ok (.goto 4, 3) := by decide +kernel
theorem dX3_floating_136 : decode cX3_floating 136 = .ok (.iconst 0, 1) := by decide +kernel
theorem dX3_floating_137 : decode cX3_floating 137 = .ok (.istore 10, 2) := by decide +kernel
theorem dX3_floating_139 : decode cX3_floating 139 = .ok (.goto 23, 3) := by decide +kernel
theorem dX3_floating_142 : decode cX3_floating 142 = .ok (.iload 6, 2) := by decide +kernel
theorem dX3_floating_144 : decode cX3_floating 144 = .ok (.ifCond .ne 11, 3) := by decide +kernel
theorem dX3_floating_147 : decode cX3_floating 147 = .ok (.lload 4, 2) := by decide +kernel
theorem dX3_floating_149 : decode cX3_floating 149 = .ok (.invokestatic 72, 3) := by decide +kernel
theorem dX3_floating_152 : decode cX3_floating 152 = .ok (.ifCond .eq 7, 3) := by decide +kernel
theorem dX3_floating_155 : decode cX3_floating 155 = .ok (.iconst 1, 1) := by decide +kernel
theorem dX3_floating_156 : decode cX3_floating 156 = .ok (.goto 4, 3) := by decide +kernel
theorem dX3_floating_159 : decode cX3_floating 159 = .ok (.iconst 0, 1) := by decide +kernel
theorem dX3_floating_160 : decode cX3_floating 160 = .ok (.istore 10, 2) := by decide +kernel
theorem dX3_floating_162 : decode cX3_floating 162 = .ok (.iload 10, 2) := by decide +kernel
theorem dX3_floating_164 : decode cX3_floating 164 = .ok (.ifCond .eq 11, 3) := by decide +kernel
theorem dX3_floating_167 : decode cX3_floating 167 = .ok (.aload_n 0, 1) := by decide +kernel
theorem dX3_floating_168 : decode cX3_floating 168 = .ok (.bipush 8, 2) := by decide +kernel
theorem dX3_floating_170 : decode cX3_floating 170 = .ok (.putfield 7, 3) := by decide +kernel
theorem dX3_floating_173 : decode cX3_floating 173 = .ok (.lconst 0, 1) := by decide +kernel
theorem dX3_floating_174 : decode cX3_floating 174 = .ok (.lreturn, 1) := by decide +kernel
theorem dX3_floating_175 : decode cX3_floating 175 = .ok (.iload_n 1, 1) := by decide +kernel
theorem dX3_floating_176 : decode cX3_floating 176 = .ok (.iconst 3, 1) := by decide +kernel
theorem dX3_floating_177 : decode cX3_floating 177 = .ok (.if_icmp .ge 12, 3) := by decide +kernel
theorem dX3_floating_180 : decode cX3_floating 180 = .ok (.lload_n 2, 1) := by decide +kernel
theorem dX3_floating_181 : decode cX3_floating 181 = .ok (.lload 8, 2) := by decide +kernel
theorem dX3_floating_183 : decode cX3_floating 183 = .ok (.invokestatic 125, 3) := by decide +kernel
theorem dX3_floating_186 : decode cX3_floating 186 = .ok (.goto 37, 3) := by decide +kernel
theorem dX3_floating_189 : decode cX3_floating 189 = .ok (.iload_n 1, 1) := by decide +kernel
theorem dX3_floating_190 : decode cX3_floating 190 = .ok (.iconst 3, 1) := by decide +kernel
theorem dX3_floating_191 : decode cX3_floating 191 = .ok (.if_icmp .ne 12, 3) := by decide +kernel
theorem dX3_floating_194 : decode cX3_floating 194 = .ok (.lload_n 2, 1) := by decide +kernel
theorem dX3_floating_195 : decode cX3_floating 195 = .ok (.lload 4, 2) := by decide +kernel
theorem dX3_floating_197 : decode cX3_floating 197 = .ok (.invokestatic 129, 3) := by decide +kernel
theorem dX3_floating_200 : decode cX3_floating 200 = .ok (.goto 23, 3) := by decide +kernel
theorem dX3_floating_203 : decode cX3_floating 203 = .ok (.iload_n 1, 1) := by decide +kernel
theorem dX3_floating_204 : decode cX3_floating 204 = .ok (.iconst 4, 1) := by decide +kernel
theorem dX3_floating_205 : decode cX3_floating 205 = .ok (.if_icmp .ne 12, 3) := by decide +kernel
theorem dX3_floating_208 : decode cX3_floating 208 = .ok (.lload_n 2, 1) := by decide +kernel
theorem dX3_floating_209 : decode cX3_floating 209 = .ok (.lload 4, 2) := by decide +kernel
theorem dX3_floating_211 : decode cX3_floating 211 = .ok (.invokestatic 132, 3) := by decide +kernel
theorem dX3_floating_214 : decode cX3_floating 214 = .ok (.goto 9, 3) := by decide +kernel
theorem dX3_floating_217 : decode cX3_floating 217 = .ok (.lload_n 2, 1) := by decide +kernel
theorem dX3_floating_218 : decode cX3_floating 218 = .ok (.lload 4, 2) := by decide +kernel
theorem dX3_floating_220 : decode cX3_floating 220 = .ok (.invokestatic 135, 3) := by decide +kernel
theorem dX3_floating_223 : decode cX3_floating 223 = .ok (.lreturn, 1) := by decide +kernel
set_option maxRecDepth 20000 in
theorem ggX3_shift_X3_hasBits : GoodIn wsX3_shift wsX3_hasBits := goodIn_r _ [5, 6, 7, 8, 9, 10, 11, 12, 13, 14, 15, 16, 17, 18, 19, 20, 21, 22, 23, 24, 25, 26, 27, 28, 29] (by decide +kernel) (by decide +kernel)
set_option maxRecDepth 20000 in
theorem gX3_shift_X3_hasBits : GoodIn wsX3_shift (va_wsS RX3 87 yX3_hasBits wsX3_hasBits) := goodIn_app (goodIn_of _ (by decide +kernel)) ggX3_shift_X3_hasBits
theorem dX3_shift_0 : decode cX3_shift 0 = .ok (.aload_n 0, 1) := by decide +kernel
theorem dX3_shift_1 : decode cX3_shift 1 = .ok (.iload_n 1, 1) := by decide +kernel
theorem dX3_shift_2 : decode cX3_shift 2 = .ok (.bipush 6, 2) := by decide +kernel
theorem dX3_shift_4 : decode cX3_shift 4 = .ok (.if_icmp .lt 31, 3) := by decide +kernel
theorem dX3_shift_7 : decode cX3_shift 7 = .ok (.iload_n 1, 1) := by decide +kernel
theorem dX3_shift_8 : decode cX3_shift 8 = .ok (.bipush 8, 2) := by decide +kernel
theorem dX3_shift_10 : decode cX3_shift 10 = .ok (.if_icmp .gt 25, 3) := by decide +kernel
theorem dX3_shift_13 : decode cX3_shift 13 = .ok (.iload_n 2, 1) := by decide +kernel
theorem dX3_shift_14 : decode cX3_shift 14 = .ok (.iconst 1, 1) := by decide +kernel
theorem dX3_shift_15 : decode cX3_shift 15 = .ok (.if_icmp .lt 20, 3) := by decide +kernel
theorem dX3_shift_18 : decode cX3_shift 18 = .ok (.iload_n 2, 1) := by decide +kernel
theorem dX3_shift_19 : decode cX3_shift 19 = .ok (.iconst 5, 1) := by decide +kernel
theorem dX3_shift_20 : decode cX3_shift 20 = .ok (.if_icmp .gt 15, 3) := by decide +kernel
theorem dX3_shift_23 : decode cX3_shift 23 = .ok (.iload_n 2, 1) := by decide +kernel
theorem dX3_shift_24 : decode cX3_shift 24 = .ok (.lload_n 3, 1) := by decide +kernel
theorem dX3_shift_25 : decode cX3_shift 25 = .ok (.invokestatic 87, 3) := by decide +kernel
theorem dX3_shift_28 : decode cX3_shift 28 = .ok (.ifCond .eq 7, 3) := by decide +kernel
theorem dX3_shift_31 : decode cX3_shift 31 = .ok (.iconst 0, 1) := by decide +kernel
theorem dX3_shift_32 : decode cX3_shift 32 = .ok (.goto 4, 3) := by decide +kernel
theorem dX3_shift_35 : decode cX3_shift 35 = .ok (.iconst 1, 1) := by decide +kernel
theorem dX3_shift_36 : decode cX3_shift 36 = .ok (.putfield 7, 3) := by decide +kernel
theorem dX3_shift_39 : decode cX3_shift 39 = .ok (.aload_n 0, 1) := by decide +kernel
theorem dX3_shift_40 : decode cX3_shift 40 = .ok (.getfield 7, 3) := by decide +kernel
theorem dX3_shift_43 : decode cX3_shift 43 = .ok (.ifCond .le 5, 3) := by decide +kernel
theorem dX3_shift_46 : decode cX3_shift 46 = .ok (.lconst 0, 1) := by decide +kernel
theorem dX3_shift_47 : decode cX3_shift 47 = .ok (.lreturn, 1) := by decide +kernel
theorem dX3_shift_48 : decode cX3_shift 48 = .ok (.lload 5, 2) := by decide +kernel
theorem dX3_shift_50 : decode cX3_shift 50 = .ok (.l2i, 1) := by decide +kernel
theorem dX3_shift_51 : decode cX3_shift 51 = .ok (.iload_n 2, 1) := by decide +kernel
theorem dX3_shift_52 : decode cX3_shift 52 = .ok (.iconst 5, 1) := by decide +kernel
theorem dX3_shift_53 : decode cX3_shift 53 = .ok (.if_icmp .ne 8, 3) := by decide +kernel
theorem dX3_shift_56 : decode cX3_shift 56 = .ok (.bipush 63, 2) := by decide +kernel
theorem dX3_shift_58 : decode cX3_shift 58 = .ok (.goto 5, 3) := by decide +kernel
theorem dX3_shift_61 : decode cX3_shift 61 = .ok (.bipush 31, 2) := by decide +kernel
theorem dX3_shift_63 : decode cX3_shift 63 = .ok (.iand, 1) := by decide +kernel
theorem dX3_shift_64 : decode cX3_shift 64 = .ok (.istore 7, 2) := by decide +kernel
theorem dX3_shift_66 : decode cX3_shift 66 = .ok (.iload_n 2, 1) := by decide +kernel
theorem dX3_shift_67 : decode cX3_shift 67 = .ok (.iconst 5, 1) := by decide +kernel
theorem dX3_shift_68 : decode cX3_shift 68 = .ok (.if_icmp .ne 34, 3) := by decide +kernel
theorem dX3_shift_71 : decode cX3_shift 71 = .ok (.iload_n 1, 1) := by decide +kernel
theorem dX3_shift_72 : decode cX3_shift 72 = .ok (.bipush 6, 2) := by decide +kernel
theorem dX3_shift_74 : decode cX3_shift 74 = .ok (.if_icmp .ne 10, 3) := by decide +kernel
theorem dX3_shift_77 : decode cX3_shift 77 = .ok (.lload_n 3, 1) := by decide +kernel
theorem dX3_shift_78 : decode cX3_shift 78 = .ok (.iload 7, 2) := by decide +kernel
theorem dX3_shift_80 : decode cX3_shift 80 = .ok (.lshl, 1) := by decide +kernel
theorem dX3_shift_81 : decode cX3_shift 81 = .ok (.goto 20, 3) := by decide +kernel
theorem dX3_shift_84 : decode cX3_shift 84 = .ok (.iload_n 1, 1) := by decide +kernel
theorem dX3_shift_85 : decode cX3_shift 85 = .ok (.bipush 7, 2) := by decide +kernel
theorem dX3_shift_87 : decode cX3_shift 87 = .ok (.if_icmp .ne 10, 3) := by decide +kernel
theorem dX3_shift_90 : decode cX3_shift 90 = .ok (.lload_n 3, 1) := by decide +kernel
theorem dX3_shift_91 : decode cX3_shift 91 = .ok (.iload 7, 2) := by decide +kernel
theorem dX3_shift_93 : decode cX3_shift 93 = .ok (.lshr, 1) := by decide +kernel
theorem dX3_shift_94 : decode cX3_shift 94 = .ok (.goto 7, 3) := by decide +kernel
theorem dX3_shift_97 : decode cX3_shift 97 = .ok (.lload_n 3, 1) := by decide +kernel
theorem dX3_shift_98 : decode cX3_shift 98 = .ok (.iload 7, 2) := by decide +kernel
theorem dX3_shift_100 : decode cX3_shift 100 = .ok (.lushr, 1) := by decide +kernel
theorem dX3_shift_101 : decode cX3_shift 101 = .ok (.lreturn, 1) := by decide +kernel
theorem dX3_shift_102 : decode cX3_shift 102 = .ok (.lload_n 3, 1) := by decide +kernel
theorem dX3_shift_103 : decode cX3_shift 103 = .ok (.l2i, 1) := by decide +kernel
theorem dX3_shift_104 : decode cX3_shift 104 = .ok (.istore 8, 2) := by decide +kernel
theorem dX3_shift_106 : decode cX3_shift 106 = .ok (.iload_n 1, 1) := by decide +kernel
theorem dX3_shift_107 : decode cX3_shift 107 = .ok (.bipush 6, 2) := by decide +kernel
theorem dX3_shift_109 : decode cX3_shift 109 = .ok (.if_icmp .ne 12, 3) := by decide +kernel
theorem dX3_shift_112 : decode cX3_shift 112 = .ok (.iload 8, 2) := by decide +kernel
theorem dX3_shift_114 : decode cX3_shift 114 = .ok (.iload 7, 2) := by decide +kernel
theorem dX3_shift_116 : decode cX3_shift 116 = .ok (.ishl, 1) := by decide +kernel
theorem dX3_shift_117 : decode cX3_shift 117 = .ok (.i2l, 1) := by decide +kernel
theorem dX3_shift_118 : decode cX3_shift 118 = .ok (.goto 24, 3) := by decide +kernel
theorem dX3_shift_121 : decode cX3_shift 121 = .ok (.iload_n 1, 1) := by decide +kernel
theorem dX3_shift_122 : decode cX3_shift 122 = .ok (.bipush 7, 2) := by decide +kernel
theorem dX3_shift_124 : decode cX3_shift 124 = .ok (.if_icmp .ne 12, 3) := by decide +kernel
theorem dX3_shift_127 : decode cX3_shift 127 = .ok (.iload 8, 2) := by decide +kernel
theorem dX3_shift_129 : decode cX3_shift 129 = .ok (.iload 7, 2) := by decide +kernel
theorem dX3_shift_131 : decode cX3_shift 131 = .ok (.ishr, 1) := by decide +kernel
theorem dX3_shift_132 : decode cX3_shift 132 = .ok (.i2l, 1) := by decide +kernel
theorem dX3_shift_133 : decode cX3_shift 133 = .ok (.goto 9, 3) := by decide +kernel
theorem dX3_shift_136 : decode cX3_shift 136 = .ok (.iload 8, 2) := by decide +kernel
theorem dX3_shift_138 : decode cX3_shift 138 = .ok (.iload 7, 2) := by decide +kernel
theorem dX3_shift_140 : decode cX3_shift 140 = .ok (.iushr, 1) := by decide +kernel
theorem dX3_shift_141 : decode cX3_shift 141 = .ok (.i2l, 1) := by decide +kernel
theorem dX3_shift_142 : decode cX3_shift 142 = .ok (.lreturn, 1) := by decide +kernel
set_option maxRecDepth 20000 in
theorem ggX3_compare_X3_areNumbers : GoodIn wsX3_compare wsX3_areNumbers := goodIn_r _ [10, 11, 12, 9, 13, 14, 15, 16, 17, 18, 19, 20, 21, 22, 23, 24, 25, 26, 27, 28, 29, 30, 31, 32, 33, 34, 35, 36, 37, 38, 39, 40] (by decide +kernel) (by decide +kernel)
set_option maxRecDepth 20000 in
theorem gX3_compare_X3_areNumbers : GoodIn wsX3_compare (wsV RX3 102 RX3 yX3_areNumbers wsX3_areNumbers) := goodIn_app (goodIn_of _ (by decide +kernel)) ggX3_compare_X3_areNumbers
set_option maxRecDepth 20000 in
theorem ggX3_compare_X3_widened : GoodIn wsX3_compare wsX3_widened := goodIn_r _ [43, 24, 25, 26, 27, 28, 29, 30, 31, 32, 33, 34, 35, 36, 44, 45, 46, 47, 48, 49, 50, 51, 52, 53, 54, 55, 56, 57, 58, 59, 60, 61, 62, 63, 40, 64, 65, 66, 67, 68, 69, 70, 71, 72, 73, 74, 75] (by decide +kernel) (by decide +kernel)
set_option maxRecDepth 20000 in
theorem gX3_compare_X3_widened : GoodIn wsX3_compare (va_wsS RX3 52 yX3_widened wsX3_widened) := goodIn_app (goodIn_of _ (by decide +kernel)) ggX3_compare_X3_widened
set_option maxRecDepth 20000 in
theorem ggX3_compare_J13_compare_74951 : GoodIn wsX3_compare wsJ13_compare_74951 := goodIn_r _ [79] (by decide +kernel) (by decide +kernel)
set_option maxRecDepth 20000 in
theorem gX3_compare_J13_compare_74951 : GoodIn wsX3_compare (va_wsS RX3 138 yJ13_compare_74951 wsJ13_compare_74951) := goodIn_app (goodIn_of _ (by decide +kernel)) ggX3_compare_J13_compare_74951
set_option maxRecDepth 20000 in
theorem ggX3_compare_X2_wide : GoodIn wsX3_compare wsX2_wide := goodIn_r _ [28, 29, 30, 31, 32, 33, 34, 27, 35, 36] (by decide +kernel) (by decide +kernel)
set_option maxRecDepth 20000 in
theorem gX3_compare_X2_wide : GoodIn wsX3_compare (va_wsS RX3 31 yX2_wide wsX2_wide) := goodIn_app (goodIn_of _ (by decide +kernel)) ggX3_compare_X2_wide
set_option maxRecDepth 20000 in
theorem ggX3_compare_X2_compare : GoodIn wsX3_compare wsX2_compare := goodIn_r _ [82, 40, 64, 65, 27, 66] (by decide +kernel) (by decide +kernel)
set_option maxRecDepth 20000 in
theorem gX3_compare_X2_compare : GoodIn wsX3_compare (va_wsS RX3 142 yX2_compare wsX2_compare) := goodIn_app (goodIn_of _ (by decide +kernel)) ggX3_compare_X2_compare
theorem dX3_compare_0 : decode cX3_compare 0 = .ok (.aload_n 0, 1) := by decide +kernel
theorem dX3_compare_1 : decode cX3_compare 1 = .ok (.aload_n 0, 1) := by decide +kernel
theorem dX3_compare_2 : decode cX3_compare 2 = .ok (.iload_n 1, 1) := by decide +kernel
theorem dX3_compare_3 : decode cX3_compare 3 = .ok (.lload_n 2, 1) := by decide +kernel
theorem dX3_compare_4 : decode cX3_compare 4 = .ok (.iload 4, 2) := by decide +kernel
theorem dX3_compare_6 : decode cX3_compare 6 = .ok (.lload 5, 2) := by decide +kernel
theorem dX3_compare_8 : decode cX3_compare 8 = .ok (.invokevirtual 102, 3) := by decide +kernel
theorem dX3_compare_11 : decode cX3_compare 11 = .ok (.ifCond .eq 7, 3) := by decide +kernel
theorem dX3_compare_14 : decode cX3_compare 14 = .ok (.iconst 0, 1) := by decide +kernel
theorem dX3_compare_15 : decode cX3_compare 15 = .ok (.goto 4, 3) := by decide +kernel
theorem dX3_compare_18 : decode cX3_compare 18 = .ok (.iconst 1, 1) := by decide +kernel
theorem dX3_compare_19 : decode cX3_compare 19 = .ok (.putfield 7, 3) := by decide +kernel
theorem dX3_compare_22 : decode cX3_compare 22 = .ok (.aload_n 0, 1) := by decide +kernel
theorem dX3_compare_23 : decode cX3_compare 23 = .ok (.getfield 7, 3) := by decide +kernel
theorem dX3_compare_26 : decode cX3_compare 26 = .ok (.ifCond .le 5, 3) := by decide +kernel
theorem dX3_compare_29 : decode cX3_compare 29 = .ok (.iconst 2, 1) := by decide +kernel
theorem dX3_compare_30 : decode cX3_compare 30 = .ok (.ireturn, 1) := by decide +kernel
theorem dX3_compare_31 : decode cX3_compare 31 = .ok (.iconst 4, 1) := by decide +kernel
theorem dX3_compare_32 : decode cX3_compare 32 = .ok (.iload_n 1, 1) := by decide +kernel
theorem dX3_compare_33 : decode cX3_compare 33 = .ok (.iload 4, 2) := by decide +kernel
theorem dX3_compare_35 : decode cX3_compare 35 = .ok (.invokestatic 106, 3) := by decide +kernel
theorem dX3_compare_38 : decode cX3_compare 38 = .ok (.invokestatic 106, 3) := by decide +kernel
theorem dX3_compare_41 : decode cX3_compare 41 = .ok (.istore 7, 2) := by decide +kernel
theorem dX3_compare_43 : decode cX3_compare 43 = .ok (.lload_n 2, 1) := by decide +kernel
theorem dX3_compare_44 : decode cX3_compare 44 = .ok (.iload_n 1, 1) := by decide +kernel
theorem dX3_compare_45 : decode cX3_compare 45 = .ok (.iload 7, 2) := by decide +kernel
theorem dX3_compare_47 : decode cX3_compare 47 = .ok (.invokestatic 52, 3) := by decide +kernel
theorem dX3_compare_50 : decode cX3_compare 50 = .ok (.lstore 8, 2) := by decide +kernel
theorem dX3_compare_52 : decode cX3_compare 52 = .ok (.lload 5, 2) := by decide +kernel
theorem dX3_compare_54 : decode cX3_compare 54 = .ok (.iload 4, 2) := by decide +kernel
theorem dX3_compare_56 : decode cX3_compare 56 = .ok (.iload 7, 2) := by decide +kernel
theorem dX3_compare_58 : decode cX3_compare 58 = .ok (.invokestatic 52, 3) := by decide +kernel
theorem dX3_compare_61 : decode cX3_compare 61 = .ok (.lstore 10, 2) := by decide +kernel
theorem dX3_compare_63 : decode cX3_compare 63 = .ok (.iload 7, 2) := by decide +kernel
theorem dX3_compare_65 : decode cX3_compare 65 = .ok (.bipush 6, 2) := by decide +kernel
theorem dX3_compare_67 : decode cX3_compare 67 = .ok (.if_icmp .ge 11, 3) := by decide +kernel
theorem dX3_compare_70 : decode cX3_compare 70 = .ok (.lload 8, 2) := by decide +kernel
theorem dX3_compare_72 : decode cX3_compare 72 = .ok (.lload 10, 2) := by decide +kernel
theorem dX3_compare_74 : decode cX3_compare 74 = .ok (.invokestatic 138, 3) := by decide +kernel
theorem dX3_compare_77 : decode cX3_compare 77 = .ok (.ireturn, 1) := by decide +kernel
theorem dX3_compare_78 : decode cX3_compare 78 = .ok (.iload 7, 2) := by decide +kernel
theorem dX3_compare_80 : decode cX3_compare 80 = .ok (.bipush 6, 2) := by decide +kernel
theorem dX3_compare_82 : decode cX3_compare 82 = .ok (.if_icmp .ne 21, 3) := by decide +kernel
theorem dX3_compare_85 : decode cX3_compare 85 = .ok (.lload 8, 2) := by decide +kernel
theorem dX3_compare_87 : decode cX3_compare 87 = .ok (.l2i, 1) := by decide +kernel
theorem dX3_compare_88 : decode cX3_compare 88 = .ok (.invokestatic 31, 3) := by decide +kernel
theorem dX3_compare_91 : decode cX3_compare 91 = .ok (.lload 10, 2) := by decide +kernel
theorem dX3_compare_93 : decode cX3_compare 93 = .ok (.l2i, 1) := by decide +kernel
theorem dX3_compare_94 : decode cX3_compare 94 = .ok (.invokestatic 31, 3) := by decide +kernel
theorem dX3_compare_97 : decode cX3_compare 97 = .ok (.invokestatic 142, 3) := by decide +kernel
theorem dX3_compare_100 : decode cX3_compare 100 = .ok (.goto 10, 3) := by decide +kernel
theorem dX3_compare_103 : decode cX3_compare 103 = .ok (.lload 8, 2) := by decide +kernel
theorem dX3_compare_105 : decode cX3_compare 105 = .ok (.lload 10, 2) := by decide +kernel
theorem dX3_compare_107 : decode cX3_compare 107 = .ok (.invokestatic 142, 3) := by decide +kernel
theorem dX3_compare_110 : decode cX3_compare 110 = .ok (.ireturn, 1) := by decide +kernel
set_option maxRecDepth 20000 in
theorem ggX3_order_X3_hasBits : GoodIn wsX3_order wsX3_hasBits := goodIn_r _ [5, 6, 7, 8, 9, 10, 11, 12, 13, 14, 15, 16, 17, 18, 19, 20, 21, 22, 23, 24, 25, 26, 27, 28, 29] (by decide +kernel) (by decide +kernel)
set_option maxRecDepth 20000 in
theorem gX3_order_X3_hasBits : GoodIn wsX3_order (va_wsS RX3 87 yX3_hasBits wsX3_hasBits) := goodIn_app (goodIn_of _ (by decide +kernel)) ggX3_order_X3_hasBits
set_option maxRecDepth 20000 in
theorem ggX3_order_X3_ranked : GoodIn wsX3_order wsX3_ranked := goodIn_r _ [32, 33, 14, 15, 16, 17, 18, 19, 20, 21, 22, 23, 24, 25] (by decide +kernel) (by decide +kernel)
set_option maxRecDepth 20000 in
theorem gX3_order_X3_ranked : GoodIn wsX3_order (va_wsS RX3 143 yX3_ranked wsX3_ranked) := goodIn_app (goodIn_of _ (by decide +kernel)) ggX3_order_X3_ranked
set_option maxRecDepth 20000 in
theorem ggX3_order_J13_compare_74951 : GoodIn wsX3_order wsJ13_compare_74951 := goodIn_r _ [37] (by decide +kernel) (by decide +kernel)
set_option maxRecDepth 20000 in
theorem gX3_order_J13_compare_74951 : GoodIn wsX3_order (va_wsS RX3 138 yJ13_compare_74951 wsJ13_compare_74951) := goodIn_app (goodIn_of _ (by decide +kernel)) ggX3_order_J13_compare_74951
theorem dX3_order_0 : decode cX3_order 0 = .ok (.aload_n 0, 1) := by decide +kernel
theorem dX3_order_1 : decode cX3_order 1 = .ok (.iload_n 1, 1) := by decide +kernel
theorem dX3_order_2 : decode cX3_order 2 = .ok (.ifCond .lt 30, 3) := by decide +kernel
theorem dX3_order_5 : decode cX3_order 5 = .ok (.iload_n 1, 1) := by decide +kernel
theorem dX3_order_6 : decode cX3_order 6 = .ok (.bipush 7, 2) := by decide +kernel
theorem dX3_order_8 : decode cX3_order 8 = .ok (.if_icmp .gt 24, 3) := by decide +kernel
theorem dX3_order_11 : decode cX3_order 11 = .ok (.iload_n 1, 1) := by decide +kernel
theorem dX3_order_12 : decode cX3_order 12 = .ok (.lload_n 2, 1) := by decide +kernel
theorem dX3_order_13 : decode cX3_order 13 = .ok (.invokestatic 87, 3) := by decide +kernel
theorem dX3_order_16 : decode cX3_order 16 = .ok (.ifCond .eq 16, 3) := by decide +kernel
theorem dX3_order_19 : decode cX3_order 19 = .ok (.iload_n 1, 1) := by decide +kernel
theorem dX3_order_20 : decode cX3_order 20 = .ok (.lload 4, 2) := by decide +kernel
theorem dX3_order_22 : decode cX3_order 22 = .ok (.invokestatic 87, 3) := by decide +kernel
theorem dX3_order_25 : decode cX3_order 25 = .ok (.ifCond .eq 7, 3) := by decide +kernel
theorem dX3_order_28 : decode cX3_order 28 = .ok (.iconst 0, 1) := by decide +kernel
theorem dX3_order_29 : decode cX3_order 29 = .ok (.goto 4, 3) := by decide +kernel
theorem dX3_order_32 : decode cX3_order 32 = .ok (.iconst 1, 1) := by decide +kernel
theorem dX3_order_33 : decode cX3_order 33 = .ok (.putfield 7, 3) := by decide +kernel
theorem dX3_order_36 : decode cX3_order 36 = .ok (.aload_n 0, 1) := by decide +kernel
theorem dX3_order_37 : decode cX3_order 37 = .ok (.getfield 7, 3) := by decide +kernel
theorem dX3_order_40 : decode cX3_order 40 = .ok (.ifCond .le 5, 3) := by decide +kernel
theorem dX3_order_43 : decode cX3_order 43 = .ok (.iconst 2, 1) := by decide +kernel
theorem dX3_order_44 : decode cX3_order 44 = .ok (.ireturn, 1) := by decide +kernel
theorem dX3_order_45 : decode cX3_order 45 = .ok (.iload_n 1, 1) := by decide +kernel
theorem dX3_order_46 : decode cX3_order 46 = .ok (.lload_n 2, 1) := by decide +kernel
theorem dX3_order_47 : decode cX3_order 47 = .ok (.invokestatic 143, 3) := by decide +kernel
theorem dX3_order_50 : decode cX3_order 50 = .ok (.iload_n 1, 1) := by decide +kernel
theorem dX3_order_51 : decode cX3_order 51 = .ok (.lload 4, 2) := by decide +kernel
theorem dX3_order_53 : decode cX3_order 53 = .ok (.invokestatic 143, 3) := by decide +kernel
theorem dX3_order_56 : decode cX3_order 56 = .ok (.invokestatic 138, 3) := by decide +kernel
theorem dX3_order_59 : decode cX3_order 59 = .ok (.ireturn, 1) := by decide +kernel
set_option maxRecDepth 20000 in
theorem ggX3_ranked_X2_wide : GoodIn wsX3_ranked wsX2_wide := goodIn_r _ [5, 6, 7, 8, 9, 10, 11, 4, 12, 13] (by decide +kernel) (by decide +kernel)
set_option maxRecDepth 20000 in
theorem gX3_ranked_X2_wide : GoodIn wsX3_ranked (va_wsS RX3 31 yX2_wide wsX2_wide) := goodIn_app (goodIn_of _ (by decide +kernel)) ggX3_ranked_X2_wide
theorem dX3_ranked_0 : decode cX3_ranked 0 = .ok (.iload_n 0, 1) := by decide +kernel
theorem dX3_ranked_1 : decode cX3_ranked 1 = .ok (.bipush 6, 2) := by decide +kernel
theorem dX3_ranked_3 : decode cX3_ranked 3 = .ok (.if_icmp .ge 5, 3) := by decide +kernel
theorem dX3_ranked_6 : decode cX3_ranked 6 = .ok (.lload_n 1, 1) := by decide +kernel
theorem dX3_ranked_7 : decode cX3_ranked 7 = .ok (.lreturn, 1) := by decide +kernel
theorem dX3_ranked_8 : decode cX3_ranked 8 = .ok (.iload_n 0, 1) := by decide +kernel
theorem dX3_ranked_9 : decode cX3_ranked 9 = .ok (.bipush 6, 2) := by decide +kernel
theorem dX3_ranked_11 : decode cX3_ranked 11 = .ok (.if_icmp .ne 11, 3) := by decide +kernel
theorem dX3_ranked_14 : decode cX3_ranked 14 = .ok (.lload_n 1, 1) := by decide +kernel
theorem dX3_ranked_15 : decode cX3_ranked 15 = .ok (.l2i, 1) := by decide +kernel
theorem dX3_ranked_16 : decode cX3_ranked 16 = .ok (.invokestatic 31, 3) := by decide +kernel
theorem dX3_ranked_19 : decode cX3_ranked 19 = .ok (.goto 4, 3) := by decide +kernel
theorem dX3_ranked_22 : decode cX3_ranked 22 = .ok (.lload_n 1, 1) := by decide +kernel
theorem dX3_ranked_23 : decode cX3_ranked 23 = .ok (.lstore_n 3, 1) := by decide +kernel
theorem dX3_ranked_24 : decode cX3_ranked 24 = .ok (.lload_n 3, 1) := by decide +kernel
theorem dX3_ranked_25 : decode cX3_ranked 25 = .ok (.lconst 0, 1) := by decide +kernel
theorem dX3_ranked_26 : decode cX3_ranked 26 = .ok (.lcmp, 1) := by decide +kernel
theorem dX3_ranked_27 : decode cX3_ranked 27 = .ok (.ifCond .ge 11, 3) := by decide +kernel
theorem dX3_ranked_30 : decode cX3_ranked 30 = .ok (.lload_n 3, 1) := by decide +kernel
theorem dX3_ranked_31 : decode cX3_ranked 31 = .ok (.ldc2_w 61, 3) := by decide +kernel
theorem dX3_ranked_34 : decode cX3_ranked 34 = .ok (.lxor, 1) := by decide +kernel
theorem dX3_ranked_35 : decode cX3_ranked 35 = .ok (.goto 4, 3) := by decide +kernel
theorem dX3_ranked_38 : decode cX3_ranked 38 = .ok (.lload_n 3, 1) := by decide +kernel
theorem dX3_ranked_39 : decode cX3_ranked 39 = .ok (.lreturn, 1) := by decide +kernel
theorem dJ13_compare_74951_0 : decode cJ13_compare_74951 0 = .ok (.lload_n 0, 1) := by decide +kernel
theorem dJ13_compare_74951_1 : decode cJ13_compare_74951 1 = .ok (.lload_n 2, 1) := by decide +kernel
theorem dJ13_compare_74951_2 : decode cJ13_compare_74951 2 = .ok (.lcmp, 1) := by decide +kernel
theorem dJ13_compare_74951_3 : decode cJ13_compare_74951 3 = .ok (.ifCond .ge 7, 3) := by decide +kernel
theorem dJ13_compare_74951_6 : decode cJ13_compare_74951 6 = .ok (.iconst (-1), 1) := by decide +kernel
theorem dJ13_compare_74951_7 : decode cJ13_compare_74951 7 = .ok (.goto 14, 3) := by decide +kernel
theorem dJ13_compare_74951_10 : decode cJ13_compare_74951 10 = .ok (.lload_n 0, 1) := by decide +kernel
theorem dJ13_compare_74951_11 : decode cJ13_compare_74951 11 = .ok (.lload_n 2, 1) := by decide +kernel
theorem dJ13_compare_74951_12 : decode cJ13_compare_74951 12 = .ok (.lcmp, 1) := by decide +kernel
theorem dJ13_compare_74951_13 : decode cJ13_compare_74951 13 = .ok (.ifCond .ne 7, 3) := by decide +kernel
theorem dJ13_compare_74951_16 : decode cJ13_compare_74951 16 = .ok (.iconst 0, 1) := by decide +kernel
theorem dJ13_compare_74951_17 : decode cJ13_compare_74951 17 = .ok (.goto 4, 3) := by decide +kernel
theorem dJ13_compare_74951_20 : decode cJ13_compare_74951 20 = .ok (.iconst 1, 1) := by decide +kernel
theorem dJ13_compare_74951_21 : decode cJ13_compare_74951 21 = .ok (.ireturn, 1) := by decide +kernel
