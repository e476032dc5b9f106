theorem dX0_fractionBits_0 : decode cX0_fractionBits 0 = .ok (.iload_n 0, 1) := by decide +kernel
theorem dX0_fractionBits_1 : decode cX0_fractionBits 1 = .ok (.bipush 6, 2) := by decide +kernel
theorem dX0_fractionBits_3 : decode cX0_fractionBits 3 = .ok (.if_icmp .ne 8, 3) := by decide +kernel
theorem dX0_fractionBits_6 : decode cX0_fractionBits 6 = .ok (.bipush 23, 2) := by decide +kernel
theorem dX0_fractionBits_8 : decode cX0_fractionBits 8 = .ok (.goto 5, 3) := by decide +kernel
theorem dX0_fractionBits_11 : decode cX0_fractionBits 11 = .ok (.bipush 52, 2) := by decide +kernel
theorem dX0_fractionBits_13 : decode cX0_fractionBits 13 = .ok (.ireturn, 1) := by decide +kernel
theorem dX0_leastExponent_0 : decode cX0_leastExponent 0 = .ok (.iload_n 0, 1) := by decide +kernel
theorem dX0_leastExponent_1 : decode cX0_leastExponent 1 = .ok (.bipush 6, 2) := by decide +kernel
theorem dX0_leastExponent_3 : decode cX0_leastExponent 3 = .ok (.if_icmp .ne 9, 3) := by decide +kernel
theorem dX0_leastExponent_6 : decode cX0_leastExponent 6 = .ok (.sipush (-149), 3) := by decide +kernel
theorem dX0_leastExponent_9 : decode cX0_leastExponent 9 = .ok (.goto 6, 3) := by decide +kernel
theorem dX0_leastExponent_12 : decode cX0_leastExponent 12 = .ok (.sipush (-1074), 3) := by decide +kernel
theorem dX0_leastExponent_15 : decode cX0_leastExponent 15 = .ok (.ireturn, 1) := by decide +kernel
theorem dX0_greatestAbove_0 : decode cX0_greatestAbove 0 = .ok (.iload_n 0, 1) := by decide +kernel
theorem dX0_greatestAbove_1 : decode cX0_greatestAbove 1 = .ok (.bipush 6, 2) := by decide +kernel
theorem dX0_greatestAbove_3 : decode cX0_greatestAbove 3 = .ok (.if_icmp .ne 9, 3) := by decide +kernel
theorem dX0_greatestAbove_6 : decode cX0_greatestAbove 6 = .ok (.sipush 253, 3) := by decide +kernel
theorem dX0_greatestAbove_9 : decode cX0_greatestAbove 9 = .ok (.goto 6, 3) := by decide +kernel
theorem dX0_greatestAbove_12 : decode cX0_greatestAbove 12 = .ok (.sipush 2045, 3) := by decide +kernel
theorem dX0_greatestAbove_15 : decode cX0_greatestAbove 15 = .ok (.ireturn, 1) := by decide +kernel
theorem dX0_infinity_0 : decode cX0_infinity 0 = .ok (.iload_n 0, 1) := by decide +kernel
theorem dX0_infinity_1 : decode cX0_infinity 1 = .ok (.bipush 6, 2) := by decide +kernel
theorem dX0_infinity_3 : decode cX0_infinity 3 = .ok (.if_icmp .ne 9, 3) := by decide +kernel
theorem dX0_infinity_6 : decode cX0_infinity 6 = .ok (.ldc2_w 9, 3) := by decide +kernel
theorem dX0_infinity_9 : decode cX0_infinity 9 = .ok (.goto 6, 3) := by decide +kernel
theorem dX0_infinity_12 : decode cX0_infinity 12 = .ok (.ldc2_w 11, 3) := by decide +kernel
theorem dX0_infinity_15 : decode cX0_infinity 15 = .ok (.lreturn, 1) := by decide +kernel
set_option maxRecDepth 20000 in
theorem ggX0_notANumber_X0_infinity : GoodIn wsX0_notANumber wsX0_infinity := goodIn_r _ [4, 5, 6] (by decide +kernel) (by decide +kernel)
set_option maxRecDepth 20000 in
theorem gX0_notANumber_X0_infinity : GoodIn wsX0_notANumber (va_wsS RX0 13 yX0_infinity wsX0_infinity) := goodIn_app (goodIn_of _ (by decide +kernel)) ggX0_notANumber_X0_infinity
theorem dX0_notANumber_0 : decode cX0_notANumber 0 = .ok (.iload_n 0, 1) := by decide +kernel
theorem dX0_notANumber_1 : decode cX0_notANumber 1 = .ok (.invokestatic 13, 3) := by decide +kernel
theorem dX0_notANumber_4 : decode cX0_notANumber 4 = .ok (.lconst 1, 1) := by decide +kernel
theorem dX0_notANumber_5 : decode cX0_notANumber 5 = .ok (.ladd, 1) := by decide +kernel
theorem dX0_notANumber_6 : decode cX0_notANumber 6 = .ok (.lreturn, 1) := by decide +kernel
theorem dX0_signBit_0 : decode cX0_signBit 0 = .ok (.iload_n 0, 1) := by decide +kernel
theorem dX0_signBit_1 : decode cX0_signBit 1 = .ok (.bipush 6, 2) := by decide +kernel
theorem dX0_signBit_3 : decode cX0_signBit 3 = .ok (.if_icmp .ne 9, 3) := by decide +kernel
theorem dX0_signBit_6 : decode cX0_signBit 6 = .ok (.ldc2_w 19, 3) := by decide +kernel
theorem dX0_signBit_9 : decode cX0_signBit 9 = .ok (.goto 6, 3) := by decide +kernel
theorem dX0_signBit_12 : decode cX0_signBit 12 = .ok (.ldc2_w 23, 3) := by decide +kernel
theorem dX0_signBit_15 : decode cX0_signBit 15 = .ok (.lreturn, 1) := by decide +kernel
set_option maxRecDepth 20000 in
theorem ggX0_size_X0_signBit : GoodIn wsX0_size wsX0_signBit := goodIn_r _ [5, 6, 7] (by decide +kernel) (by decide +kernel)
set_option maxRecDepth 20000 in
theorem gX0_size_X0_signBit : GoodIn wsX0_size (va_wsS RX0 25 yX0_signBit wsX0_signBit) := goodIn_app (goodIn_of _ (by decide +kernel)) ggX0_size_X0_signBit
theorem dX0_size_0 : decode cX0_size 0 = .ok (.lload_n 1, 1) := by decide +kernel
theorem dX0_size_1 : decode cX0_size 1 = .ok (.iload_n 0, 1) := by decide +kernel
theorem dX0_size_2 : decode cX0_size 2 = .ok (.invokestatic 25, 3) := by decide +kernel
theorem dX0_size_5 : decode cX0_size 5 = .ok (.ldc2_w 28, 3) := by decide +kernel
theorem dX0_size_8 : decode cX0_size 8 = .ok (.lxor, 1) := by decide +kernel
theorem dX0_size_9 : decode cX0_size 9 = .ok (.land, 1) := by decide +kernel
theorem dX0_size_10 : decode cX0_size 10 = .ok (.lreturn, 1) := by decide +kernel
set_option maxRecDepth 20000 in
theorem ggX0_isNumber_X0_size : GoodIn wsX0_isNumber wsX0_size := goodIn_r _ [4, 5, 6, 7, 3, 8, 9, 10] (by decide +kernel) (by decide +kernel)
set_option maxRecDepth 20000 in
theorem gX0_isNumber_X0_size : GoodIn wsX0_isNumber (va_wsS RX0 30 yX0_size wsX0_size) := goodIn_app (goodIn_of _ (by decide +kernel)) ggX0_isNumber_X0_size
set_option maxRecDepth 20000 in
theorem ggX0_isNumber_X0_infinity : GoodIn wsX0_isNumber wsX0_infinity := goodIn_r _ [13, 14, 15] (by decide +kernel) (by decide +kernel)
set_option maxRecDepth 20000 in
theorem gX0_isNumber_X0_infinity : GoodIn wsX0_isNumber (va_wsS RX0 13 yX0_infinity wsX0_infinity) := goodIn_app (goodIn_of _ (by decide +kernel)) ggX0_isNumber_X0_infinity
theorem dX0_isNumber_0 : decode cX0_isNumber 0 = .ok (.iload_n 0, 1) := by decide +kernel
theorem dX0_isNumber_1 : decode cX0_isNumber 1 = .ok (.lload_n 1, 1) := by decide +kernel
theorem dX0_isNumber_2 : decode cX0_isNumber 2 = .ok (.invokestatic 30, 3) := by decide +kernel
theorem dX0_isNumber_5 : decode cX0_isNumber 5 = .ok (.lstore_n 3, 1) := by decide +kernel
theorem dX0_isNumber_6 : decode cX0_isNumber 6 = .ok (.lload_n 3, 1) := by decide +kernel
theorem dX0_isNumber_7 : decode cX0_isNumber 7 = .ok (.lconst 0, 1) := by decide +kernel
theorem dX0_isNumber_8 : decode cX0_isNumber 8 = .ok (.lcmp, 1) := by decide +kernel
theorem dX0_isNumber_9 : decode cX0_isNumber 9 = .ok (.ifCond .lt 16, 3) := by decide +kernel
theorem dX0_isNumber_12 : decode cX0_isNumber 12 = .ok (.lload_n 3, 1) := by decide +kernel
theorem dX0_isNumber_13 : decode cX0_isNumber 13 = .ok (.iload_n 0, 1) := by decide +kernel
theorem dX0_isNumber_14 : decode cX0_isNumber 14 = .ok (.invokestatic 13, 3) := by decide +kernel
theorem dX0_isNumber_17 : decode cX0_isNumber 17 = .ok (.lcmp, 1) := by decide +kernel
theorem dX0_isNumber_18 : decode cX0_isNumber 18 = .ok (.ifCond .gt 7, 3) := by decide +kernel
theorem dX0_isNumber_21 : decode cX0_isNumber 21 = .ok (.iconst 1, 1) := by decide +kernel
theorem dX0_isNumber_22 : decode cX0_isNumber 22 = .ok (.goto 4, 3) := by decide +kernel
theorem dX0_isNumber_25 : decode cX0_isNumber 25 = .ok (.iconst 0, 1) := by decide +kernel
theorem dX0_isNumber_26 : decode cX0_isNumber 26 = .ok (.ireturn, 1) := by decide +kernel
set_option maxRecDepth 20000 in
theorem ggX0_isNegative_X0_signBit : GoodIn wsX0_isNegative wsX0_signBit := goodIn_r _ [4, 5, 6] (by decide +kernel) (by decide +kernel)
set_option maxRecDepth 20000 in
theorem gX0_isNegative_X0_signBit : GoodIn wsX0_isNegative (va_wsS RX0 25 yX0_signBit wsX0_signBit) := goodIn_app (goodIn_of _ (by decide +kernel)) ggX0_isNegative_X0_signBit
theorem dX0_isNegative_0 : decode cX0_isNegative 0 = .ok (.lload_n 1, 1) := by decide +kernel
theorem dX0_isNegative_1 : decode cX0_isNegative 1 = .ok (.iload_n 0, 1) := by decide +kernel
theorem dX0_isNegative_2 : decode cX0_isNegative 2 = .ok (.invokestatic 25, 3) := by decide +kernel
theorem dX0_isNegative_5 : decode cX0_isNegative 5 = .ok (.land, 1) := by decide +kernel
theorem dX0_isNegative_6 : decode cX0_isNegative 6 = .ok (.lconst 0, 1) := by decide +kernel
theorem dX0_isNegative_7 : decode cX0_isNegative 7 = .ok (.lcmp, 1) := by decide +kernel
theorem dX0_isNegative_8 : decode cX0_isNegative 8 = .ok (.ifCond .eq 7, 3) := by decide +kernel
theorem dX0_isNegative_11 : decode cX0_isNegative 11 = .ok (.iconst 1, 1) := by decide +kernel
theorem dX0_isNegative_12 : decode cX0_isNegative 12 = .ok (.goto 4, 3) := by decide +kernel
theorem dX0_isNegative_15 : decode cX0_isNegative 15 = .ok (.iconst 0, 1) := by decide +kernel
theorem dX0_isNegative_16 : decode cX0_isNegative 16 = .ok (.ireturn, 1) := by decide +kernel
set_option maxRecDepth 20000 in
theorem ggX0_isInfinite_X0_size : GoodIn wsX0_isInfinite wsX0_size := goodIn_r _ [4, 5, 6, 7, 3, 8, 9, 10] (by decide +kernel) (by decide +kernel)
set_option maxRecDepth 20000 in
theorem gX0_isInfinite_X0_size : GoodIn wsX0_isInfinite (va_wsS RX0 30 yX0_size wsX0_size) := goodIn_app (goodIn_of _ (by decide +kernel)) ggX0_isInfinite_X0_size
set_option maxRecDepth 20000 in
theorem ggX0_isInfinite_X0_infinity : GoodIn wsX0_isInfinite wsX0_infinity := goodIn_r _ [13, 14, 15] (by decide +kernel) (by decide +kernel)
set_option maxRecDepth 20000 in
theorem gX0_isInfinite_X0_infinity : GoodIn wsX0_isInfinite (va_wsS RX0 13 yX0_infinity wsX0_infinity) := goodIn_app (goodIn_of _ (by decide +kernel)) ggX0_isInfinite_X0_infinity
theorem dX0_isInfinite_0 : decode cX0_isInfinite 0 = .ok (.iload_n 0, 1) := by decide +kernel
theorem dX0_isInfinite_1 : decode cX0_isInfinite 1 = .ok (.lload_n 1, 1) := by decide +kernel
theorem dX0_isInfinite_2 : decode cX0_isInfinite 2 = .ok (.invokestatic 30, 3) := by decide +kernel
theorem dX0_isInfinite_5 : decode cX0_isInfinite 5 = .ok (.iload_n 0, 1) := by decide +kernel
theorem dX0_isInfinite_6 : decode cX0_isInfinite 6 = .ok (.invokestatic 13, 3) := by decide +kernel
theorem dX0_isInfinite_9 : decode cX0_isInfinite 9 = .ok (.lcmp, 1) := by decide +kernel
theorem dX0_isInfinite_10 : decode cX0_isInfinite 10 = .ok (.ifCond .ne 7, 3) := by decide +kernel
theorem dX0_isInfinite_13 : decode cX0_isInfinite 13 = .ok (.iconst 1, 1) := by decide +kernel
theorem dX0_isInfinite_14 : decode cX0_isInfinite 14 = .ok (.goto 4, 3) := by decide +kernel
theorem dX0_isInfinite_17 : decode cX0_isInfinite 17 = .ok (.iconst 0, 1) := by decide +kernel
theorem dX0_isInfinite_18 : decode cX0_isInfinite 18 = .ok (.ireturn, 1) := by decide +kernel
set_option maxRecDepth 20000 in
theorem ggX0_isZero_X0_size : GoodIn wsX0_isZero wsX0_size := goodIn_r _ [4, 5, 6, 7, 3, 8, 9, 10] (by decide +kernel) (by decide +kernel)
set_option maxRecDepth 20000 in
theorem gX0_isZero_X0_size : GoodIn wsX0_isZero (va_wsS RX0 30 yX0_size wsX0_size) := goodIn_app (goodIn_of _ (by decide +kernel)) ggX0_isZero_X0_size
theorem dX0_isZero_0 : decode cX0_isZero 0 = .ok (.iload_n 0, 1) := by decide +kernel
theorem dX0_isZero_1 : decode cX0_isZero 1 = .ok (.lload_n 1, 1) := by decide +kernel
theorem dX0_isZero_2 : decode cX0_isZero 2 = .ok (.invokestatic 30, 3) := by decide +kernel
theorem dX0_isZero_5 : decode cX0_isZero 5 = .ok (.lconst 0, 1) := by decide +kernel
theorem dX0_isZero_6 : decode cX0_isZero 6 = .ok (.lcmp, 1) := by decide +kernel
theorem dX0_isZero_7 : decode cX0_isZero 7 = .ok (.ifCond .ne 7, 3) := by decide +kernel
theorem dX0_isZero_10 : decode cX0_isZero 10 = .ok (.iconst 1, 1) := by decide +kernel
theorem dX0_isZero_11 : decode cX0_isZero 11 = .ok (.goto 4, 3) := by decide +kernel
theorem dX0_isZero_14 : decode cX0_isZero 14 = .ok (.iconst 0, 1) := by decide +kernel
theorem dX0_isZero_15 : decode cX0_isZero 15 = .ok (.ireturn, 1) := by decide +kernel
set_option maxRecDepth 20000 in
theorem ggX0_negated_X0_signBit : GoodIn wsX0_negated wsX0_signBit := goodIn_r _ [4, 5, 6] (by decide +kernel) (by decide +kernel)
set_option maxRecDepth 20000 in
theorem gX0_negated_X0_signBit : GoodIn wsX0_negated (va_wsS RX0 25 yX0_signBit wsX0_signBit) := goodIn_app (goodIn_of _ (by decide +kernel)) ggX0_negated_X0_signBit
theorem dX0_negated_0 : decode cX0_negated 0 = .ok (.lload_n 1, 1) := by decide +kernel
theorem dX0_negated_1 : decode cX0_negated 1 = .ok (.iload_n 0, 1) := by decide +kernel
theorem dX0_negated_2 : decode cX0_negated 2 = .ok (.invokestatic 25, 3) := by decide +kernel
theorem dX0_negated_5 : decode cX0_negated 5 = .ok (.lxor, 1) := by decide +kernel
theorem dX0_negated_6 : decode cX0_negated 6 = .ok (.lreturn, 1) := by decide +kernel
set_option maxRecDepth 20000 in
theorem ggX0_signed_X0_signBit : GoodIn wsX0_signed wsX0_signBit := goodIn_r _ [4, 5, 6] (by decide +kernel) (by decide +kernel)
set_option maxRecDepth 20000 in
theorem gX0_signed_X0_signBit : GoodIn wsX0_signed (va_wsS RX0 25 yX0_signBit wsX0_signBit) := goodIn_app (goodIn_of _ (by decide +kernel)) ggX0_signed_X0_signBit
theorem dX0_signed_0 : decode cX0_signed 0 = .ok (.iload_n 1, 1) := by decide +kernel
theorem dX0_signed_1 : decode cX0_signed 1 = .ok (.ifCond .eq 12, 3) := by decide +kernel
theorem dX0_signed_4 : decode cX0_signed 4 = .ok (.lload_n 2, 1) := by decide +kernel
theorem dX0_signed_5 : decode cX0_signed 5 = .ok (.iload_n 0, 1) := by decide +kernel
theorem dX0_signed_6 : decode cX0_signed 6 = .ok (.invokestatic 25, 3) := by decide +kernel
theorem dX0_signed_9 : decode cX0_signed 9 = .ok (.lor, 1) := by decide +kernel
theorem dX0_signed_10 : decode cX0_signed 10 = .ok (.goto 4, 3) := by decide +kernel
theorem dX0_signed_13 : decode cX0_signed 13 = .ok (.lload_n 2, 1) := by decide +kernel
theorem dX0_signed_14 : decode cX0_signed 14 = .ok (.lreturn, 1) := by decide +kernel
set_option maxRecDepth 20000 in
theorem ggX0_place_X0_size : GoodIn wsX0_place wsX0_size := goodIn_r _ [4, 5, 6, 7, 3, 8, 9, 10] (by decide +kernel) (by decide +kernel)
set_option maxRecDepth 20000 in
theorem gX0_place_X0_size : GoodIn wsX0_place (va_wsS RX0 30 yX0_size wsX0_size) := goodIn_app (goodIn_of _ (by decide +kernel)) ggX0_place_X0_size
set_option maxRecDepth 20000 in
theorem ggX0_place_X0_isNegative : GoodIn wsX0_place wsX0_isNegative := goodIn_r _ [13, 6, 7, 3, 8, 9, 10] (by decide +kernel) (by decide +kernel)
set_option maxRecDepth 20000 in
theorem gX0_place_X0_isNegative : GoodIn wsX0_place (va_wsS RX0 34 yX0_isNegative wsX0_isNegative) := goodIn_app (goodIn_of _ (by decide +kernel)) ggX0_place_X0_isNegative
theorem dX0_place_0 : decode cX0_place 0 = .ok (.iload_n 0, 1) := by decide +kernel
theorem dX0_place_1 : decode cX0_place 1 = .ok (.lload_n 1, 1) := by decide +kernel
theorem dX0_place_2 : decode cX0_place 2 = .ok (.invokestatic 30, 3) := by decide +kernel
theorem dX0_place_5 : decode cX0_place 5 = .ok (.lstore_n 3, 1) := by decide +kernel
theorem dX0_place_6 : decode cX0_place 6 = .ok (.iload_n 0, 1) := by decide +kernel
theorem dX0_place_7 : decode cX0_place 7 = .ok (.lload_n 1, 1) := by decide +kernel
theorem dX0_place_8 : decode cX0_place 8 = .ok (.invokestatic 34, 3) := by decide +kernel
theorem dX0_place_11 : decode cX0_place 11 = .ok (.ifCond .eq 8, 3) := by decide +kernel
theorem dX0_place_14 : decode cX0_place 14 = .ok (.lload_n 3, 1) := by decide +kernel
theorem dX0_place_15 : decode cX0_place 15 = .ok (.lneg, 1) := by decide +kernel
theorem dX0_place_16 : decode cX0_place 16 = .ok (.goto 4, 3) := by decide +kernel
theorem dX0_place_19 : decode cX0_place 19 = .ok (.lload_n 3, 1) := by decide +kernel
theorem dX0_place_20 : decode cX0_place 20 = .ok (.lreturn, 1) := by decide +kernel
set_option maxRecDepth 20000 in
theorem ggX0_placeWithZerosApart_X0_size : GoodIn wsX0_placeWithZerosApart wsX0_size := goodIn_r _ [4, 5, 6, 7, 3, 8, 9, 10] (by decide +kernel) (by decide +kernel)
set_option maxRecDepth 20000 in
theorem gX0_placeWithZerosApart_X0_size : GoodIn wsX0_placeWithZerosApart (va_wsS RX0 30 yX0_size wsX0_size) := goodIn_app (goodIn_of _ (by decide +kernel)) ggX0_placeWithZerosApart_X0_size
set_option maxRecDepth 20000 in
theorem ggX0_placeWithZerosApart_X0_isNegative : GoodIn wsX0_placeWithZerosApart wsX0_isNegative := goodIn_r _ [13, 6, 7, 3, 8, 9, 10] (by decide +kernel) (by decide +kernel)
set_option maxRecDepth 20000 in
theorem gX0_placeWithZerosApart_X0_isNegative : GoodIn wsX0_placeWithZerosApart (va_wsS RX0 34 yX0_isNegative wsX0_isNegative) := goodIn_app (goodIn_of _ (by decide +kernel)) ggX0_placeWithZerosApart_X0_isNegative
theorem dX0_placeWithZerosApart_0 : decode cX0_placeWithZerosApart 0 = .ok (.iload_n 0, 1) := by decide +kernel
theorem dX0_placeWithZerosApart_1 : decode cX0_placeWithZerosApart 1 = .ok (.lload_n 1, 1) := by decide +kernel
theorem dX0_placeWithZerosApart_2 : decode cX0_placeWithZerosApart 2 = .ok (.invokestatic 30, 3) := by decide +kernel
theorem dX0_placeWithZerosApart_5 : decode cX0_placeWithZerosApart 5 = .ok (.lstore_n 3, 1) := by decide +kernel
theorem dX0_placeWithZerosApart_6 : decode cX0_placeWithZerosApart 6 = .ok (.iload_n 0, 1) := by decide +kernel
theorem dX0_placeWithZerosApart_7 : decode cX0_placeWithZerosApart 7 = .ok (.lload_n 1, 1) := by decide +kernel
theorem dX0_placeWithZerosApart_8 : decode cX0_placeWithZerosApart 8 = .ok (.invokestatic 34, 3) := by decide +kernel
theorem dX0_placeWithZerosApart_11 : decode cX0_placeWithZerosApart 11 = .ok (.ifCond .eq 10, 3) := by decide +kernel
theorem dX0_placeWithZerosApart_14 : decode cX0_placeWithZerosApart 14 = .ok (.lload_n 3, 1) := by decide +kernel
theorem dX0_placeWithZerosApart_15 : decode cX0_placeWithZerosApart 15 = .ok (.lneg, 1) := by decide +kernel
theorem dX0_placeWithZerosApart_16 : decode cX0_placeWithZerosApart 16 = .ok (.lconst 1, 1) := by decide +kernel
theorem dX0_placeWithZerosApart_17 : decode cX0_placeWithZerosApart 17 = .ok (.lsub, 1) := by decide +kernel
theorem dX0_placeWithZerosApart_18 : decode cX0_placeWithZerosApart 18 = .ok (.goto 4, 3) := by decide +kernel
theorem dX0_placeWithZerosApart_21 : decode cX0_placeWithZerosApart 21 = .ok (.lload_n 3, 1) := by decide +kernel
theorem dX0_placeWithZerosApart_22 : decode cX0_placeWithZerosApart 22 = .ok (.lreturn, 1) := by decide +kernel
set_option maxRecDepth 20000 in
theorem ggX0_magnitude_X0_fractionBits : GoodIn wsX0_magnitude wsX0_fractionBits := goodIn_r _ [4] (by decide +kernel) (by decide +kernel)
set_option maxRecDepth 20000 in
theorem gX0_magnitude_X0_fractionBits : GoodIn wsX0_magnitude (va_wsS RX0 38 yX0_fractionBits wsX0_fractionBits) := goodIn_app (goodIn_of _ (by decide +kernel)) ggX0_magnitude_X0_fractionBits
set_option maxRecDepth 20000 in
theorem ggX0_magnitude_X0_size : GoodIn wsX0_magnitude wsX0_size := goodIn_r _ [7, 8, 9, 10, 3, 11, 12, 13] (by decide +kernel) (by decide +kernel)
set_option maxRecDepth 20000 in
theorem gX0_magnitude_X0_size : GoodIn wsX0_magnitude (va_wsS RX0 30 yX0_size wsX0_size) := goodIn_app (goodIn_of _ (by decide +kernel)) ggX0_magnitude_X0_size
theorem dX0_magnitude_0 : decode cX0_magnitude 0 = .ok (.lconst 1, 1) := by decide +kernel
theorem dX0_magnitude_1 : decode cX0_magnitude 1 = .ok (.iload_n 0, 1) := by decide +kernel
theorem dX0_magnitude_2 : decode cX0_magnitude 2 = .ok (.invokestatic 38, 3) := by decide +kernel
theorem dX0_magnitude_5 : decode cX0_magnitude 5 = .ok (.lshl, 1) := by decide +kernel
theorem dX0_magnitude_6 : decode cX0_magnitude 6 = .ok (.lstore_n 3, 1) := by decide +kernel
theorem dX0_magnitude_7 : decode cX0_magnitude 7 = .ok (.lload_n 1, 1) := by decide +kernel
theorem dX0_magnitude_8 : decode cX0_magnitude 8 = .ok (.lload_n 3, 1) := by decide +kernel
theorem dX0_magnitude_9 : decode cX0_magnitude 9 = .ok (.lconst 1, 1) := by decide +kernel
theorem dX0_magnitude_10 : decode cX0_magnitude 10 = .ok (.lsub, 1) := by decide +kernel
theorem dX0_magnitude_11 : decode cX0_magnitude 11 = .ok (.land, 1) := by decide +kernel
theorem dX0_magnitude_12 : decode cX0_magnitude 12 = .ok (.lstore 5, 2) := by decide +kernel
theorem dX0_magnitude_14 : decode cX0_magnitude 14 = .ok (.iload_n 0, 1) := by decide +kernel
theorem dX0_magnitude_15 : decode cX0_magnitude 15 = .ok (.lload_n 1, 1) := by decide +kernel
theorem dX0_magnitude_16 : decode cX0_magnitude 16 = .ok (.invokestatic 30, 3) := by decide +kernel
theorem dX0_magnitude_19 : decode cX0_magnitude 19 = .ok (.lload_n 3, 1) := by decide +kernel
theorem dX0_magnitude_20 : decode cX0_magnitude 20 = .ok (.lcmp, 1) := by decide +kernel
theorem dX0_magnitude_21 : decode cX0_magnitude 21 = .ok (.ifCond .ge 8, 3) := by decide +kernel
theorem dX0_magnitude_24 : decode cX0_magnitude 24 = .ok (.lload 5, 2) := by decide +kernel
theorem dX0_magnitude_26 : decode cX0_magnitude 26 = .ok (.goto 7, 3) := by decide +kernel
theorem dX0_magnitude_29 : decode cX0_magnitude 29 = .ok (.lload 5, 2) := by decide +kernel
theorem dX0_magnitude_31 : decode cX0_magnitude 31 = .ok (.lload_n 3, 1) := by decide +kernel
theorem dX0_magnitude_32 : decode cX0_magnitude 32 = .ok (.ladd, 1) := by decide +kernel
theorem dX0_magnitude_33 : decode cX0_magnitude 33 = .ok (.lreturn, 1) := by decide +kernel
set_option maxRecDepth 20000 in
theorem ggX0_exponent_X0_size : GoodIn wsX0_exponent wsX0_size := goodIn_r _ [8, 9, 10, 11, 7, 12, 13, 14] (by decide +kernel) (by decide +kernel)
set_option maxRecDepth 20000 in
theorem gX0_exponent_X0_size : GoodIn wsX0_exponent (va_wsS RX0 30 yX0_size wsX0_size) := goodIn_app (goodIn_of _ (by decide +kernel)) ggX0_exponent_X0_size
set_option maxRecDepth 20000 in
theorem ggX0_exponent_X0_fractionBits : GoodIn wsX0_exponent wsX0_fractionBits := goodIn_r _ [17] (by decide +kernel) (by decide +kernel)
set_option maxRecDepth 20000 in
theorem gX0_exponent_X0_fractionBits : GoodIn wsX0_exponent (va_wsS RX0 38 yX0_fractionBits wsX0_fractionBits) := goodIn_app (goodIn_of _ (by decide +kernel)) ggX0_exponent_X0_fractionBits
set_option maxRecDepth 20000 in
theorem ggX0_exponent_X0_leastExponent : GoodIn wsX0_exponent wsX0_leastExponent := goodIn_r _ [20] (by decide +kernel) (by decide +kernel)
set_option maxRecDepth 20000 in
theorem gX0_exponent_X0_leastExponent : GoodIn wsX0_exponent (va_wsS RX0 42 yX0_leastExponent wsX0_leastExponent) := goodIn_app (goodIn_of _ (by decide +kernel)) ggX0_exponent_X0_leastExponent
theorem dX0_exponent_0 : decode cX0_exponent 0 = .ok (.iload_n 0, 1) := by decide +kernel
theorem dX0_exponent_1 : decode cX0_exponent 1 = .ok (.lload_n 1, 1) := by decide +kernel
theorem dX0_exponent_2 : decode cX0_exponent 2 = .ok (.invokestatic 30, 3) := by decide +kernel
theorem dX0_exponent_5 : decode cX0_exponent 5 = .ok (.iload_n 0, 1) := by decide +kernel
theorem dX0_exponent_6 : decode cX0_exponent 6 = .ok (.invokestatic 38, 3) := by decide +kernel
theorem dX0_exponent_9 : decode cX0_exponent 9 = .ok (.lushr, 1) := by decide +kernel
theorem dX0_exponent_10 : decode cX0_exponent 10 = .ok (.l2i, 1) := by decide +kernel
theorem dX0_exponent_11 : decode cX0_exponent 11 = .ok (.istore_n 3, 1) := by decide +kernel
theorem dX0_exponent_12 : decode cX0_exponent 12 = .ok (.iload_n 0, 1) := by decide +kernel
theorem dX0_exponent_13 : decode cX0_exponent 13 = .ok (.invokestatic 42, 3) := by decide +kernel
theorem dX0_exponent_16 : decode cX0_exponent 16 = .ok (.iload_n 3, 1) := by decide +kernel
theorem dX0_exponent_17 : decode cX0_exponent 17 = .ok (.iconst 1, 1) := by decide +kernel
theorem dX0_exponent_18 : decode cX0_exponent 18 = .ok (.invokestatic 45, 3) := by decide +kernel
theorem dX0_exponent_21 : decode cX0_exponent 21 = .ok (.iadd, 1) := by decide +kernel
theorem dX0_exponent_22 : decode cX0_exponent 22 = .ok (.iconst 1, 1) := by decide +kernel
theorem dX0_exponent_23 : decode cX0_exponent 23 = .ok (.isub, 1) := by decide +kernel
theorem dX0_exponent_24 : decode cX0_exponent 24 = .ok (.ireturn, 1) := by decide +kernel
theorem dX0_roomBelow_0 : decode cX0_roomBelow 0 = .ok (.iconst 0, 1) := by decide +kernel
theorem dX0_roomBelow_1 : decode cX0_roomBelow 1 = .ok (.istore_n 3, 1) := by decide +kernel
theorem dX0_roomBelow_2 : decode cX0_roomBelow 2 = .ok (.iload_n 3, 1) := by decide +kernel
theorem dX0_roomBelow_3 : decode cX0_roomBelow 3 = .ok (.iload_n 0, 1) := by decide +kernel
theorem dX0_roomBelow_4 : decode cX0_roomBelow 4 = .ok (.if_icmp .ge 19, 3) := by decide +kernel
theorem dX0_roomBelow_7 : decode cX0_roomBelow 7 = .ok (.lload_n 1, 1) := by decide +kernel
theorem dX0_roomBelow_8 : decode cX0_roomBelow 8 = .ok (.iload_n 3, 1) := by decide +kernel
theorem dX0_roomBelow_9 : decode cX0_roomBelow 9 = .ok (.lshl, 1) := by decide +kernel
theorem dX0_roomBelow_10 : decode cX0_roomBelow 10 = .ok (.lconst 1, 1) := by decide +kernel
theorem dX0_roomBelow_11 : decode cX0_roomBelow 11 = .ok (.iload_n 0, 1) := by decide +kernel
theorem dX0_roomBelow_12 : decode cX0_roomBelow 12 = .ok (.lshl, 1) := by decide +kernel
theorem dX0_roomBelow_13 : decode cX0_roomBelow 13 = .ok (.lcmp, 1) := by decide +kernel
theorem dX0_roomBelow_14 : decode cX0_roomBelow 14 = .ok (.ifCond .ge 9, 3) := by decide +kernel
theorem dX0_roomBelow_17 : decode cX0_roomBelow 17 = .ok (.iinc 3 1, 3) := by decide +kernel
theorem dX0_roomBelow_20 : decode cX0_roomBelow 20 = .ok (.goto (-18), 3) := by decide +kernel
theorem dX0_roomBelow_23 : decode cX0_roomBelow 23 = .ok (.iload_n 3, 1) := by decide +kernel
theorem dX0_roomBelow_24 : decode cX0_roomBelow 24 = .ok (.ireturn, 1) := by decide +kernel
theorem dX0_movedDown_0 : decode cX0_movedDown 0 = .ok (.iload_n 2, 1) := by decide +kernel
theorem dX0_movedDown_1 : decode cX0_movedDown 1 = .ok (.bipush 63, 2) := by decide +kernel
theorem dX0_movedDown_3 : decode cX0_movedDown 3 = .ok (.if_icmp .le 15, 3) := by decide +kernel
theorem dX0_movedDown_6 : decode cX0_movedDown 6 = .ok (.lload_n 0, 1) := by decide +kernel
theorem dX0_movedDown_7 : decode cX0_movedDown 7 = .ok (.lconst 0, 1) := by decide +kernel
theorem dX0_movedDown_8 : decode cX0_movedDown 8 = .ok (.lcmp, 1) := by decide +kernel
theorem dX0_movedDown_9 : decode cX0_movedDown 9 = .ok (.ifCond .ne 7, 3) := by decide +kernel
theorem dX0_movedDown_12 : decode cX0_movedDown 12 = .ok (.lconst 0, 1) := by decide +kernel
theorem dX0_movedDown_13 : decode cX0_movedDown 13 = .ok (.goto 4, 3) := by decide +kernel
theorem dX0_movedDown_16 : decode cX0_movedDown 16 = .ok (.lconst 1, 1) := by decide +kernel
theorem dX0_movedDown_17 : decode cX0_movedDown 17 = .ok (.lreturn, 1) := by decide +kernel
theorem dX0_movedDown_18 : decode cX0_movedDown 18 = .ok (.lload_n 0, 1) := by decide +kernel
theorem dX0_movedDown_19 : decode cX0_movedDown 19 = .ok (.iload_n 2, 1) := by decide +kernel
theorem dX0_movedDown_20 : decode cX0_movedDown 20 = .ok (.lushr, 1) := by decide +kernel
theorem dX0_movedDown_21 : decode cX0_movedDown 21 = .ok (.lstore_n 3, 1) := by decide +kernel
theorem dX0_movedDown_22 : decode cX0_movedDown 22 = .ok (.lload_n 3, 1) := by decide +kernel
theorem dX0_movedDown_23 : decode cX0_movedDown 23 = .ok (.iload_n 2, 1) := by decide +kernel
theorem dX0_movedDown_24 : decode cX0_movedDown 24 = .ok (.lshl, 1) := by decide +kernel
theorem dX0_movedDown_25 : decode cX0_movedDown 25 = .ok (.lload_n 0, 1) := by decide +kernel
theorem dX0_movedDown_26 : decode cX0_movedDown 26 = .ok (.lcmp, 1) := by decide +kernel
theorem dX0_movedDown_27 : decode cX0_movedDown 27 = .ok (.ifCond .ne 7, 3) := by decide +kernel
theorem dX0_movedDown_30 : decode cX0_movedDown 30 = .ok (.lload_n 3, 1) := by decide +kernel
theorem dX0_movedDown_31 : decode cX0_movedDown 31 = .ok (.goto 6, 3) := by decide +kernel
theorem dX0_movedDown_34 : decode cX0_movedDown 34 = .ok (.lload_n 3, 1) := by decide +kernel
theorem dX0_movedDown_35 : decode cX0_movedDown 35 = .ok (.lconst 1, 1) := by decide +kernel
theorem dX0_movedDown_36 : decode cX0_movedDown 36 = .ok (.lor, 1) := by decide +kernel
theorem dX0_movedDown_37 : decode cX0_movedDown 37 = .ok (.lreturn, 1) := by decide +kernel
set_option maxRecDepth 20000 in
theorem ggX0_ofWhole_X0_nearest : GoodIn wsX0_ofWhole wsX0_nearest := goodIn_r _ [10, 11, 12, 9, 13, 14, 15, 16, 17, 1, 18, 19, 20, 21, 22, 23, 24, 25, 26, 27, 28, 29, 30, 31, 32, 33, 34, 35, 36, 37] (by decide +kernel) (by decide +kernel)
set_option maxRecDepth 20000 in
theorem gX0_ofWhole_X0_nearest : GoodIn wsX0_ofWhole (va_wsS RX0 53 yX0_nearest wsX0_nearest) := goodIn_app (goodIn_of _ (by decide +kernel)) ggX0_ofWhole_X0_nearest
theorem dX0_ofWhole_0 : decode cX0_ofWhole 0 = .ok (.lload_n 1, 1) := by decide +kernel
theorem dX0_ofWhole_1 : decode cX0_ofWhole 1 = .ok (.ldc2_w 23, 3) := by decide +kernel
theorem dX0_ofWhole_4 : decode cX0_ofWhole 4 = .ok (.lcmp, 1) := by decide +kernel
theorem dX0_ofWhole_5 : decode cX0_ofWhole 5 = .ok (.ifCond .ne 13, 3) := by decide +kernel
theorem dX0_ofWhole_8 : decode cX0_ofWhole 8 = .ok (.iload_n 0, 1) := by decide +kernel
theorem dX0_ofWhole_9 : decode cX0_ofWhole 9 = .ok (.iconst 1, 1) := by decide +kernel
theorem dX0_ofWhole_10 : decode cX0_ofWhole 10 = .ok (.ldc2_w 51, 3) := by decide +kernel
theorem dX0_ofWhole_13 : decode cX0_ofWhole 13 = .ok (.iconst 1, 1) := by decide +kernel
theorem dX0_ofWhole_14 : decode cX0_ofWhole 14 = .ok (.invokestatic 53, 3) := by decide +kernel
theorem dX0_ofWhole_17 : decode cX0_ofWhole 17 = .ok (.lreturn, 1) := by decide +kernel
theorem dX0_ofWhole_18 : decode cX0_ofWhole 18 = .ok (.iload_n 0, 1) := by decide +kernel
theorem dX0_ofWhole_19 : decode cX0_ofWhole 19 = .ok (.lload_n 1, 1) := by decide +kernel
theorem dX0_ofWhole_20 : decode cX0_ofWhole 20 = .ok (.lconst 0, 1) := by decide +kernel
theorem dX0_ofWhole_21 : decode cX0_ofWhole 21 = .ok (.lcmp, 1) := by decide +kernel
theorem dX0_ofWhole_22 : decode cX0_ofWhole 22 = .ok (.ifCond .ge 7, 3) := by decide +kernel
theorem dX0_ofWhole_25 : decode cX0_ofWhole 25 = .ok (.iconst 1, 1) := by decide +kernel
theorem dX0_ofWhole_26 : decode cX0_ofWhole 26 = .ok (.goto 4, 3) := by decide +kernel
theorem dX0_ofWhole_29 : decode cX0_ofWhole 29 = .ok (.iconst 0, 1) := by decide +kernel
theorem dX0_ofWhole_30 : decode cX0_ofWhole 30 = .ok (.lload_n 1, 1) := by decide +kernel
theorem dX0_ofWhole_31 : decode cX0_ofWhole 31 = .ok (.invokestatic 57, 3) := by decide +kernel
theorem dX0_ofWhole_34 : decode cX0_ofWhole 34 = .ok (.iconst 0, 1) := by decide +kernel
theorem dX0_ofWhole_35 : decode cX0_ofWhole 35 = .ok (.invokestatic 53, 3) := by decide +kernel
theorem dX0_ofWhole_38 : decode cX0_ofWhole 38 = .ok (.lreturn, 1) := by decide +kernel
set_option maxRecDepth 20000 in
theorem ggX0_ofReal_X0_isNegative : GoodIn wsX0_ofReal wsX0_isNegative := goodIn_r _ [4, 5, 6, 3, 7, 8, 9] (by decide +kernel) (by decide +kernel)
set_option maxRecDepth 20000 in
theorem gX0_ofReal_X0_isNegative : GoodIn wsX0_ofReal (va_wsS RX0 34 yX0_isNegative wsX0_isNegative) := goodIn_app (goodIn_of _ (by decide +kernel)) ggX0_ofReal_X0_isNegative
set_option maxRecDepth 20000 in
theorem ggX0_ofReal_X0_isInfinite : GoodIn wsX0_ofReal wsX0_isInfinite := goodIn_r _ [12, 13, 14, 3, 15, 16, 5, 6, 7, 8, 9, 17, 18, 19, 20, 21] (by decide +kernel) (by decide +kernel)
set_option maxRecDepth 20000 in
theorem gX0_ofReal_X0_isInfinite : GoodIn wsX0_ofReal (va_wsS RX0 61 yX0_isInfinite wsX0_isInfinite) := goodIn_app (goodIn_of _ (by decide +kernel)) ggX0_ofReal_X0_isInfinite
set_option maxRecDepth 20000 in
theorem ggX0_ofReal_X0_infinity : GoodIn wsX0_ofReal wsX0_infinity := goodIn_r _ [19, 20, 21] (by decide +kernel) (by decide +kernel)
set_option maxRecDepth 20000 in
theorem gX0_ofReal_X0_infinity : GoodIn wsX0_ofReal (va_wsS RX0 13 yX0_infinity wsX0_infinity) := goodIn_app (goodIn_of _ (by decide +kernel)) ggX0_ofReal_X0_infinity
set_option maxRecDepth 20000 in
theorem ggX0_ofReal_X0_signed : GoodIn wsX0_ofReal wsX0_signed := goodIn_r _ [24, 5, 6, 3, 7, 8, 9] (by decide +kernel) (by decide +kernel)
set_option maxRecDepth 20000 in
theorem gX0_ofReal_X0_signed : GoodIn wsX0_ofReal (va_wsS RX0 64 yX0_signed wsX0_signed) := goodIn_app (goodIn_of _ (by decide +kernel)) ggX0_ofReal_X0_signed
set_option maxRecDepth 20000 in
theorem ggX0_ofReal_X0_magnitude : GoodIn wsX0_ofReal wsX0_magnitude := goodIn_r _ [27, 28, 29, 3, 30, 13, 14, 15, 16, 5, 6, 7, 8, 9] (by decide +kernel) (by decide +kernel)
set_option maxRecDepth 20000 in
theorem gX0_ofReal_X0_magnitude : GoodIn wsX0_ofReal (va_wsS RX0 68 yX0_magnitude wsX0_magnitude) := goodIn_app (goodIn_of _ (by decide +kernel)) ggX0_ofReal_X0_magnitude
set_option maxRecDepth 20000 in
theorem ggX0_ofReal_X0_exponent : GoodIn wsX0_ofReal wsX0_exponent := goodIn_r _ [33, 34, 35, 36, 37, 13, 14, 3, 15, 16, 5, 6, 7, 8, 9, 28, 29, 30, 38, 39, 40] (by decide +kernel) (by decide +kernel)
set_option maxRecDepth 20000 in
theorem gX0_ofReal_X0_exponent : GoodIn wsX0_ofReal (va_wsS RX0 71 yX0_exponent wsX0_exponent) := goodIn_app (goodIn_of _ (by decide +kernel)) ggX0_ofReal_X0_exponent
set_option maxRecDepth 20000 in
theorem ggX0_ofReal_X0_nearest : GoodIn wsX0_ofReal wsX0_nearest := goodIn_r _ [43, 22, 23, 3, 24, 5, 6, 7, 8, 9, 44, 45, 46, 28, 29, 30, 38, 39, 40, 47, 48, 49, 17, 18, 19, 20, 21, 50, 51, 52] (by decide +kernel) (by decide +kernel)
set_option maxRecDepth 20000 in
theorem gX0_ofReal_X0_nearest : GoodIn wsX0_ofReal (va_wsS RX0 53 yX0_nearest wsX0_nearest) := goodIn_app (goodIn_of _ (by decide +kernel)) ggX0_ofReal_X0_nearest
theorem dX0_ofReal_0 : decode cX0_ofReal 0 = .ok (.iload_n 1, 1) := by decide +kernel
theorem dX0_ofReal_1 : decode cX0_ofReal 1 = .ok (.lload_n 2, 1) := by decide +kernel
theorem dX0_ofReal_2 : decode cX0_ofReal 2 = .ok (.invokestatic 34, 3) := by decide +kernel
theorem dX0_ofReal_5 : decode cX0_ofReal 5 = .ok (.istore 4, 2) := by decide +kernel
theorem dX0_ofReal_7 : decode cX0_ofReal 7 = .ok (.iload_n 1, 1) := by decide +kernel
theorem dX0_ofReal_8 : decode cX0_ofReal 8 = .ok (.lload_n 2, 1) := by decide +kernel
theorem dX0_ofReal_9 : decode cX0_ofReal 9 = .ok (.invokestatic 61, 3) := by decide +kernel
theorem dX0_ofReal_12 : decode cX0_ofReal 12 = .ok (.ifCond .eq 14, 3) := by decide +kernel
theorem dX0_ofReal_15 : decode cX0_ofReal 15 = .ok (.iload_n 0, 1) := by decide +kernel
theorem dX0_ofReal_16 : decode cX0_ofReal 16 = .ok (.iload 4, 2) := by decide +kernel
theorem dX0_ofReal_18 : decode cX0_ofReal 18 = .ok (.iload_n 0, 1) := by decide +kernel
theorem dX0_ofReal_19 : decode cX0_ofReal 19 = .ok (.invokestatic 13, 3) := by decide +kernel
theorem dX0_ofReal_22 : decode cX0_ofReal 22 = .ok (.invokestatic 64, 3) := by decide +kernel
theorem dX0_ofReal_25 : decode cX0_ofReal 25 = .ok (.lreturn, 1) := by decide +kernel
theorem dX0_ofReal_26 : decode cX0_ofReal 26 = .ok (.iload_n 0, 1) := by decide +kernel
theorem dX0_ofReal_27 : decode cX0_ofReal 27 = .ok (.iload 4, 2) := by decide +kernel
theorem dX0_ofReal_29 : decode cX0_ofReal 29 = .ok (.iload_n 1, 1) := by decide +kernel
theorem dX0_ofReal_30 : decode cX0_ofReal 30 = .ok (.lload_n 2, 1) := by decide +kernel
theorem dX0_ofReal_31 : decode cX0_ofReal 31 = .ok (.invokestatic 68, 3) := by decide +kernel
theorem dX0_ofReal_34 : decode cX0_ofReal 34 = .ok (.iload_n 1, 1) := by decide +kernel
theorem dX0_ofReal_35 : decode cX0_ofReal 35 = .ok (.lload_n 2, 1) := by decide +kernel
theorem dX0_ofReal_36 : decode cX0_ofReal 36 = .ok (.invokestatic 71, 3) := by decide +kernel
theorem dX0_ofReal_39 : decode cX0_ofReal 39 = .ok (.invokestatic 53, 3) := by decide +kernel
theorem dX0_ofReal_42 : decode cX0_ofReal 42 = .ok (.lreturn, 1) := by decide +kernel
set_option maxRecDepth 20000 in
theorem ggX0_wholePart_X0_isNegative : GoodIn wsX0_wholePart wsX0_isNegative := goodIn_r _ [6, 7, 8, 5, 9, 10, 2] (by decide +kernel) (by decide +kernel)
set_option maxRecDepth 20000 in
theorem gX0_wholePart_X0_isNegative : GoodIn wsX0_wholePart (va_wsS RX0 34 yX0_isNegative wsX0_isNegative) := goodIn_app (goodIn_of _ (by decide +kernel)) ggX0_wholePart_X0_isNegative
set_option maxRecDepth 20000 in
theorem ggX0_wholePart_X0_magnitude : GoodIn wsX0_wholePart wsX0_magnitude := goodIn_r _ [13, 14, 15, 5, 16, 17, 18, 19, 20, 7, 8, 9, 10, 2] (by decide +kernel) (by decide +kernel)
set_option maxRecDepth 20000 in
theorem gX0_wholePart_X0_magnitude : GoodIn wsX0_wholePart (va_wsS RX0 68 yX0_magnitude wsX0_magnitude) := goodIn_app (goodIn_of _ (by decide +kernel)) ggX0_wholePart_X0_magnitude
set_option maxRecDepth 20000 in
theorem ggX0_wholePart_X0_exponent : GoodIn wsX0_wholePart wsX0_exponent := goodIn_r _ [23, 24, 25, 26, 27, 17, 18, 5, 19, 20, 7, 8, 9, 10, 2, 14, 15, 16, 28, 29, 30] (by decide +kernel) (by decide +kernel)
set_option maxRecDepth 20000 in
theorem gX0_wholePart_X0_exponent : GoodIn wsX0_wholePart (va_wsS RX0 71 yX0_exponent wsX0_exponent) := goodIn_app (goodIn_of _ (by decide +kernel)) ggX0_wholePart_X0_exponent
theorem dX0_wholePart_0 : decode cX0_wholePart 0 = .ok (.iload_n 0, 1) := by decide +kernel
theorem dX0_wholePart_1 : decode cX0_wholePart 1 = .ok (.lload_n 1, 1) := by decide +kernel
theorem dX0_wholePart_2 : decode cX0_wholePart 2 = .ok (.invokestatic 34, 3) := by decide +kernel
theorem dX0_wholePart_5 : decode cX0_wholePart 5 = .ok (.istore_n 3, 1) := by decide +kernel
theorem dX0_wholePart_6 : decode cX0_wholePart 6 = .ok (.iload_n 0, 1) := by decide +kernel
theorem dX0_wholePart_7 : decode cX0_wholePart 7 = .ok (.lload_n 1, 1) := by decide +kernel
theorem dX0_wholePart_8 : decode cX0_wholePart 8 = .ok (.invokestatic 68, 3) := by decide +kernel
theorem dX0_wholePart_11 : decode cX0_wholePart 11 = .ok (.lstore 4, 2) := by decide +kernel
theorem dX0_wholePart_13 : decode cX0_wholePart 13 = .ok (.iload_n 0, 1) := by decide +kernel
theorem dX0_wholePart_14 : decode cX0_wholePart 14 = .ok (.lload_n 1, 1) := by decide +kernel
theorem dX0_wholePart_15 : decode cX0_wholePart 15 = .ok (.invokestatic 71, 3) := by decide +kernel
theorem dX0_wholePart_18 : decode cX0_wholePart 18 = .ok (.istore 6, 2) := by decide +kernel
theorem dX0_wholePart_20 : decode cX0_wholePart 20 = .ok (.iload 6, 2) := by decide +kernel
theorem dX0_wholePart_22 : decode cX0_wholePart 22 = .ok (.ifCond .gt 35, 3) := by decide +kernel
theorem dX0_wholePart_25 : decode cX0_wholePart 25 = .ok (.iload 6, 2) := by decide +kernel
theorem dX0_wholePart_27 : decode cX0_wholePart 27 = .ok (.bipush (-63), 2) := by decide +kernel
theorem dX0_wholePart_29 : decode cX0_wholePart 29 = .ok (.if_icmp .ge 7, 3) := by decide +kernel
theorem dX0_wholePart_32 : decode cX0_wholePart 32 = .ok (.lconst 0, 1) := by decide +kernel
theorem dX0_wholePart_33 : decode cX0_wholePart 33 = .ok (.goto 9, 3) := by decide +kernel
theorem dX0_wholePart_36 : decode cX0_wholePart 36 = .ok (.lload 4, 2) := by decide +kernel
theorem dX0_wholePart_38 : decode cX0_wholePart 38 = .ok (.iload 6, 2) := by decide +kernel
theorem dX0_wholePart_40 : decode cX0_wholePart 40 = .ok (.ineg, 1) := by decide +kernel
theorem dX0_wholePart_41 : decode cX0_wholePart 41 = .ok (.lushr, 1) := by decide +kernel
theorem dX0_wholePart_42 : decode cX0_wholePart 42 = .ok (.lstore 7, 2) := by decide +kernel
theorem dX0_wholePart_44 : decode cX0_wholePart 44 = .ok (.iload_n 3, 1) := by decide +kernel
theorem dX0_wholePart_45 : decode cX0_wholePart 45 = .ok (.ifCond .eq 9, 3) := by decide +kernel
theorem dX0_wholePart_48 : decode cX0_wholePart 48 = .ok (.lload 7, 2) := by decide +kernel
theorem dX0_wholePart_50 : decode cX0_wholePart 50 = .ok (.lneg, 1) := by decide +kernel
theorem dX0_wholePart_51 : decode cX0_wholePart 51 = .ok (.goto 5, 3) := by decide +kernel
theorem dX0_wholePart_54 : decode cX0_wholePart 54 = .ok (.lload 7, 2) := by decide +kernel
theorem dX0_wholePart_56 : decode cX0_wholePart 56 = .ok (.lreturn, 1) := by decide +kernel
theorem dX0_wholePart_57 : decode cX0_wholePart 57 = .ok (.iload 6, 2) := by decide +kernel
theorem dX0_wholePart_59 : decode cX0_wholePart 59 = .ok (.bipush 63, 2) := by decide +kernel
theorem dX0_wholePart_61 : decode cX0_wholePart 61 = .ok (.if_icmp .gt 15, 3) := by decide +kernel
theorem dX0_wholePart_64 : decode cX0_wholePart 64 = .ok (.lload 4, 2) := by decide +kernel
theorem dX0_wholePart_66 : decode cX0_wholePart 66 = .ok (.ldc2_w 75, 3) := by decide +kernel
theorem dX0_wholePart_69 : decode cX0_wholePart 69 = .ok (.iload 6, 2) := by decide +kernel
theorem dX0_wholePart_71 : decode cX0_wholePart 71 = .ok (.lushr, 1) := by decide +kernel
theorem dX0_wholePart_72 : decode cX0_wholePart 72 = .ok (.lcmp, 1) := by decide +kernel
theorem dX0_wholePart_73 : decode cX0_wholePart 73 = .ok (.ifCond .le 17, 3) := by decide +kernel
theorem dX0_wholePart_76 : decode cX0_wholePart 76 = .ok (.iload_n 3, 1) := by decide +kernel
theorem dX0_wholePart_77 : decode cX0_wholePart 77 = .ok (.ifCond .eq 9, 3) := by decide +kernel
theorem dX0_wholePart_80 : decode cX0_wholePart 80 = .ok (.ldc2_w 23, 3) := by decide +kernel
theorem dX0_wholePart_83 : decode cX0_wholePart 83 = .ok (.goto 6, 3) := by decide +kernel
theorem dX0_wholePart_86 : decode cX0_wholePart 86 = .ok (.ldc2_w 75, 3) := by decide +kernel
theorem dX0_wholePart_89 : decode cX0_wholePart 89 = .ok (.lreturn, 1) := by decide +kernel
theorem dX0_wholePart_90 : decode cX0_wholePart 90 = .ok (.iload_n 3, 1) := by decide +kernel
theorem dX0_wholePart_91 : decode cX0_wholePart 91 = .ok (.ifCond .eq 12, 3) := by decide +kernel
theorem dX0_wholePart_94 : decode cX0_wholePart 94 = .ok (.lload 4, 2) := by decide +kernel
theorem dX0_wholePart_96 : decode cX0_wholePart 96 = .ok (.iload 6, 2) := by decide +kernel
theorem dX0_wholePart_98 : decode cX0_wholePart 98 = .ok (.lshl, 1) := by decide +kernel
theorem dX0_wholePart_99 : decode cX0_wholePart 99 = .ok (.lneg, 1) := by decide +kernel
theorem dX0_wholePart_100 : decode cX0_wholePart 100 = .ok (.goto 8, 3) := by decide +kernel
theorem dX0_wholePart_103 : decode cX0_wholePart 103 = .ok (.lload 4, 2) := by decide +kernel
theorem dX0_wholePart_105 : decode cX0_wholePart 105 = .ok (.iload 6, 2) := by decide +kernel
theorem dX0_wholePart_107 : decode cX0_wholePart 107 = .ok (.lshl, 1) := by decide +kernel
theorem dX0_wholePart_108 : decode cX0_wholePart 108 = .ok (.lreturn, 1) := by decide +kernel
set_option maxRecDepth 20000 in
theorem ggX0_nearest_X0_signed : GoodIn wsX0_nearest wsX0_signed := goodIn_r _ [4, 5, 6, 3, 7, 8, 9] (by decide +kernel) (by decide +kernel)
set_option maxRecDepth 20000 in
theorem gX0_nearest_X0_signed : GoodIn wsX0_nearest (va_wsS RX0 64 yX0_signed wsX0_signed) := goodIn_app (goodIn_of _ (by decide +kernel)) ggX0_nearest_X0_signed
set_option maxRecDepth 20000 in
theorem ggX0_nearest_X0_roomBelow : GoodIn wsX0_nearest wsX0_roomBelow := goodIn_r _ [12] (by decide +kernel) (by decide +kernel)
set_option maxRecDepth 20000 in
theorem gX0_nearest_X0_roomBelow : GoodIn wsX0_nearest (va_wsS RX0 77 yX0_roomBelow wsX0_roomBelow) := goodIn_app (goodIn_of _ (by decide +kernel)) ggX0_nearest_X0_roomBelow
set_option maxRecDepth 20000 in
theorem ggX0_nearest_X0_fractionBits : GoodIn wsX0_nearest wsX0_fractionBits := goodIn_r _ [15] (by decide +kernel) (by decide +kernel)
set_option maxRecDepth 20000 in
theorem gX0_nearest_X0_fractionBits : GoodIn wsX0_nearest (va_wsS RX0 38 yX0_fractionBits wsX0_fractionBits) := goodIn_app (goodIn_of _ (by decide +kernel)) ggX0_nearest_X0_fractionBits
set_option maxRecDepth 20000 in
theorem ggX0_nearest_X0_leastExponent : GoodIn wsX0_nearest wsX0_leastExponent := goodIn_r _ [18] (by decide +kernel) (by decide +kernel)
set_option maxRecDepth 20000 in
theorem gX0_nearest_X0_leastExponent : GoodIn wsX0_nearest (va_wsS RX0 42 yX0_leastExponent wsX0_leastExponent) := goodIn_app (goodIn_of _ (by decide +kernel)) ggX0_nearest_X0_leastExponent
set_option maxRecDepth 20000 in
theorem ggX0_nearest_X0_greatestAbove : GoodIn wsX0_nearest wsX0_greatestAbove := goodIn_r _ [21] (by decide +kernel) (by decide +kernel)
set_option maxRecDepth 20000 in
theorem gX0_nearest_X0_greatestAbove : GoodIn wsX0_nearest (va_wsS RX0 80 yX0_greatestAbove wsX0_greatestAbove) := goodIn_app (goodIn_of _ (by decide +kernel)) ggX0_nearest_X0_greatestAbove
set_option maxRecDepth 20000 in
theorem ggX0_nearest_X0_infinity : GoodIn wsX0_nearest wsX0_infinity := goodIn_r _ [24, 25, 26] (by decide +kernel) (by decide +kernel)
set_option maxRecDepth 20000 in
theorem gX0_nearest_X0_infinity : GoodIn wsX0_nearest (va_wsS RX0 13 yX0_infinity wsX0_infinity) := goodIn_app (goodIn_of _ (by decide +kernel)) ggX0_nearest_X0_infinity
set_option maxRecDepth 20000 in
theorem ggX0_nearest_X0_roundedDown : GoodIn wsX0_nearest wsX0_roundedDown := goodIn_r _ [29] (by decide +kernel) (by decide +kernel)
set_option maxRecDepth 20000 in
theorem gX0_nearest_X0_roundedDown : GoodIn wsX0_nearest (va_wsS RX0 83 yX0_roundedDown wsX0_roundedDown) := goodIn_app (goodIn_of _ (by decide +kernel)) ggX0_nearest_X0_roundedDown
theorem dX0_nearest_0 : decode cX0_nearest 0 = .ok (.lload_n 2, 1) := by decide +kernel
theorem dX0_nearest_1 : decode cX0_nearest 1 = .ok (.lconst 0, 1) := by decide +kernel
theorem dX0_nearest_2 : decode cX0_nearest 2 = .ok (.lcmp, 1) := by decide +kernel
theorem dX0_nearest_3 : decode cX0_nearest 3 = .ok (.ifCond .ne 10, 3) := by decide +kernel
theorem dX0_nearest_6 : decode cX0_nearest 6 = .ok (.iload_n 0, 1) := by decide +kernel
theorem dX0_nearest_7 : decode cX0_nearest 7 = .ok (.iload_n 1, 1) := by decide +kernel
theorem dX0_nearest_8 : decode cX0_nearest 8 = .ok (.lconst 0, 1) := by decide +kernel
theorem dX0_nearest_9 : decode cX0_nearest 9 = .ok (.invokestatic 64, 3) := by decide +kernel
theorem dX0_nearest_12 : decode cX0_nearest 12 = .ok (.lreturn, 1) := by decide +kernel
theorem dX0_nearest_13 : decode cX0_nearest 13 = .ok (.bipush 62, 2) := by decide +kernel
theorem dX0_nearest_15 : decode cX0_nearest 15 = .ok (.lload_n 2, 1) := by decide +kernel
theorem dX0_nearest_16 : decode cX0_nearest 16 = .ok (.invokestatic 77, 3) := by decide +kernel
theorem dX0_nearest_19 : decode cX0_nearest 19 = .ok (.istore 5, 2) := by decide +kernel
theorem dX0_nearest_21 : decode cX0_nearest 21 = .ok (.bipush 62, 2) := by decide +kernel
theorem dX0_nearest_23 : decode cX0_nearest 23 = .ok (.iload_n 0, 1) := by decide +kernel
theorem dX0_nearest_24 : decode cX0_nearest 24 = .ok (.invokestatic 38, 3) := by decide +kernel
theorem dX0_nearest_27 : decode cX0_nearest 27 = .ok (.isub, 1) := by decide +kernel
theorem dX0_nearest_28 : decode cX0_nearest 28 = .ok (.istore 6, 2) := by decide +kernel
theorem dX0_nearest_30 : decode cX0_nearest 30 = .ok (.iload 4, 2) := by decide +kernel
theorem dX0_nearest_32 : decode cX0_nearest 32 = .ok (.iload 5, 2) := by decide +kernel
theorem dX0_nearest_34 : decode cX0_nearest 34 = .ok (.isub, 1) := by decide +kernel
theorem dX0_nearest_35 : decode cX0_nearest 35 = .ok (.iload 6, 2) := by decide +kernel
theorem dX0_nearest_37 : decode cX0_nearest 37 = .ok (.iadd, 1) := by decide +kernel
theorem dX0_nearest_38 : decode cX0_nearest 38 = .ok (.iload_n 0, 1) := by decide +kernel
theorem dX0_nearest_39 : decode cX0_nearest 39 = .ok (.invokestatic 42, 3) := by decide +kernel
theorem dX0_nearest_42 : decode cX0_nearest 42 = .ok (.isub, 1) := by decide +kernel
theorem dX0_nearest_43 : decode cX0_nearest 43 = .ok (.istore 7, 2) := by decide +kernel
theorem dX0_nearest_45 : decode cX0_nearest 45 = .ok (.iload 7, 2) := by decide +kernel
theorem dX0_nearest_47 : decode cX0_nearest 47 = .ok (.iload_n 0, 1) := by decide +kernel
theorem dX0_nearest_48 : decode cX0_nearest 48 = .ok (.invokestatic 80, 3) := by decide +kernel
theorem dX0_nearest_51 : decode cX0_nearest 51 = .ok (.if_icmp .le 13, 3) := by decide +kernel
theorem dX0_nearest_54 : decode cX0_nearest 54 = .ok (.iload_n 0, 1) := by decide +kernel
theorem dX0_nearest_55 : decode cX0_nearest 55 = .ok (.iload_n 1, 1) := by decide +kernel
theorem dX0_nearest_56 : decode cX0_nearest 56 = .ok (.iload_n 0, 1) := by decide +kernel
theorem dX0_nearest_57 : decode cX0_nearest 57 = .ok (.invokestatic 13, 3) := by decide +kernel
theorem dX0_nearest_60 : decode cX0_nearest 60 = .ok (.invokestatic 64, 3) := by decide +kernel
theorem dX0_nearest_63 : decode cX0_nearest 63 = .ok (.lreturn, 1) := by decide +kernel
theorem dX0_nearest_64 : decode cX0_nearest 64 = .ok (.iload 7, 2) := by decide +kernel
theorem dX0_nearest_66 : decode cX0_nearest 66 = .ok (.ifCond .ge 13, 3) := by decide +kernel
theorem dX0_nearest_69 : decode cX0_nearest 69 = .ok (.iload 6, 2) := by decide +kernel
theorem dX0_nearest_71 : decode cX0_nearest 71 = .ok (.iload 7, 2) := by decide +kernel
theorem dX0_nearest_73 : decode cX0_nearest 73 = .ok (.isub, 1) := by decide +kernel
theorem dX0_nearest_74 : decode cX0_nearest 74 = .ok (.istore 6, 2) := by decide +kernel
theorem dX0_nearest_76 : decode cX0_nearest 76 = .ok (.iconst 0, 1) := by decide +kernel
theorem dX0_nearest_77 : decode cX0_nearest 77 = .ok (.istore 7, 2) := by decide +kernel
theorem dX0_nearest_79 : decode cX0_nearest 79 = .ok (.lload_n 2, 1) := by decide +kernel
theorem dX0_nearest_80 : decode cX0_nearest 80 = .ok (.iload 5, 2) := by decide +kernel
theorem dX0_nearest_82 : decode cX0_nearest 82 = .ok (.lshl, 1) := by decide +kernel
theorem dX0_nearest_83 : decode cX0_nearest 83 = .ok (.iload 6, 2) := by decide +kernel
theorem dX0_nearest_85 : decode cX0_nearest 85 = .ok (.invokestatic 83, 3) := by decide +kernel
theorem dX0_nearest_88 : decode cX0_nearest 88 = .ok (.lstore 8, 2) := by decide +kernel
theorem dX0_nearest_90 : decode cX0_nearest 90 = .ok (.iload_n 0, 1) := by decide +kernel
theorem dX0_nearest_91 : decode cX0_nearest 91 = .ok (.iload_n 1, 1) := by decide +kernel
theorem dX0_nearest_92 : decode cX0_nearest 92 = .ok (.iload 7, 2) := by decide +kernel
theorem dX0_nearest_94 : decode cX0_nearest 94 = .ok (.i2l, 1) := by decide +kernel
theorem dX0_nearest_95 : decode cX0_nearest 95 = .ok (.iload_n 0, 1) := by decide +kernel
theorem dX0_nearest_96 : decode cX0_nearest 96 = .ok (.invokestatic 38, 3) := by decide +kernel
theorem dX0_nearest_99 : decode cX0_nearest 99 = .ok (.lshl, 1) := by decide +kernel
theorem dX0_nearest_100 : decode cX0_nearest 100 = .ok (.lload 8, 2) := by decide +kernel
theorem dX0_nearest_102 : decode cX0_nearest 102 = .ok (.ladd, 1) := by decide +kernel
theorem dX0_nearest_103 : decode cX0_nearest 103 = .ok (.invokestatic 64, 3) := by decide +kernel
theorem dX0_nearest_106 : decode cX0_nearest 106 = .ok (.lreturn, 1) := by decide +kernel
theorem dX0_roundedDown_0 : decode cX0_roundedDown 0 = .ok (.iload_n 2, 1) := by decide +kernel
theorem dX0_roundedDown_1 : decode cX0_roundedDown 1 = .ok (.bipush 63, 2) := by decide +kernel
theorem dX0_roundedDown_3 : decode cX0_roundedDown 3 = .ok (.if_icmp .le 5, 3) := by decide +kernel
theorem dX0_roundedDown_6 : decode cX0_roundedDown 6 = .ok (.lconst 0, 1) := by decide +kernel
theorem dX0_roundedDown_7 : decode cX0_roundedDown 7 = .ok (.lreturn, 1) := by decide +kernel
theorem dX0_roundedDown_8 : decode cX0_roundedDown 8 = .ok (.lload_n 0, 1) := by decide +kernel
theorem dX0_roundedDown_9 : decode cX0_roundedDown 9 = .ok (.iload_n 2, 1) := by decide +kernel
theorem dX0_roundedDown_10 : decode cX0_roundedDown 10 = .ok (.lushr, 1) := by decide +kernel
theorem dX0_roundedDown_11 : decode cX0_roundedDown 11 = .ok (.lstore_n 3, 1) := by decide +kernel
theorem dX0_roundedDown_12 : decode cX0_roundedDown 12 = .ok (.lload_n 0, 1) := by decide +kernel
theorem dX0_roundedDown_13 : decode cX0_roundedDown 13 = .ok (.lconst 1, 1) := by decide +kernel
theorem dX0_roundedDown_14 : decode cX0_roundedDown 14 = .ok (.iload_n 2, 1) := by decide +kernel
theorem dX0_roundedDown_15 : decode cX0_roundedDown 15 = .ok (.lshl, 1) := by decide +kernel
theorem dX0_roundedDown_16 : decode cX0_roundedDown 16 = .ok (.lconst 1, 1) := by decide +kernel
theorem dX0_roundedDown_17 : decode cX0_roundedDown 17 = .ok (.lsub, 1) := by decide +kernel
theorem dX0_roundedDown_18 : decode cX0_roundedDown 18 = .ok (.land, 1) := by decide +kernel
theorem dX0_roundedDown_19 : decode cX0_roundedDown 19 = .ok (.lstore 5, 2) := by decide +kernel
theorem dX0_roundedDown_21 : decode cX0_roundedDown 21 = .ok (.lconst 1, 1) := by decide +kernel
theorem dX0_roundedDown_22 : decode cX0_roundedDown 22 = .ok (.iload_n 2, 1) := by decide +kernel
theorem dX0_roundedDown_23 : decode cX0_roundedDown 23 = .ok (.iconst 1, 1) := by decide +kernel
theorem dX0_roundedDown_24 : decode cX0_roundedDown 24 = .ok (.isub, 1) := by decide +kernel
theorem dX0_roundedDown_25 : decode cX0_roundedDown 25 = .ok (.lshl, 1) := by decide +kernel
theorem dX0_roundedDown_26 : decode cX0_roundedDown 26 = .ok (.lstore 7, 2) := by decide +kernel
theorem dX0_roundedDown_28 : decode cX0_roundedDown 28 = .ok (.lload 5, 2) := by decide +kernel
theorem dX0_roundedDown_30 : decode cX0_roundedDown 30 = .ok (.lload 7, 2) := by decide +kernel
theorem dX0_roundedDown_32 : decode cX0_roundedDown 32 = .ok (.lcmp, 1) := by decide +kernel
theorem dX0_roundedDown_33 : decode cX0_roundedDown 33 = .ok (.ifCond .gt 19, 3) := by decide +kernel
theorem dX0_roundedDown_36 : decode cX0_roundedDown 36 = .ok (.lload 5, 2) := by decide +kernel
theorem dX0_roundedDown_38 : decode cX0_roundedDown 38 = .ok (.lload 7, 2) := by decide +kernel
theorem dX0_roundedDown_40 : decode cX0_roundedDown 40 = .ok (.lcmp, 1) := by decide +kernel
theorem dX0_roundedDown_41 : decode cX0_roundedDown 41 = .ok (.ifCond .ne 15, 3) := by decide +kernel
theorem dX0_roundedDown_44 : decode cX0_roundedDown 44 = .ok (.lload_n 3, 1) := by decide +kernel
theorem dX0_roundedDown_45 : decode cX0_roundedDown 45 = .ok (.lconst 1, 1) := by decide +kernel
theorem dX0_roundedDown_46 : decode cX0_roundedDown 46 = .ok (.land, 1) := by decide +kernel
theorem dX0_roundedDown_47 : decode cX0_roundedDown 47 = .ok (.lconst 1, 1) := by decide +kernel
theorem dX0_roundedDown_48 : decode cX0_roundedDown 48 = .ok (.lcmp, 1) := by decide +kernel
theorem dX0_roundedDown_49 : decode cX0_roundedDown 49 = .ok (.ifCond .ne 7, 3) := by decide +kernel
theorem dX0_roundedDown_52 : decode cX0_roundedDown 52 = .ok (.iconst 1, 1) := by decide +kernel
theorem dX0_roundedDown_53 : decode cX0_roundedDown 53 = .ok (.goto 4, 3) := by decide +kernel
theorem dX0_roundedDown_56 : decode cX0_roundedDown 56 = .ok (.iconst 0, 1) := by decide +kernel
theorem dX0_roundedDown_57 : decode cX0_roundedDown 57 = .ok (.istore 9, 2) := by decide +kernel
theorem dX0_roundedDown_59 : decode cX0_roundedDown 59 = .ok (.iload 9, 2) := by decide +kernel
theorem dX0_roundedDown_61 : decode cX0_roundedDown 61 = .ok (.ifCond .eq 9, 3) := by decide +kernel
theorem dX0_roundedDown_64 : decode cX0_roundedDown 64 = .ok (.lload_n 3, 1) := by decide +kernel
theorem dX0_roundedDown_65 : decode cX0_roundedDown 65 = .ok (.lconst 1, 1) := by decide +kernel
theorem dX0_roundedDown_66 : decode cX0_roundedDown 66 = .ok (.ladd, 1) := by decide +kernel
theorem dX0_roundedDown_67 : decode cX0_roundedDown 67 = .ok (.goto 4, 3) := by decide +kernel
theorem dX0_roundedDown_70 : decode cX0_roundedDown 70 = .ok (.lload_n 3, 1) := by decide +kernel
theorem dX0_roundedDown_71 : decode cX0_roundedDown 71 = .ok (.lreturn, 1) := by decide +kernel
set_option maxRecDepth 20000 in
theorem ggX0_sum_X0_isInfinite : GoodIn wsX0_sum wsX0_isInfinite := goodIn_r _ [4, 5, 6, 3, 7, 8, 9, 10, 11, 12, 13, 14, 15, 16, 17, 18] (by decide +kernel) (by decide +kernel)
set_option maxRecDepth 20000 in
theorem gX0_sum_X0_isInfinite : GoodIn wsX0_sum (va_wsS RX0 61 yX0_isInfinite wsX0_isInfinite) := goodIn_app (goodIn_of _ (by decide +kernel)) ggX0_sum_X0_isInfinite
set_option maxRecDepth 20000 in
theorem ggX0_sum_X0_notANumber : GoodIn wsX0_sum wsX0_notANumber := goodIn_r _ [21, 14, 15, 3, 16, 17, 18] (by decide +kernel) (by decide +kernel)
set_option maxRecDepth 20000 in
theorem gX0_sum_X0_notANumber : GoodIn wsX0_sum (va_wsS RX0 87 yX0_notANumber wsX0_notANumber) := goodIn_app (goodIn_of _ (by decide +kernel)) ggX0_sum_X0_notANumber
set_option maxRecDepth 20000 in
theorem ggX0_sum_X0_isZero : GoodIn wsX0_sum wsX0_isZero := goodIn_r _ [24, 5, 6, 3, 7, 8, 9, 10, 11, 12, 13] (by decide +kernel) (by decide +kernel)
set_option maxRecDepth 20000 in
theorem gX0_sum_X0_isZero : GoodIn wsX0_sum (va_wsS RX0 90 yX0_isZero wsX0_isZero) := goodIn_app (goodIn_of _ (by decide +kernel)) ggX0_sum_X0_isZero
set_option maxRecDepth 20000 in
theorem ggX0_sum_X0_size : GoodIn wsX0_sum wsX0_size := goodIn_r _ [7, 8, 9, 10, 3, 11, 12, 13] (by decide +kernel) (by decide +kernel)
set_option maxRecDepth 20000 in
theorem gX0_sum_X0_size : GoodIn wsX0_sum (va_wsS RX0 30 yX0_size wsX0_size) := goodIn_app (goodIn_of _ (by decide +kernel)) ggX0_sum_X0_size
set_option maxRecDepth 20000 in
theorem ggX0_sum_X0_sumByGreater : GoodIn wsX0_sum wsX0_sumByGreater := goodIn_r _ [27, 28, 29, 3, 30, 31, 32, 33, 5, 6, 7, 8, 9, 10, 11, 12, 13, 34, 35, 36, 37, 38, 39, 40, 41, 42, 43, 44, 45, 46, 47, 48, 49, 50, 51, 52, 53, 54, 55, 56, 57, 58, 59, 60, 61, 14, 15, 16, 17, 18, 62, 63, 64] (by decide +kernel) (by decide +kernel)
set_option maxRecDepth 20000 in
theorem gX0_sum_X0_sumByGreater : GoodIn wsX0_sum (va_wsS RX0 93 yX0_sumByGreater wsX0_sumByGreater) := goodIn_app (goodIn_of _ (by decide +kernel)) ggX0_sum_X0_sumByGreater
theorem dX0_sum_0 : decode cX0_sum 0 = .ok (.iload_n 0, 1) := by decide +kernel
theorem dX0_sum_1 : decode cX0_sum 1 = .ok (.lload_n 1, 1) := by decide +kernel
theorem dX0_sum_2 : decode cX0_sum 2 = .ok (.invokestatic 61, 3) := by decide +kernel
theorem dX0_sum_5 : decode cX0_sum 5 = .ok (.ifCond .eq 26, 3) := by decide +kernel
theorem dX0_sum_8 : decode cX0_sum 8 = .ok (.iload_n 0, 1) := by decide +kernel
theorem dX0_sum_9 : decode cX0_sum 9 = .ok (.lload_n 3, 1) := by decide +kernel
theorem dX0_sum_10 : decode cX0_sum 10 = .ok (.invokestatic 61, 3) := by decide +kernel
theorem dX0_sum_13 : decode cX0_sum 13 = .ok (.ifCond .eq 16, 3) := by decide +kernel
theorem dX0_sum_16 : decode cX0_sum 16 = .ok (.lload_n 1, 1) := by decide +kernel
theorem dX0_sum_17 : decode cX0_sum 17 = .ok (.lload_n 3, 1) := by decide +kernel
theorem dX0_sum_18 : decode cX0_sum 18 = .ok (.lcmp, 1) := by decide +kernel
theorem dX0_sum_19 : decode cX0_sum 19 = .ok (.ifCond .eq 10, 3) := by decide +kernel
theorem dX0_sum_22 : decode cX0_sum 22 = .ok (.iload_n 0, 1) := by decide +kernel
theorem dX0_sum_23 : decode cX0_sum 23 = .ok (.invokestatic 87, 3) := by decide +kernel
theorem dX0_sum_26 : decode cX0_sum 26 = .ok (.goto 4, 3) := by decide +kernel
theorem dX0_sum_29 : decode cX0_sum 29 = .ok (.lload_n 1, 1) := by decide +kernel
theorem dX0_sum_30 : decode cX0_sum 30 = .ok (.lreturn, 1) := by decide +kernel
theorem dX0_sum_31 : decode cX0_sum 31 = .ok (.iload_n 0, 1) := by decide +kernel
theorem dX0_sum_32 : decode cX0_sum 32 = .ok (.lload_n 3, 1) := by decide +kernel
theorem dX0_sum_33 : decode cX0_sum 33 = .ok (.invokestatic 61, 3) := by decide +kernel
theorem dX0_sum_36 : decode cX0_sum 36 = .ok (.ifCond .eq 5, 3) := by decide +kernel
theorem dX0_sum_39 : decode cX0_sum 39 = .ok (.lload_n 3, 1) := by decide +kernel
theorem dX0_sum_40 : decode cX0_sum 40 = .ok (.lreturn, 1) := by decide +kernel
theorem dX0_sum_41 : decode cX0_sum 41 = .ok (.iload_n 0, 1) := by decide +kernel
theorem dX0_sum_42 : decode cX0_sum 42 = .ok (.lload_n 1, 1) := by decide +kernel
theorem dX0_sum_43 : decode cX0_sum 43 = .ok (.invokestatic 90, 3) := by decide +kernel
theorem dX0_sum_46 : decode cX0_sum 46 = .ok (.ifCond .eq 15, 3) := by decide +kernel
theorem dX0_sum_49 : decode cX0_sum 49 = .ok (.iload_n 0, 1) := by decide +kernel
theorem dX0_sum_50 : decode cX0_sum 50 = .ok (.lload_n 3, 1) := by decide +kernel
theorem dX0_sum_51 : decode cX0_sum 51 = .ok (.invokestatic 90, 3) := by decide +kernel
theorem dX0_sum_54 : decode cX0_sum 54 = .ok (.ifCond .eq 7, 3) := by decide +kernel
theorem dX0_sum_57 : decode cX0_sum 57 = .ok (.lload_n 1, 1) := by decide +kernel
theorem dX0_sum_58 : decode cX0_sum 58 = .ok (.lload_n 3, 1) := by decide +kernel
theorem dX0_sum_59 : decode cX0_sum 59 = .ok (.land, 1) := by decide +kernel
theorem dX0_sum_60 : decode cX0_sum 60 = .ok (.lreturn, 1) := by decide +kernel
theorem dX0_sum_61 : decode cX0_sum 61 = .ok (.iload_n 0, 1) := by decide +kernel
theorem dX0_sum_62 : decode cX0_sum 62 = .ok (.lload_n 1, 1) := by decide +kernel
theorem dX0_sum_63 : decode cX0_sum 63 = .ok (.invokestatic 30, 3) := by decide +kernel
theorem dX0_sum_66 : decode cX0_sum 66 = .ok (.iload_n 0, 1) := by decide +kernel
theorem dX0_sum_67 : decode cX0_sum 67 = .ok (.lload_n 3, 1) := by decide +kernel
theorem dX0_sum_68 : decode cX0_sum 68 = .ok (.invokestatic 30, 3) := by decide +kernel
theorem dX0_sum_71 : decode cX0_sum 71 = .ok (.lcmp, 1) := by decide +kernel
theorem dX0_sum_72 : decode cX0_sum 72 = .ok (.ifCond .lt 7, 3) := by decide +kernel
theorem dX0_sum_75 : decode cX0_sum 75 = .ok (.iconst 1, 1) := by decide +kernel
theorem dX0_sum_76 : decode cX0_sum 76 = .ok (.goto 4, 3) := by decide +kernel
theorem dX0_sum_79 : decode cX0_sum 79 = .ok (.iconst 0, 1) := by decide +kernel
theorem dX0_sum_80 : decode cX0_sum 80 = .ok (.istore 5, 2) := by decide +kernel
theorem dX0_sum_82 : decode cX0_sum 82 = .ok (.iload 5, 2) := by decide +kernel
theorem dX0_sum_84 : decode cX0_sum 84 = .ok (.ifCond .eq 12, 3) := by decide +kernel
theorem dX0_sum_87 : decode cX0_sum 87 = .ok (.iload_n 0, 1) := by decide +kernel
theorem dX0_sum_88 : decode cX0_sum 88 = .ok (.lload_n 1, 1) := by decide +kernel
theorem dX0_sum_89 : decode cX0_sum 89 = .ok (.lload_n 3, 1) := by decide +kernel
theorem dX0_sum_90 : decode cX0_sum 90 = .ok (.invokestatic 93, 3) := by decide +kernel
theorem dX0_sum_93 : decode cX0_sum 93 = .ok (.goto 9, 3) := by decide +kernel
theorem dX0_sum_96 : decode cX0_sum 96 = .ok (.iload_n 0, 1) := by decide +kernel
theorem dX0_sum_97 : decode cX0_sum 97 = .ok (.lload_n 3, 1) := by decide +kernel
theorem dX0_sum_98 : decode cX0_sum 98 = .ok (.lload_n 1, 1) := by decide +kernel
theorem dX0_sum_99 : decode cX0_sum 99 = .ok (.invokestatic 93, 3) := by decide +kernel
theorem dX0_sum_102 : decode cX0_sum 102 = .ok (.lreturn, 1) := by decide +kernel
set_option maxRecDepth 20000 in
theorem ggX0_sumByGreater_X0_magnitude : GoodIn wsX0_sumByGreater wsX0_magnitude := goodIn_r _ [4, 5, 6, 3, 7, 8, 9, 10, 11, 12, 13, 14, 15, 16] (by decide +kernel) (by decide +kernel)
set_option maxRecDepth 20000 in
theorem gX0_sumByGreater_X0_magnitude : GoodIn wsX0_sumByGreater (va_wsS RX0 68 yX0_magnitude wsX0_magnitude) := goodIn_app (goodIn_of _ (by decide +kernel)) ggX0_sumByGreater_X0_magnitude
set_option maxRecDepth 20000 in
theorem ggX0_sumByGreater_X0_roomBelow : GoodIn wsX0_sumByGreater wsX0_roomBelow := goodIn_r _ [19] (by decide +kernel) (by decide +kernel)
set_option maxRecDepth 20000 in
theorem gX0_sumByGreater_X0_roomBelow : GoodIn wsX0_sumByGreater (va_wsS RX0 77 yX0_roomBelow wsX0_roomBelow) := goodIn_app (goodIn_of _ (by decide +kernel)) ggX0_sumByGreater_X0_roomBelow
set_option maxRecDepth 20000 in
theorem ggX0_sumByGreater_X0_exponent : GoodIn wsX0_sumByGreater wsX0_exponent := goodIn_r _ [22, 23, 24, 25, 26, 8, 9, 3, 10, 11, 12, 13, 14, 15, 16, 5, 6, 7, 27, 28, 29] (by decide +kernel) (by decide +kernel)
set_option maxRecDepth 20000 in
theorem gX0_sumByGreater_X0_exponent : GoodIn wsX0_sumByGreater (va_wsS RX0 71 yX0_exponent wsX0_exponent) := goodIn_app (goodIn_of _ (by decide +kernel)) ggX0_sumByGreater_X0_exponent
set_option maxRecDepth 20000 in
theorem ggX0_sumByGreater_X0_movedDown : GoodIn wsX0_sumByGreater wsX0_movedDown := goodIn_r _ [32] (by decide +kernel) (by decide +kernel)
set_option maxRecDepth 20000 in
theorem gX0_sumByGreater_X0_movedDown : GoodIn wsX0_sumByGreater (va_wsS RX0 97 yX0_movedDown wsX0_movedDown) := goodIn_app (goodIn_of _ (by decide +kernel)) ggX0_sumByGreater_X0_movedDown
set_option maxRecDepth 20000 in
theorem ggX0_sumByGreater_X0_isNegative : GoodIn wsX0_sumByGreater wsX0_isNegative := goodIn_r _ [35, 12, 13, 3, 14, 15, 16] (by decide +kernel) (by decide +kernel)
set_option maxRecDepth 20000 in
theorem gX0_sumByGreater_X0_isNegative : GoodIn wsX0_sumByGreater (va_wsS RX0 34 yX0_isNegative wsX0_isNegative) := goodIn_app (goodIn_of _ (by decide +kernel)) ggX0_sumByGreater_X0_isNegative
set_option maxRecDepth 20000 in
theorem ggX0_sumByGreater_X0_nearest : GoodIn wsX0_sumByGreater wsX0_nearest := goodIn_r _ [38, 39, 40, 3, 41, 12, 13, 14, 15, 16, 17, 18, 19, 5, 6, 7, 27, 28, 29, 42, 43, 44, 45, 46, 47, 48, 49, 50, 51, 52] (by decide +kernel) (by decide +kernel)
set_option maxRecDepth 20000 in
theorem gX0_sumByGreater_X0_nearest : GoodIn wsX0_sumByGreater (va_wsS RX0 53 yX0_nearest wsX0_nearest) := goodIn_app (goodIn_of _ (by decide +kernel)) ggX0_sumByGreater_X0_nearest
theorem dX0_sumByGreater_0 : decode cX0_sumByGreater 0 = .ok (.bipush 61, 2) := by decide +kernel
theorem dX0_sumByGreater_2 : decode cX0_sumByGreater 2 = .ok (.iload_n 0, 1) := by decide +kernel
theorem dX0_sumByGreater_3 : decode cX0_sumByGreater 3 = .ok (.lload_n 1, 1) := by decide +kernel
theorem dX0_sumByGreater_4 : decode cX0_sumByGreater 4 = .ok (.invokestatic 68, 3) := by decide +kernel
theorem dX0_sumByGreater_7 : decode cX0_sumByGreater 7 = .ok (.invokestatic 77, 3) := by decide +kernel
theorem dX0_sumByGreater_10 : decode cX0_sumByGreater 10 = .ok (.istore 5, 2) := by decide +kernel
theorem dX0_sumByGreater_12 : decode cX0_sumByGreater 12 = .ok (.iload_n 0, 1) := by decide +kernel
theorem dX0_sumByGreater_13 : decode cX0_sumByGreater 13 = .ok (.lload_n 1, 1) := by decide +kernel
theorem dX0_sumByGreater_14 : decode cX0_sumByGreater 14 = .ok (.invokestatic 68, 3) := by decide +kernel
theorem dX0_sumByGreater_17 : decode cX0_sumByGreater 17 = .ok (.iload 5, 2) := by decide +kernel
theorem dX0_sumByGreater_19 : decode cX0_sumByGreater 19 = .ok (.lshl, 1) := by decide +kernel
theorem dX0_sumByGreater_20 : decode cX0_sumByGreater 20 = .ok (.lstore 6, 2) := by decide +kernel
theorem dX0_sumByGreater_22 : decode cX0_sumByGreater 22 = .ok (.iload_n 0, 1) := by decide +kernel
theorem dX0_sumByGreater_23 : decode cX0_sumByGreater 23 = .ok (.lload_n 1, 1) := by decide +kernel
theorem dX0_sumByGreater_24 : decode cX0_sumByGreater 24 = .ok (.invokestatic 71, 3) := by decide +kernel
theorem dX0_sumByGreater_27 : decode cX0_sumByGreater 27 = .ok (.iload 5, 2) := by decide +kernel
theorem dX0_sumByGreater_29 : decode cX0_sumByGreater 29 = .ok (.isub, 1) := by decide +kernel
theorem dX0_sumByGreater_30 : decode cX0_sumByGreater 30 = .ok (.istore 8, 2) := by decide +kernel
theorem dX0_sumByGreater_32 : decode cX0_sumByGreater 32 = .ok (.iload_n 0, 1) := by decide +kernel
theorem dX0_sumByGreater_33 : decode cX0_sumByGreater 33 = .ok (.lload_n 3, 1) := by decide +kernel
theorem dX0_sumByGreater_34 : decode cX0_sumByGreater 34 = .ok (.invokestatic 68, 3) := by decide +kernel
theorem dX0_sumByGreater_37 : decode cX0_sumByGreater 37 = .ok (.lstore 9, 2) := by decide +kernel
theorem dX0_sumByGreater_39 : decode cX0_sumByGreater 39 = .ok (.iload_n 0, 1) := by decide +kernel
theorem dX0_sumByGreater_40 : decode cX0_sumByGreater 40 = .ok (.lload_n 3, 1) := by decide +kernel
theorem dX0_sumByGreater_41 : decode cX0_sumByGreater 41 = .ok (.invokestatic 71, 3) := by decide +kernel
theorem dX0_sumByGreater_44 : decode cX0_sumByGreater 44 = .ok (.iload 8, 2) := by decide +kernel
theorem dX0_sumByGreater_46 : decode cX0_sumByGreater 46 = .ok (.isub, 1) := by decide +kernel
theorem dX0_sumByGreater_47 : decode cX0_sumByGreater 47 = .ok (.istore 11, 2) := by decide +kernel
theorem dX0_sumByGreater_49 : decode cX0_sumByGreater 49 = .ok (.iload 11, 2) := by decide +kernel
theorem dX0_sumByGreater_51 : decode cX0_sumByGreater 51 = .ok (.ifCond .lt 11, 3) := by decide +kernel
theorem dX0_sumByGreater_54 : decode cX0_sumByGreater 54 = .ok (.lload 9, 2) := by decide +kernel
theorem dX0_sumByGreater_56 : decode cX0_sumByGreater 56 = .ok (.iload 11, 2) := by decide +kernel
theorem dX0_sumByGreater_58 : decode cX0_sumByGreater 58 = .ok (.lshl, 1) := by decide +kernel
theorem dX0_sumByGreater_59 : decode cX0_sumByGreater 59 = .ok (.goto 11, 3) := by decide +kernel
theorem dX0_sumByGreater_62 : decode cX0_sumByGreater 62 = .ok (.lload 9, 2) := by decide +kernel
theorem dX0_sumByGreater_64 : decode cX0_sumByGreater 64 = .ok (.iload 11, 2) := by decide +kernel
theorem dX0_sumByGreater_66 : decode cX0_sumByGreater 66 = .ok (.ineg, 1) := by decide +kernel
theorem dX0_sumByGreater_67 : decode cX0_sumByGreater 67 = .ok (.invokestatic 97, 3) := by decide +kernel
theorem dX0_sumByGreater_70 : decode cX0_sumByGreater 70 = .ok (.lstore 9, 2) := by decide +kernel
theorem dX0_sumByGreater_72 : decode cX0_sumByGreater 72 = .ok (.iload_n 0, 1) := by decide +kernel
theorem dX0_sumByGreater_73 : decode cX0_sumByGreater 73 = .ok (.lload_n 1, 1) := by decide +kernel
theorem dX0_sumByGreater_74 : decode cX0_sumByGreater 74 = .ok (.invokestatic 34, 3) := by decide +kernel
theorem dX0_sumByGreater_77 : decode cX0_sumByGreater 77 = .ok (.istore 12, 2) := by decide +kernel
theorem dX0_sumByGreater_79 : decode cX0_sumByGreater 79 = .ok (.iload 12, 2) := by decide +kernel
theorem dX0_sumByGreater_81 : decode cX0_sumByGreater 81 = .ok (.iload_n 0, 1) := by decide +kernel
theorem dX0_sumByGreater_82 : decode cX0_sumByGreater 82 = .ok (.lload_n 3, 1) := by decide +kernel
theorem dX0_sumByGreater_83 : decode cX0_sumByGreater 83 = .ok (.invokestatic 34, 3) := by decide +kernel
theorem dX0_sumByGreater_86 : decode cX0_sumByGreater 86 = .ok (.if_icmp .ne 17, 3) := by decide +kernel
theorem dX0_sumByGreater_89 : decode cX0_sumByGreater 89 = .ok (.iload_n 0, 1) := by decide +kernel
theorem dX0_sumByGreater_90 : decode cX0_sumByGreater 90 = .ok (.iload 12, 2) := by decide +kernel
theorem dX0_sumByGreater_92 : decode cX0_sumByGreater 92 = .ok (.lload 6, 2) := by decide +kernel
theorem dX0_sumByGreater_94 : decode cX0_sumByGreater 94 = .ok (.lload 9, 2) := by decide +kernel
theorem dX0_sumByGreater_96 : decode cX0_sumByGreater 96 = .ok (.ladd, 1) := by decide +kernel
theorem dX0_sumByGreater_97 : decode cX0_sumByGreater 97 = .ok (.iload 8, 2) := by decide +kernel
theorem dX0_sumByGreater_99 : decode cX0_sumByGreater 99 = .ok (.invokestatic 53, 3) := by decide +kernel
theorem dX0_sumByGreater_102 : decode cX0_sumByGreater 102 = .ok (.lreturn, 1) := by decide +kernel
theorem dX0_sumByGreater_103 : decode cX0_sumByGreater 103 = .ok (.lload 6, 2) := by decide +kernel
theorem dX0_sumByGreater_105 : decode cX0_sumByGreater 105 = .ok (.lload 9, 2) := by decide +kernel
theorem dX0_sumByGreater_107 : decode cX0_sumByGreater 107 = .ok (.lcmp, 1) := by decide +kernel
theorem dX0_sumByGreater_108 : decode cX0_sumByGreater 108 = .ok (.ifCond .ne 7, 3) := by decide +kernel
theorem dX0_sumByGreater_111 : decode cX0_sumByGreater 111 = .ok (.lconst 0, 1) := by decide +kernel
theorem dX0_sumByGreater_112 : decode cX0_sumByGreater 112 = .ok (.goto 16, 3) := by decide +kernel
theorem dX0_sumByGreater_115 : decode cX0_sumByGreater 115 = .ok (.iload_n 0, 1) := by decide +kernel
theorem dX0_sumByGreater_116 : decode cX0_sumByGreater 116 = .ok (.iload 12, 2) := by decide +kernel
theorem dX0_sumByGreater_118 : decode cX0_sumByGreater 118 = .ok (.lload 6, 2) := by decide +kernel
theorem dX0_sumByGreater_120 : decode cX0_sumByGreater 120 = .ok (.lload 9, 2) := by decide +kernel
theorem dX0_sumByGreater_122 : decode cX0_sumByGreater 122 = .ok (.lsub, 1) := by decide +kernel
theorem dX0_sumByGreater_123 : decode cX0_sumByGreater 123 = .ok (.iload 8, 2) := by decide +kernel
theorem dX0_sumByGreater_125 : decode cX0_sumByGreater 125 = .ok (.invokestatic 53, 3) := by decide +kernel
theorem dX0_sumByGreater_128 : decode cX0_sumByGreater 128 = .ok (.lreturn, 1) := by decide +kernel
set_option maxRecDepth 20000 in
theorem ggX0_product_X0_isNegative : GoodIn wsX0_product wsX0_isNegative := goodIn_r _ [4, 5, 6, 3, 7, 8, 9] (by decide +kernel) (by decide +kernel)
set_option maxRecDepth 20000 in
theorem gX0_product_X0_isNegative : GoodIn wsX0_product (va_wsS RX0 34 yX0_isNegative wsX0_isNegative) := goodIn_app (goodIn_of _ (by decide +kernel)) ggX0_product_X0_isNegative
set_option maxRecDepth 20000 in
theorem ggX0_product_X0_isInfinite : GoodIn wsX0_product wsX0_isInfinite := goodIn_r _ [12, 13, 14, 3, 15, 16, 5, 6, 7, 8, 9, 17, 18, 19, 20, 21] (by decide +kernel) (by decide +kernel)
set_option maxRecDepth 20000 in
theorem gX0_product_X0_isInfinite : GoodIn wsX0_product (va_wsS RX0 61 yX0_isInfinite wsX0_isInfinite) := goodIn_app (goodIn_of _ (by decide +kernel)) ggX0_product_X0_isInfinite
set_option maxRecDepth 20000 in
theorem ggX0_product_X0_isZero : GoodIn wsX0_product wsX0_isZero := goodIn_r _ [24, 13, 14, 3, 15, 16, 5, 6, 7, 8, 9] (by decide +kernel) (by decide +kernel)
set_option maxRecDepth 20000 in
theorem gX0_product_X0_isZero : GoodIn wsX0_product (va_wsS RX0 90 yX0_isZero wsX0_isZero) := goodIn_app (goodIn_of _ (by decide +kernel)) ggX0_product_X0_isZero
set_option maxRecDepth 20000 in
theorem ggX0_product_X0_notANumber : GoodIn wsX0_product wsX0_notANumber := goodIn_r _ [27, 17, 18, 3, 19, 20, 21] (by decide +kernel) (by decide +kernel)
set_option maxRecDepth 20000 in
theorem gX0_product_X0_notANumber : GoodIn wsX0_product (va_wsS RX0 87 yX0_notANumber wsX0_notANumber) := goodIn_app (goodIn_of _ (by decide +kernel)) ggX0_product_X0_notANumber
set_option maxRecDepth 20000 in
theorem ggX0_product_X0_infinity : GoodIn wsX0_product wsX0_infinity := goodIn_r _ [19, 20, 21] (by decide +kernel) (by decide +kernel)
set_option maxRecDepth 20000 in
theorem gX0_product_X0_infinity : GoodIn wsX0_product (va_wsS RX0 13 yX0_infinity wsX0_infinity) := goodIn_app (goodIn_of _ (by decide +kernel)) ggX0_product_X0_infinity
set_option maxRecDepth 20000 in
theorem ggX0_product_X0_signed : GoodIn wsX0_product wsX0_signed := goodIn_r _ [30, 5, 6, 3, 7, 8, 9] (by decide +kernel) (by decide +kernel)
set_option maxRecDepth 20000 in
theorem gX0_product_X0_signed : GoodIn wsX0_product (va_wsS RX0 64 yX0_signed wsX0_signed) := goodIn_app (goodIn_of _ (by decide +kernel)) ggX0_product_X0_signed
set_option maxRecDepth 20000 in
theorem ggX0_product_X0_magnitude : GoodIn wsX0_product wsX0_magnitude := goodIn_r _ [33, 34, 35, 3, 36, 13, 14, 15, 16, 5, 6, 7, 8, 9] (by decide +kernel) (by decide +kernel)
set_option maxRecDepth 20000 in
theorem gX0_product_X0_magnitude : GoodIn wsX0_product (va_wsS RX0 68 yX0_magnitude wsX0_magnitude) := goodIn_app (goodIn_of _ (by decide +kernel)) ggX0_product_X0_magnitude
set_option maxRecDepth 20000 in
theorem ggX0_product_X0_roomBelow : GoodIn wsX0_product wsX0_roomBelow := goodIn_r _ [39] (by decide +kernel) (by decide +kernel)
set_option maxRecDepth 20000 in
theorem gX0_product_X0_roomBelow : GoodIn wsX0_product (va_wsS RX0 77 yX0_roomBelow wsX0_roomBelow) := goodIn_app (goodIn_of _ (by decide +kernel)) ggX0_product_X0_roomBelow
set_option maxRecDepth 20000 in
theorem ggX0_product_X0_topOfProduct : GoodIn wsX0_product wsX0_topOfProduct := goodIn_r _ [42, 43, 44, 45, 3, 46] (by decide +kernel) (by decide +kernel)
set_option maxRecDepth 20000 in
theorem gX0_product_X0_topOfProduct : GoodIn wsX0_product (va_wsS RX0 100 yX0_topOfProduct wsX0_topOfProduct) := goodIn_app (goodIn_of _ (by decide +kernel)) ggX0_product_X0_topOfProduct
set_option maxRecDepth 20000 in
theorem ggX0_product_X0_exponent : GoodIn wsX0_product wsX0_exponent := goodIn_r _ [49, 50, 51, 52, 53, 13, 14, 3, 15, 16, 5, 6, 7, 8, 9, 34, 35, 36, 54, 55, 56] (by decide +kernel) (by decide +kernel)
set_option maxRecDepth 20000 in
theorem gX0_product_X0_exponent : GoodIn wsX0_product (va_wsS RX0 71 yX0_exponent wsX0_exponent) := goodIn_app (goodIn_of _ (by decide +kernel)) ggX0_product_X0_exponent
set_option maxRecDepth 20000 in
theorem ggX0_product_X0_nearest : GoodIn wsX0_product wsX0_nearest := goodIn_r _ [59, 28, 29, 3, 30, 5, 6, 7, 8, 9, 37, 38, 39, 34, 35, 36, 54, 55, 56, 60, 61, 62, 17, 18, 19, 20, 21, 63, 64, 65] (by decide +kernel) (by decide +kernel)
set_option maxRecDepth 20000 in
theorem gX0_product_X0_nearest : GoodIn wsX0_product (va_wsS RX0 53 yX0_nearest wsX0_nearest) := goodIn_app (goodIn_of _ (by decide +kernel)) ggX0_product_X0_nearest
theorem dX0_product_0 : decode cX0_product 0 = .ok (.iload_n 0, 1) := by decide +kernel
theorem dX0_product_1 : decode cX0_product 1 = .ok (.lload_n 1, 1) := by decide +kernel
theorem dX0_product_2 : decode cX0_product 2 = .ok (.invokestatic 34, 3) := by decide +kernel
theorem dX0_product_5 : decode cX0_product 5 = .ok (.iload_n 0, 1) := by decide +kernel
theorem dX0_product_6 : decode cX0_product 6 = .ok (.lload_n 3, 1) := by decide +kernel
theorem dX0_product_7 : decode cX0_product 7 = .ok (.invokestatic 34, 3) := by decide +kernel
theorem dX0_product_10 : decode cX0_product 10 = .ok (.if_icmp .eq 7, 3) := by decide +kernel
theorem dX0_product_13 : decode cX0_product 13 = .ok (.iconst 1, 1) := by decide +kernel
theorem dX0_product_14 : decode cX0_product 14 = .ok (.goto 4, 3) := by decide +kernel
theorem dX0_product_17 : decode cX0_product 17 = .ok (.iconst 0, 1) := by decide +kernel
theorem dX0_product_18 : decode cX0_product 18 = .ok (.istore 5, 2) := by decide +kernel
theorem dX0_product_20 : decode cX0_product 20 = .ok (.iload_n 0, 1) := by decide +kernel
theorem dX0_product_21 : decode cX0_product 21 = .ok (.lload_n 1, 1) := by decide +kernel
theorem dX0_product_22 : decode cX0_product 22 = .ok (.invokestatic 61, 3) := by decide +kernel
theorem dX0_product_25 : decode cX0_product 25 = .ok (.ifCond .ne 11, 3) := by decide +kernel
theorem dX0_product_28 : decode cX0_product 28 = .ok (.iload_n 0, 1) := by decide +kernel
theorem dX0_product_29 : decode cX0_product 29 = .ok (.lload_n 3, 1) := by decide +kernel
theorem dX0_product_30 : decode cX0_product 30 = .ok (.invokestatic 61, 3) := by decide +kernel
theorem dX0_product_33 : decode cX0_product 33 = .ok (.ifCond .eq 49, 3) := by decide +kernel
theorem dX0_product_36 : decode cX0_product 36 = .ok (.iload_n 0, 1) := by decide +kernel
theorem dX0_product_37 : decode cX0_product 37 = .ok (.lload_n 1, 1) := by decide +kernel
theorem dX0_product_38 : decode cX0_product 38 = .ok (.invokestatic 90, 3) := by decide +kernel
theorem dX0_product_41 : decode cX0_product 41 = .ok (.ifCond .ne 11, 3) := by decide +kernel
theorem dX0_product_44 : decode cX0_product 44 = .ok (.iload_n 0, 1) := by decide +kernel
theorem dX0_product_45 : decode cX0_product 45 = .ok (.lload_n 3, 1) := by decide +kernel
theorem dX0_product_46 : decode cX0_product 46 = .ok (.invokestatic 90, 3) := by decide +kernel
theorem dX0_product_49 : decode cX0_product 49 = .ok (.ifCond .eq 7, 3) := by decide +kernel
theorem dX0_product_52 : decode cX0_product 52 = .ok (.iconst 1, 1) := by decide +kernel
theorem dX0_product_53 : decode cX0_product 53 = .ok (.goto 4, 3) := by decide +kernel
theorem dX0_product_56 : decode cX0_product 56 = .ok (.iconst 0, 1) := by decide +kernel
theorem dX0_product_57 : decode cX0_product 57 = .ok (.istore 6, 2) := by decide +kernel
theorem dX0_product_59 : decode cX0_product 59 = .ok (.iload 6, 2) := by decide +kernel
theorem dX0_product_61 : decode cX0_product 61 = .ok (.ifCond .eq 10, 3) := by decide +kernel
theorem dX0_product_64 : decode cX0_product 64 = .ok (.iload_n 0, 1) := by decide +kernel
theorem dX0_product_65 : decode cX0_product 65 = .ok (.invokestatic 87, 3) := by decide +kernel
theorem dX0_product_68 : decode cX0_product 68 = .ok (.goto 13, 3) := by decide +kernel
theorem dX0_product_71 : decode cX0_product 71 = .ok (.iload_n 0, 1) := by decide +kernel
theorem dX0_product_72 : decode cX0_product 72 = .ok (.iload 5, 2) := by decide +kernel
theorem dX0_product_74 : decode cX0_product 74 = .ok (.iload_n 0, 1) := by decide +kernel
theorem dX0_product_75 : decode cX0_product 75 = .ok (.invokestatic 13, 3) := by decide +kernel
theorem dX0_product_78 : decode cX0_product 78 = .ok (.invokestatic 64, 3) := by decide +kernel
theorem dX0_product_81 : decode cX0_product 81 = .ok (.lreturn, 1) := by decide +kernel
theorem dX0_product_82 : decode cX0_product 82 = .ok (.bipush 52, 2) := by decide +kernel
theorem dX0_product_84 : decode cX0_product 84 = .ok (.iload_n 0, 1) := by decide +kernel
theorem dX0_product_85 : decode cX0_product 85 = .ok (.lload_n 1, 1) := by decide +kernel
theorem dX0_product_86 : decode cX0_product 86 = .ok (.invokestatic 68, 3) := by decide +kernel
theorem dX0_product_89 : decode cX0_product 89 = .ok (.invokestatic 77, 3) := by decide +kernel
theorem dX0_product_92 : decode cX0_product 92 = .ok (.istore 6, 2) := by decide +kernel
theorem dX0_product_94 : decode cX0_product 94 = .ok (.bipush 52, 2) := by decide +kernel
theorem dX0_product_96 : decode cX0_product 96 = .ok (.iload_n 0, 1) := by decide +kernel
theorem dX0_product_97 : decode cX0_product 97 = .ok (.lload_n 3, 1) := by decide +kernel
theorem dX0_product_98 : decode cX0_product 98 = .ok (.invokestatic 68, 3) := by decide +kernel
theorem dX0_product_101 : decode cX0_product 101 = .ok (.invokestatic 77, 3) := by decide +kernel
theorem dX0_product_104 : decode cX0_product 104 = .ok (.istore 7, 2) := by decide +kernel
theorem dX0_product_106 : decode cX0_product 106 = .ok (.iload_n 0, 1) := by decide +kernel
theorem dX0_product_107 : decode cX0_product 107 = .ok (.lload_n 1, 1) := by decide +kernel
theorem dX0_product_108 : decode cX0_product 108 = .ok (.invokestatic 68, 3) := by decide +kernel
theorem dX0_product_111 : decode cX0_product 111 = .ok (.iload 6, 2) := by decide +kernel
theorem dX0_product_113 : decode cX0_product 113 = .ok (.lshl, 1) := by decide +kernel
theorem dX0_product_114 : decode cX0_product 114 = .ok (.iload_n 0, 1) := by decide +kernel
theorem dX0_product_115 : decode cX0_product 115 = .ok (.lload_n 3, 1) := by decide +kernel
theorem dX0_product_116 : decode cX0_product 116 = .ok (.invokestatic 68, 3) := by decide +kernel
theorem dX0_product_119 : decode cX0_product 119 = .ok (.iload 7, 2) := by decide +kernel
theorem dX0_product_121 : decode cX0_product 121 = .ok (.lshl, 1) := by decide +kernel
theorem dX0_product_122 : decode cX0_product 122 = .ok (.invokestatic 100, 3) := by decide +kernel
theorem dX0_product_125 : decode cX0_product 125 = .ok (.lstore 8, 2) := by decide +kernel
theorem dX0_product_127 : decode cX0_product 127 = .ok (.iload_n 0, 1) := by decide +kernel
theorem dX0_product_128 : decode cX0_product 128 = .ok (.lload_n 1, 1) := by decide +kernel
theorem dX0_product_129 : decode cX0_product 129 = .ok (.invokestatic 71, 3) := by decide +kernel
theorem dX0_product_132 : decode cX0_product 132 = .ok (.iload 6, 2) := by decide +kernel
theorem dX0_product_134 : decode cX0_product 134 = .ok (.isub, 1) := by decide +kernel
theorem dX0_product_135 : decode cX0_product 135 = .ok (.iload_n 0, 1) := by decide +kernel
theorem dX0_product_136 : decode cX0_product 136 = .ok (.lload_n 3, 1) := by decide +kernel
theorem dX0_product_137 : decode cX0_product 137 = .ok (.invokestatic 71, 3) := by decide +kernel
theorem dX0_product_140 : decode cX0_product 140 = .ok (.iadd, 1) := by decide +kernel
theorem dX0_product_141 : decode cX0_product 141 = .ok (.iload 7, 2) := by decide +kernel
theorem dX0_product_143 : decode cX0_product 143 = .ok (.isub, 1) := by decide +kernel
theorem dX0_product_144 : decode cX0_product 144 = .ok (.istore 10, 2) := by decide +kernel
theorem dX0_product_146 : decode cX0_product 146 = .ok (.iload_n 0, 1) := by decide +kernel
theorem dX0_product_147 : decode cX0_product 147 = .ok (.iload 5, 2) := by decide +kernel
theorem dX0_product_149 : decode cX0_product 149 = .ok (.lload 8, 2) := by decide +kernel
theorem dX0_product_151 : decode cX0_product 151 = .ok (.iload 10, 2) := by decide +kernel
theorem dX0_product_153 : decode cX0_product 153 = .ok (.bipush 54, 2) := by decide +kernel
theorem dX0_product_155 : decode cX0_product 155 = .ok (.iadd, 1) := by decide +kernel
theorem dX0_product_156 : decode cX0_product 156 = .ok (.bipush 10, 2) := by decide +kernel
theorem dX0_product_158 : decode cX0_product 158 = .ok (.isub, 1) := by decide +kernel
theorem dX0_product_159 : decode cX0_product 159 = .ok (.invokestatic 53, 3) := by decide +kernel
theorem dX0_product_162 : decode cX0_product 162 = .ok (.lreturn, 1) := by decide +kernel
set_option maxRecDepth 20000 in
theorem ggX0_topOfProduct_X0_movedDown : GoodIn wsX0_topOfProduct wsX0_movedDown := goodIn_r _ [5] (by decide +kernel) (by decide +kernel)
set_option maxRecDepth 20000 in
theorem gX0_topOfProduct_X0_movedDown : GoodIn wsX0_topOfProduct (va_wsS RX0 97 yX0_movedDown wsX0_movedDown) := goodIn_app (goodIn_of _ (by decide +kernel)) ggX0_topOfProduct_X0_movedDown
theorem dX0_topOfProduct_0 : decode cX0_topOfProduct 0 = .ok (.ldc2_w 104, 3) := by decide +kernel
theorem dX0_topOfProduct_3 : decode cX0_topOfProduct 3 = .ok (.lstore 4, 2) := by decide +kernel
theorem dX0_topOfProduct_5 : decode cX0_topOfProduct 5 = .ok (.lload_n 0, 1) := by decide +kernel
theorem dX0_topOfProduct_6 : decode cX0_topOfProduct 6 = .ok (.bipush 27, 2) := by decide +kernel
theorem dX0_topOfProduct_8 : decode cX0_topOfProduct 8 = .ok (.lushr, 1) := by decide +kernel
theorem dX0_topOfProduct_9 : decode cX0_topOfProduct 9 = .ok (.lstore 6, 2) := by decide +kernel
theorem dX0_topOfProduct_11 : decode cX0_topOfProduct 11 = .ok (.lload_n 0, 1) := by decide +kernel
theorem dX0_topOfProduct_12 : decode cX0_topOfProduct 12 = .ok (.lload 4, 2) := by decide +kernel
theorem dX0_topOfProduct_14 : decode cX0_topOfProduct 14 = .ok (.land, 1) := by decide +kernel
theorem dX0_topOfProduct_15 : decode cX0_topOfProduct 15 = .ok (.lstore 8, 2) := by decide +kernel
theorem dX0_topOfProduct_17 : decode cX0_topOfProduct 17 = .ok (.lload_n 2, 1) := by decide +kernel
theorem dX0_topOfProduct_18 : decode cX0_topOfProduct 18 = .ok (.bipush 27, 2) := by decide +kernel
theorem dX0_topOfProduct_20 : decode cX0_topOfProduct 20 = .ok (.lushr, 1) := by decide +kernel
theorem dX0_topOfProduct_21 : decode cX0_topOfProduct 21 = .ok (.lstore 10, 2) := by decide +kernel
theorem dX0_topOfProduct_23 : decode cX0_topOfProduct 23 = .ok (.lload_n 2, 1) := by decide +kernel
theorem dX0_topOfProduct_24 : decode cX0_topOfProduct 24 = .ok (.lload 4, 2) := by decide +kernel
theorem dX0_topOfProduct_26 : decode cX0_topOfProduct 26 = .ok (.land, 1) := by decide +kernel
theorem dX0_topOfProduct_27 : decode cX0_topOfProduct 27 = .ok (.lstore 12, 2) := by decide +kernel
theorem dX0_topOfProduct_29 : decode cX0_topOfProduct 29 = .ok (.lload 8, 2) := by decide +kernel
theorem dX0_topOfProduct_31 : decode cX0_topOfProduct 31 = .ok (.lload 12, 2) := by decide +kernel
theorem dX0_topOfProduct_33 : decode cX0_topOfProduct 33 = .ok (.lmul, 1) := by decide +kernel
theorem dX0_topOfProduct_34 : decode cX0_topOfProduct 34 = .ok (.lstore 14, 2) := by decide +kernel
theorem dX0_topOfProduct_36 : decode cX0_topOfProduct 36 = .ok (.lload 6, 2) := by decide +kernel
theorem dX0_topOfProduct_38 : decode cX0_topOfProduct 38 = .ok (.lload 12, 2) := by decide +kernel
theorem dX0_topOfProduct_40 : decode cX0_topOfProduct 40 = .ok (.lmul, 1) := by decide +kernel
theorem dX0_topOfProduct_41 : decode cX0_topOfProduct 41 = .ok (.lload 8, 2) := by decide +kernel
theorem dX0_topOfProduct_43 : decode cX0_topOfProduct 43 = .ok (.lload 10, 2) := by decide +kernel
theorem dX0_topOfProduct_45 : decode cX0_topOfProduct 45 = .ok (.lmul, 1) := by decide +kernel
theorem dX0_topOfProduct_46 : decode cX0_topOfProduct 46 = .ok (.ladd, 1) := by decide +kernel
theorem dX0_topOfProduct_47 : decode cX0_topOfProduct 47 = .ok (.lload 14, 2) := by decide +kernel
theorem dX0_topOfProduct_49 : decode cX0_topOfProduct 49 = .ok (.bipush 27, 2) := by decide +kernel
theorem dX0_topOfProduct_51 : decode cX0_topOfProduct 51 = .ok (.lushr, 1) := by decide +kernel
theorem dX0_topOfProduct_52 : decode cX0_topOfProduct 52 = .ok (.ladd, 1) := by decide +kernel
theorem dX0_topOfProduct_53 : decode cX0_topOfProduct 53 = .ok (.lstore 16, 2) := by decide +kernel
theorem dX0_topOfProduct_55 : decode cX0_topOfProduct 55 = .ok (.lload 6, 2) := by decide +kernel
theorem dX0_topOfProduct_57 : decode cX0_topOfProduct 57 = .ok (.lload 10, 2) := by decide +kernel
theorem dX0_topOfProduct_59 : decode cX0_topOfProduct 59 = .ok (.lmul, 1) := by decide +kernel
theorem dX0_topOfProduct_60 : decode cX0_topOfProduct 60 = .ok (.lload 16, 2) := by decide +kernel
theorem dX0_topOfProduct_62 : decode cX0_topOfProduct 62 = .ok (.bipush 27, 2) := by decide +kernel
theorem dX0_topOfProduct_64 : decode cX0_topOfProduct 64 = .ok (.lushr, 1) := by decide +kernel
theorem dX0_topOfProduct_65 : decode cX0_topOfProduct 65 = .ok (.ladd, 1) := by decide +kernel
theorem dX0_topOfProduct_66 : decode cX0_topOfProduct 66 = .ok (.lstore 18, 2) := by decide +kernel
theorem dX0_topOfProduct_68 : decode cX0_topOfProduct 68 = .ok (.lload 16, 2) := by decide +kernel
theorem dX0_topOfProduct_70 : decode cX0_topOfProduct 70 = .ok (.lload 4, 2) := by decide +kernel
theorem dX0_topOfProduct_72 : decode cX0_topOfProduct 72 = .ok (.land, 1) := by decide +kernel
theorem dX0_topOfProduct_73 : decode cX0_topOfProduct 73 = .ok (.bipush 27, 2) := by decide +kernel
theorem dX0_topOfProduct_75 : decode cX0_topOfProduct 75 = .ok (.lshl, 1) := by decide +kernel
theorem dX0_topOfProduct_76 : decode cX0_topOfProduct 76 = .ok (.lload 14, 2) := by decide +kernel
theorem dX0_topOfProduct_78 : decode cX0_topOfProduct 78 = .ok (.lload 4, 2) := by decide +kernel
theorem dX0_topOfProduct_80 : decode cX0_topOfProduct 80 = .ok (.land, 1) := by decide +kernel
theorem dX0_topOfProduct_81 : decode cX0_topOfProduct 81 = .ok (.lor, 1) := by decide +kernel
theorem dX0_topOfProduct_82 : decode cX0_topOfProduct 82 = .ok (.lstore 20, 2) := by decide +kernel
theorem dX0_topOfProduct_84 : decode cX0_topOfProduct 84 = .ok (.lload 18, 2) := by decide +kernel
theorem dX0_topOfProduct_86 : decode cX0_topOfProduct 86 = .ok (.bipush 10, 2) := by decide +kernel
theorem dX0_topOfProduct_88 : decode cX0_topOfProduct 88 = .ok (.lshl, 1) := by decide +kernel
theorem dX0_topOfProduct_89 : decode cX0_topOfProduct 89 = .ok (.lload 20, 2) := by decide +kernel
theorem dX0_topOfProduct_91 : decode cX0_topOfProduct 91 = .ok (.bipush 44, 2) := by decide +kernel
theorem dX0_topOfProduct_93 : decode cX0_topOfProduct 93 = .ok (.invokestatic 97, 3) := by decide +kernel
theorem dX0_topOfProduct_96 : decode cX0_topOfProduct 96 = .ok (.lor, 1) := by decide +kernel
theorem dX0_topOfProduct_97 : decode cX0_topOfProduct 97 = .ok (.lreturn, 1) := by decide +kernel
set_option maxRecDepth 20000 in
theorem ggX0_quotient_X0_isInfinite : GoodIn wsX0_quotient wsX0_isInfinite := goodIn_r _ [4, 5, 6, 3, 7, 8, 9, 10, 11, 12, 13, 14, 15, 16, 17, 18] (by decide +kernel) (by decide +kernel)
set_option maxRecDepth 20000 in
theorem gX0_quotient_X0_isInfinite : GoodIn wsX0_quotient (va_wsS RX0 61 yX0_isInfinite wsX0_isInfinite) := goodIn_app (goodIn_of _ (by decide +kernel)) ggX0_quotient_X0_isInfinite
set_option maxRecDepth 20000 in
theorem ggX0_quotient_X0_isZero : GoodIn wsX0_quotient wsX0_isZero := goodIn_r _ [21, 5, 6, 3, 7, 8, 9, 10, 11, 12, 13] (by decide +kernel) (by decide +kernel)
set_option maxRecDepth 20000 in
theorem gX0_quotient_X0_isZero : GoodIn wsX0_quotient (va_wsS RX0 90 yX0_isZero wsX0_isZero) := goodIn_app (goodIn_of _ (by decide +kernel)) ggX0_quotient_X0_isZero
set_option maxRecDepth 20000 in
theorem ggX0_quotient_X0_notANumber : GoodIn wsX0_quotient wsX0_notANumber := goodIn_r _ [24, 14, 15, 3, 16, 17, 18] (by decide +kernel) (by decide +kernel)
set_option maxRecDepth 20000 in
theorem gX0_quotient_X0_notANumber : GoodIn wsX0_quotient (va_wsS RX0 87 yX0_notANumber wsX0_notANumber) := goodIn_app (goodIn_of _ (by decide +kernel)) ggX0_quotient_X0_notANumber
set_option maxRecDepth 20000 in
theorem ggX0_quotient_X0_isNegative : GoodIn wsX0_quotient wsX0_isNegative := goodIn_r _ [27, 9, 10, 3, 11, 12, 13] (by decide +kernel) (by decide +kernel)
set_option maxRecDepth 20000 in
theorem gX0_quotient_X0_isNegative : GoodIn wsX0_quotient (va_wsS RX0 34 yX0_isNegative wsX0_isNegative) := goodIn_app (goodIn_of _ (by decide +kernel)) ggX0_quotient_X0_isNegative
set_option maxRecDepth 20000 in
theorem ggX0_quotient_X0_infinity : GoodIn wsX0_quotient wsX0_infinity := goodIn_r _ [16, 17, 18] (by decide +kernel) (by decide +kernel)
set_option maxRecDepth 20000 in
theorem gX0_quotient_X0_infinity : GoodIn wsX0_quotient (va_wsS RX0 13 yX0_infinity wsX0_infinity) := goodIn_app (goodIn_of _ (by decide +kernel)) ggX0_quotient_X0_infinity
set_option maxRecDepth 20000 in
theorem ggX0_quotient_X0_signed : GoodIn wsX0_quotient wsX0_signed := goodIn_r _ [30, 9, 10, 3, 11, 12, 13] (by decide +kernel) (by decide +kernel)
set_option maxRecDepth 20000 in
theorem gX0_quotient_X0_signed : GoodIn wsX0_quotient (va_wsS RX0 64 yX0_signed wsX0_signed) := goodIn_app (goodIn_of _ (by decide +kernel)) ggX0_quotient_X0_signed
set_option maxRecDepth 20000 in
theorem ggX0_quotient_X0_magnitude : GoodIn wsX0_quotient wsX0_magnitude := goodIn_r _ [33, 34, 35, 3, 36, 5, 6, 7, 8, 9, 10, 11, 12, 13] (by decide +kernel) (by decide +kernel)
set_option maxRecDepth 20000 in
theorem gX0_quotient_X0_magnitude : GoodIn wsX0_quotient (va_wsS RX0 68 yX0_magnitude wsX0_magnitude) := goodIn_app (goodIn_of _ (by decide +kernel)) ggX0_quotient_X0_magnitude
set_option maxRecDepth 20000 in
theorem ggX0_quotient_X0_roomBelow : GoodIn wsX0_quotient wsX0_roomBelow := goodIn_r _ [39] (by decide +kernel) (by decide +kernel)
set_option maxRecDepth 20000 in
theorem gX0_quotient_X0_roomBelow : GoodIn wsX0_quotient (va_wsS RX0 77 yX0_roomBelow wsX0_roomBelow) := goodIn_app (goodIn_of _ (by decide +kernel)) ggX0_quotient_X0_roomBelow
set_option maxRecDepth 20000 in
theorem ggX0_quotient_X0_topOfQuotient : GoodIn wsX0_quotient wsX0_topOfQuotient := goodIn_r _ [42] (by decide +kernel) (by decide +kernel)
set_option maxRecDepth 20000 in
theorem gX0_quotient_X0_topOfQuotient : GoodIn wsX0_quotient (va_wsS RX0 106 yX0_topOfQuotient wsX0_topOfQuotient) := goodIn_app (goodIn_of _ (by decide +kernel)) ggX0_quotient_X0_topOfQuotient
set_option maxRecDepth 20000 in
theorem ggX0_quotient_X0_exponent : GoodIn wsX0_quotient wsX0_exponent := goodIn_r _ [45, 46, 47, 48, 49, 5, 6, 3, 7, 8, 9, 10, 11, 12, 13, 34, 35, 36, 50, 51, 52] (by decide +kernel) (by decide +kernel)
set_option maxRecDepth 20000 in
theorem gX0_quotient_X0_exponent : GoodIn wsX0_quotient (va_wsS RX0 71 yX0_exponent wsX0_exponent) := goodIn_app (goodIn_of _ (by decide +kernel)) ggX0_quotient_X0_exponent
set_option maxRecDepth 20000 in
theorem ggX0_quotient_X0_nearest : GoodIn wsX0_quotient wsX0_nearest := goodIn_r _ [55, 28, 29, 3, 30, 9, 10, 11, 12, 13, 37, 38, 39, 34, 35, 36, 50, 51, 52, 56, 57, 58, 14, 15, 16, 17, 18, 59, 60, 61] (by decide +kernel) (by decide +kernel)
set_option maxRecDepth 20000 in
theorem gX0_quotient_X0_nearest : GoodIn wsX0_quotient (va_wsS RX0 53 yX0_nearest wsX0_nearest) := goodIn_app (goodIn_of _ (by decide +kernel)) ggX0_quotient_X0_nearest
theorem dX0_quotient_0 : decode cX0_quotient 0 = .ok (.iload_n 0, 1) := by decide +kernel
theorem dX0_quotient_1 : decode cX0_quotient 1 = .ok (.lload_n 1, 1) := by decide +kernel
theorem dX0_quotient_2 : decode cX0_quotient 2 = .ok (.invokestatic 61, 3) := by decide +kernel
theorem dX0_quotient_5 : decode cX0_quotient 5 = .ok (.ifCond .eq 15, 3) := by decide +kernel
theorem dX0_quotient_8 : decode cX0_quotient 8 = .ok (.iload_n 0, 1) := by decide +kernel
theorem dX0_quotient_9 : decode cX0_quotient 9 = .ok (.lload_n 3, 1) := by decide +kernel
theorem dX0_quotient_10 : decode cX0_quotient 10 = .ok (.invokestatic 61, 3) := by decide +kernel
theorem dX0_quotient_13 : decode cX0_quotient 13 = .ok (.ifCond .eq 7, 3) := by decide +kernel
theorem dX0_quotient_16 : decode cX0_quotient 16 = .ok (.iconst 1, 1) := by decide +kernel
theorem dX0_quotient_17 : decode cX0_quotient 17 = .ok (.goto 4, 3) := by decide +kernel
theorem dX0_quotient_20 : decode cX0_quotient 20 = .ok (.iconst 0, 1) := by decide +kernel
theorem dX0_quotient_21 : decode cX0_quotient 21 = .ok (.istore 5, 2) := by decide +kernel
theorem dX0_quotient_23 : decode cX0_quotient 23 = .ok (.iload 5, 2) := by decide +kernel
theorem dX0_quotient_25 : decode cX0_quotient 25 = .ok (.ifCond .ne 19, 3) := by decide +kernel
theorem dX0_quotient_28 : decode cX0_quotient 28 = .ok (.iload_n 0, 1) := by decide +kernel
theorem dX0_quotient_29 : decode cX0_quotient 29 = .ok (.lload_n 1, 1) := by decide +kernel
theorem dX0_quotient_30 : decode cX0_quotient 30 = .ok (.invokestatic 90, 3) := by decide +kernel
theorem dX0_quotient_33 : decode cX0_quotient 33 = .ok (.ifCond .eq 16, 3) := by decide +kernel
theorem dX0_quotient_36 : decode cX0_quotient 36 = .ok (.iload_n 0, 1) := by decide +kernel
theorem dX0_quotient_37 : decode cX0_quotient 37 = .ok (.lload_n 3, 1) := by decide +kernel
theorem dX0_quotient_38 : decode cX0_quotient 38 = .ok (.invokestatic 90, 3) := by decide +kernel
theorem dX0_quotient_41 : decode cX0_quotient 41 = .ok (.ifCond .eq 8, 3) := by decide +kernel
theorem dX0_quotient_44 : decode cX0_quotient 44 = .ok (.iload_n 0, 1) := by decide +kernel
theorem dX0_quotient_45 : decode cX0_quotient 45 = .ok (.invokestatic 87, 3) := by decide +kernel
theorem dX0_quotient_48 : decode cX0_quotient 48 = .ok (.lreturn, 1) := by decide +kernel
theorem dX0_quotient_49 : decode cX0_quotient 49 = .ok (.iload_n 0, 1) := by decide +kernel
theorem dX0_quotient_50 : decode cX0_quotient 50 = .ok (.lload_n 1, 1) := by decide +kernel
theorem dX0_quotient_51 : decode cX0_quotient 51 = .ok (.invokestatic 34, 3) := by decide +kernel
theorem dX0_quotient_54 : decode cX0_quotient 54 = .ok (.iload_n 0, 1) := by decide +kernel
theorem dX0_quotient_55 : decode cX0_quotient 55 = .ok (.lload_n 3, 1) := by decide +kernel
theorem dX0_quotient_56 : decode cX0_quotient 56 = .ok (.invokestatic 34, 3) := by decide +kernel
theorem dX0_quotient_59 : decode cX0_quotient 59 = .ok (.if_icmp .eq 7, 3) := by decide +kernel
theorem dX0_quotient_62 : decode cX0_quotient 62 = .ok (.iconst 1, 1) := by decide +kernel
theorem dX0_quotient_63 : decode cX0_quotient 63 = .ok (.goto 4, 3) := by decide +kernel
theorem dX0_quotient_66 : decode cX0_quotient 66 = .ok (.iconst 0, 1) := by decide +kernel
theorem dX0_quotient_67 : decode cX0_quotient 67 = .ok (.istore 6, 2) := by decide +kernel
theorem dX0_quotient_69 : decode cX0_quotient 69 = .ok (.iload_n 0, 1) := by decide +kernel
theorem dX0_quotient_70 : decode cX0_quotient 70 = .ok (.lload_n 1, 1) := by decide +kernel
theorem dX0_quotient_71 : decode cX0_quotient 71 = .ok (.invokestatic 61, 3) := by decide +kernel
theorem dX0_quotient_74 : decode cX0_quotient 74 = .ok (.ifCond .ne 11, 3) := by decide +kernel
theorem dX0_quotient_77 : decode cX0_quotient 77 = .ok (.iload_n 0, 1) := by decide +kernel
theorem dX0_quotient_78 : decode cX0_quotient 78 = .ok (.lload_n 3, 1) := by decide +kernel
theorem dX0_quotient_79 : decode cX0_quotient 79 = .ok (.invokestatic 90, 3) := by decide +kernel
theorem dX0_quotient_82 : decode cX0_quotient 82 = .ok (.ifCond .eq 14, 3) := by decide +kernel
theorem dX0_quotient_85 : decode cX0_quotient 85 = .ok (.iload_n 0, 1) := by decide +kernel
theorem dX0_quotient_86 : decode cX0_quotient 86 = .ok (.iload 6, 2) := by decide +kernel
theorem dX0_quotient_88 : decode cX0_quotient 88 = .ok (.iload_n 0, 1) := by decide +kernel
theorem dX0_quotient_89 : decode cX0_quotient 89 = .ok (.invokestatic 13, 3) := by decide +kernel
theorem dX0_quotient_92 : decode cX0_quotient 92 = .ok (.invokestatic 64, 3) := by decide +kernel
theorem dX0_quotient_95 : decode cX0_quotient 95 = .ok (.lreturn, 1) := by decide +kernel
theorem dX0_quotient_96 : decode cX0_quotient 96 = .ok (.iload_n 0, 1) := by decide +kernel
theorem dX0_quotient_97 : decode cX0_quotient 97 = .ok (.lload_n 3, 1) := by decide +kernel
theorem dX0_quotient_98 : decode cX0_quotient 98 = .ok (.invokestatic 61, 3) := by decide +kernel
theorem dX0_quotient_101 : decode cX0_quotient 101 = .ok (.ifCond .eq 11, 3) := by decide +kernel
theorem dX0_quotient_104 : decode cX0_quotient 104 = .ok (.iload_n 0, 1) := by decide +kernel
theorem dX0_quotient_105 : decode cX0_quotient 105 = .ok (.iload 6, 2) := by decide +kernel
theorem dX0_quotient_107 : decode cX0_quotient 107 = .ok (.lconst 0, 1) := by decide +kernel
theorem dX0_quotient_108 : decode cX0_quotient 108 = .ok (.invokestatic 64, 3) := by decide +kernel
theorem dX0_quotient_111 : decode cX0_quotient 111 = .ok (.lreturn, 1) := by decide +kernel
theorem dX0_quotient_112 : decode cX0_quotient 112 = .ok (.bipush 52, 2) := by decide +kernel
theorem dX0_quotient_114 : decode cX0_quotient 114 = .ok (.iload_n 0, 1) := by decide +kernel
theorem dX0_quotient_115 : decode cX0_quotient 115 = .ok (.lload_n 1, 1) := by decide +kernel
theorem dX0_quotient_116 : decode cX0_quotient 116 = .ok (.invokestatic 68, 3) := by decide +kernel
theorem dX0_quotient_119 : decode cX0_quotient 119 = .ok (.invokestatic 77, 3) := by decide +kernel
theorem dX0_quotient_122 : decode cX0_quotient 122 = .ok (.istore 7, 2) := by decide +kernel
theorem dX0_quotient_124 : decode cX0_quotient 124 = .ok (.bipush 52, 2) := by decide +kernel
theorem dX0_quotient_126 : decode cX0_quotient 126 = .ok (.iload_n 0, 1) := by decide +kernel
theorem dX0_quotient_127 : decode cX0_quotient 127 = .ok (.lload_n 3, 1) := by decide +kernel
theorem dX0_quotient_128 : decode cX0_quotient 128 = .ok (.invokestatic 68, 3) := by decide +kernel
theorem dX0_quotient_131 : decode cX0_quotient 131 = .ok (.invokestatic 77, 3) := by decide +kernel
theorem dX0_quotient_134 : decode cX0_quotient 134 = .ok (.istore 8, 2) := by decide +kernel
theorem dX0_quotient_136 : decode cX0_quotient 136 = .ok (.iload_n 0, 1) := by decide +kernel
theorem dX0_quotient_137 : decode cX0_quotient 137 = .ok (.lload_n 3, 1) := by decide +kernel
theorem dX0_quotient_138 : decode cX0_quotient 138 = .ok (.invokestatic 68, 3) := by decide +kernel
theorem dX0_quotient_141 : decode cX0_quotient 141 = .ok (.iload 8, 2) := by decide +kernel
theorem dX0_quotient_143 : decode cX0_quotient 143 = .ok (.lshl, 1) := by decide +kernel
theorem dX0_quotient_144 : decode cX0_quotient 144 = .ok (.lstore 9, 2) := by decide +kernel
theorem dX0_quotient_146 : decode cX0_quotient 146 = .ok (.iload_n 0, 1) := by decide +kernel
theorem dX0_quotient_147 : decode cX0_quotient 147 = .ok (.lload_n 1, 1) := by decide +kernel
theorem dX0_quotient_148 : decode cX0_quotient 148 = .ok (.invokestatic 68, 3) := by decide +kernel
theorem dX0_quotient_151 : decode cX0_quotient 151 = .ok (.iload 7, 2) := by decide +kernel
theorem dX0_quotient_153 : decode cX0_quotient 153 = .ok (.lshl, 1) := by decide +kernel
theorem dX0_quotient_154 : decode cX0_quotient 154 = .ok (.lload 9, 2) := by decide +kernel
theorem dX0_quotient_156 : decode cX0_quotient 156 = .ok (.invokestatic 106, 3) := by decide +kernel
theorem dX0_quotient_159 : decode cX0_quotient 159 = .ok (.lstore 11, 2) := by decide +kernel
theorem dX0_quotient_161 : decode cX0_quotient 161 = .ok (.iload_n 0, 1) := by decide +kernel
theorem dX0_quotient_162 : decode cX0_quotient 162 = .ok (.lload_n 1, 1) := by decide +kernel
theorem dX0_quotient_163 : decode cX0_quotient 163 = .ok (.invokestatic 71, 3) := by decide +kernel
theorem dX0_quotient_166 : decode cX0_quotient 166 = .ok (.iload 7, 2) := by decide +kernel
theorem dX0_quotient_168 : decode cX0_quotient 168 = .ok (.isub, 1) := by decide +kernel
theorem dX0_quotient_169 : decode cX0_quotient 169 = .ok (.iload_n 0, 1) := by decide +kernel
theorem dX0_quotient_170 : decode cX0_quotient 170 = .ok (.lload_n 3, 1) := by decide +kernel
theorem dX0_quotient_171 : decode cX0_quotient 171 = .ok (.invokestatic 71, 3) := by decide +kernel
theorem dX0_quotient_174 : decode cX0_quotient 174 = .ok (.isub, 1) := by decide +kernel
theorem dX0_quotient_175 : decode cX0_quotient 175 = .ok (.iload 8, 2) := by decide +kernel
theorem dX0_quotient_177 : decode cX0_quotient 177 = .ok (.iadd, 1) := by decide +kernel
theorem dX0_quotient_178 : decode cX0_quotient 178 = .ok (.istore 13, 2) := by decide +kernel
theorem dX0_quotient_180 : decode cX0_quotient 180 = .ok (.iload_n 0, 1) := by decide +kernel
theorem dX0_quotient_181 : decode cX0_quotient 181 = .ok (.iload 6, 2) := by decide +kernel
theorem dX0_quotient_183 : decode cX0_quotient 183 = .ok (.lload 11, 2) := by decide +kernel
theorem dX0_quotient_185 : decode cX0_quotient 185 = .ok (.iload 13, 2) := by decide +kernel
theorem dX0_quotient_187 : decode cX0_quotient 187 = .ok (.bipush 60, 2) := by decide +kernel
theorem dX0_quotient_189 : decode cX0_quotient 189 = .ok (.isub, 1) := by decide +kernel
theorem dX0_quotient_190 : decode cX0_quotient 190 = .ok (.invokestatic 53, 3) := by decide +kernel
theorem dX0_quotient_193 : decode cX0_quotient 193 = .ok (.lreturn, 1) := by decide +kernel
theorem dX0_topOfQuotient_0 : decode cX0_topOfQuotient 0 = .ok (.lload_n 2, 1) := by decide +kernel
theorem dX0_topOfQuotient_1 : decode cX0_topOfQuotient 1 = .ok (.lconst 0, 1) := by decide +kernel
theorem dX0_topOfQuotient_2 : decode cX0_topOfQuotient 2 = .ok (.lcmp, 1) := by decide +kernel
theorem dX0_topOfQuotient_3 : decode cX0_topOfQuotient 3 = .ok (.ifCond .ne 5, 3) := by decide +kernel
theorem dX0_topOfQuotient_6 : decode cX0_topOfQuotient 6 = .ok (.lconst 0, 1) := by decide +kernel
theorem dX0_topOfQuotient_7 : decode cX0_topOfQuotient 7 = .ok (.lreturn, 1) := by decide +kernel
theorem dX0_topOfQuotient_8 : decode cX0_topOfQuotient 8 = .ok (.lload_n 0, 1) := by decide +kernel
theorem dX0_topOfQuotient_9 : decode cX0_topOfQuotient 9 = .ok (.lload_n 2, 1) := by decide +kernel
theorem dX0_topOfQuotient_10 : decode cX0_topOfQuotient 10 = .ok (.ldiv, 1) := by decide +kernel
theorem dX0_topOfQuotient_11 : decode cX0_topOfQuotient 11 = .ok (.lstore 4, 2) := by decide +kernel
theorem dX0_topOfQuotient_13 : decode cX0_topOfQuotient 13 = .ok (.lload_n 0, 1) := by decide +kernel
theorem dX0_topOfQuotient_14 : decode cX0_topOfQuotient 14 = .ok (.lload_n 2, 1) := by decide +kernel
theorem dX0_topOfQuotient_15 : decode cX0_topOfQuotient 15 = .ok (.lrem, 1) := by decide +kernel
theorem dX0_topOfQuotient_16 : decode cX0_topOfQuotient 16 = .ok (.lstore 6, 2) := by decide +kernel
theorem dX0_topOfQuotient_18 : decode cX0_topOfQuotient 18 = .ok (.iconst 0, 1) := by decide +kernel
theorem dX0_topOfQuotient_19 : decode cX0_topOfQuotient 19 = .ok (.istore 8, 2) := by decide +kernel
theorem dX0_topOfQuotient_21 : decode cX0_topOfQuotient 21 = .ok (.iload 8, 2) := by decide +kernel
theorem dX0_topOfQuotient_23 : decode cX0_topOfQuotient 23 = .ok (.bipush 6, 2) := by decide +kernel
theorem dX0_topOfQuotient_25 : decode cX0_topOfQuotient 25 = .ok (.if_icmp .ge 34, 3) := by decide +kernel
theorem dX0_topOfQuotient_28 : decode cX0_topOfQuotient 28 = .ok (.lload 6, 2) := by decide +kernel
theorem dX0_topOfQuotient_30 : decode cX0_topOfQuotient 30 = .ok (.bipush 10, 2) := by decide +kernel
theorem dX0_topOfQuotient_32 : decode cX0_topOfQuotient 32 = .ok (.lshl, 1) := by decide +kernel
theorem dX0_topOfQuotient_33 : decode cX0_topOfQuotient 33 = .ok (.lstore 6, 2) := by decide +kernel
theorem dX0_topOfQuotient_35 : decode cX0_topOfQuotient 35 = .ok (.lload 4, 2) := by decide +kernel
theorem dX0_topOfQuotient_37 : decode cX0_topOfQuotient 37 = .ok (.bipush 10, 2) := by decide +kernel
theorem dX0_topOfQuotient_39 : decode cX0_topOfQuotient 39 = .ok (.lshl, 1) := by decide +kernel
theorem dX0_topOfQuotient_40 : decode cX0_topOfQuotient 40 = .ok (.lload 6, 2) := by decide +kernel
theorem dX0_topOfQuotient_42 : decode cX0_topOfQuotient 42 = .ok (.lload_n 2, 1) := by decide +kernel
theorem dX0_topOfQuotient_43 : decode cX0_topOfQuotient 43 = .ok (.ldiv, 1) := by decide +kernel
theorem dX0_topOfQuotient_44 : decode cX0_topOfQuotient 44 = .ok (.ladd, 1) := by decide +kernel
theorem dX0_topOfQuotient_45 : decode cX0_topOfQuotient 45 = .ok (.lstore 4, 2) := by decide +kernel
theorem dX0_topOfQuotient_47 : decode cX0_topOfQuotient 47 = .ok (.lload 6, 2) := by decide +kernel
theorem dX0_topOfQuotient_49 : decode cX0_topOfQuotient 49 = .ok (.lload_n 2, 1) := by decide +kernel
theorem dX0_topOfQuotient_50 : decode cX0_topOfQuotient 50 = .ok (.lrem, 1) := by decide +kernel
theorem dX0_topOfQuotient_51 : decode cX0_topOfQuotient 51 = .ok (.lstore 6, 2) := by decide +kernel
theorem dX0_topOfQuotient_53 : decode cX0_topOfQuotient 53 = .ok (.iinc 8 1, 3) := by decide +kernel
theorem dX0_topOfQuotient_56 : decode cX0_topOfQuotient 56 = .ok (.goto (-35), 3) := by decide +kernel
theorem dX0_topOfQuotient_59 : decode cX0_topOfQuotient 59 = .ok (.lload 6, 2) := by decide +kernel
theorem dX0_topOfQuotient_61 : decode cX0_topOfQuotient 61 = .ok (.lconst 0, 1) := by decide +kernel
theorem dX0_topOfQuotient_62 : decode cX0_topOfQuotient 62 = .ok (.lcmp, 1) := by decide +kernel
theorem dX0_topOfQuotient_63 : decode cX0_topOfQuotient 63 = .ok (.ifCond .ne 8, 3) := by decide +kernel
theorem dX0_topOfQuotient_66 : decode cX0_topOfQuotient 66 = .ok (.lload 4, 2) := by decide +kernel
theorem dX0_topOfQuotient_68 : decode cX0_topOfQuotient 68 = .ok (.goto 7, 3) := by decide +kernel
theorem dX0_topOfQuotient_71 : decode cX0_topOfQuotient 71 = .ok (.lload 4, 2) := by decide +kernel
theorem dX0_topOfQuotient_73 : decode cX0_topOfQuotient 73 = .ok (.lconst 1, 1) := by decide +kernel
theorem dX0_topOfQuotient_74 : decode cX0_topOfQuotient 74 = .ok (.lor, 1) := by decide +kernel
theorem dX0_topOfQuotient_75 : decode cX0_topOfQuotient 75 = .ok (.lreturn, 1) := by decide +kernel
set_option maxRecDepth 20000 in
theorem ggX0_rest_X0_isInfinite : GoodIn wsX0_rest wsX0_isInfinite := goodIn_r _ [4, 5, 6, 3, 7, 8, 9, 10, 11, 12, 13, 14, 15, 16, 17, 18] (by decide +kernel) (by decide +kernel)
set_option maxRecDepth 20000 in
theorem gX0_rest_X0_isInfinite : GoodIn wsX0_rest (va_wsS RX0 61 yX0_isInfinite wsX0_isInfinite) := goodIn_app (goodIn_of _ (by decide +kernel)) ggX0_rest_X0_isInfinite
set_option maxRecDepth 20000 in
theorem ggX0_rest_X0_isZero : GoodIn wsX0_rest wsX0_isZero := goodIn_r _ [21, 5, 6, 3, 7, 8, 9, 10, 11, 12, 13] (by decide +kernel) (by decide +kernel)
set_option maxRecDepth 20000 in
theorem gX0_rest_X0_isZero : GoodIn wsX0_rest (va_wsS RX0 90 yX0_isZero wsX0_isZero) := goodIn_app (goodIn_of _ (by decide +kernel)) ggX0_rest_X0_isZero
set_option maxRecDepth 20000 in
theorem ggX0_rest_X0_notANumber : GoodIn wsX0_rest wsX0_notANumber := goodIn_r _ [24, 14, 15, 3, 16, 17, 18] (by decide +kernel) (by decide +kernel)
set_option maxRecDepth 20000 in
theorem gX0_rest_X0_notANumber : GoodIn wsX0_rest (va_wsS RX0 87 yX0_notANumber wsX0_notANumber) := goodIn_app (goodIn_of _ (by decide +kernel)) ggX0_rest_X0_notANumber
set_option maxRecDepth 20000 in
theorem ggX0_rest_X0_size : GoodIn wsX0_rest wsX0_size := goodIn_r _ [7, 8, 9, 10, 3, 11, 12, 13] (by decide +kernel) (by decide +kernel)
set_option maxRecDepth 20000 in
theorem gX0_rest_X0_size : GoodIn wsX0_rest (va_wsS RX0 30 yX0_size wsX0_size) := goodIn_app (goodIn_of _ (by decide +kernel)) ggX0_rest_X0_size
set_option maxRecDepth 20000 in
theorem ggX0_rest_X0_magnitude : GoodIn wsX0_rest wsX0_magnitude := goodIn_r _ [27, 28, 29, 3, 30, 5, 6, 7, 8, 9, 10, 11, 12, 13] (by decide +kernel) (by decide +kernel)
set_option maxRecDepth 20000 in
theorem gX0_rest_X0_magnitude : GoodIn wsX0_rest (va_wsS RX0 68 yX0_magnitude wsX0_magnitude) := goodIn_app (goodIn_of _ (by decide +kernel)) ggX0_rest_X0_magnitude
set_option maxRecDepth 20000 in
theorem ggX0_rest_X0_roomBelow : GoodIn wsX0_rest wsX0_roomBelow := goodIn_r _ [33] (by decide +kernel) (by decide +kernel)
set_option maxRecDepth 20000 in
theorem gX0_rest_X0_roomBelow : GoodIn wsX0_rest (va_wsS RX0 77 yX0_roomBelow wsX0_roomBelow) := goodIn_app (goodIn_of _ (by decide +kernel)) ggX0_rest_X0_roomBelow
set_option maxRecDepth 20000 in
theorem ggX0_rest_X0_exponent : GoodIn wsX0_rest wsX0_exponent := goodIn_r _ [36, 37, 38, 39, 40, 5, 6, 3, 7, 8, 9, 10, 11, 12, 13, 28, 29, 30, 41, 42, 43] (by decide +kernel) (by decide +kernel)
set_option maxRecDepth 20000 in
theorem gX0_rest_X0_exponent : GoodIn wsX0_rest (va_wsS RX0 71 yX0_exponent wsX0_exponent) := goodIn_app (goodIn_of _ (by decide +kernel)) ggX0_rest_X0_exponent
set_option maxRecDepth 20000 in
theorem ggX0_rest_X0_restAbove : GoodIn wsX0_rest wsX0_restAbove := goodIn_r _ [46, 47, 48, 39, 49] (by decide +kernel) (by decide +kernel)
set_option maxRecDepth 20000 in
theorem gX0_rest_X0_restAbove : GoodIn wsX0_rest (va_wsS RX0 109 yX0_restAbove wsX0_restAbove) := goodIn_app (goodIn_of _ (by decide +kernel)) ggX0_rest_X0_restAbove
set_option maxRecDepth 20000 in
theorem ggX0_rest_X0_isNegative : GoodIn wsX0_rest wsX0_isNegative := goodIn_r _ [52, 9, 10, 3, 11, 12, 13] (by decide +kernel) (by decide +kernel)
set_option maxRecDepth 20000 in
theorem gX0_rest_X0_isNegative : GoodIn wsX0_rest (va_wsS RX0 34 yX0_isNegative wsX0_isNegative) := goodIn_app (goodIn_of _ (by decide +kernel)) ggX0_rest_X0_isNegative
set_option maxRecDepth 20000 in
theorem ggX0_rest_X0_nearest : GoodIn wsX0_rest wsX0_nearest := goodIn_r _ [55, 56, 57, 3, 58, 9, 10, 11, 12, 13, 31, 32, 33, 28, 29, 30, 41, 42, 43, 59, 60, 61, 14, 15, 16, 17, 18, 62, 63, 64] (by decide +kernel) (by decide +kernel)
set_option maxRecDepth 20000 in
theorem gX0_rest_X0_nearest : GoodIn wsX0_rest (va_wsS RX0 53 yX0_nearest wsX0_nearest) := goodIn_app (goodIn_of _ (by decide +kernel)) ggX0_rest_X0_nearest
theorem dX0_rest_0 : decode cX0_rest 0 = .ok (.iload_n 0, 1) := by decide +kernel
theorem dX0_rest_1 : decode cX0_rest 1 = .ok (.lload_n 1, 1) := by decide +kernel
theorem dX0_rest_2 : decode cX0_rest 2 = .ok (.invokestatic 61, 3) := by decide +kernel
theorem dX0_rest_5 : decode cX0_rest 5 = .ok (.ifCond .ne 11, 3) := by decide +kernel
theorem dX0_rest_8 : decode cX0_rest 8 = .ok (.iload_n 0, 1) := by decide +kernel
theorem dX0_rest_9 : decode cX0_rest 9 = .ok (.lload_n 3, 1) := by decide +kernel
theorem dX0_rest_10 : decode cX0_rest 10 = .ok (.invokestatic 90, 3) := by decide +kernel
theorem dX0_rest_13 : decode cX0_rest 13 = .ok (.ifCond .eq 8, 3) := by decide +kernel
theorem dX0_rest_16 : decode cX0_rest 16 = .ok (.iload_n 0, 1) := by decide +kernel
theorem dX0_rest_17 : decode cX0_rest 17 = .ok (.invokestatic 87, 3) := by decide +kernel
theorem dX0_rest_20 : decode cX0_rest 20 = .ok (.lreturn, 1) := by decide +kernel
theorem dX0_rest_21 : decode cX0_rest 21 = .ok (.iload_n 0, 1) := by decide +kernel
theorem dX0_rest_22 : decode cX0_rest 22 = .ok (.lload_n 1, 1) := by decide +kernel
theorem dX0_rest_23 : decode cX0_rest 23 = .ok (.invokestatic 30, 3) := by decide +kernel
theorem dX0_rest_26 : decode cX0_rest 26 = .ok (.iload_n 0, 1) := by decide +kernel
theorem dX0_rest_27 : decode cX0_rest 27 = .ok (.lload_n 3, 1) := by decide +kernel
theorem dX0_rest_28 : decode cX0_rest 28 = .ok (.invokestatic 30, 3) := by decide +kernel
theorem dX0_rest_31 : decode cX0_rest 31 = .ok (.lcmp, 1) := by decide +kernel
theorem dX0_rest_32 : decode cX0_rest 32 = .ok (.ifCond .ge 5, 3) := by decide +kernel
theorem dX0_rest_35 : decode cX0_rest 35 = .ok (.lload_n 1, 1) := by decide +kernel
theorem dX0_rest_36 : decode cX0_rest 36 = .ok (.lreturn, 1) := by decide +kernel
theorem dX0_rest_37 : decode cX0_rest 37 = .ok (.bipush 52, 2) := by decide +kernel
theorem dX0_rest_39 : decode cX0_rest 39 = .ok (.iload_n 0, 1) := by decide +kernel
theorem dX0_rest_40 : decode cX0_rest 40 = .ok (.lload_n 1, 1) := by decide +kernel
theorem dX0_rest_41 : decode cX0_rest 41 = .ok (.invokestatic 68, 3) := by decide +kernel
theorem dX0_rest_44 : decode cX0_rest 44 = .ok (.invokestatic 77, 3) := by decide +kernel
theorem dX0_rest_47 : decode cX0_rest 47 = .ok (.istore 5, 2) := by decide +kernel
theorem dX0_rest_49 : decode cX0_rest 49 = .ok (.bipush 52, 2) := by decide +kernel
theorem dX0_rest_51 : decode cX0_rest 51 = .ok (.iload_n 0, 1) := by decide +kernel
theorem dX0_rest_52 : decode cX0_rest 52 = .ok (.lload_n 3, 1) := by decide +kernel
theorem dX0_rest_53 : decode cX0_rest 53 = .ok (.invokestatic 68, 3) := by decide +kernel
theorem dX0_rest_56 : decode cX0_rest 56 = .ok (.invokestatic 77, 3) := by decide +kernel
theorem dX0_rest_59 : decode cX0_rest 59 = .ok (.istore 6, 2) := by decide +kernel
theorem dX0_rest_61 : decode cX0_rest 61 = .ok (.iload_n 0, 1) := by decide +kernel
theorem dX0_rest_62 : decode cX0_rest 62 = .ok (.lload_n 3, 1) := by decide +kernel
theorem dX0_rest_63 : decode cX0_rest 63 = .ok (.invokestatic 71, 3) := by decide +kernel
theorem dX0_rest_66 : decode cX0_rest 66 = .ok (.iload 6, 2) := by decide +kernel
theorem dX0_rest_68 : decode cX0_rest 68 = .ok (.isub, 1) := by decide +kernel
theorem dX0_rest_69 : decode cX0_rest 69 = .ok (.istore 7, 2) := by decide +kernel
theorem dX0_rest_71 : decode cX0_rest 71 = .ok (.iload_n 0, 1) := by decide +kernel
theorem dX0_rest_72 : decode cX0_rest 72 = .ok (.lload_n 1, 1) := by decide +kernel
theorem dX0_rest_73 : decode cX0_rest 73 = .ok (.invokestatic 71, 3) := by decide +kernel
theorem dX0_rest_76 : decode cX0_rest 76 = .ok (.iload 5, 2) := by decide +kernel
theorem dX0_rest_78 : decode cX0_rest 78 = .ok (.isub, 1) := by decide +kernel
theorem dX0_rest_79 : decode cX0_rest 79 = .ok (.iload 7, 2) := by decide +kernel
theorem dX0_rest_81 : decode cX0_rest 81 = .ok (.isub, 1) := by decide +kernel
theorem dX0_rest_82 : decode cX0_rest 82 = .ok (.istore 8, 2) := by decide +kernel
theorem dX0_rest_84 : decode cX0_rest 84 = .ok (.iload_n 0, 1) := by decide +kernel
theorem dX0_rest_85 : decode cX0_rest 85 = .ok (.lload_n 1, 1) := by decide +kernel
theorem dX0_rest_86 : decode cX0_rest 86 = .ok (.invokestatic 68, 3) := by decide +kernel
theorem dX0_rest_89 : decode cX0_rest 89 = .ok (.iload 5, 2) := by decide +kernel
theorem dX0_rest_91 : decode cX0_rest 91 = .ok (.lshl, 1) := by decide +kernel
theorem dX0_rest_92 : decode cX0_rest 92 = .ok (.iload 8, 2) := by decide +kernel
theorem dX0_rest_94 : decode cX0_rest 94 = .ok (.iload_n 0, 1) := by decide +kernel
theorem dX0_rest_95 : decode cX0_rest 95 = .ok (.lload_n 3, 1) := by decide +kernel
theorem dX0_rest_96 : decode cX0_rest 96 = .ok (.invokestatic 68, 3) := by decide +kernel
theorem dX0_rest_99 : decode cX0_rest 99 = .ok (.iload 6, 2) := by decide +kernel
theorem dX0_rest_101 : decode cX0_rest 101 = .ok (.lshl, 1) := by decide +kernel
theorem dX0_rest_102 : decode cX0_rest 102 = .ok (.invokestatic 109, 3) := by decide +kernel
theorem dX0_rest_105 : decode cX0_rest 105 = .ok (.lstore 9, 2) := by decide +kernel
theorem dX0_rest_107 : decode cX0_rest 107 = .ok (.iload_n 0, 1) := by decide +kernel
theorem dX0_rest_108 : decode cX0_rest 108 = .ok (.iload_n 0, 1) := by decide +kernel
theorem dX0_rest_109 : decode cX0_rest 109 = .ok (.lload_n 1, 1) := by decide +kernel
theorem dX0_rest_110 : decode cX0_rest 110 = .ok (.invokestatic 34, 3) := by decide +kernel
theorem dX0_rest_113 : decode cX0_rest 113 = .ok (.lload 9, 2) := by decide +kernel
theorem dX0_rest_115 : decode cX0_rest 115 = .ok (.iload 7, 2) := by decide +kernel
theorem dX0_rest_117 : decode cX0_rest 117 = .ok (.invokestatic 53, 3) := by decide +kernel
theorem dX0_rest_120 : decode cX0_rest 120 = .ok (.lreturn, 1) := by decide +kernel
theorem dX0_restAbove_0 : decode cX0_restAbove 0 = .ok (.lload_n 3, 1) := by decide +kernel
theorem dX0_restAbove_1 : decode cX0_restAbove 1 = .ok (.lconst 0, 1) := by decide +kernel
theorem dX0_restAbove_2 : decode cX0_restAbove 2 = .ok (.lcmp, 1) := by decide +kernel
theorem dX0_restAbove_3 : decode cX0_restAbove 3 = .ok (.ifCond .ne 5, 3) := by decide +kernel
theorem dX0_restAbove_6 : decode cX0_restAbove 6 = .ok (.lconst 0, 1) := by decide +kernel
theorem dX0_restAbove_7 : decode cX0_restAbove 7 = .ok (.lreturn, 1) := by decide +kernel
theorem dX0_restAbove_8 : decode cX0_restAbove 8 = .ok (.lload_n 0, 1) := by decide +kernel
theorem dX0_restAbove_9 : decode cX0_restAbove 9 = .ok (.lload_n 3, 1) := by decide +kernel
theorem dX0_restAbove_10 : decode cX0_restAbove 10 = .ok (.lrem, 1) := by decide +kernel
theorem dX0_restAbove_11 : decode cX0_restAbove 11 = .ok (.lstore 5, 2) := by decide +kernel
theorem dX0_restAbove_13 : decode cX0_restAbove 13 = .ok (.iload_n 2, 1) := by decide +kernel
theorem dX0_restAbove_14 : decode cX0_restAbove 14 = .ok (.istore 7, 2) := by decide +kernel
theorem dX0_restAbove_16 : decode cX0_restAbove 16 = .ok (.iload 7, 2) := by decide +kernel
theorem dX0_restAbove_18 : decode cX0_restAbove 18 = .ok (.ifCond .le 23, 3) := by decide +kernel
theorem dX0_restAbove_21 : decode cX0_restAbove 21 = .ok (.lload 5, 2) := by decide +kernel
theorem dX0_restAbove_23 : decode cX0_restAbove 23 = .ok (.iload 7, 2) := by decide +kernel
theorem dX0_restAbove_25 : decode cX0_restAbove 25 = .ok (.bipush 10, 2) := by decide +kernel
theorem dX0_restAbove_27 : decode cX0_restAbove 27 = .ok (.invokestatic 113, 3) := by decide +kernel
theorem dX0_restAbove_30 : decode cX0_restAbove 30 = .ok (.lshl, 1) := by decide +kernel
theorem dX0_restAbove_31 : decode cX0_restAbove 31 = .ok (.lload_n 3, 1) := by decide +kernel
theorem dX0_restAbove_32 : decode cX0_restAbove 32 = .ok (.lrem, 1) := by decide +kernel
theorem dX0_restAbove_33 : decode cX0_restAbove 33 = .ok (.lstore 5, 2) := by decide +kernel
theorem dX0_restAbove_35 : decode cX0_restAbove 35 = .ok (.iinc 7 (-10), 3) := by decide +kernel
theorem dX0_restAbove_38 : decode cX0_restAbove 38 = .ok (.goto (-22), 3) := by decide +kernel
theorem dX0_restAbove_41 : decode cX0_restAbove 41 = .ok (.lload 5, 2) := by decide +kernel
theorem dX0_restAbove_43 : decode cX0_restAbove 43 = .ok (.lreturn, 1) := by decide +kernel
