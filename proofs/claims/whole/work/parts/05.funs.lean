def fX0_fractionBits_0 (v0 : Int32) : Int32 := (if v0 = (6 : Int32) then (23 : Int32) else (52 : Int32))
def fX0_fractionBits (v0 : Int32) : Int32 := fX0_fractionBits_0 v0
def fX0_leastExponent_0 (v0 : Int32) : Int32 := (if v0 = (6 : Int32) then (-149 : Int32) else (-1074 : Int32))
def fX0_leastExponent (v0 : Int32) : Int32 := fX0_leastExponent_0 v0
def fX0_greatestAbove_0 (v0 : Int32) : Int32 := (if v0 = (6 : Int32) then (253 : Int32) else (2045 : Int32))
def fX0_greatestAbove (v0 : Int32) : Int32 := fX0_greatestAbove_0 v0
def fX0_infinity_0 (v0 : Int32) : Int64 := (if v0 = (6 : Int32) then (2139095040 : Int64) else (9218868437227405312 : Int64))
def fX0_infinity (v0 : Int32) : Int64 := fX0_infinity_0 v0
def fX0_notANumber_0 (v0 : Int32) : Int64 := ((fX0_infinity v0) + (1 : Int64))
def fX0_notANumber (v0 : Int32) : Int64 := fX0_notANumber_0 v0
def fX0_signBit_0 (v0 : Int32) : Int64 := (if v0 = (6 : Int32) then (2147483648 : Int64) else (-9223372036854775808 : Int64))
def fX0_signBit (v0 : Int32) : Int64 := fX0_signBit_0 v0
def fX0_size_0 (v0 : Int32) (v1 : Int64) : Int64 := (v1 &&& ((fX0_signBit v0) ^^^ (-1 : Int64)))
def fX0_size (v0 : Int32) (v1 : Int64) : Int64 := fX0_size_0 v0 v1
def fX0_isNumber_6 (v0 : Int32) (v3 : Int64) : Int32 := (if v3 < (0 : Int64) then (0 : Int32) else (if (fX0_infinity v0) < v3 then (0 : Int32) else (1 : Int32)))
def fX0_isNumber_0 (v0 : Int32) (v1 : Int64) : Int32 := fX0_isNumber_6 v0 (fX0_size v0 v1)
def fX0_isNumber (v0 : Int32) (v1 : Int64) : Int32 := fX0_isNumber_0 v0 v1
def fX0_isNegative_0 (v0 : Int32) (v1 : Int64) : Int32 := (if (v1 &&& (fX0_signBit v0)) = (0 : Int64) then (0 : Int32) else (1 : Int32))
def fX0_isNegative (v0 : Int32) (v1 : Int64) : Int32 := fX0_isNegative_0 v0 v1
def fX0_isInfinite_0 (v0 : Int32) (v1 : Int64) : Int32 := (if (fX0_size v0 v1) = (fX0_infinity v0) then (1 : Int32) else (0 : Int32))
def fX0_isInfinite (v0 : Int32) (v1 : Int64) : Int32 := fX0_isInfinite_0 v0 v1
def fX0_isZero_0 (v0 : Int32) (v1 : Int64) : Int32 := (if (fX0_size v0 v1) = (0 : Int64) then (1 : Int32) else (0 : Int32))
def fX0_isZero (v0 : Int32) (v1 : Int64) : Int32 := fX0_isZero_0 v0 v1
def fX0_negated_0 (v0 : Int32) (v1 : Int64) : Int64 := (v1 ^^^ (fX0_signBit v0))
def fX0_negated (v0 : Int32) (v1 : Int64) : Int64 := fX0_negated_0 v0 v1
def fX0_signed_0 (v0 : Int32) (v1 : Int32) (v2 : Int64) : Int64 := (if v1 = (0) then v2 else (v2 ||| (fX0_signBit v0)))
def fX0_signed (v0 : Int32) (v1 : Int32) (v2 : Int64) : Int64 := fX0_signed_0 v0 v1 v2
def fX0_place_6 (v0 : Int32) (v1 : Int64) (v3 : Int64) : Int64 := (if (fX0_isNegative v0 v1) = (0) then v3 else (-v3))
def fX0_place_0 (v0 : Int32) (v1 : Int64) : Int64 := fX0_place_6 v0 v1 (fX0_size v0 v1)
def fX0_place (v0 : Int32) (v1 : Int64) : Int64 := fX0_place_0 v0 v1
def fX0_placeWithZerosApart_6 (v0 : Int32) (v1 : Int64) (v3 : Int64) : Int64 := (if (fX0_isNegative v0 v1) = (0) then v3 else ((-v3) - (1 : Int64)))
def fX0_placeWithZerosApart_0 (v0 : Int32) (v1 : Int64) : Int64 := fX0_placeWithZerosApart_6 v0 v1 (fX0_size v0 v1)
def fX0_placeWithZerosApart (v0 : Int32) (v1 : Int64) : Int64 := fX0_placeWithZerosApart_0 v0 v1
def fX0_magnitude_14 (v0 : Int32) (v1 : Int64) (v3 : Int64) (v5 : Int64) : Int64 := (if (fX0_size v0 v1) < v3 then v5 else (v5 + v3))
def fX0_magnitude_7 (v0 : Int32) (v1 : Int64) (v3 : Int64) : Int64 := fX0_magnitude_14 v0 v1 v3 (v1 &&& (v3 - (1 : Int64)))
def fX0_magnitude_0 (v0 : Int32) (v1 : Int64) : Int64 := fX0_magnitude_7 v0 v1 (jshl (1 : Int64) (fX0_fractionBits v0))
def fX0_magnitude (v0 : Int32) (v1 : Int64) : Int64 := fX0_magnitude_0 v0 v1
def fX0_exponent_12 (v0 : Int32) (v3 : Int32) : Int32 := (((fX0_leastExponent v0) + (imax v3 (1 : Int32))) - (1 : Int32))
def fX0_exponent_0 (v0 : Int32) (v1 : Int64) : Int32 := fX0_exponent_12 v0 ((jushr (fX0_size v0 v1) (fX0_fractionBits v0)).toInt32)
def fX0_exponent (v0 : Int32) (v1 : Int64) : Int32 := fX0_exponent_0 v0 v1
def fX0_roomBelow_2 : Nat → Int32 → Int64 → Int32 → Int32
  | 0, _, _, _ => 0
  | fuel + 1, v0, v1, v3 => (if v3 < v0 then (if (jshl v1 v3) < (jshl (1 : Int64) v0) then fX0_roomBelow_2 fuel v0 v1 (v3 + (1 : Int32)) else v3) else v3)
def okX0_roomBelow_2 : Nat → Int32 → Int64 → Int32 → Prop
  | 0, _, _, _ => False
  | fuel + 1, v0, v1, v3 => ((v3 < v0 → (((jshl v1 v3) < (jshl (1 : Int64) v0) → okX0_roomBelow_2 fuel v0 v1 (v3 + (1 : Int32))) ∧ (¬ (jshl v1 v3) < (jshl (1 : Int64) v0) → True))) ∧ (¬ v3 < v0 → True))
def fX0_roomBelow_0 (v0 : Int32) (v1 : Int64) : Int32 := fX0_roomBelow_2 (v0.toNatClampNeg + 1) v0 v1 (0 : Int32)
def okX0_roomBelow_0 (v0 : Int32) (v1 : Int64) : Prop := okX0_roomBelow_2 (v0.toNatClampNeg + 1) v0 v1 (0 : Int32)
def fX0_roomBelow (v0 : Int32) (v1 : Int64) : Int32 := fX0_roomBelow_0 v0 v1
def okX0_roomBelow (v0 : Int32) (v1 : Int64) : Prop := okX0_roomBelow_0 v0 v1
def fX0_movedDown_22 (v0 : Int64) (v2 : Int32) (v3 : Int64) : Int64 := (if (jshl v3 v2) = v0 then v3 else (v3 ||| (1 : Int64)))
def fX0_movedDown_0 (v0 : Int64) (v2 : Int32) : Int64 := (if (63 : Int32) < v2 then (if v0 = (0 : Int64) then (0 : Int64) else (1 : Int64)) else fX0_movedDown_22 v0 v2 (jushr v0 v2))
def fX0_movedDown (v0 : Int64) (v2 : Int32) : Int64 := fX0_movedDown_0 v0 v2
def fX0_roundedDown_57 (v3 : Int64) (s0 : Int32) : Int64 := (if s0 = (0) then v3 else (v3 + (1 : Int64)))
def fX0_roundedDown_52 (v3 : Int64) : Int64 := fX0_roundedDown_57 v3 (1 : Int32)
def fX0_roundedDown_56 (v3 : Int64) : Int64 := fX0_roundedDown_57 v3 (0 : Int32)
def fX0_roundedDown_28 (v3 : Int64) (v5 : Int64) (v7 : Int64) : Int64 := (if v7 < v5 then fX0_roundedDown_52 v3 else (if v5 = v7 then (if (v3 &&& (1 : Int64)) = (1 : Int64) then fX0_roundedDown_52 v3 else fX0_roundedDown_56 v3) else fX0_roundedDown_56 v3))
def fX0_roundedDown_21 (v2 : Int32) (v3 : Int64) (v5 : Int64) : Int64 := fX0_roundedDown_28 v3 v5 (jshl (1 : Int64) (v2 - (1 : Int32)))
def fX0_roundedDown_12 (v0 : Int64) (v2 : Int32) (v3 : Int64) : Int64 := fX0_roundedDown_21 v2 v3 (v0 &&& ((jshl (1 : Int64) v2) - (1 : Int64)))
def fX0_roundedDown_0 (v0 : Int64) (v2 : Int32) : Int64 := (if (63 : Int32) < v2 then (0 : Int64) else fX0_roundedDown_12 v0 v2 (jushr v0 v2))
def fX0_roundedDown (v0 : Int64) (v2 : Int32) : Int64 := fX0_roundedDown_0 v0 v2
def fX0_nearest_90 (v0 : Int32) (v1 : Int32) (v7 : Int32) (v8 : Int64) : Int64 := (fX0_signed v0 v1 ((jshl (v7.toInt64) (fX0_fractionBits v0)) + v8))
def fX0_nearest_79 (v0 : Int32) (v1 : Int32) (v2 : Int64) (v5 : Int32) (v6 : Int32) (v7 : Int32) : Int64 := fX0_nearest_90 v0 v1 v7 (fX0_roundedDown (jshl v2 v5) v6)
def fX0_nearest_76 (v0 : Int32) (v1 : Int32) (v2 : Int64) (v5 : Int32) (v6 : Int32) : Int64 := fX0_nearest_79 v0 v1 v2 v5 v6 (0 : Int32)
def fX0_nearest_45 (v0 : Int32) (v1 : Int32) (v2 : Int64) (v5 : Int32) (v6 : Int32) (v7 : Int32) : Int64 := (if (fX0_greatestAbove v0) < v7 then (fX0_signed v0 v1 (fX0_infinity v0)) else (if v7 < (0) then fX0_nearest_76 v0 v1 v2 v5 (v6 - v7) else fX0_nearest_79 v0 v1 v2 v5 v6 v7))
def fX0_nearest_30 (v0 : Int32) (v1 : Int32) (v2 : Int64) (v4 : Int32) (v5 : Int32) (v6 : Int32) : Int64 := fX0_nearest_45 v0 v1 v2 v5 v6 (((v4 - v5) + v6) - (fX0_leastExponent v0))
def fX0_nearest_21 (v0 : Int32) (v1 : Int32) (v2 : Int64) (v4 : Int32) (v5 : Int32) : Int64 := fX0_nearest_30 v0 v1 v2 v4 v5 ((62 : Int32) - (fX0_fractionBits v0))
def fX0_nearest_0 (v0 : Int32) (v1 : Int32) (v2 : Int64) (v4 : Int32) : Int64 := (if v2 = (0 : Int64) then (fX0_signed v0 v1 (0 : Int64)) else fX0_nearest_21 v0 v1 v2 v4 (fX0_roomBelow (62 : Int32) v2))
def fX0_nearest (v0 : Int32) (v1 : Int32) (v2 : Int64) (v4 : Int32) : Int64 := fX0_nearest_0 v0 v1 v2 v4
def fX0_ofWhole_30 (v1 : Int64) (s0 : Int32) (s1 : Int32) : Int64 := (fX0_nearest s0 s1 (jabs v1) (0 : Int32))
def fX0_ofWhole_0 (v0 : Int32) (v1 : Int64) : Int64 := (if v1 = (-9223372036854775808 : Int64) then (fX0_nearest v0 (1 : Int32) (4611686018427387904 : Int64) (1 : Int32)) else (if v1 < (0 : Int64) then fX0_ofWhole_30 v1 v0 (1 : Int32) else fX0_ofWhole_30 v1 v0 (0 : Int32)))
def fX0_ofWhole (v0 : Int32) (v1 : Int64) : Int64 := fX0_ofWhole_0 v0 v1
def fX0_ofReal_7 (v0 : Int32) (v1 : Int32) (v2 : Int64) (v4 : Int32) : Int64 := (if (fX0_isInfinite v1 v2) = (0) then (fX0_nearest v0 v4 (fX0_magnitude v1 v2) (fX0_exponent v1 v2)) else (fX0_signed v0 v4 (fX0_infinity v0)))
def fX0_ofReal_0 (v0 : Int32) (v1 : Int32) (v2 : Int64) : Int64 := fX0_ofReal_7 v0 v1 v2 (fX0_isNegative v1 v2)
def fX0_ofReal (v0 : Int32) (v1 : Int32) (v2 : Int64) : Int64 := fX0_ofReal_0 v0 v1 v2
def fX0_wholePart_42 (v3 : Int32) (s0 : Int64) : Int64 := (if v3 = (0) then s0 else (-s0))
def fX0_wholePart_76 (v3 : Int32) : Int64 := (if v3 = (0) then (9223372036854775807 : Int64) else (-9223372036854775808 : Int64))
def fX0_wholePart_20 (v3 : Int32) (v4 : Int64) (v6 : Int32) : Int64 := (if (0) < v6 then (if (63 : Int32) < v6 then fX0_wholePart_76 v3 else (if (jushr (9223372036854775807 : Int64) v6) < v4 then fX0_wholePart_76 v3 else (if v3 = (0) then (jshl v4 v6) else (-(jshl v4 v6))))) else (if v6 < (-63 : Int32) then fX0_wholePart_42 v3 (0 : Int64) else fX0_wholePart_42 v3 (jushr v4 (-v6))))
def fX0_wholePart_13 (v0 : Int32) (v1 : Int64) (v3 : Int32) (v4 : Int64) : Int64 := fX0_wholePart_20 v3 v4 (fX0_exponent v0 v1)
def fX0_wholePart_6 (v0 : Int32) (v1 : Int64) (v3 : Int32) : Int64 := fX0_wholePart_13 v0 v1 v3 (fX0_magnitude v0 v1)
def fX0_wholePart_0 (v0 : Int32) (v1 : Int64) : Int64 := fX0_wholePart_6 v0 v1 (fX0_isNegative v0 v1)
def fX0_wholePart (v0 : Int32) (v1 : Int64) : Int64 := fX0_wholePart_0 v0 v1
def fX0_sumByGreater_79 (v0 : Int32) (v3 : Int64) (v6 : Int64) (v8 : Int32) (v9 : Int64) (v12 : Int32) : Int64 := (if v12 = (fX0_isNegative v0 v3) then (fX0_nearest v0 v12 (v6 + v9) v8) else (if v6 = v9 then (0 : Int64) else (fX0_nearest v0 v12 (v6 - v9) v8)))
def fX0_sumByGreater_70 (v0 : Int32) (v1 : Int64) (v3 : Int64) (v6 : Int64) (v8 : Int32) (s0 : Int64) : Int64 := fX0_sumByGreater_79 v0 v3 v6 v8 s0 (fX0_isNegative v0 v1)
def fX0_sumByGreater_49 (v0 : Int32) (v1 : Int64) (v3 : Int64) (v6 : Int64) (v8 : Int32) (v9 : Int64) (v11 : Int32) : Int64 := (if v11 < (0) then fX0_sumByGreater_70 v0 v1 v3 v6 v8 (fX0_movedDown v9 (-v11)) else fX0_sumByGreater_70 v0 v1 v3 v6 v8 (jshl v9 v11))
def fX0_sumByGreater_39 (v0 : Int32) (v1 : Int64) (v3 : Int64) (v6 : Int64) (v8 : Int32) (v9 : Int64) : Int64 := fX0_sumByGreater_49 v0 v1 v3 v6 v8 v9 ((fX0_exponent v0 v3) - v8)
def fX0_sumByGreater_32 (v0 : Int32) (v1 : Int64) (v3 : Int64) (v6 : Int64) (v8 : Int32) : Int64 := fX0_sumByGreater_39 v0 v1 v3 v6 v8 (fX0_magnitude v0 v3)
def fX0_sumByGreater_22 (v0 : Int32) (v1 : Int64) (v3 : Int64) (v5 : Int32) (v6 : Int64) : Int64 := fX0_sumByGreater_32 v0 v1 v3 v6 ((fX0_exponent v0 v1) - v5)
def fX0_sumByGreater_12 (v0 : Int32) (v1 : Int64) (v3 : Int64) (v5 : Int32) : Int64 := fX0_sumByGreater_22 v0 v1 v3 v5 (jshl (fX0_magnitude v0 v1) v5)
def fX0_sumByGreater_0 (v0 : Int32) (v1 : Int64) (v3 : Int64) : Int64 := fX0_sumByGreater_12 v0 v1 v3 (fX0_roomBelow (61 : Int32) (fX0_magnitude v0 v1))
def fX0_sumByGreater (v0 : Int32) (v1 : Int64) (v3 : Int64) : Int64 := fX0_sumByGreater_0 v0 v1 v3
def fX0_sum_80 (v0 : Int32) (v1 : Int64) (v3 : Int64) (s0 : Int32) : Int64 := (if s0 = (0) then (fX0_sumByGreater v0 v3 v1) else (fX0_sumByGreater v0 v1 v3))
def fX0_sum_61 (v0 : Int32) (v1 : Int64) (v3 : Int64) : Int64 := (if (fX0_size v0 v1) < (fX0_size v0 v3) then fX0_sum_80 v0 v1 v3 (0 : Int32) else fX0_sum_80 v0 v1 v3 (1 : Int32))
def fX0_sum_0 (v0 : Int32) (v1 : Int64) (v3 : Int64) : Int64 := (if (fX0_isInfinite v0 v1) = (0) then (if (fX0_isInfinite v0 v3) = (0) then (if (fX0_isZero v0 v1) = (0) then fX0_sum_61 v0 v1 v3 else (if (fX0_isZero v0 v3) = (0) then fX0_sum_61 v0 v1 v3 else (v1 &&& v3))) else v3) else (if (fX0_isInfinite v0 v3) = (0) then v1 else (if v1 = v3 then v1 else (fX0_notANumber v0))))
def fX0_sum (v0 : Int32) (v1 : Int64) (v3 : Int64) : Int64 := fX0_sum_0 v0 v1 v3
def fX0_topOfProduct_84 (v18 : Int64) (v20 : Int64) : Int64 := ((jshl v18 (10 : Int32)) ||| (fX0_movedDown v20 (44 : Int32)))
def fX0_topOfProduct_68 (v4 : Int64) (v14 : Int64) (v16 : Int64) (v18 : Int64) : Int64 := fX0_topOfProduct_84 v18 ((jshl (v16 &&& v4) (27 : Int32)) ||| (v14 &&& v4))
def fX0_topOfProduct_55 (v4 : Int64) (v6 : Int64) (v10 : Int64) (v14 : Int64) (v16 : Int64) : Int64 := fX0_topOfProduct_68 v4 v14 v16 ((v6 * v10) + (jushr v16 (27 : Int32)))
def fX0_topOfProduct_36 (v4 : Int64) (v6 : Int64) (v8 : Int64) (v10 : Int64) (v12 : Int64) (v14 : Int64) : Int64 := fX0_topOfProduct_55 v4 v6 v10 v14 (((v6 * v12) + (v8 * v10)) + (jushr v14 (27 : Int32)))
def fX0_topOfProduct_29 (v4 : Int64) (v6 : Int64) (v8 : Int64) (v10 : Int64) (v12 : Int64) : Int64 := fX0_topOfProduct_36 v4 v6 v8 v10 v12 (v8 * v12)
def fX0_topOfProduct_23 (v2 : Int64) (v4 : Int64) (v6 : Int64) (v8 : Int64) (v10 : Int64) : Int64 := fX0_topOfProduct_29 v4 v6 v8 v10 (v2 &&& v4)
def fX0_topOfProduct_17 (v2 : Int64) (v4 : Int64) (v6 : Int64) (v8 : Int64) : Int64 := fX0_topOfProduct_23 v2 v4 v6 v8 (jushr v2 (27 : Int32))
def fX0_topOfProduct_11 (v0 : Int64) (v2 : Int64) (v4 : Int64) (v6 : Int64) : Int64 := fX0_topOfProduct_17 v2 v4 v6 (v0 &&& v4)
def fX0_topOfProduct_0 (v0 : Int64) (v2 : Int64) : Int64 := fX0_topOfProduct_11 v0 v2 (134217727 : Int64) (jushr v0 (27 : Int32))
def fX0_topOfProduct (v0 : Int64) (v2 : Int64) : Int64 := fX0_topOfProduct_0 v0 v2
def fX0_product_57 (v0 : Int32) (v5 : Int32) (s0 : Int32) : Int64 := (if s0 = (0) then (fX0_signed v0 v5 (fX0_infinity v0)) else (fX0_notANumber v0))
def fX0_product_52 (v0 : Int32) (v5 : Int32) : Int64 := fX0_product_57 v0 v5 (1 : Int32)
def fX0_product_36 (v0 : Int32) (v1 : Int64) (v3 : Int64) (v5 : Int32) : Int64 := (if (fX0_isZero v0 v1) = (0) then (if (fX0_isZero v0 v3) = (0) then fX0_product_57 v0 v5 (0 : Int32) else fX0_product_52 v0 v5) else fX0_product_52 v0 v5)
def fX0_product_146 (v0 : Int32) (v5 : Int32) (v8 : Int64) (v10 : Int32) : Int64 := (fX0_nearest v0 v5 v8 ((v10 + (54 : Int32)) - (10 : Int32)))
def fX0_product_127 (v0 : Int32) (v1 : Int64) (v3 : Int64) (v5 : Int32) (v6 : Int32) (v7 : Int32) (v8 : Int64) : Int64 := fX0_product_146 v0 v5 v8 ((((fX0_exponent v0 v1) - v6) + (fX0_exponent v0 v3)) - v7)
def fX0_product_106 (v0 : Int32) (v1 : Int64) (v3 : Int64) (v5 : Int32) (v6 : Int32) (v7 : Int32) : Int64 := fX0_product_127 v0 v1 v3 v5 v6 v7 (fX0_topOfProduct (jshl (fX0_magnitude v0 v1) v6) (jshl (fX0_magnitude v0 v3) v7))
def fX0_product_94 (v0 : Int32) (v1 : Int64) (v3 : Int64) (v5 : Int32) (v6 : Int32) : Int64 := fX0_product_106 v0 v1 v3 v5 v6 (fX0_roomBelow (52 : Int32) (fX0_magnitude v0 v3))
def fX0_product_18 (v0 : Int32) (v1 : Int64) (v3 : Int64) (s0 : Int32) : Int64 := (if (fX0_isInfinite v0 v1) = (0) then (if (fX0_isInfinite v0 v3) = (0) then fX0_product_94 v0 v1 v3 s0 (fX0_roomBelow (52 : Int32) (fX0_magnitude v0 v1)) else fX0_product_36 v0 v1 v3 s0) else fX0_product_36 v0 v1 v3 s0)
def fX0_product_0 (v0 : Int32) (v1 : Int64) (v3 : Int64) : Int64 := (if (fX0_isNegative v0 v1) = (fX0_isNegative v0 v3) then fX0_product_18 v0 v1 v3 (0 : Int32) else fX0_product_18 v0 v1 v3 (1 : Int32))
def fX0_product (v0 : Int32) (v1 : Int64) (v3 : Int64) : Int64 := fX0_product_0 v0 v1 v3
def fX0_topOfQuotient_59 (v4 : Int64) (v6 : Int64) : Int64 := (if v6 = (0 : Int64) then v4 else (v4 ||| (1 : Int64)))
def fX0_topOfQuotient_21 : Nat → Int64 → Int64 → Int64 → Int32 → Int64
  | 0, _, _, _, _ => 0
  | fuel + 1, v2, v4, v6, v8 => (if v8 < (6 : Int32) then fX0_topOfQuotient_21 fuel v2 ((jshl v4 (10 : Int32)) + ((jshl v6 (10 : Int32)) / v2)) (jrem (jshl v6 (10 : Int32)) v2) (v8 + (1 : Int32)) else fX0_topOfQuotient_59 v4 v6)
def okX0_topOfQuotient_21 : Nat → Int64 → Int64 → Int64 → Int32 → Prop
  | 0, _, _, _, _ => False
  | fuel + 1, v2, v4, v6, v8 => ((v8 < (6 : Int32) → ¬ v2 = 0 ∧ ¬ v2 = 0 ∧ okX0_topOfQuotient_21 fuel v2 ((jshl v4 (10 : Int32)) + ((jshl v6 (10 : Int32)) / v2)) (jrem (jshl v6 (10 : Int32)) v2) (v8 + (1 : Int32))) ∧ (¬ v8 < (6 : Int32) → True))
def fX0_topOfQuotient_18 (v2 : Int64) (v4 : Int64) (v6 : Int64) : Int64 := fX0_topOfQuotient_21 64 v2 v4 v6 (0 : Int32)
def okX0_topOfQuotient_18 (v2 : Int64) (v4 : Int64) (v6 : Int64) : Prop := okX0_topOfQuotient_21 64 v2 v4 v6 (0 : Int32)
def fX0_topOfQuotient_13 (v0 : Int64) (v2 : Int64) (v4 : Int64) : Int64 := fX0_topOfQuotient_18 v2 v4 (jrem v0 v2)
def okX0_topOfQuotient_13 (v0 : Int64) (v2 : Int64) (v4 : Int64) : Prop := ¬ v2 = 0 ∧ okX0_topOfQuotient_18 v2 v4 (jrem v0 v2)
def fX0_topOfQuotient_0 (v0 : Int64) (v2 : Int64) : Int64 := (if v2 = (0 : Int64) then (0 : Int64) else fX0_topOfQuotient_13 v0 v2 (v0 / v2))
def okX0_topOfQuotient_0 (v0 : Int64) (v2 : Int64) : Prop := ((v2 = (0 : Int64) → True) ∧ (¬ v2 = (0 : Int64) → ¬ v2 = 0 ∧ okX0_topOfQuotient_13 v0 v2 (v0 / v2)))
def fX0_topOfQuotient (v0 : Int64) (v2 : Int64) : Int64 := fX0_topOfQuotient_0 v0 v2
def okX0_topOfQuotient (v0 : Int64) (v2 : Int64) : Prop := okX0_topOfQuotient_0 v0 v2
def fX0_quotient_44 (v0 : Int32) : Int64 := (fX0_notANumber v0)
def fX0_quotient_85 (v0 : Int32) (v6 : Int32) : Int64 := (fX0_signed v0 v6 (fX0_infinity v0))
def fX0_quotient_180 (v0 : Int32) (v6 : Int32) (v11 : Int64) (v13 : Int32) : Int64 := (fX0_nearest v0 v6 v11 (v13 - (60 : Int32)))
def fX0_quotient_161 (v0 : Int32) (v1 : Int64) (v3 : Int64) (v6 : Int32) (v7 : Int32) (v8 : Int32) (v11 : Int64) : Int64 := fX0_quotient_180 v0 v6 v11 ((((fX0_exponent v0 v1) - v7) - (fX0_exponent v0 v3)) + v8)
def fX0_quotient_146 (v0 : Int32) (v1 : Int64) (v3 : Int64) (v6 : Int32) (v7 : Int32) (v8 : Int32) (v9 : Int64) : Int64 := fX0_quotient_161 v0 v1 v3 v6 v7 v8 (fX0_topOfQuotient (jshl (fX0_magnitude v0 v1) v7) v9)
def fX0_quotient_136 (v0 : Int32) (v1 : Int64) (v3 : Int64) (v6 : Int32) (v7 : Int32) (v8 : Int32) : Int64 := fX0_quotient_146 v0 v1 v3 v6 v7 v8 (jshl (fX0_magnitude v0 v3) v8)
def fX0_quotient_124 (v0 : Int32) (v1 : Int64) (v3 : Int64) (v6 : Int32) (v7 : Int32) : Int64 := fX0_quotient_136 v0 v1 v3 v6 v7 (fX0_roomBelow (52 : Int32) (fX0_magnitude v0 v3))
def fX0_quotient_67 (v0 : Int32) (v1 : Int64) (v3 : Int64) (s0 : Int32) : Int64 := (if (fX0_isInfinite v0 v1) = (0) then (if (fX0_isZero v0 v3) = (0) then (if (fX0_isInfinite v0 v3) = (0) then fX0_quotient_124 v0 v1 v3 s0 (fX0_roomBelow (52 : Int32) (fX0_magnitude v0 v1)) else (fX0_signed v0 s0 (0 : Int64))) else fX0_quotient_85 v0 s0) else fX0_quotient_85 v0 s0)
def fX0_quotient_49 (v0 : Int32) (v1 : Int64) (v3 : Int64) : Int64 := (if (fX0_isNegative v0 v1) = (fX0_isNegative v0 v3) then fX0_quotient_67 v0 v1 v3 (0 : Int32) else fX0_quotient_67 v0 v1 v3 (1 : Int32))
def fX0_quotient_21 (v0 : Int32) (v1 : Int64) (v3 : Int64) (s0 : Int32) : Int64 := (if s0 = (0) then (if (fX0_isZero v0 v1) = (0) then fX0_quotient_49 v0 v1 v3 else (if (fX0_isZero v0 v3) = (0) then fX0_quotient_49 v0 v1 v3 else fX0_quotient_44 v0)) else fX0_quotient_44 v0)
def fX0_quotient_20 (v0 : Int32) (v1 : Int64) (v3 : Int64) : Int64 := fX0_quotient_21 v0 v1 v3 (0 : Int32)
def fX0_quotient_0 (v0 : Int32) (v1 : Int64) (v3 : Int64) : Int64 := (if (fX0_isInfinite v0 v1) = (0) then fX0_quotient_20 v0 v1 v3 else (if (fX0_isInfinite v0 v3) = (0) then fX0_quotient_20 v0 v1 v3 else fX0_quotient_21 v0 v1 v3 (1 : Int32)))
def fX0_quotient (v0 : Int32) (v1 : Int64) (v3 : Int64) : Int64 := fX0_quotient_0 v0 v1 v3
def fX0_restAbove_16 : Nat → Int64 → Int64 → Int32 → Int64
  | 0, _, _, _ => 0
  | fuel + 1, v3, v5, v7 => (if (0) < v7 then fX0_restAbove_16 fuel v3 (jrem (jshl v5 (imin v7 (10 : Int32))) v3) (v7 + (-10 : Int32)) else v5)
def okX0_restAbove_16 : Nat → Int64 → Int64 → Int32 → Prop
  | 0, _, _, _ => False
  | fuel + 1, v3, v5, v7 => (((0) < v7 → ¬ v3 = 0 ∧ okX0_restAbove_16 fuel v3 (jrem (jshl v5 (imin v7 (10 : Int32))) v3) (v7 + (-10 : Int32))) ∧ (¬ (0) < v7 → True))
def fX0_restAbove_13 (v2 : Int32) (v3 : Int64) (v5 : Int64) : Int64 := fX0_restAbove_16 (v2.toNatClampNeg + 1) v3 v5 v2
def okX0_restAbove_13 (v2 : Int32) (v3 : Int64) (v5 : Int64) : Prop := okX0_restAbove_16 (v2.toNatClampNeg + 1) v3 v5 v2
def fX0_restAbove_0 (v0 : Int64) (v2 : Int32) (v3 : Int64) : Int64 := (if v3 = (0 : Int64) then (0 : Int64) else fX0_restAbove_13 v2 v3 (jrem v0 v3))
def okX0_restAbove_0 (v0 : Int64) (v2 : Int32) (v3 : Int64) : Prop := ((v3 = (0 : Int64) → True) ∧ (¬ v3 = (0 : Int64) → ¬ v3 = 0 ∧ okX0_restAbove_13 v2 v3 (jrem v0 v3)))
def fX0_restAbove (v0 : Int64) (v2 : Int32) (v3 : Int64) : Int64 := fX0_restAbove_0 v0 v2 v3
def okX0_restAbove (v0 : Int64) (v2 : Int32) (v3 : Int64) : Prop := okX0_restAbove_0 v0 v2 v3
def fX0_rest_16 (v0 : Int32) : Int64 := (fX0_notANumber v0)
def fX0_rest_107 (v0 : Int32) (v1 : Int64) (v7 : Int32) (v9 : Int64) : Int64 := (fX0_nearest v0 (fX0_isNegative v0 v1) v9 v7)
def fX0_rest_84 (v0 : Int32) (v1 : Int64) (v3 : Int64) (v5 : Int32) (v6 : Int32) (v7 : Int32) (v8 : Int32) : Int64 := fX0_rest_107 v0 v1 v7 (fX0_restAbove (jshl (fX0_magnitude v0 v1) v5) v8 (jshl (fX0_magnitude v0 v3) v6))
def fX0_rest_71 (v0 : Int32) (v1 : Int64) (v3 : Int64) (v5 : Int32) (v6 : Int32) (v7 : Int32) : Int64 := fX0_rest_84 v0 v1 v3 v5 v6 v7 (((fX0_exponent v0 v1) - v5) - v7)
def fX0_rest_61 (v0 : Int32) (v1 : Int64) (v3 : Int64) (v5 : Int32) (v6 : Int32) : Int64 := fX0_rest_71 v0 v1 v3 v5 v6 ((fX0_exponent v0 v3) - v6)
def fX0_rest_49 (v0 : Int32) (v1 : Int64) (v3 : Int64) (v5 : Int32) : Int64 := fX0_rest_61 v0 v1 v3 v5 (fX0_roomBelow (52 : Int32) (fX0_magnitude v0 v3))
def fX0_rest_0 (v0 : Int32) (v1 : Int64) (v3 : Int64) : Int64 := (if (fX0_isInfinite v0 v1) = (0) then (if (fX0_isZero v0 v3) = (0) then (if (fX0_size v0 v1) < (fX0_size v0 v3) then v1 else fX0_rest_49 v0 v1 v3 (fX0_roomBelow (52 : Int32) (fX0_magnitude v0 v1))) else fX0_rest_16 v0) else fX0_rest_16 v0)
def fX0_rest (v0 : Int32) (v1 : Int64) (v3 : Int64) : Int64 := fX0_rest_0 v0 v1 v3
def fX1_init_0 (fld : Int32) : Int32 := (0 : Int32)
def fX1_init  (fld : Int32) : Int32 := fX1_init_0 fld
def fX1_narrowed_0 (v0 : Int32) (v1 : Int64) : Int64 := (if v0 = (1 : Int32) then (jbyte (v1.toInt32)).toInt64 else (if v0 = (2 : Int32) then (jshort (v1.toInt32)).toInt64 else (if v0 = (3 : Int32) then (jchar (v1.toInt32)).toInt64 else (if v0 = (4 : Int32) then (v1.toInt32).toInt64 else v1))))
def fX1_narrowed (v0 : Int32) (v1 : Int64) : Int64 := fX1_narrowed_0 v0 v1
def fX1_isValue_66 (v0 : Int32) (v1 : Int64) : Int32 := (if (fX1_narrowed v0 v1) = v1 then (1 : Int32) else (0 : Int32))
def fX1_isValue_82 (v0 : Int32) (v1 : Int64) : Int32 := (fX0_isNumber v0 v1)
def fX1_isValue_0 (v0 : Int32) (v1 : Int64) : Int32 := (if v0 = (0 : Int32) then (if v1 = (0 : Int64) then (1 : Int32) else (if v1 = (1 : Int64) then (1 : Int32) else (0 : Int32))) else (if v0 = (1 : Int32) then fX1_isValue_66 v0 v1 else (if v0 = (2 : Int32) then fX1_isValue_66 v0 v1 else (if v0 = (3 : Int32) then fX1_isValue_66 v0 v1 else (if v0 = (4 : Int32) then fX1_isValue_66 v0 v1 else (if v0 = (5 : Int32) then fX1_isValue_66 v0 v1 else (if v0 = (6 : Int32) then fX1_isValue_82 v0 v1 else (if v0 = (7 : Int32) then fX1_isValue_82 v0 v1 else (0 : Int32)))))))))
def fX1_isValue (v0 : Int32) (v1 : Int64) : Int32 := fX1_isValue_0 v0 v1
def fX1_has_0 (v1 : Int32) (v2 : Int64) (fld : Int32) : Int32 × Int32 := ((fX1_isValue v1 v2), fld)
def fX1_has (v1 : Int32) (v2 : Int64) (fld : Int32) : Int32 × Int32 := fX1_has_0 v1 v2 fld
def fX1_isNumberKind_0 (v0 : Int32) : Int32 := (if v0 < (1 : Int32) then (0 : Int32) else (if (7 : Int32) < v0 then (0 : Int32) else (1 : Int32)))
def fX1_isNumberKind (v0 : Int32) : Int32 := fX1_isNumberKind_0 v0
def fX1_widens_0 (v1 : Int32) (v2 : Int32) (fld : Int32) : Int32 × Int32 := (if v1 = v2 then (if v1 < (0) then ((0 : Int32), fld) else (if (7 : Int32) < v1 then ((0 : Int32), fld) else ((1 : Int32), fld))) else (if (fX1_isNumberKind v1) = (0) then ((0 : Int32), fld) else (if (fX1_isNumberKind v2) = (0) then ((0 : Int32), fld) else (if v2 = (3 : Int32) then ((0 : Int32), fld) else (if v1 < v2 then ((1 : Int32), fld) else ((0 : Int32), fld))))))
def fX1_widens (v1 : Int32) (v2 : Int32) (fld : Int32) : Int32 × Int32 := fX1_widens_0 v1 v2 fld
def fX1_cutToInt_0 (v0 : Int64) : Int64 := (jmax (-2147483648 : Int64) (jmin (2147483647 : Int64) v0))
def fX1_cutToInt (v0 : Int64) : Int64 := fX1_cutToInt_0 v0
def fX1_converted_53 (v1 : Int32) (v4 : Int64) : Int64 := (if v1 = (5 : Int32) then v4 else (fX1_narrowed v1 (fX1_cutToInt v4)))
def fX1_converted_0 (v0 : Int32) (v1 : Int32) (v2 : Int64) : Int64 := (if v0 = v1 then v2 else (if v1 < (6 : Int32) then (if v0 < (6 : Int32) then (fX1_narrowed v1 v2) else fX1_converted_53 v1 (fX0_wholePart v0 v2)) else (if v0 < (6 : Int32) then (fX0_ofWhole v1 v2) else (fX0_ofReal v1 v0 v2))))
def fX1_converted (v0 : Int32) (v1 : Int32) (v2 : Int64) : Int64 := fX1_converted_0 v0 v1 v2
def fX1_fails_0 (v1 : Int32) (v2 : Int32) (fld : Int32) : Int32 × Int32 := (v2, v1)
def fX1_fails (v1 : Int32) (v2 : Int32) (fld : Int32) : Int32 × Int32 := fX1_fails_0 v1 v2 fld
def fX1_cast_39 (fld : Int32) : Int64 × Int32 := (((fX1_fails (1 : Int32) (0 : Int32) fld).1).toInt64, (fX1_fails (1 : Int32) (0 : Int32) fld).2)
def fX1_cast_24 (v1 : Int32) (v2 : Int32) (v3 : Int64) (s0 : Int32) (fld : Int32) : Int64 × Int32 := (if s0 = (0) then fX1_cast_39 fld else (if (fX1_isValue v1 v3) = (0) then fX1_cast_39 fld else ((fX1_converted v1 v2 v3), (0 : Int32))))
def fX1_cast_19 (v1 : Int32) (v2 : Int32) (v3 : Int64) (fld : Int32) : Int64 × Int32 := fX1_cast_24 v1 v2 v3 (1 : Int32) fld
def fX1_cast_23 (v1 : Int32) (v2 : Int32) (v3 : Int64) (fld : Int32) : Int64 × Int32 := fX1_cast_24 v1 v2 v3 (0 : Int32) fld
def fX1_cast_0 (v1 : Int32) (v2 : Int32) (v3 : Int64) (fld : Int32) : Int64 × Int32 := (if v1 = v2 then fX1_cast_19 v1 v2 v3 fld else (if (fX1_isNumberKind v1) = (0) then fX1_cast_23 v1 v2 v3 fld else (if (fX1_isNumberKind v2) = (0) then fX1_cast_23 v1 v2 v3 fld else fX1_cast_19 v1 v2 v3 fld)))
def fX1_cast (v1 : Int32) (v2 : Int32) (v3 : Int64) (fld : Int32) : Int64 × Int32 := fX1_cast_0 v1 v2 v3 fld
def fX1_areNumbers_0 (v0 : Int32) (v1 : Int64) (v3 : Int32) (v4 : Int64) : Int32 := (if (fX1_isNumberKind v0) = (0) then (0 : Int32) else (if (fX1_isNumberKind v3) = (0) then (0 : Int32) else (if (fX1_isValue v0 v1) = (0) then (0 : Int32) else (if (fX1_isValue v3 v4) = (0) then (0 : Int32) else (1 : Int32)))))
def fX1_areNumbers (v0 : Int32) (v1 : Int64) (v3 : Int32) (v4 : Int64) : Int32 := fX1_areNumbers_0 v0 v1 v3 v4
def fX1_workKind_0 (v0 : Int32) (v1 : Int32) : Int32 := (imax (4 : Int32) (imax v0 v1))
def fX1_workKind (v0 : Int32) (v1 : Int32) : Int32 := fX1_workKind_0 v0 v1
def fX1_workWhole_0 (v1 : Int32) (v2 : Int32) (v3 : Int64) (v5 : Int64) (fld : Int32) : Int64 × Int32 := (if v1 = (1 : Int32) then ((fX1_narrowed v2 (v3 + v5)), fld) else (if v1 = (2 : Int32) then ((fX1_narrowed v2 (v3 - v5)), fld) else (if v1 = (3 : Int32) then ((fX1_narrowed v2 (v3 * v5)), fld) else (if v1 = (4 : Int32) then (if v5 = (0 : Int64) then (((fX1_fails (8 : Int32) (0 : Int32) fld).1).toInt64, (fX1_fails (8 : Int32) (0 : Int32) fld).2) else ((fX1_narrowed v2 (v3 / v5)), fld)) else (if v5 = (0 : Int64) then (((fX1_fails (8 : Int32) (0 : Int32) fld).1).toInt64, (fX1_fails (8 : Int32) (0 : Int32) fld).2) else ((fX1_narrowed v2 (jrem v3 v5)), fld))))))
def fX1_workWhole (v1 : Int32) (v2 : Int32) (v3 : Int64) (v5 : Int64) (fld : Int32) : Int64 × Int32 := fX1_workWhole_0 v1 v2 v3 v5 fld
def fX1_workReal_93 (v2 : Int32) (v7 : Int64) (fld : Int32) : Int64 × Int32 := (if (fX0_isNumber v2 v7) = (0) then (((fX1_fails (8 : Int32) (0 : Int32) fld).1).toInt64, (fX1_fails (8 : Int32) (0 : Int32) fld).2) else (v7, fld))
def fX1_workReal_41 (v2 : Int32) (v7 : Int64) (fld : Int32) : Int64 × Int32 := fX1_workReal_93 v2 v7 fld
def fX1_workReal_57 (v2 : Int32) (v7 : Int64) (fld : Int32) : Int64 × Int32 := fX1_workReal_93 v2 v7 fld
def fX1_workReal_69 (v2 : Int32) (v7 : Int64) (fld : Int32) : Int64 × Int32 := fX1_workReal_93 v2 v7 fld
def fX1_workReal_81 (v2 : Int32) (v7 : Int64) (fld : Int32) : Int64 × Int32 := fX1_workReal_93 v2 v7 fld
def fX1_workReal_0 (v1 : Int32) (v2 : Int32) (v3 : Int64) (v5 : Int64) (fld : Int32) : Int64 × Int32 := (if v1 = (1 : Int32) then fX1_workReal_41 v2 (fX0_sum v2 v3 v5) fld else (if v1 = (2 : Int32) then fX1_workReal_57 v2 (fX0_sum v2 v3 (fX0_negated v2 v5)) fld else (if v1 = (3 : Int32) then fX1_workReal_69 v2 (fX0_product v2 v3 v5) fld else (if v1 = (4 : Int32) then fX1_workReal_81 v2 (fX0_quotient v2 v3 v5) fld else fX1_workReal_93 v2 (fX0_rest v2 v3 v5) fld))))
def fX1_workReal (v1 : Int32) (v2 : Int32) (v3 : Int64) (v5 : Int64) (fld : Int32) : Int64 × Int32 := fX1_workReal_0 v1 v2 v3 v5 fld
def fX1_work_22 (fld : Int32) : Int64 × Int32 := (((fX1_fails (1 : Int32) (0 : Int32) fld).1).toInt64, (fX1_fails (1 : Int32) (0 : Int32) fld).2)
def fX1_work_63 (v1 : Int32) (v8 : Int32) (v9 : Int64) (v11 : Int64) (fld : Int32) : Int64 × Int32 := (if v8 < (6 : Int32) then ((fX1_workWhole v1 v8 v9 v11 fld).1, (fX1_workWhole v1 v8 v9 v11 fld).2) else ((fX1_workReal v1 v8 v9 v11 fld).1, (fX1_workReal v1 v8 v9 v11 fld).2))
def fX1_work_52 (v1 : Int32) (v5 : Int32) (v6 : Int64) (v8 : Int32) (v9 : Int64) (fld : Int32) : Int64 × Int32 := fX1_work_63 v1 v8 v9 (fX1_converted v5 v8 v6) fld
def fX1_work_43 (v1 : Int32) (v2 : Int32) (v3 : Int64) (v5 : Int32) (v6 : Int64) (v8 : Int32) (fld : Int32) : Int64 × Int32 := fX1_work_52 v1 v5 v6 v8 (fX1_converted v2 v8 v3) fld
def fX1_work_0 (v1 : Int32) (v2 : Int32) (v3 : Int64) (v5 : Int32) (v6 : Int64) (fld : Int32) : Int64 × Int32 := (if v1 < (1 : Int32) then fX1_work_22 fld else (if (5 : Int32) < v1 then fX1_work_22 fld else (if (fX1_areNumbers v2 v3 v5 v6) = (0) then fX1_work_22 fld else fX1_work_43 v1 v2 v3 v5 v6 (fX1_workKind v2 v5) (0 : Int32))))
def fX1_work (v1 : Int32) (v2 : Int32) (v3 : Int64) (v5 : Int32) (v6 : Int64) (fld : Int32) : Int64 × Int32 := fX1_work_0 v1 v2 v3 v5 v6 fld
def fX1_shiftedLong_0 (v0 : Int32) (v1 : Int64) (v3 : Int32) : Int64 := (if v0 = (6 : Int32) then (jshl v1 v3) else (if v0 = (7 : Int32) then (jshr v1 v3) else (jushr v1 v3)))
def fX1_shiftedLong (v0 : Int32) (v1 : Int64) (v3 : Int32) : Int64 := fX1_shiftedLong_0 v0 v1 v3
def fX1_shiftedInt_0 (v0 : Int32) (v1 : Int32) (v2 : Int32) : Int64 := (if v0 = (6 : Int32) then (ishl v1 v2).toInt64 else (if v0 = (7 : Int32) then (ishr v1 v2).toInt64 else (iushr v1 v2).toInt64))
def fX1_shiftedInt (v0 : Int32) (v1 : Int32) (v2 : Int32) : Int64 := fX1_shiftedInt_0 v0 v1 v2
def fX1_shift_42 (fld : Int32) : Int64 × Int32 := (((fX1_fails (1 : Int32) (0 : Int32) fld).1).toInt64, (fX1_fails (1 : Int32) (0 : Int32) fld).2)
def fX1_shift_17 (v1 : Int32) (v2 : Int32) (v3 : Int64) (v5 : Int64) (s0 : Int32) (fld : Int32) : Int64 × Int32 := (if s0 = (0) then fX1_shift_42 fld else (if v2 < (1 : Int32) then fX1_shift_42 fld else (if (5 : Int32) < v2 then fX1_shift_42 fld else (if (fX1_isValue v2 v3) = (0) then fX1_shift_42 fld else (if v2 = (5 : Int32) then ((fX1_shiftedLong v1 v3 ((v5 &&& (63 : Int64)).toInt32)), (0 : Int32)) else ((fX1_shiftedInt v1 (v3.toInt32) ((v5 &&& (31 : Int64)).toInt32)), (0 : Int32)))))))
def fX1_shift_16 (v1 : Int32) (v2 : Int32) (v3 : Int64) (v5 : Int64) (fld : Int32) : Int64 × Int32 := fX1_shift_17 v1 v2 v3 v5 (0 : Int32) fld
def fX1_shift_0 (v1 : Int32) (v2 : Int32) (v3 : Int64) (v5 : Int64) (fld : Int32) : Int64 × Int32 := (if v1 < (6 : Int32) then fX1_shift_16 v1 v2 v3 v5 fld else (if (8 : Int32) < v1 then fX1_shift_16 v1 v2 v3 v5 fld else fX1_shift_17 v1 v2 v3 v5 (1 : Int32) fld))
def fX1_shift (v1 : Int32) (v2 : Int32) (v3 : Int64) (v5 : Int64) (fld : Int32) : Int64 × Int32 := fX1_shift_0 v1 v2 v3 v5 fld
def fX1_sideOf_0 (v0 : Int64) (v2 : Int64) : Int32 := (if v0 = v2 then (0 : Int32) else (if v0 < v2 then (-1 : Int32) else (1 : Int32)))
def fX1_sideOf (v0 : Int64) (v2 : Int64) : Int32 := fX1_sideOf_0 v0 v2
def fX1_compare_52 (v7 : Int32) (v8 : Int64) (v10 : Int64) (fld : Int32) : Int32 × Int32 := (if v7 < (6 : Int32) then ((fX1_sideOf v8 v10), fld) else ((fX1_sideOf (fX0_place v7 v8) (fX0_place v7 v10)), fld))
def fX1_compare_41 (v4 : Int32) (v5 : Int64) (v7 : Int32) (v8 : Int64) (fld : Int32) : Int32 × Int32 := fX1_compare_52 v7 v8 (fX1_converted v4 v7 v5) fld
def fX1_compare_32 (v1 : Int32) (v2 : Int64) (v4 : Int32) (v5 : Int64) (v7 : Int32) (fld : Int32) : Int32 × Int32 := fX1_compare_41 v4 v5 v7 (fX1_converted v1 v7 v2) fld
def fX1_compare_0 (v1 : Int32) (v2 : Int64) (v4 : Int32) (v5 : Int64) (fld : Int32) : Int32 × Int32 := (if (fX1_areNumbers v1 v2 v4 v5) = (0) then ((fX1_fails (1 : Int32) (2 : Int32) fld).1, (fX1_fails (1 : Int32) (2 : Int32) fld).2) else fX1_compare_32 v1 v2 v4 v5 (fX1_workKind v1 v4) (0 : Int32))
def fX1_compare (v1 : Int32) (v2 : Int64) (v4 : Int32) (v5 : Int64) (fld : Int32) : Int32 × Int32 := fX1_compare_0 v1 v2 v4 v5 fld
def fX1_order_17 (fld : Int32) : Int32 × Int32 := ((fX1_fails (1 : Int32) (2 : Int32) fld).1, (fX1_fails (1 : Int32) (2 : Int32) fld).2)
def fX1_order_0 (v1 : Int32) (v2 : Int64) (v4 : Int64) (fld : Int32) : Int32 × Int32 := (if (fX1_isValue v1 v2) = (0) then fX1_order_17 fld else (if (fX1_isValue v1 v4) = (0) then fX1_order_17 fld else (if v1 < (6 : Int32) then ((fX1_sideOf v2 v4), (0 : Int32)) else ((fX1_sideOf (fX0_placeWithZerosApart v1 v2) (fX0_placeWithZerosApart v1 v4)), (0 : Int32)))))
def fX1_order (v1 : Int32) (v2 : Int64) (v4 : Int64) (fld : Int32) : Int32 × Int32 := fX1_order_0 v1 v2 v4 fld
def fX1_failed_0 (fld : Int32) : Int32 × Int32 := (fld, fld)
def fX1_failed  (fld : Int32) : Int32 × Int32 := fX1_failed_0 fld
def fX2_isNone_0 (v0 : Int64) : Int32 := (if (9218868437227405312 : Int64) < (v0 &&& (9223372036854775807 : Int64)) then (1 : Int32) else (0 : Int32))
def fX2_isNone (v0 : Int64) : Int32 := fX2_isNone_0 v0
def fX2_isInfinite_0 (v0 : Int64) : Int32 := (if (v0 &&& (9223372036854775807 : Int64)) = (9218868437227405312 : Int64) then (1 : Int32) else (0 : Int32))
def fX2_isInfinite (v0 : Int64) : Int32 := fX2_isInfinite_0 v0
def fX2_isZero_0 (v0 : Int64) : Int32 := (if (v0 &&& (9223372036854775807 : Int64)) = (0 : Int64) then (1 : Int32) else (0 : Int32))
def fX2_isZero (v0 : Int64) : Int32 := fX2_isZero_0 v0
def fX2_negative_0 (v0 : Int64) : Int64 := (v0 ^^^ (-9223372036854775808 : Int64))
def fX2_negative (v0 : Int64) : Int64 := fX2_negative_0 v0
def fX2_exponent_31 : Nat → Int32 → Int64 → Int32
  | 0, _, _ => 0
  | fuel + 1, v3, v4 => (if v4 < (4503599627370496 : Int64) then fX2_exponent_31 fuel (v3 + (-1 : Int32)) (jshl v4 (1 : Int32)) else v3)
def okX2_exponent_31 : Nat → Int32 → Int64 → Prop
  | 0, _, _ => False
  | fuel + 1, v3, v4 => ((v4 < (4503599627370496 : Int64) → okX2_exponent_31 fuel (v3 + (-1 : Int32)) (jshl v4 (1 : Int32))) ∧ (¬ v4 < (4503599627370496 : Int64) → True))
def fX2_exponent_10 (v0 : Int64) (v2 : Int32) : Int32 := (if (0) < v2 then (v2 - (1075 : Int32)) else fX2_exponent_31 64 (-1074 : Int32) (v0 &&& (4503599627370495 : Int64)))
def okX2_exponent_10 (v0 : Int64) (v2 : Int32) : Prop := (((0) < v2 → True) ∧ (¬ (0) < v2 → okX2_exponent_31 64 (-1074 : Int32) (v0 &&& (4503599627370495 : Int64))))
def fX2_exponent_0 (v0 : Int64) : Int32 := fX2_exponent_10 v0 (((jshr v0 (52 : Int32)) &&& (2047 : Int64)).toInt32)
def okX2_exponent_0 (v0 : Int64) : Prop := okX2_exponent_10 v0 (((jshr v0 (52 : Int32)) &&& (2047 : Int64)).toInt32)
def fX2_exponent (v0 : Int64) : Int32 := fX2_exponent_0 v0
def okX2_exponent (v0 : Int64) : Prop := okX2_exponent_0 v0
def fX2_significand_25 : Nat → Int64 → Int64
  | 0, _ => 0
  | fuel + 1, v2 => (if v2 < (4503599627370496 : Int64) then fX2_significand_25 fuel (jshl v2 (1 : Int32)) else v2)
def okX2_significand_25 : Nat → Int64 → Prop
  | 0, _ => False
  | fuel + 1, v2 => ((v2 < (4503599627370496 : Int64) → okX2_significand_25 fuel (jshl v2 (1 : Int32))) ∧ (¬ v2 < (4503599627370496 : Int64) → True))
def fX2_significand_6 (v0 : Int64) (v2 : Int64) : Int64 := (if (0 : Int64) < ((jshr v0 (52 : Int32)) &&& (2047 : Int64)) then (v2 ||| (4503599627370496 : Int64)) else fX2_significand_25 64 v2)
def okX2_significand_6 (v0 : Int64) (v2 : Int64) : Prop := (((0 : Int64) < ((jshr v0 (52 : Int32)) &&& (2047 : Int64)) → True) ∧ (¬ (0 : Int64) < ((jshr v0 (52 : Int32)) &&& (2047 : Int64)) → okX2_significand_25 64 v2))
def fX2_significand_0 (v0 : Int64) : Int64 := fX2_significand_6 v0 (v0 &&& (4503599627370495 : Int64))
def okX2_significand_0 (v0 : Int64) : Prop := okX2_significand_6 v0 (v0 &&& (4503599627370495 : Int64))
def fX2_significand (v0 : Int64) : Int64 := fX2_significand_0 v0
def okX2_significand (v0 : Int64) : Prop := okX2_significand_0 v0
def fX2_rounded_152 (v4 : Int32) (v9 : Int32) (v12 : Int64) : Int64 := (if (0) < v9 then ((jshl ((v9 - (1 : Int32)).toInt64) (v4 - (1 : Int32))) + v12) else v12)
def fX2_rounded_146 (v4 : Int32) (v9 : Int32) (v12 : Int64) : Int64 := fX2_rounded_152 v4 v9 (v12 + (1 : Int64))
def fX2_rounded_117 (v3 : Int32) (v4 : Int32) (v9 : Int32) (v12 : Int64) (v14 : Int64) (v16 : Int64) : Int64 := (if v16 < v14 then fX2_rounded_146 v4 v9 v12 else (if v14 = v16 then (if v3 = (0) then (if (v12 &&& (1 : Int64)) = (1 : Int64) then fX2_rounded_146 v4 v9 v12 else fX2_rounded_152 v4 v9 v12) else fX2_rounded_146 v4 v9 v12) else fX2_rounded_152 v4 v9 v12))
def fX2_rounded_109 (v3 : Int32) (v4 : Int32) (v9 : Int32) (v11 : Int32) (v12 : Int64) (v14 : Int64) : Int64 := fX2_rounded_117 v3 v4 v9 v12 v14 (jshl (1 : Int64) (v11 - (1 : Int32)))
def fX2_rounded_98 (v3 : Int32) (v4 : Int32) (v6 : Int64) (v9 : Int32) (v11 : Int32) (v12 : Int64) : Int64 := fX2_rounded_109 v3 v4 v9 v11 v12 (v6 &&& ((jshl (1 : Int64) v11) - (1 : Int64)))
def fX2_rounded_82 (v3 : Int32) (v4 : Int32) (v6 : Int64) (v9 : Int32) (v11 : Int32) : Int64 := (if (62 : Int32) < v11 then (0 : Int64) else fX2_rounded_98 v3 v4 v6 v9 v11 (jushr v6 v11))
def fX2_rounded_68 (v3 : Int32) (v4 : Int32) (v6 : Int64) (v9 : Int32) (v11 : Int32) : Int64 := (if (0) < v9 then fX2_rounded_82 v3 v4 v6 v9 v11 else fX2_rounded_82 v3 v4 v6 v9 ((v11 + (1 : Int32)) - v9))
def fX2_rounded_45 (v3 : Int32) (v4 : Int32) (v6 : Int64) (v9 : Int32) (v10 : Int32) : Int64 := (if v9 < v10 then fX2_rounded_68 v3 v4 v6 v9 ((62 : Int32) - v4) else (jshl (v10.toInt64) (v4 - (1 : Int32))))
def fX2_rounded_37 (v3 : Int32) (v4 : Int32) (v5 : Int32) (v6 : Int64) (v9 : Int32) : Int64 := fX2_rounded_45 v3 v4 v6 v9 (((2 : Int32) * v5) + (1 : Int32))
def fX2_rounded_27 (v3 : Int32) (v4 : Int32) (v5 : Int32) (v6 : Int64) (v8 : Int32) : Int64 := fX2_rounded_37 v3 v4 v5 v6 ((v8 + (61 : Int32)) + v5)
def fX2_rounded_6 : Nat → Int32 → Int32 → Int32 → Int64 → Int32 → Int64
  | 0, _, _, _, _, _ => 0
  | fuel + 1, v3, v4, v5, v6, v8 => (if v6 < (2305843009213693952 : Int64) then fX2_rounded_6 fuel v3 v4 v5 (jshl v6 (1 : Int32)) (v8 + (-1 : Int32)) else fX2_rounded_27 v3 v4 v5 v6 v8)
def okX2_rounded_6 : Nat → Int32 → Int32 → Int32 → Int64 → Int32 → Prop
  | 0, _, _, _, _, _ => False
  | fuel + 1, v3, v4, v5, v6, v8 => ((v6 < (2305843009213693952 : Int64) → okX2_rounded_6 fuel v3 v4 v5 (jshl v6 (1 : Int32)) (v8 + (-1 : Int32))) ∧ (¬ v6 < (2305843009213693952 : Int64) → True))
def fX2_rounded_0 (v0 : Int64) (v2 : Int32) (v3 : Int32) (v4 : Int32) (v5 : Int32) : Int64 := fX2_rounded_6 64 v3 v4 v5 v0 v2
def okX2_rounded_0 (v0 : Int64) (v2 : Int32) (v3 : Int32) (v4 : Int32) (v5 : Int32) : Prop := okX2_rounded_6 64 v3 v4 v5 v0 v2
def fX2_rounded (v0 : Int64) (v2 : Int32) (v3 : Int32) (v4 : Int32) (v5 : Int32) : Int64 := fX2_rounded_0 v0 v2 v3 v4 v5
def okX2_rounded (v0 : Int64) (v2 : Int32) (v3 : Int32) (v4 : Int32) (v5 : Int32) : Prop := okX2_rounded_0 v0 v2 v3 v4 v5
def fX2_made_14 (v0 : Int32) (v5 : Int64) : Int64 := (if v0 = (0) then v5 else (v5 ||| (-9223372036854775808 : Int64)))
def fX2_made_0 (v0 : Int32) (v1 : Int64) (v3 : Int32) (v4 : Int32) : Int64 := fX2_made_14 v0 (fX2_rounded v1 v3 v4 (53 : Int32) (1023 : Int32))
def okX2_made_0 (v0 : Int32) (v1 : Int64) (v3 : Int32) (v4 : Int32) : Prop := (okX2_rounded v1 v3 v4 (53 : Int32) (1023 : Int32)) ∧ True
def fX2_made (v0 : Int32) (v1 : Int64) (v3 : Int32) (v4 : Int32) : Int64 := fX2_made_0 v0 v1 v3 v4
def okX2_made (v0 : Int32) (v1 : Int64) (v3 : Int32) (v4 : Int32) : Prop := okX2_made_0 v0 v1 v3 v4
def fX2_add_14 (v0 : Int64) (v2 : Int64) : Int64 := (if (fX2_isZero v0) = (0) then v0 else (if (fX2_isZero v2) = (0) then v0 else (v0 &&& v2)))
def fX2_add_242 (v9 : Int32) (v11 : Int64) (v15 : Int64) (v17 : Int32) (s0 : Int32) : Int64 := (fX2_made s0 (v11 + v15) v9 v17)
def okX2_add_242 (v9 : Int32) (v11 : Int64) (v15 : Int64) (v17 : Int32) (s0 : Int32) : Prop := (okX2_made s0 (v11 + v15) v9 v17) ∧ True
def fX2_add_302 (v9 : Int32) (v17 : Int32) (v18 : Int64) (s0 : Int32) : Int64 := (fX2_made s0 v18 v9 v17)
def okX2_add_302 (v9 : Int32) (v17 : Int32) (v18 : Int64) (s0 : Int32) : Prop := (okX2_made s0 v18 v9 v17) ∧ True
def fX2_add_290 (v5 : Int64) (v9 : Int32) (v17 : Int32) (v18 : Int64) : Int64 := (if v5 < (0 : Int64) then fX2_add_302 v9 v17 v18 (1 : Int32) else fX2_add_302 v9 v17 v18 (0 : Int32))
def okX2_add_290 (v5 : Int64) (v9 : Int32) (v17 : Int32) (v18 : Int64) : Prop := ((v5 < (0 : Int64) → okX2_add_302 v9 v17 v18 (1 : Int32)) ∧ (¬ v5 < (0 : Int64) → okX2_add_302 v9 v17 v18 (0 : Int32)))
def fX2_add_274 (v5 : Int64) (v9 : Int32) (v17 : Int32) (v18 : Int64) : Int64 := (if v18 = (0 : Int64) then (if v17 = (0) then (0 : Int64) else fX2_add_290 v5 v9 v17 v18) else fX2_add_290 v5 v9 v17 v18)
def okX2_add_274 (v5 : Int64) (v9 : Int32) (v17 : Int32) (v18 : Int64) : Prop := ((v18 = (0 : Int64) → ((v17 = (0) → True) ∧ (¬ v17 = (0) → okX2_add_290 v5 v9 v17 v18))) ∧ (¬ v18 = (0 : Int64) → okX2_add_290 v5 v9 v17 v18))
def fX2_add_270 (v5 : Int64) (v9 : Int32) (v17 : Int32) (s0 : Int64) (s1 : Int32) : Int64 := fX2_add_274 v5 v9 v17 (s0 - (s1.toInt64))
def okX2_add_270 (v5 : Int64) (v9 : Int32) (v17 : Int32) (s0 : Int64) (s1 : Int32) : Prop := okX2_add_274 v5 v9 v17 (s0 - (s1.toInt64))
def fX2_add_227 (v5 : Int64) (v9 : Int32) (v11 : Int64) (v15 : Int64) (v17 : Int32) (s0 : Int32) (s1 : Int32) : Int64 := (if s0 = s1 then (if v5 < (0 : Int64) then fX2_add_242 v9 v11 v15 v17 (1 : Int32) else fX2_add_242 v9 v11 v15 v17 (0 : Int32)) else (if v17 = (0) then fX2_add_270 v5 v9 v17 (v11 - v15) (0 : Int32) else fX2_add_270 v5 v9 v17 (v11 - v15) (1 : Int32)))
def okX2_add_227 (v5 : Int64) (v9 : Int32) (v11 : Int64) (v15 : Int64) (v17 : Int32) (s0 : Int32) (s1 : Int32) : Prop := ((s0 = s1 → ((v5 < (0 : Int64) → okX2_add_242 v9 v11 v15 v17 (1 : Int32)) ∧ (¬ v5 < (0 : Int64) → okX2_add_242 v9 v11 v15 v17 (0 : Int32)))) ∧ (¬ s0 = s1 → ((v17 = (0) → okX2_add_270 v5 v9 v17 (v11 - v15) (0 : Int32)) ∧ (¬ v17 = (0) → okX2_add_270 v5 v9 v17 (v11 - v15) (1 : Int32)))))
def fX2_add_215 (v5 : Int64) (v7 : Int64) (v9 : Int32) (v11 : Int64) (v15 : Int64) (v17 : Int32) (s0 : Int32) : Int64 := (if v7 < (0 : Int64) then fX2_add_227 v5 v9 v11 v15 v17 s0 (1 : Int32) else fX2_add_227 v5 v9 v11 v15 v17 s0 (0 : Int32))
def okX2_add_215 (v5 : Int64) (v7 : Int64) (v9 : Int32) (v11 : Int64) (v15 : Int64) (v17 : Int32) (s0 : Int32) : Prop := ((v7 < (0 : Int64) → okX2_add_227 v5 v9 v11 v15 v17 s0 (1 : Int32)) ∧ (¬ v7 < (0 : Int64) → okX2_add_227 v5 v9 v11 v15 v17 s0 (0 : Int32)))
def fX2_add_201 (v5 : Int64) (v7 : Int64) (v9 : Int32) (v11 : Int64) (v15 : Int64) (s0 : Int32) : Int64 := (if v5 < (0 : Int64) then fX2_add_215 v5 v7 v9 v11 v15 s0 (1 : Int32) else fX2_add_215 v5 v7 v9 v11 v15 s0 (0 : Int32))
def okX2_add_201 (v5 : Int64) (v7 : Int64) (v9 : Int32) (v11 : Int64) (v15 : Int64) (s0 : Int32) : Prop := ((v5 < (0 : Int64) → okX2_add_215 v5 v7 v9 v11 v15 s0 (1 : Int32)) ∧ (¬ v5 < (0 : Int64) → okX2_add_215 v5 v7 v9 v11 v15 s0 (0 : Int32)))
def fX2_add_196 (v5 : Int64) (v7 : Int64) (v9 : Int32) (v11 : Int64) (v15 : Int64) : Int64 := fX2_add_201 v5 v7 v9 v11 v15 (1 : Int32)
def okX2_add_196 (v5 : Int64) (v7 : Int64) (v9 : Int32) (v11 : Int64) (v15 : Int64) : Prop := okX2_add_201 v5 v7 v9 v11 v15 (1 : Int32)
def fX2_add_176 (v5 : Int64) (v7 : Int64) (v9 : Int32) (v10 : Int32) (v11 : Int64) (v13 : Int64) (s0 : Int64) : Int64 := (if (62 : Int32) < v10 then fX2_add_196 v5 v7 v9 v11 s0 else (if (jshl s0 v10) = v13 then fX2_add_201 v5 v7 v9 v11 s0 (0 : Int32) else fX2_add_196 v5 v7 v9 v11 s0))
def okX2_add_176 (v5 : Int64) (v7 : Int64) (v9 : Int32) (v10 : Int32) (v11 : Int64) (v13 : Int64) (s0 : Int64) : Prop := (((62 : Int32) < v10 → okX2_add_196 v5 v7 v9 v11 s0) ∧ (¬ (62 : Int32) < v10 → (((jshl s0 v10) = v13 → okX2_add_201 v5 v7 v9 v11 s0 (0 : Int32)) ∧ (¬ (jshl s0 v10) = v13 → okX2_add_196 v5 v7 v9 v11 s0))))
def fX2_add_160 (v5 : Int64) (v7 : Int64) (v9 : Int32) (v10 : Int32) (v11 : Int64) (v13 : Int64) : Int64 := (if (62 : Int32) < v10 then fX2_add_176 v5 v7 v9 v10 v11 v13 (0 : Int64) else fX2_add_176 v5 v7 v9 v10 v11 v13 (jushr v13 v10))
def okX2_add_160 (v5 : Int64) (v7 : Int64) (v9 : Int32) (v10 : Int32) (v11 : Int64) (v13 : Int64) : Prop := (((62 : Int32) < v10 → okX2_add_176 v5 v7 v9 v10 v11 v13 (0 : Int64)) ∧ (¬ (62 : Int32) < v10 → okX2_add_176 v5 v7 v9 v10 v11 v13 (jushr v13 v10)))
def fX2_add_150 (v5 : Int64) (v7 : Int64) (v9 : Int32) (v10 : Int32) (v11 : Int64) : Int64 := fX2_add_160 v5 v7 v9 v10 v11 (jshl (fX2_significand v7) (8 : Int32))
def okX2_add_150 (v5 : Int64) (v7 : Int64) (v9 : Int32) (v10 : Int32) (v11 : Int64) : Prop := (okX2_significand v7) ∧ okX2_add_160 v5 v7 v9 v10 v11 (jshl (fX2_significand v7) (8 : Int32))
def fX2_add_140 (v5 : Int64) (v7 : Int64) (v9 : Int32) (v10 : Int32) : Int64 := fX2_add_150 v5 v7 v9 v10 (jshl (fX2_significand v5) (8 : Int32))
def okX2_add_140 (v5 : Int64) (v7 : Int64) (v9 : Int32) (v10 : Int32) : Prop := (okX2_significand v5) ∧ okX2_add_150 v5 v7 v9 v10 (jshl (fX2_significand v5) (8 : Int32))
def fX2_add_127 (v5 : Int64) (v7 : Int64) (v9 : Int32) : Int64 := fX2_add_140 v5 v7 v9 ((fX2_exponent v5) - (fX2_exponent v7))
def okX2_add_127 (v5 : Int64) (v7 : Int64) (v9 : Int32) : Prop := (okX2_exponent v5) ∧ (okX2_exponent v7) ∧ okX2_add_140 v5 v7 v9 ((fX2_exponent v5) - (fX2_exponent v7))
def fX2_add_115 (v5 : Int64) (s0 : Int64) : Int64 := fX2_add_127 v5 s0 ((fX2_exponent v5) - (8 : Int32))
def okX2_add_115 (v5 : Int64) (s0 : Int64) : Prop := (okX2_exponent v5) ∧ okX2_add_127 v5 s0 ((fX2_exponent v5) - (8 : Int32))
def fX2_add_103 (v0 : Int64) (v2 : Int64) (v4 : Int32) (s0 : Int64) : Int64 := (if v4 = (0) then fX2_add_115 s0 v0 else fX2_add_115 s0 v2)
def okX2_add_103 (v0 : Int64) (v2 : Int64) (v4 : Int32) (s0 : Int64) : Prop := ((v4 = (0) → okX2_add_115 s0 v0) ∧ (¬ v4 = (0) → okX2_add_115 s0 v2))
def fX2_add_91 (v0 : Int64) (v2 : Int64) (s0 : Int32) : Int64 := (if s0 = (0) then fX2_add_103 v0 v2 s0 v2 else fX2_add_103 v0 v2 s0 v0)
def okX2_add_91 (v0 : Int64) (v2 : Int64) (s0 : Int32) : Prop := ((s0 = (0) → okX2_add_103 v0 v2 s0 v2) ∧ (¬ s0 = (0) → okX2_add_103 v0 v2 s0 v0))
def fX2_add_86 (v0 : Int64) (v2 : Int64) : Int64 := fX2_add_91 v0 v2 (1 : Int32)
def okX2_add_86 (v0 : Int64) (v2 : Int64) : Prop := okX2_add_91 v0 v2 (1 : Int32)
def fX2_add_90 (v0 : Int64) (v2 : Int64) : Int64 := fX2_add_91 v0 v2 (0 : Int32)
def okX2_add_90 (v0 : Int64) (v2 : Int64) : Prop := okX2_add_91 v0 v2 (0 : Int32)
def fX2_add_0 (v0 : Int64) (v2 : Int64) : Int64 := (if (fX2_isInfinite v0) = (0) then (if (fX2_isZero v2) = (0) then (if (fX2_isInfinite v2) = (0) then (if (fX2_isZero v0) = (0) then (if (fX2_exponent v2) < (fX2_exponent v0) then fX2_add_86 v0 v2 else (if (fX2_exponent v0) = (fX2_exponent v2) then (if (fX2_significand v0) < (fX2_significand v2) then fX2_add_90 v0 v2 else fX2_add_86 v0 v2) else fX2_add_90 v0 v2)) else v2) else v2) else fX2_add_14 v0 v2) else fX2_add_14 v0 v2)
def okX2_add_0 (v0 : Int64) (v2 : Int64) : Prop := (((fX2_isInfinite v0) = (0) → (((fX2_isZero v2) = (0) → (((fX2_isInfinite v2) = (0) → (((fX2_isZero v0) = (0) → (okX2_exponent v0) ∧ (okX2_exponent v2) ∧ (((fX2_exponent v2) < (fX2_exponent v0) → okX2_add_86 v0 v2) ∧ (¬ (fX2_exponent v2) < (fX2_exponent v0) → (okX2_exponent v0) ∧ (okX2_exponent v2) ∧ (((fX2_exponent v0) = (fX2_exponent v2) → (okX2_significand v0) ∧ (okX2_significand v2) ∧ (((fX2_significand v0) < (fX2_significand v2) → okX2_add_90 v0 v2) ∧ (¬ (fX2_significand v0) < (fX2_significand v2) → okX2_add_86 v0 v2))) ∧ (¬ (fX2_exponent v0) = (fX2_exponent v2) → okX2_add_90 v0 v2))))) ∧ (¬ (fX2_isZero v0) = (0) → True))) ∧ (¬ (fX2_isInfinite v2) = (0) → True))) ∧ (¬ (fX2_isZero v2) = (0) → True))) ∧ (¬ (fX2_isInfinite v0) = (0) → True))
def fX2_add (v0 : Int64) (v2 : Int64) : Int64 := fX2_add_0 v0 v2
def okX2_add (v0 : Int64) (v2 : Int64) : Prop := okX2_add_0 v0 v2
def fX2_multiply_174 (v0 : Int64) (v2 : Int64) (v16 : Int64) (v18 : Int64) (v20 : Int32) (s0 : Int32) : Int64 := (fX2_made s0 ((jshl v16 (8 : Int32)) ||| (jushr v18 (19 : Int32))) (((fX2_exponent v0) + (fX2_exponent v2)) + (46 : Int32)) v20)
def okX2_multiply_174 (v0 : Int64) (v2 : Int64) (v16 : Int64) (v18 : Int64) (v20 : Int32) (s0 : Int32) : Prop := (okX2_exponent v0) ∧ (okX2_exponent v2) ∧ (okX2_made s0 ((jshl v16 (8 : Int32)) ||| (jushr v18 (19 : Int32))) (((fX2_exponent v0) + (fX2_exponent v2)) + (46 : Int32)) v20) ∧ True
def fX2_multiply_160 (v0 : Int64) (v2 : Int64) (v4 : Int64) (v16 : Int64) (v18 : Int64) (s0 : Int32) : Int64 := (if v4 = (0 : Int64) then fX2_multiply_174 v0 v2 v16 v18 s0 (0 : Int32) else fX2_multiply_174 v0 v2 v16 v18 s0 (1 : Int32))
def okX2_multiply_160 (v0 : Int64) (v2 : Int64) (v4 : Int64) (v16 : Int64) (v18 : Int64) (s0 : Int32) : Prop := ((v4 = (0 : Int64) → okX2_multiply_174 v0 v2 v16 v18 s0 (0 : Int32)) ∧ (¬ v4 = (0 : Int64) → okX2_multiply_174 v0 v2 v16 v18 s0 (1 : Int32)))
def fX2_multiply_155 (v0 : Int64) (v2 : Int64) (v4 : Int64) (v16 : Int64) (v18 : Int64) : Int64 := fX2_multiply_160 v0 v2 v4 v16 v18 (1 : Int32)
def okX2_multiply_155 (v0 : Int64) (v2 : Int64) (v4 : Int64) (v16 : Int64) (v18 : Int64) : Prop := okX2_multiply_160 v0 v2 v4 v16 v18 (1 : Int32)
def fX2_multiply_134 (v0 : Int64) (v2 : Int64) (v4 : Int64) (v10 : Int64) (v12 : Int64) (v16 : Int64) (v18 : Int64) : Int64 := (if (v12 &&& v10) = (0 : Int64) then (if (v18 &&& (524287 : Int64)) = (0 : Int64) then fX2_multiply_160 v0 v2 v4 v16 v18 (0 : Int32) else fX2_multiply_155 v0 v2 v4 v16 v18) else fX2_multiply_155 v0 v2 v4 v16 v18)
def okX2_multiply_134 (v0 : Int64) (v2 : Int64) (v4 : Int64) (v10 : Int64) (v12 : Int64) (v16 : Int64) (v18 : Int64) : Prop := (((v12 &&& v10) = (0 : Int64) → (((v18 &&& (524287 : Int64)) = (0 : Int64) → okX2_multiply_160 v0 v2 v4 v16 v18 (0 : Int32)) ∧ (¬ (v18 &&& (524287 : Int64)) = (0 : Int64) → okX2_multiply_155 v0 v2 v4 v16 v18))) ∧ (¬ (v12 &&& v10) = (0 : Int64) → okX2_multiply_155 v0 v2 v4 v16 v18))
def fX2_multiply_127 (v0 : Int64) (v2 : Int64) (v4 : Int64) (v10 : Int64) (v12 : Int64) (v14 : Int64) (v16 : Int64) : Int64 := fX2_multiply_134 v0 v2 v4 v10 v12 v16 (v14 &&& v10)
def okX2_multiply_127 (v0 : Int64) (v2 : Int64) (v4 : Int64) (v10 : Int64) (v12 : Int64) (v14 : Int64) (v16 : Int64) : Prop := okX2_multiply_134 v0 v2 v4 v10 v12 v16 (v14 &&& v10)
def fX2_multiply_108 (v0 : Int64) (v2 : Int64) (v4 : Int64) (v6 : Int64) (v8 : Int64) (v10 : Int64) (v12 : Int64) (v14 : Int64) : Int64 := fX2_multiply_127 v0 v2 v4 v10 v12 v14 (((jushr v6 (27 : Int32)) * (jushr v8 (27 : Int32))) + (jushr v14 (27 : Int32)))
def okX2_multiply_108 (v0 : Int64) (v2 : Int64) (v4 : Int64) (v6 : Int64) (v8 : Int64) (v10 : Int64) (v12 : Int64) (v14 : Int64) : Prop := okX2_multiply_127 v0 v2 v4 v10 v12 v14 (((jushr v6 (27 : Int32)) * (jushr v8 (27 : Int32))) + (jushr v14 (27 : Int32)))
def fX2_multiply_77 (v0 : Int64) (v2 : Int64) (v4 : Int64) (v6 : Int64) (v8 : Int64) (v10 : Int64) (v12 : Int64) : Int64 := fX2_multiply_108 v0 v2 v4 v6 v8 v10 v12 ((((jushr v6 (27 : Int32)) * (v8 &&& v10)) + ((v6 &&& v10) * (jushr v8 (27 : Int32)))) + (jushr v12 (27 : Int32)))
def okX2_multiply_77 (v0 : Int64) (v2 : Int64) (v4 : Int64) (v6 : Int64) (v8 : Int64) (v10 : Int64) (v12 : Int64) : Prop := okX2_multiply_108 v0 v2 v4 v6 v8 v10 v12 ((((jushr v6 (27 : Int32)) * (v8 &&& v10)) + ((v6 &&& v10) * (jushr v8 (27 : Int32)))) + (jushr v12 (27 : Int32)))
def fX2_multiply_59 (v0 : Int64) (v2 : Int64) (v4 : Int64) (v6 : Int64) (v8 : Int64) : Int64 := fX2_multiply_77 v0 v2 v4 v6 v8 (134217727 : Int64) ((v6 &&& (134217727 : Int64)) * (v8 &&& (134217727 : Int64)))
def okX2_multiply_59 (v0 : Int64) (v2 : Int64) (v4 : Int64) (v6 : Int64) (v8 : Int64) : Prop := okX2_multiply_77 v0 v2 v4 v6 v8 (134217727 : Int64) ((v6 &&& (134217727 : Int64)) * (v8 &&& (134217727 : Int64)))
def fX2_multiply_53 (v0 : Int64) (v2 : Int64) (v4 : Int64) (v6 : Int64) : Int64 := fX2_multiply_59 v0 v2 v4 v6 (fX2_significand v2)
def okX2_multiply_53 (v0 : Int64) (v2 : Int64) (v4 : Int64) (v6 : Int64) : Prop := (okX2_significand v2) ∧ okX2_multiply_59 v0 v2 v4 v6 (fX2_significand v2)
def fX2_multiply_9 (v0 : Int64) (v2 : Int64) (v4 : Int64) : Int64 := (if (fX2_isInfinite v0) = (0) then (if (fX2_isInfinite v2) = (0) then (if (fX2_isZero v0) = (0) then (if (fX2_isZero v2) = (0) then fX2_multiply_53 v0 v2 v4 (fX2_significand v0) else v4) else v4) else (v4 ||| (9218868437227405312 : Int64))) else (v4 ||| (9218868437227405312 : Int64)))
def okX2_multiply_9 (v0 : Int64) (v2 : Int64) (v4 : Int64) : Prop := (((fX2_isInfinite v0) = (0) → (((fX2_isInfinite v2) = (0) → (((fX2_isZero v0) = (0) → (((fX2_isZero v2) = (0) → (okX2_significand v0) ∧ okX2_multiply_53 v0 v2 v4 (fX2_significand v0)) ∧ (¬ (fX2_isZero v2) = (0) → True))) ∧ (¬ (fX2_isZero v0) = (0) → True))) ∧ (¬ (fX2_isInfinite v2) = (0) → True))) ∧ (¬ (fX2_isInfinite v0) = (0) → True))
def fX2_multiply_0 (v0 : Int64) (v2 : Int64) : Int64 := fX2_multiply_9 v0 v2 ((v0 ^^^ v2) &&& (-9223372036854775808 : Int64))
def okX2_multiply_0 (v0 : Int64) (v2 : Int64) : Prop := okX2_multiply_9 v0 v2 ((v0 ^^^ v2) &&& (-9223372036854775808 : Int64))
def fX2_multiply (v0 : Int64) (v2 : Int64) : Int64 := fX2_multiply_0 v0 v2
def okX2_multiply (v0 : Int64) (v2 : Int64) : Prop := okX2_multiply_0 v0 v2
def fX2_divide_149 (s0 : Int32) (s1 : Int64) (s2 : Int32) (s3 : Int32) : Int64 := (fX2_made s0 s1 s2 s3)
def okX2_divide_149 (s0 : Int32) (s1 : Int64) (s2 : Int32) (s3 : Int32) : Prop := (okX2_made s0 s1 s2 s3) ∧ True
def fX2_divide_123 (v0 : Int64) (v2 : Int64) (v6 : Int64) (v10 : Int64) (s0 : Int32) : Int64 := (if v6 = (0 : Int64) then fX2_divide_149 s0 v10 (((fX2_exponent v0) - (fX2_exponent v2)) - (56 : Int32)) (0 : Int32) else fX2_divide_149 s0 v10 (((fX2_exponent v0) - (fX2_exponent v2)) - (56 : Int32)) (1 : Int32))
def okX2_divide_123 (v0 : Int64) (v2 : Int64) (v6 : Int64) (v10 : Int64) (s0 : Int32) : Prop := (okX2_exponent v0) ∧ (okX2_exponent v2) ∧ ((v6 = (0 : Int64) → okX2_divide_149 s0 v10 (((fX2_exponent v0) - (fX2_exponent v2)) - (56 : Int32)) (0 : Int32)) ∧ (¬ v6 = (0 : Int64) → okX2_divide_149 s0 v10 (((fX2_exponent v0) - (fX2_exponent v2)) - (56 : Int32)) (1 : Int32)))
def fX2_divide_111 (v0 : Int64) (v2 : Int64) (v4 : Int64) (v6 : Int64) (v10 : Int64) : Int64 := (if v4 = (0 : Int64) then fX2_divide_123 v0 v2 v6 v10 (0 : Int32) else fX2_divide_123 v0 v2 v6 v10 (1 : Int32))
def okX2_divide_111 (v0 : Int64) (v2 : Int64) (v4 : Int64) (v6 : Int64) (v10 : Int64) : Prop := ((v4 = (0 : Int64) → okX2_divide_123 v0 v2 v6 v10 (0 : Int32)) ∧ (¬ v4 = (0 : Int64) → okX2_divide_123 v0 v2 v6 v10 (1 : Int32)))
def fX2_divide_65 : Nat → Int64 → Int64 → Int64 → Int64 → Int64 → Int64 → Int32 → Int64
  | 0, _, _, _, _, _, _, _ => 0
  | fuel + 1, v0, v2, v4, v6, v8, v10, v12 => (if v12 < (57 : Int32) then (if v6 < v8 then fX2_divide_65 fuel v0 v2 v4 (jshl v6 (1 : Int32)) v8 (jshl v10 (1 : Int32)) (v12 + (1 : Int32)) else fX2_divide_65 fuel v0 v2 v4 (jshl (v6 - v8) (1 : Int32)) v8 ((jshl v10 (1 : Int32)) ||| (1 : Int64)) (v12 + (1 : Int32))) else fX2_divide_111 v0 v2 v4 v6 v10)
def okX2_divide_65 : Nat → Int64 → Int64 → Int64 → Int64 → Int64 → Int64 → Int32 → Prop
  | 0, _, _, _, _, _, _, _ => False
  | fuel + 1, v0, v2, v4, v6, v8, v10, v12 => ((v12 < (57 : Int32) → ((v6 < v8 → okX2_divide_65 fuel v0 v2 v4 (jshl v6 (1 : Int32)) v8 (jshl v10 (1 : Int32)) (v12 + (1 : Int32))) ∧ (¬ v6 < v8 → okX2_divide_65 fuel v0 v2 v4 (jshl (v6 - v8) (1 : Int32)) v8 ((jshl v10 (1 : Int32)) ||| (1 : Int64)) (v12 + (1 : Int32))))) ∧ (¬ v12 < (57 : Int32) → okX2_divide_111 v0 v2 v4 v6 v10))
def fX2_divide_59 (v0 : Int64) (v2 : Int64) (v4 : Int64) (v6 : Int64) (v8 : Int64) : Int64 := fX2_divide_65 64 v0 v2 v4 v6 v8 (0 : Int64) (0 : Int32)
def okX2_divide_59 (v0 : Int64) (v2 : Int64) (v4 : Int64) (v6 : Int64) (v8 : Int64) : Prop := okX2_divide_65 64 v0 v2 v4 v6 v8 (0 : Int64) (0 : Int32)
def fX2_divide_53 (v0 : Int64) (v2 : Int64) (v4 : Int64) (v6 : Int64) : Int64 := fX2_divide_59 v0 v2 v4 v6 (fX2_significand v2)
def okX2_divide_53 (v0 : Int64) (v2 : Int64) (v4 : Int64) (v6 : Int64) : Prop := (okX2_significand v2) ∧ okX2_divide_59 v0 v2 v4 v6 (fX2_significand v2)
def fX2_divide_9 (v0 : Int64) (v2 : Int64) (v4 : Int64) : Int64 := (if (fX2_isInfinite v0) = (0) then (if (fX2_isZero v2) = (0) then (if (fX2_isZero v0) = (0) then (if (fX2_isInfinite v2) = (0) then fX2_divide_53 v0 v2 v4 (fX2_significand v0) else v4) else v4) else (v4 ||| (9218868437227405312 : Int64))) else (v4 ||| (9218868437227405312 : Int64)))
def okX2_divide_9 (v0 : Int64) (v2 : Int64) (v4 : Int64) : Prop := (((fX2_isInfinite v0) = (0) → (((fX2_isZero v2) = (0) → (((fX2_isZero v0) = (0) → (((fX2_isInfinite v2) = (0) → (okX2_significand v0) ∧ okX2_divide_53 v0 v2 v4 (fX2_significand v0)) ∧ (¬ (fX2_isInfinite v2) = (0) → True))) ∧ (¬ (fX2_isZero v0) = (0) → True))) ∧ (¬ (fX2_isZero v2) = (0) → True))) ∧ (¬ (fX2_isInfinite v0) = (0) → True))
def fX2_divide_0 (v0 : Int64) (v2 : Int64) : Int64 := fX2_divide_9 v0 v2 ((v0 ^^^ v2) &&& (-9223372036854775808 : Int64))
def okX2_divide_0 (v0 : Int64) (v2 : Int64) : Prop := okX2_divide_9 v0 v2 ((v0 ^^^ v2) &&& (-9223372036854775808 : Int64))
def fX2_divide (v0 : Int64) (v2 : Int64) : Int64 := fX2_divide_0 v0 v2
def okX2_divide (v0 : Int64) (v2 : Int64) : Prop := okX2_divide_0 v0 v2
def fX2_compare_48 (v4 : Int64) (s0 : Int64) : Int32 := (if v4 < s0 then (-1 : Int32) else (if s0 < v4 then (1 : Int32) else (0 : Int32)))
def fX2_compare_31 (v2 : Int64) (s0 : Int64) : Int32 := (if v2 < (0 : Int64) then fX2_compare_48 s0 (v2 ^^^ (9223372036854775807 : Int64)) else fX2_compare_48 s0 v2)
def fX2_compare_16 (v0 : Int64) (v2 : Int64) : Int32 := (if v0 < (0 : Int64) then fX2_compare_31 v2 (v0 ^^^ (9223372036854775807 : Int64)) else fX2_compare_31 v2 v0)
def fX2_compare_0 (v0 : Int64) (v2 : Int64) : Int32 := (if (fX2_isZero v0) = (0) then fX2_compare_16 v0 v2 else (if (fX2_isZero v2) = (0) then fX2_compare_16 v0 v2 else (0 : Int32)))
def fX2_compare (v0 : Int64) (v2 : Int64) : Int32 := fX2_compare_0 v0 v2
def fX2_of_83 (s0 : Int32) (s1 : Int64) (s2 : Int32) (s3 : Int32) : Int64 := (fX2_made s0 s1 s2 s3)
def okX2_of_83 (s0 : Int32) (s1 : Int64) (s2 : Int32) (s3 : Int32) : Prop := (okX2_made s0 s1 s2 s3) ∧ True
def fX2_of_61 (v3 : Int32) (v4 : Int64) : Int64 := (if (v4 &&& (3 : Int64)) = (0 : Int64) then fX2_of_83 v3 (jushr v4 (2 : Int32)) (2 : Int32) (0 : Int32) else fX2_of_83 v3 (jushr v4 (2 : Int32)) (2 : Int32) (1 : Int32))
def okX2_of_61 (v3 : Int32) (v4 : Int64) : Prop := (((v4 &&& (3 : Int64)) = (0 : Int64) → okX2_of_83 v3 (jushr v4 (2 : Int32)) (2 : Int32) (0 : Int32)) ∧ (¬ (v4 &&& (3 : Int64)) = (0 : Int64) → okX2_of_83 v3 (jushr v4 (2 : Int32)) (2 : Int32) (1 : Int32)))
def fX2_of_34 (v3 : Int32) (s0 : Int64) : Int64 := (if (0 : Int64) < s0 then (if s0 < (4611686018427387904 : Int64) then (fX2_made v3 s0 (0 : Int32) (0 : Int32)) else fX2_of_61 v3 s0) else fX2_of_61 v3 s0)
def okX2_of_34 (v3 : Int32) (s0 : Int64) : Prop := (((0 : Int64) < s0 → ((s0 < (4611686018427387904 : Int64) → (okX2_made v3 s0 (0 : Int32) (0 : Int32)) ∧ True) ∧ (¬ s0 < (4611686018427387904 : Int64) → okX2_of_61 v3 s0))) ∧ (¬ (0 : Int64) < s0 → okX2_of_61 v3 s0))
def fX2_of_23 (v0 : Int64) (s0 : Int32) : Int64 := (if s0 = (0) then fX2_of_34 s0 v0 else fX2_of_34 s0 (-v0))
def okX2_of_23 (v0 : Int64) (s0 : Int32) : Prop := ((s0 = (0) → okX2_of_34 s0 v0) ∧ (¬ s0 = (0) → okX2_of_34 s0 (-v0)))
def fX2_of_22 (v0 : Int64) : Int64 := fX2_of_23 v0 (0 : Int32)
def okX2_of_22 (v0 : Int64) : Prop := okX2_of_23 v0 (0 : Int32)
def fX2_of_0 (v0 : Int64) (v2 : Int32) : Int64 := (if v0 = (0 : Int64) then (0 : Int64) else (if v0 < (0 : Int64) then (if v2 = (0) then fX2_of_23 v0 (1 : Int32) else fX2_of_22 v0) else fX2_of_22 v0))
def okX2_of_0 (v0 : Int64) (v2 : Int32) : Prop := ((v0 = (0 : Int64) → True) ∧ (¬ v0 = (0 : Int64) → ((v0 < (0 : Int64) → ((v2 = (0) → okX2_of_23 v0 (1 : Int32)) ∧ (¬ v2 = (0) → okX2_of_22 v0))) ∧ (¬ v0 < (0 : Int64) → okX2_of_22 v0))))
def fX2_of (v0 : Int64) (v2 : Int32) : Int64 := fX2_of_0 v0 v2
def okX2_of (v0 : Int64) (v2 : Int32) : Prop := okX2_of_0 v0 v2
def fX2_wide_81 (v1 : Int64) (s0 : Int64) (s1 : Int32) : Int64 := (v1 ||| (fX2_rounded s0 (s1 - (150 : Int32)) (0 : Int32) (53 : Int32) (1023 : Int32)))
def okX2_wide_81 (v1 : Int64) (s0 : Int64) (s1 : Int32) : Prop := (okX2_rounded s0 (s1 - (150 : Int32)) (0 : Int32) (53 : Int32) (1023 : Int32)) ∧ True
def fX2_wide_72 (v1 : Int64) (v3 : Int32) (s0 : Int64) : Int64 := (if v3 = (0) then fX2_wide_81 v1 s0 (1 : Int32) else fX2_wide_81 v1 s0 v3)
def okX2_wide_72 (v1 : Int64) (v3 : Int32) (s0 : Int64) : Prop := ((v3 = (0) → okX2_wide_81 v1 s0 (1 : Int32)) ∧ (¬ v3 = (0) → okX2_wide_81 v1 s0 v3))
def fX2_wide_57 (v1 : Int64) (v3 : Int32) (v4 : Int64) : Int64 := (if v3 = (0) then fX2_wide_72 v1 v3 v4 else fX2_wide_72 v1 v3 (v4 ||| (8388608 : Int64)))
def okX2_wide_57 (v1 : Int64) (v3 : Int32) (v4 : Int64) : Prop := ((v3 = (0) → okX2_wide_72 v1 v3 v4) ∧ (¬ v3 = (0) → okX2_wide_72 v1 v3 (v4 ||| (8388608 : Int64))))
def fX2_wide_28 (v1 : Int64) (v3 : Int32) (v4 : Int64) : Int64 := (if v3 = (255 : Int32) then ((v1 ||| (9218868437227405312 : Int64)) ||| v4) else (if v3 = (0) then (if v4 = (0 : Int64) then v1 else fX2_wide_57 v1 v3 v4) else fX2_wide_57 v1 v3 v4))
def okX2_wide_28 (v1 : Int64) (v3 : Int32) (v4 : Int64) : Prop := ((v3 = (255 : Int32) → True) ∧ (¬ v3 = (255 : Int32) → ((v3 = (0) → ((v4 = (0 : Int64) → True) ∧ (¬ v4 = (0 : Int64) → okX2_wide_57 v1 v3 v4))) ∧ (¬ v3 = (0) → okX2_wide_57 v1 v3 v4))))
def fX2_wide_21 (v0 : Int32) (v1 : Int64) (v3 : Int32) : Int64 := fX2_wide_28 v1 v3 ((v0 &&& (8388607 : Int32)).toInt64)
def okX2_wide_21 (v0 : Int32) (v1 : Int64) (v3 : Int32) : Prop := okX2_wide_28 v1 v3 ((v0 &&& (8388607 : Int32)).toInt64)
def fX2_wide_11 (v0 : Int32) (s0 : Int64) : Int64 := fX2_wide_21 v0 s0 ((ishr v0 (23 : Int32)) &&& (255 : Int32))
def okX2_wide_11 (v0 : Int32) (s0 : Int64) : Prop := okX2_wide_21 v0 s0 ((ishr v0 (23 : Int32)) &&& (255 : Int32))
def fX2_wide_0 (v0 : Int32) : Int64 := (if v0 < (0) then fX2_wide_11 v0 (-9223372036854775808 : Int64) else fX2_wide_11 v0 (0 : Int64))
def okX2_wide_0 (v0 : Int32) : Prop := ((v0 < (0) → okX2_wide_11 v0 (-9223372036854775808 : Int64)) ∧ (¬ v0 < (0) → okX2_wide_11 v0 (0 : Int64)))
def fX2_wide (v0 : Int32) : Int64 := fX2_wide_0 v0
def okX2_wide (v0 : Int32) : Prop := okX2_wide_0 v0
def fX2_floatOf_126 (s0 : Int32) (s1 : Int32) : Int64 := (fX2_wide (s0 ||| s1))
def okX2_floatOf_126 (s0 : Int32) (s1 : Int32) : Prop := (okX2_wide (s0 ||| s1)) ∧ True
def fX2_floatOf_113 (v3 : Int32) (v7 : Int64) : Int64 := (if v3 = (0) then fX2_floatOf_126 (v7.toInt32) (0 : Int32) else fX2_floatOf_126 (v7.toInt32) (-2147483648 : Int32))
def okX2_floatOf_113 (v3 : Int32) (v7 : Int64) : Prop := ((v3 = (0) → okX2_floatOf_126 (v7.toInt32) (0 : Int32)) ∧ (¬ v3 = (0) → okX2_floatOf_126 (v7.toInt32) (-2147483648 : Int32)))
def fX2_floatOf_104 (v3 : Int32) (s0 : Int64) (s1 : Int32) (s2 : Int32) : Int64 := fX2_floatOf_113 v3 (fX2_rounded s0 s1 s2 (24 : Int32) (127 : Int32))
def okX2_floatOf_104 (v3 : Int32) (s0 : Int64) (s1 : Int32) (s2 : Int32) : Prop := (okX2_rounded s0 s1 s2 (24 : Int32) (127 : Int32)) ∧ okX2_floatOf_113 v3 (fX2_rounded s0 s1 s2 (24 : Int32) (127 : Int32))
def fX2_floatOf_103 (v3 : Int32) (s0 : Int64) (s1 : Int32) : Int64 := fX2_floatOf_104 v3 s0 s1 (0 : Int32)
def okX2_floatOf_103 (v3 : Int32) (s0 : Int64) (s1 : Int32) : Prop := okX2_floatOf_104 v3 s0 s1 (0 : Int32)
def fX2_floatOf_83 (v3 : Int32) (v4 : Int64) (v6 : Int32) (s0 : Int64) (s1 : Int32) : Int64 := (if v6 = (0) then (if (v4 &&& (3 : Int64)) = (0 : Int64) then fX2_floatOf_103 v3 s0 s1 else fX2_floatOf_104 v3 s0 s1 (1 : Int32)) else fX2_floatOf_103 v3 s0 s1)
def okX2_floatOf_83 (v3 : Int32) (v4 : Int64) (v6 : Int32) (s0 : Int64) (s1 : Int32) : Prop := ((v6 = (0) → (((v4 &&& (3 : Int64)) = (0 : Int64) → okX2_floatOf_103 v3 s0 s1) ∧ (¬ (v4 &&& (3 : Int64)) = (0 : Int64) → okX2_floatOf_104 v3 s0 s1 (1 : Int32)))) ∧ (¬ v6 = (0) → okX2_floatOf_103 v3 s0 s1))
def fX2_floatOf_73 (v3 : Int32) (v4 : Int64) (v6 : Int32) (s0 : Int64) : Int64 := (if v6 = (0) then fX2_floatOf_83 v3 v4 v6 s0 (2 : Int32) else fX2_floatOf_83 v3 v4 v6 s0 (0 : Int32))
def okX2_floatOf_73 (v3 : Int32) (v4 : Int64) (v6 : Int32) (s0 : Int64) : Prop := ((v6 = (0) → okX2_floatOf_83 v3 v4 v6 s0 (2 : Int32)) ∧ (¬ v6 = (0) → okX2_floatOf_83 v3 v4 v6 s0 (0 : Int32)))
def fX2_floatOf_57 (v3 : Int32) (v4 : Int64) (s0 : Int32) : Int64 := (if s0 = (0) then fX2_floatOf_73 v3 v4 s0 (jushr v4 (2 : Int32)) else fX2_floatOf_73 v3 v4 s0 v4)
def okX2_floatOf_57 (v3 : Int32) (v4 : Int64) (s0 : Int32) : Prop := ((s0 = (0) → okX2_floatOf_73 v3 v4 s0 (jushr v4 (2 : Int32))) ∧ (¬ s0 = (0) → okX2_floatOf_73 v3 v4 s0 v4))
def fX2_floatOf_56 (v3 : Int32) (v4 : Int64) : Int64 := fX2_floatOf_57 v3 v4 (0 : Int32)
def okX2_floatOf_56 (v3 : Int32) (v4 : Int64) : Prop := okX2_floatOf_57 v3 v4 (0 : Int32)
def fX2_floatOf_34 (v3 : Int32) (s0 : Int64) : Int64 := (if (0 : Int64) < s0 then (if s0 < (4611686018427387904 : Int64) then fX2_floatOf_57 v3 s0 (1 : Int32) else fX2_floatOf_56 v3 s0) else fX2_floatOf_56 v3 s0)
def okX2_floatOf_34 (v3 : Int32) (s0 : Int64) : Prop := (((0 : Int64) < s0 → ((s0 < (4611686018427387904 : Int64) → okX2_floatOf_57 v3 s0 (1 : Int32)) ∧ (¬ s0 < (4611686018427387904 : Int64) → okX2_floatOf_56 v3 s0))) ∧ (¬ (0 : Int64) < s0 → okX2_floatOf_56 v3 s0))
def fX2_floatOf_23 (v0 : Int64) (s0 : Int32) : Int64 := (if s0 = (0) then fX2_floatOf_34 s0 v0 else fX2_floatOf_34 s0 (-v0))
def okX2_floatOf_23 (v0 : Int64) (s0 : Int32) : Prop := ((s0 = (0) → okX2_floatOf_34 s0 v0) ∧ (¬ s0 = (0) → okX2_floatOf_34 s0 (-v0)))
def fX2_floatOf_22 (v0 : Int64) : Int64 := fX2_floatOf_23 v0 (0 : Int32)
def okX2_floatOf_22 (v0 : Int64) : Prop := okX2_floatOf_23 v0 (0 : Int32)
def fX2_floatOf_0 (v0 : Int64) (v2 : Int32) : Int64 := (if v0 = (0 : Int64) then (0 : Int64) else (if v0 < (0 : Int64) then (if v2 = (0) then fX2_floatOf_23 v0 (1 : Int32) else fX2_floatOf_22 v0) else fX2_floatOf_22 v0))
def okX2_floatOf_0 (v0 : Int64) (v2 : Int32) : Prop := ((v0 = (0 : Int64) → True) ∧ (¬ v0 = (0 : Int64) → ((v0 < (0 : Int64) → ((v2 = (0) → okX2_floatOf_23 v0 (1 : Int32)) ∧ (¬ v2 = (0) → okX2_floatOf_22 v0))) ∧ (¬ v0 < (0 : Int64) → okX2_floatOf_22 v0))))
def fX2_floatOf (v0 : Int64) (v2 : Int32) : Int64 := fX2_floatOf_0 v0 v2
def okX2_floatOf (v0 : Int64) (v2 : Int32) : Prop := okX2_floatOf_0 v0 v2
def fX2_narrow_12 (v0 : Int64) (s0 : Int32) : Int32 := (if (fX2_isInfinite v0) = (0) then (if (fX2_isZero v0) = (0) then (((fX2_rounded (fX2_significand v0) (fX2_exponent v0) (0 : Int32) (24 : Int32) (127 : Int32)).toInt32) ||| s0) else s0) else (s0 ||| (2139095040 : Int32)))
def okX2_narrow_12 (v0 : Int64) (s0 : Int32) : Prop := (((fX2_isInfinite v0) = (0) → (((fX2_isZero v0) = (0) → (okX2_significand v0) ∧ (okX2_exponent v0) ∧ (okX2_rounded (fX2_significand v0) (fX2_exponent v0) (0 : Int32) (24 : Int32) (127 : Int32)) ∧ True) ∧ (¬ (fX2_isZero v0) = (0) → True))) ∧ (¬ (fX2_isInfinite v0) = (0) → True))
def fX2_narrow_0 (v0 : Int64) : Int32 := (if v0 < (0 : Int64) then fX2_narrow_12 v0 (-2147483648 : Int32) else fX2_narrow_12 v0 (0 : Int32))
def okX2_narrow_0 (v0 : Int64) : Prop := ((v0 < (0 : Int64) → okX2_narrow_12 v0 (-2147483648 : Int32)) ∧ (¬ v0 < (0 : Int64) → okX2_narrow_12 v0 (0 : Int32)))
def fX2_narrow (v0 : Int64) : Int32 := fX2_narrow_0 v0
def okX2_narrow (v0 : Int64) : Prop := okX2_narrow_0 v0
def fX2_cut_19 (v2 : Int32) (v3 : Int64) : Int64 := (if v2 < (0) then (if v2 < (-52 : Int32) then (0 : Int64) else (jushr v3 (-v2))) else (jshl v3 v2))
def fX2_cut_14 (v0 : Int64) (v2 : Int32) : Int64 := fX2_cut_19 v2 (fX2_significand v0)
def okX2_cut_14 (v0 : Int64) (v2 : Int32) : Prop := (okX2_significand v0) ∧ True
def fX2_cut_0 (v0 : Int64) : Int64 := (if (fX2_isZero v0) = (0) then fX2_cut_14 v0 (fX2_exponent v0) else (0 : Int64))
def okX2_cut_0 (v0 : Int64) : Prop := (((fX2_isZero v0) = (0) → (okX2_exponent v0) ∧ okX2_cut_14 v0 (fX2_exponent v0)) ∧ (¬ (fX2_isZero v0) = (0) → True))
def fX2_cut (v0 : Int64) : Int64 := fX2_cut_0 v0
def okX2_cut (v0 : Int64) : Prop := okX2_cut_0 v0
def fX2_isGreat_0 (v0 : Int64) : Int32 := (if (fX2_isInfinite v0) = (0) then (if (fX2_isZero v0) = (0) then (if (11 : Int32) < (fX2_exponent v0) then (1 : Int32) else (0 : Int32)) else (0 : Int32)) else (1 : Int32))
def okX2_isGreat_0 (v0 : Int64) : Prop := (((fX2_isInfinite v0) = (0) → (((fX2_isZero v0) = (0) → (okX2_exponent v0) ∧ (((11 : Int32) < (fX2_exponent v0) → True) ∧ (¬ (11 : Int32) < (fX2_exponent v0) → True))) ∧ (¬ (fX2_isZero v0) = (0) → True))) ∧ (¬ (fX2_isInfinite v0) = (0) → True))
def fX2_isGreat (v0 : Int64) : Int32 := fX2_isGreat_0 v0
def okX2_isGreat (v0 : Int64) : Prop := okX2_isGreat_0 v0
def fX3_init_0 (fld : Int32) : Int32 := fld
def fX3_init  (fld : Int32) : Int32 := fX3_init_0 fld
def fX3_failed_0 (fld : Int32) : Int32 × Int32 := (fld, fld)
def fX3_failed  (fld : Int32) : Int32 × Int32 := fX3_failed_0 fld
def fX3_isNumber_0 (v0 : Int32) : Int32 := (if v0 < (1 : Int32) then (0 : Int32) else (if (7 : Int32) < v0 then (0 : Int32) else (1 : Int32)))
def fX3_isNumber (v0 : Int32) : Int32 := fX3_isNumber_0 v0
def fX3_hasBits_0 (v0 : Int32) (v1 : Int64) : Int32 := (if v0 = (0 : Int32) then (if v1 = (0 : Int64) then (1 : Int32) else (if v1 = (1 : Int64) then (1 : Int32) else (0 : Int32))) else (if v0 = (1 : Int32) then (if v1 < (-128 : Int64) then (0 : Int32) else (if (127 : Int64) < v1 then (0 : Int32) else (1 : Int32))) else (if v0 = (2 : Int32) then (if v1 < (-32768 : Int64) then (0 : Int32) else (if (32767 : Int64) < v1 then (0 : Int32) else (1 : Int32))) else (if v0 = (3 : Int32) then (if v1 < (0 : Int64) then (0 : Int32) else (if (65535 : Int64) < v1 then (0 : Int32) else (1 : Int32))) else (if v0 = (4 : Int32) then (if v1 < (-2147483648 : Int64) then (0 : Int32) else (if (2147483647 : Int64) < v1 then (0 : Int32) else (1 : Int32))) else (if v0 = (5 : Int32) then (1 : Int32) else (if v0 = (6 : Int32) then (if v1 < (0 : Int64) then (0 : Int32) else (if (4294967295 : Int64) < v1 then (0 : Int32) else (if (fX2_isNone (fX2_wide (v1.toInt32))) = (0) then (1 : Int32) else (0 : Int32)))) else (if v0 = (7 : Int32) then (if (fX2_isNone v1) = (0) then (1 : Int32) else (0 : Int32)) else (0 : Int32)))))))))
def okX3_hasBits_0 (v0 : Int32) (v1 : Int64) : Prop := ((v0 = (0 : Int32) → ((v1 = (0 : Int64) → True) ∧ (¬ v1 = (0 : Int64) → ((v1 = (1 : Int64) → True) ∧ (¬ v1 = (1 : Int64) → True))))) ∧ (¬ v0 = (0 : Int32) → ((v0 = (1 : Int32) → ((v1 < (-128 : Int64) → True) ∧ (¬ v1 < (-128 : Int64) → (((127 : Int64) < v1 → True) ∧ (¬ (127 : Int64) < v1 → True))))) ∧ (¬ v0 = (1 : Int32) → ((v0 = (2 : Int32) → ((v1 < (-32768 : Int64) → True) ∧ (¬ v1 < (-32768 : Int64) → (((32767 : Int64) < v1 → True) ∧ (¬ (32767 : Int64) < v1 → True))))) ∧ (¬ v0 = (2 : Int32) → ((v0 = (3 : Int32) → ((v1 < (0 : Int64) → True) ∧ (¬ v1 < (0 : Int64) → (((65535 : Int64) < v1 → True) ∧ (¬ (65535 : Int64) < v1 → True))))) ∧ (¬ v0 = (3 : Int32) → ((v0 = (4 : Int32) → ((v1 < (-2147483648 : Int64) → True) ∧ (¬ v1 < (-2147483648 : Int64) → (((2147483647 : Int64) < v1 → True) ∧ (¬ (2147483647 : Int64) < v1 → True))))) ∧ (¬ v0 = (4 : Int32) → ((v0 = (5 : Int32) → True) ∧ (¬ v0 = (5 : Int32) → ((v0 = (6 : Int32) → ((v1 < (0 : Int64) → True) ∧ (¬ v1 < (0 : Int64) → (((4294967295 : Int64) < v1 → True) ∧ (¬ (4294967295 : Int64) < v1 → (okX2_wide (v1.toInt32)) ∧ (((fX2_isNone (fX2_wide (v1.toInt32))) = (0) → True) ∧ (¬ (fX2_isNone (fX2_wide (v1.toInt32))) = (0) → True))))))) ∧ (¬ v0 = (6 : Int32) → ((v0 = (7 : Int32) → (((fX2_isNone v1) = (0) → True) ∧ (¬ (fX2_isNone v1) = (0) → True))) ∧ (¬ v0 = (7 : Int32) → True))))))))))))))))
def fX3_hasBits (v0 : Int32) (v1 : Int64) : Int32 := fX3_hasBits_0 v0 v1
def okX3_hasBits (v0 : Int32) (v1 : Int64) : Prop := okX3_hasBits_0 v0 v1
def fX3_isWider_62 (v1 : Int32) : Int32 := (if v1 < (4 : Int32) then (0 : Int32) else (if (7 : Int32) < v1 then (0 : Int32) else (1 : Int32)))
def fX3_isWider_0 (v0 : Int32) (v1 : Int32) : Int32 := (if v0 = (1 : Int32) then (if v1 = (2 : Int32) then (1 : Int32) else (if v1 < (4 : Int32) then (0 : Int32) else (if (7 : Int32) < v1 then (0 : Int32) else (1 : Int32)))) else (if v0 = (2 : Int32) then fX3_isWider_62 v1 else (if v0 = (3 : Int32) then fX3_isWider_62 v1 else (if v0 = (4 : Int32) then (if v1 < (5 : Int32) then (0 : Int32) else (if (7 : Int32) < v1 then (0 : Int32) else (1 : Int32))) else (if v0 = (5 : Int32) then (if v1 = (6 : Int32) then (1 : Int32) else (if v1 = (7 : Int32) then (1 : Int32) else (0 : Int32))) else (if v0 = (6 : Int32) then (if v1 = (7 : Int32) then (1 : Int32) else (0 : Int32)) else (0 : Int32)))))))
def fX3_isWider (v0 : Int32) (v1 : Int32) : Int32 := fX3_isWider_0 v0 v1
def fX3_widened_0 (v0 : Int64) (v2 : Int32) (v3 : Int32) : Int64 := (if v2 = v3 then v0 else (if v2 < (1 : Int32) then v0 else (if (7 : Int32) < v2 then v0 else (if v3 = (7 : Int32) then (if v2 = (6 : Int32) then (fX2_wide (v0.toInt32)) else (fX2_of v0 (0 : Int32))) else (if v3 = (6 : Int32) then (((fX2_narrow (fX2_floatOf v0 (0 : Int32))).toInt64) &&& (4294967295 : Int64)) else v0)))))
def okX3_widened_0 (v0 : Int64) (v2 : Int32) (v3 : Int32) : Prop := ((v2 = v3 → True) ∧ (¬ v2 = v3 → ((v2 < (1 : Int32) → True) ∧ (¬ v2 < (1 : Int32) → (((7 : Int32) < v2 → True) ∧ (¬ (7 : Int32) < v2 → ((v3 = (7 : Int32) → ((v2 = (6 : Int32) → (okX2_wide (v0.toInt32)) ∧ True) ∧ (¬ v2 = (6 : Int32) → (okX2_of v0 (0 : Int32)) ∧ True))) ∧ (¬ v3 = (7 : Int32) → ((v3 = (6 : Int32) → (okX2_floatOf v0 (0 : Int32)) ∧ (okX2_narrow (fX2_floatOf v0 (0 : Int32))) ∧ True) ∧ (¬ v3 = (6 : Int32) → True))))))))))
def fX3_widened (v0 : Int64) (v2 : Int32) (v3 : Int32) : Int64 := fX3_widened_0 v0 v2 v3
def okX3_widened (v0 : Int64) (v2 : Int32) (v3 : Int32) : Prop := okX3_widened_0 v0 v2 v3
def fX3_cut_72 (v3 : Int64) (v5 : Int32) (v7 : Int64) (s0 : Int32) : Int64 := (if s0 = (0) then (if v5 = (0) then v7 else (-v7)) else (if v5 = (0) then v3 else ((-v3) - (1 : Int64))))
def fX3_cut_67 (v3 : Int64) (v5 : Int32) (v7 : Int64) : Int64 := fX3_cut_72 v3 v5 v7 (1 : Int32)
def fX3_cut_46 (v3 : Int64) (v5 : Int32) (v6 : Int32) (s0 : Int64) : Int64 := (if v6 = (0) then (if s0 < (0 : Int64) then fX3_cut_67 v3 v5 s0 else (if v3 < s0 then fX3_cut_67 v3 v5 s0 else fX3_cut_72 v3 v5 s0 (0 : Int32))) else fX3_cut_67 v3 v5 s0)
def fX3_cut_33 (v0 : Int64) (v3 : Int64) (v5 : Int32) (v6 : Int32) : Int64 := (if v6 = (0) then fX3_cut_46 v3 v5 v6 (fX2_cut v0) else fX3_cut_46 v3 v5 v6 (0 : Int64))
def okX3_cut_33 (v0 : Int64) (v3 : Int64) (v5 : Int32) (v6 : Int32) : Prop := ((v6 = (0) → (okX2_cut v0) ∧ True) ∧ (¬ v6 = (0) → True))
def fX3_cut_25 (v0 : Int64) (v3 : Int64) (s0 : Int32) : Int64 := fX3_cut_33 v0 v3 s0 (fX2_isGreat v0)
def okX3_cut_25 (v0 : Int64) (v3 : Int64) (s0 : Int32) : Prop := (okX2_isGreat v0) ∧ okX3_cut_33 v0 v3 s0 (fX2_isGreat v0)
def fX3_cut_13 (v0 : Int64) (s0 : Int64) : Int64 := (if v0 < (0 : Int64) then fX3_cut_25 v0 s0 (1 : Int32) else fX3_cut_25 v0 s0 (0 : Int32))
def okX3_cut_13 (v0 : Int64) (s0 : Int64) : Prop := ((v0 < (0 : Int64) → okX3_cut_25 v0 s0 (1 : Int32)) ∧ (¬ v0 < (0 : Int64) → okX3_cut_25 v0 s0 (0 : Int32)))
def fX3_cut_0 (v0 : Int64) (v2 : Int32) : Int64 := (if v2 = (0) then fX3_cut_13 v0 (2147483647 : Int64) else fX3_cut_13 v0 (9223372036854775807 : Int64))
def okX3_cut_0 (v0 : Int64) (v2 : Int32) : Prop := ((v2 = (0) → okX3_cut_13 v0 (2147483647 : Int64)) ∧ (¬ v2 = (0) → okX3_cut_13 v0 (9223372036854775807 : Int64)))
def fX3_cut (v0 : Int64) (v2 : Int32) : Int64 := fX3_cut_0 v0 v2
def okX3_cut (v0 : Int64) (v2 : Int32) : Prop := okX3_cut_0 v0 v2
def fX3_casted_25 (v0 : Int64) (v2 : Int32) (v3 : Int32) : Int64 := (fX3_widened v0 v2 v3)
def okX3_casted_25 (v0 : Int64) (v2 : Int32) (v3 : Int32) : Prop := (okX3_widened v0 v2 v3) ∧ True
def fX3_casted_93 (v3 : Int32) (v4 : Int64) : Int64 := (if v3 = (1 : Int32) then (jbyte (v4.toInt32)).toInt64 else (if v3 = (2 : Int32) then (jshort (v4.toInt32)).toInt64 else (if v3 = (3 : Int32) then (jchar (v4.toInt32)).toInt64 else (if v3 = (4 : Int32) then (v4.toInt32).toInt64 else v4))))
def fX3_casted_88 (v3 : Int32) (s0 : Int64) (s1 : Int32) : Int64 := fX3_casted_93 v3 (fX3_cut s0 s1)
def okX3_casted_88 (v3 : Int32) (s0 : Int64) (s1 : Int32) : Prop := (okX3_cut s0 s1) ∧ True
def fX3_casted_78 (v3 : Int32) (s0 : Int64) : Int64 := (if v3 = (5 : Int32) then fX3_casted_88 v3 s0 (1 : Int32) else fX3_casted_88 v3 s0 (0 : Int32))
def okX3_casted_78 (v3 : Int32) (s0 : Int64) : Prop := ((v3 = (5 : Int32) → okX3_casted_88 v3 s0 (1 : Int32)) ∧ (¬ v3 = (5 : Int32) → okX3_casted_88 v3 s0 (0 : Int32)))
def fX3_casted_63 (v0 : Int64) (v2 : Int32) (v3 : Int32) : Int64 := (if v2 = (6 : Int32) then fX3_casted_78 v3 (fX2_wide (v0.toInt32)) else fX3_casted_78 v3 v0)
def okX3_casted_63 (v0 : Int64) (v2 : Int32) (v3 : Int32) : Prop := ((v2 = (6 : Int32) → (okX2_wide (v0.toInt32)) ∧ okX3_casted_78 v3 (fX2_wide (v0.toInt32))) ∧ (¬ v2 = (6 : Int32) → okX3_casted_78 v3 v0))
def fX3_casted_32 (v0 : Int64) (v2 : Int32) (v3 : Int32) : Int64 := (if v3 = (6 : Int32) then (((fX2_narrow v0).toInt64) &&& (4294967295 : Int64)) else (if v2 = (6 : Int32) then fX3_casted_63 v0 v2 v3 else (if v2 = (7 : Int32) then fX3_casted_63 v0 v2 v3 else fX3_casted_93 v3 v0)))
def okX3_casted_32 (v0 : Int64) (v2 : Int32) (v3 : Int32) : Prop := ((v3 = (6 : Int32) → (okX2_narrow v0) ∧ True) ∧ (¬ v3 = (6 : Int32) → ((v2 = (6 : Int32) → okX3_casted_63 v0 v2 v3) ∧ (¬ v2 = (6 : Int32) → ((v2 = (7 : Int32) → okX3_casted_63 v0 v2 v3) ∧ (¬ v2 = (7 : Int32) → True))))))
def fX3_casted_0 (v0 : Int64) (v2 : Int32) (v3 : Int32) : Int64 := (if v2 = v3 then v0 else (if v3 = (7 : Int32) then fX3_casted_25 v0 v2 v3 else (if v3 = (6 : Int32) then (if v2 < (6 : Int32) then fX3_casted_25 v0 v2 v3 else fX3_casted_32 v0 v2 v3) else fX3_casted_32 v0 v2 v3)))
def okX3_casted_0 (v0 : Int64) (v2 : Int32) (v3 : Int32) : Prop := ((v2 = v3 → True) ∧ (¬ v2 = v3 → ((v3 = (7 : Int32) → okX3_casted_25 v0 v2 v3) ∧ (¬ v3 = (7 : Int32) → ((v3 = (6 : Int32) → ((v2 < (6 : Int32) → okX3_casted_25 v0 v2 v3) ∧ (¬ v2 < (6 : Int32) → okX3_casted_32 v0 v2 v3))) ∧ (¬ v3 = (6 : Int32) → okX3_casted_32 v0 v2 v3))))))
def fX3_casted (v0 : Int64) (v2 : Int32) (v3 : Int32) : Int64 := fX3_casted_0 v0 v2 v3
def okX3_casted (v0 : Int64) (v2 : Int32) (v3 : Int32) : Prop := okX3_casted_0 v0 v2 v3
def fX3_rest_89 (v9 : Int32) (v10 : Int64) (v12 : Int64) : Int64 := (if v12 = (0 : Int64) then v10 else (v10 ||| (fX2_made (0 : Int32) v12 v9 (0 : Int32))))
def okX3_rest_89 (v9 : Int32) (v10 : Int64) (v12 : Int64) : Prop := ((v12 = (0 : Int64) → True) ∧ (¬ v12 = (0 : Int64) → (okX2_made (0 : Int32) v12 v9 (0 : Int32)) ∧ True))
def fX3_rest_67 : Nat → Int64 → Int32 → Int64 → Int64 → Int32 → Int64
  | 0, _, _, _, _, _ => 0
  | fuel + 1, v6, v9, v10, v12, v14 => (if v9 < v14 then fX3_rest_67 fuel v6 v9 v10 (jrem (jshl v12 (1 : Int32)) v6) (v14 + (-1 : Int32)) else fX3_rest_89 v9 v10 v12)
def okX3_rest_67 : Nat → Int64 → Int32 → Int64 → Int64 → Int32 → Prop
  | 0, _, _, _, _, _ => False
  | fuel + 1, v6, v9, v10, v12, v14 => ((v9 < v14 → ¬ v6 = 0 ∧ okX3_rest_67 fuel v6 v9 v10 (jrem (jshl v12 (1 : Int32)) v6) (v14 + (-1 : Int32))) ∧ (¬ v9 < v14 → okX3_rest_89 v9 v10 v12))
def fX3_rest_63 (v6 : Int64) (v8 : Int32) (v9 : Int32) (v10 : Int64) (v12 : Int64) : Int64 := fX3_rest_67 ((v8.toInt - v9.toInt).toNat + 1) v6 v9 v10 v12 v8
def okX3_rest_63 (v6 : Int64) (v8 : Int32) (v9 : Int32) (v10 : Int64) (v12 : Int64) : Prop := okX3_rest_67 ((v8.toInt - v9.toInt).toNat + 1) v6 v9 v10 v12 v8
def fX3_rest_47 (v0 : Int64) (v4 : Int64) (v6 : Int64) (v8 : Int32) (v9 : Int32) (v10 : Int64) : Int64 := (if v8 < v9 then v0 else fX3_rest_63 v6 v8 v9 v10 (jrem v4 v6))
def okX3_rest_47 (v0 : Int64) (v4 : Int64) (v6 : Int64) (v8 : Int32) (v9 : Int32) (v10 : Int64) : Prop := ((v8 < v9 → True) ∧ (¬ v8 < v9 → ¬ v6 = 0 ∧ okX3_rest_63 v6 v8 v9 v10 (jrem v4 v6)))
def fX3_rest_40 (v0 : Int64) (v4 : Int64) (v6 : Int64) (v8 : Int32) (v9 : Int32) : Int64 := fX3_rest_47 v0 v4 v6 v8 v9 (v0 &&& (-9223372036854775808 : Int64))
def okX3_rest_40 (v0 : Int64) (v4 : Int64) (v6 : Int64) (v8 : Int32) (v9 : Int32) : Prop := okX3_rest_47 v0 v4 v6 v8 v9 (v0 &&& (-9223372036854775808 : Int64))
def fX3_rest_34 (v0 : Int64) (v2 : Int64) (v4 : Int64) (v6 : Int64) (v8 : Int32) : Int64 := fX3_rest_40 v0 v4 v6 v8 (fX2_exponent v2)
def okX3_rest_34 (v0 : Int64) (v2 : Int64) (v4 : Int64) (v6 : Int64) (v8 : Int32) : Prop := (okX2_exponent v2) ∧ okX3_rest_40 v0 v4 v6 v8 (fX2_exponent v2)
def fX3_rest_28 (v0 : Int64) (v2 : Int64) (v4 : Int64) (v6 : Int64) : Int64 := fX3_rest_34 v0 v2 v4 v6 (fX2_exponent v0)
def okX3_rest_28 (v0 : Int64) (v2 : Int64) (v4 : Int64) (v6 : Int64) : Prop := (okX2_exponent v0) ∧ okX3_rest_34 v0 v2 v4 v6 (fX2_exponent v0)
def fX3_rest_22 (v0 : Int64) (v2 : Int64) (v4 : Int64) : Int64 := fX3_rest_28 v0 v2 v4 (fX2_significand v2)
def okX3_rest_22 (v0 : Int64) (v2 : Int64) (v4 : Int64) : Prop := (okX2_significand v2) ∧ okX3_rest_28 v0 v2 v4 (fX2_significand v2)
def fX3_rest_0 (v0 : Int64) (v2 : Int64) : Int64 := (if (fX2_isInfinite v2) = (0) then (if (fX2_isZero v0) = (0) then fX3_rest_22 v0 v2 (fX2_significand v0) else v0) else v0)
def okX3_rest_0 (v0 : Int64) (v2 : Int64) : Prop := (((fX2_isInfinite v2) = (0) → (((fX2_isZero v0) = (0) → (okX2_significand v0) ∧ okX3_rest_22 v0 v2 (fX2_significand v0)) ∧ (¬ (fX2_isZero v0) = (0) → True))) ∧ (¬ (fX2_isInfinite v2) = (0) → True))
def fX3_rest (v0 : Int64) (v2 : Int64) : Int64 := fX3_rest_0 v0 v2
def okX3_rest (v0 : Int64) (v2 : Int64) : Prop := okX3_rest_0 v0 v2
def fX3_has_0 (v1 : Int32) (v2 : Int64) (fld : Int32) : Int32 × Int32 := ((fX3_hasBits v1 v2), fld)
def okX3_has_0 (v1 : Int32) (v2 : Int64) (fld : Int32) : Prop := (okX3_hasBits v1 v2) ∧ True
def fX3_has (v1 : Int32) (v2 : Int64) (fld : Int32) : Int32 × Int32 := fX3_has_0 v1 v2 fld
def okX3_has (v1 : Int32) (v2 : Int64) (fld : Int32) : Prop := okX3_has_0 v1 v2 fld
def fX3_widens_0 (v1 : Int32) (v2 : Int32) (fld : Int32) : Int32 × Int32 := (if v1 < (0) then ((0 : Int32), fld) else (if (7 : Int32) < v1 then ((0 : Int32), fld) else (if v1 = v2 then ((1 : Int32), fld) else (if v2 < (0) then ((0 : Int32), fld) else (if (7 : Int32) < v2 then ((0 : Int32), fld) else (if (fX3_isWider v1 v2) = (0) then ((0 : Int32), fld) else ((1 : Int32), fld)))))))
def fX3_widens (v1 : Int32) (v2 : Int32) (fld : Int32) : Int32 × Int32 := fX3_widens_0 v1 v2 fld
def fX3_cast_45 (v1 : Int32) (v2 : Int32) (v3 : Int64) (v5 : Int32) (s1 : Int32) (fld : Int32) : Int64 × Int32 := (if v5 = (0) then ((0 : Int64), s1) else ((fX3_casted v3 v1 v2), s1))
def okX3_cast_45 (v1 : Int32) (v2 : Int32) (v3 : Int64) (v5 : Int32) (s1 : Int32) (fld : Int32) : Prop := ((v5 = (0) → True) ∧ (¬ v5 = (0) → (okX3_casted v3 v1 v2) ∧ True))
def fX3_cast_32 (v1 : Int32) (v2 : Int32) (v3 : Int64) (s0 : Int32) (fld : Int32) : Int64 × Int32 := (if s0 = (0) then fX3_cast_45 v1 v2 v3 s0 (1 : Int32) fld else fX3_cast_45 v1 v2 v3 s0 (0 : Int32) fld)
def okX3_cast_32 (v1 : Int32) (v2 : Int32) (v3 : Int64) (s0 : Int32) (fld : Int32) : Prop := ((s0 = (0) → okX3_cast_45 v1 v2 v3 s0 (1 : Int32) fld) ∧ (¬ s0 = (0) → okX3_cast_45 v1 v2 v3 s0 (0 : Int32) fld))
def fX3_cast_31 (v1 : Int32) (v2 : Int32) (v3 : Int64) (fld : Int32) : Int64 × Int32 := fX3_cast_32 v1 v2 v3 (0 : Int32) fld
def okX3_cast_31 (v1 : Int32) (v2 : Int32) (v3 : Int64) (fld : Int32) : Prop := okX3_cast_32 v1 v2 v3 (0 : Int32) fld
def fX3_cast_19 (v1 : Int32) (v2 : Int32) (v3 : Int64) (fld : Int32) : Int64 × Int32 := (if (fX3_hasBits v1 v3) = (0) then fX3_cast_31 v1 v2 v3 fld else fX3_cast_32 v1 v2 v3 (1 : Int32) fld)
def okX3_cast_19 (v1 : Int32) (v2 : Int32) (v3 : Int64) (fld : Int32) : Prop := (okX3_hasBits v1 v3) ∧ (((fX3_hasBits v1 v3) = (0) → okX3_cast_31 v1 v2 v3 fld) ∧ (¬ (fX3_hasBits v1 v3) = (0) → okX3_cast_32 v1 v2 v3 (1 : Int32) fld))
def fX3_cast_0 (v1 : Int32) (v2 : Int32) (v3 : Int64) (fld : Int32) : Int64 × Int32 := (if v1 = v2 then fX3_cast_19 v1 v2 v3 fld else (if (fX3_isNumber v1) = (0) then fX3_cast_31 v1 v2 v3 fld else (if (fX3_isNumber v2) = (0) then fX3_cast_31 v1 v2 v3 fld else fX3_cast_19 v1 v2 v3 fld)))
def okX3_cast_0 (v1 : Int32) (v2 : Int32) (v3 : Int64) (fld : Int32) : Prop := ((v1 = v2 → okX3_cast_19 v1 v2 v3 fld) ∧ (¬ v1 = v2 → (((fX3_isNumber v1) = (0) → okX3_cast_31 v1 v2 v3 fld) ∧ (¬ (fX3_isNumber v1) = (0) → (((fX3_isNumber v2) = (0) → okX3_cast_31 v1 v2 v3 fld) ∧ (¬ (fX3_isNumber v2) = (0) → okX3_cast_19 v1 v2 v3 fld))))))
def fX3_cast (v1 : Int32) (v2 : Int32) (v3 : Int64) (fld : Int32) : Int64 × Int32 := fX3_cast_0 v1 v2 v3 fld
def okX3_cast (v1 : Int32) (v2 : Int32) (v3 : Int64) (fld : Int32) : Prop := okX3_cast_0 v1 v2 v3 fld
def fX3_areNumbers_0 (v1 : Int32) (v2 : Int64) (v4 : Int32) (v5 : Int64) (fld : Int32) : Int32 × Int32 := (if (fX3_isNumber v1) = (0) then ((0 : Int32), fld) else (if (fX3_isNumber v4) = (0) then ((0 : Int32), fld) else (if (fX3_hasBits v1 v2) = (0) then ((0 : Int32), fld) else (if (fX3_hasBits v4 v5) = (0) then ((0 : Int32), fld) else ((1 : Int32), fld)))))
def okX3_areNumbers_0 (v1 : Int32) (v2 : Int64) (v4 : Int32) (v5 : Int64) (fld : Int32) : Prop := (((fX3_isNumber v1) = (0) → True) ∧ (¬ (fX3_isNumber v1) = (0) → (((fX3_isNumber v4) = (0) → True) ∧ (¬ (fX3_isNumber v4) = (0) → (okX3_hasBits v1 v2) ∧ (((fX3_hasBits v1 v2) = (0) → True) ∧ (¬ (fX3_hasBits v1 v2) = (0) → (okX3_hasBits v4 v5) ∧ (((fX3_hasBits v4 v5) = (0) → True) ∧ (¬ (fX3_hasBits v4 v5) = (0) → True))))))))
def fX3_areNumbers (v1 : Int32) (v2 : Int64) (v4 : Int32) (v5 : Int64) (fld : Int32) : Int32 × Int32 := fX3_areNumbers_0 v1 v2 v4 v5 fld
def okX3_areNumbers (v1 : Int32) (v2 : Int64) (v4 : Int32) (v5 : Int64) (fld : Int32) : Prop := okX3_areNumbers_0 v1 v2 v4 v5 fld
def fX3_whole_109 (v2 : Int32) (v7 : Int64) (fld : Int32) : Int64 × Int32 := (if v2 = (4 : Int32) then ((v7.toInt32).toInt64, fld) else (v7, fld))
def fX3_whole_31 (v2 : Int32) (v7 : Int64) (fld : Int32) : Int64 × Int32 := fX3_whole_109 v2 v7 fld
def fX3_whole_45 (v2 : Int32) (v7 : Int64) (fld : Int32) : Int64 × Int32 := fX3_whole_109 v2 v7 fld
def fX3_whole_59 (v2 : Int32) (v7 : Int64) (fld : Int32) : Int64 × Int32 := fX3_whole_109 v2 v7 fld
def fX3_whole_85 (v2 : Int32) (s0 : Int64) (fld : Int32) : Int64 × Int32 := fX3_whole_109 v2 s0 fld
def fX3_whole_107 (v2 : Int32) (s0 : Int64) (fld : Int32) : Int64 × Int32 := fX3_whole_109 v2 s0 fld
def fX3_whole_20 (v1 : Int32) (v2 : Int32) (v3 : Int64) (v5 : Int64) (fld : Int32) : Int64 × Int32 := (if v1 = (1 : Int32) then fX3_whole_31 v2 (v3 + v5) fld else (if v1 = (2 : Int32) then fX3_whole_45 v2 (v3 - v5) fld else (if v1 = (3 : Int32) then fX3_whole_59 v2 (v3 * v5) fld else (if v1 = (4 : Int32) then (if v5 = (-1 : Int64) then fX3_whole_85 v2 (-v3) fld else fX3_whole_85 v2 (v3 / v5) fld) else (if v5 = (-1 : Int64) then fX3_whole_107 v2 (0 : Int64) fld else fX3_whole_107 v2 (jrem v3 v5) fld)))))
def okX3_whole_20 (v1 : Int32) (v2 : Int32) (v3 : Int64) (v5 : Int64) (fld : Int32) : Prop := ((v1 = (1 : Int32) → True) ∧ (¬ v1 = (1 : Int32) → ((v1 = (2 : Int32) → True) ∧ (¬ v1 = (2 : Int32) → ((v1 = (3 : Int32) → True) ∧ (¬ v1 = (3 : Int32) → ((v1 = (4 : Int32) → ((v5 = (-1 : Int64) → True) ∧ (¬ v5 = (-1 : Int64) → ¬ v5 = 0 ∧ True))) ∧ (¬ v1 = (4 : Int32) → ((v5 = (-1 : Int64) → True) ∧ (¬ v5 = (-1 : Int64) → ¬ v5 = 0 ∧ True))))))))))
def fX3_whole_0 (v1 : Int32) (v2 : Int32) (v3 : Int64) (v5 : Int64) (fld : Int32) : Int64 × Int32 := (if (3 : Int32) < v1 then (if v5 = (0 : Int64) then ((0 : Int64), (8 : Int32)) else fX3_whole_20 v1 v2 v3 v5 fld) else fX3_whole_20 v1 v2 v3 v5 fld)
def okX3_whole_0 (v1 : Int32) (v2 : Int32) (v3 : Int64) (v5 : Int64) (fld : Int32) : Prop := (((3 : Int32) < v1 → ((v5 = (0 : Int64) → True) ∧ (¬ v5 = (0 : Int64) → okX3_whole_20 v1 v2 v3 v5 fld))) ∧ (¬ (3 : Int32) < v1 → okX3_whole_20 v1 v2 v3 v5 fld))
def fX3_whole (v1 : Int32) (v2 : Int32) (v3 : Int64) (v5 : Int64) (fld : Int32) : Int64 × Int32 := fX3_whole_0 v1 v2 v3 v5 fld
def okX3_whole (v1 : Int32) (v2 : Int32) (v3 : Int64) (v5 : Int64) (fld : Int32) : Prop := okX3_whole_0 v1 v2 v3 v5 fld
def fX3_floating_162 (v1 : Int32) (v2 : Int64) (v4 : Int64) (v8 : Int64) (v10 : Int32) (fld : Int32) : Int64 × Int32 := (if v10 = (0) then (if v1 < (3 : Int32) then ((fX2_add v2 v8), fld) else (if v1 = (3 : Int32) then ((fX2_multiply v2 v4), fld) else (if v1 = (4 : Int32) then ((fX2_divide v2 v4), fld) else ((fX3_rest v2 v4), fld)))) else ((0 : Int64), (8 : Int32)))
def okX3_floating_162 (v1 : Int32) (v2 : Int64) (v4 : Int64) (v8 : Int64) (v10 : Int32) (fld : Int32) : Prop := ((v10 = (0) → ((v1 < (3 : Int32) → (okX2_add v2 v8) ∧ True) ∧ (¬ v1 < (3 : Int32) → ((v1 = (3 : Int32) → (okX2_multiply v2 v4) ∧ True) ∧ (¬ v1 = (3 : Int32) → ((v1 = (4 : Int32) → (okX2_divide v2 v4) ∧ True) ∧ (¬ v1 = (4 : Int32) → (okX3_rest v2 v4) ∧ True))))))) ∧ (¬ v10 = (0) → True))
def fX3_floating_57 (v1 : Int32) (v2 : Int64) (v4 : Int64) (v8 : Int64) (s0 : Int32) (fld : Int32) : Int64 × Int32 := fX3_floating_162 v1 v2 v4 v8 s0 fld
def okX3_floating_57 (v1 : Int32) (v2 : Int64) (v4 : Int64) (v8 : Int64) (s0 : Int32) (fld : Int32) : Prop := okX3_floating_162 v1 v2 v4 v8 s0 fld
def fX3_floating_56 (v1 : Int32) (v2 : Int64) (v4 : Int64) (v8 : Int64) (fld : Int32) : Int64 × Int32 := fX3_floating_57 v1 v2 v4 v8 (0 : Int32) fld
def okX3_floating_56 (v1 : Int32) (v2 : Int64) (v4 : Int64) (v8 : Int64) (fld : Int32) : Prop := okX3_floating_57 v1 v2 v4 v8 (0 : Int32) fld
def fX3_floating_97 (v1 : Int32) (v2 : Int64) (v4 : Int64) (v8 : Int64) (s0 : Int32) (fld : Int32) : Int64 × Int32 := fX3_floating_162 v1 v2 v4 v8 s0 fld
def okX3_floating_97 (v1 : Int32) (v2 : Int64) (v4 : Int64) (v8 : Int64) (s0 : Int32) (fld : Int32) : Prop := okX3_floating_162 v1 v2 v4 v8 s0 fld
def fX3_floating_92 (v1 : Int32) (v2 : Int64) (v4 : Int64) (v8 : Int64) (fld : Int32) : Int64 × Int32 := fX3_floating_97 v1 v2 v4 v8 (1 : Int32) fld
def okX3_floating_92 (v1 : Int32) (v2 : Int64) (v4 : Int64) (v8 : Int64) (fld : Int32) : Prop := okX3_floating_97 v1 v2 v4 v8 (1 : Int32) fld
def fX3_floating_96 (v1 : Int32) (v2 : Int64) (v4 : Int64) (v8 : Int64) (fld : Int32) : Int64 × Int32 := fX3_floating_97 v1 v2 v4 v8 (0 : Int32) fld
def okX3_floating_96 (v1 : Int32) (v2 : Int64) (v4 : Int64) (v8 : Int64) (fld : Int32) : Prop := okX3_floating_97 v1 v2 v4 v8 (0 : Int32) fld
def fX3_floating_80 (v1 : Int32) (v2 : Int64) (v4 : Int64) (v7 : Int32) (v8 : Int64) (fld : Int32) : Int64 × Int32 := (if v7 = (0) then fX3_floating_96 v1 v2 v4 v8 fld else (if (fX2_isZero v2) = (0) then fX3_floating_96 v1 v2 v4 v8 fld else fX3_floating_92 v1 v2 v4 v8 fld))
def okX3_floating_80 (v1 : Int32) (v2 : Int64) (v4 : Int64) (v7 : Int32) (v8 : Int64) (fld : Int32) : Prop := ((v7 = (0) → okX3_floating_96 v1 v2 v4 v8 fld) ∧ (¬ v7 = (0) → (((fX2_isZero v2) = (0) → okX3_floating_96 v1 v2 v4 v8 fld) ∧ (¬ (fX2_isZero v2) = (0) → okX3_floating_92 v1 v2 v4 v8 fld))))
def fX3_floating_137 (v1 : Int32) (v2 : Int64) (v4 : Int64) (v8 : Int64) (s0 : Int32) (fld : Int32) : Int64 × Int32 := fX3_floating_162 v1 v2 v4 v8 s0 fld
def okX3_floating_137 (v1 : Int32) (v2 : Int64) (v4 : Int64) (v8 : Int64) (s0 : Int32) (fld : Int32) : Prop := okX3_floating_162 v1 v2 v4 v8 s0 fld
def fX3_floating_132 (v1 : Int32) (v2 : Int64) (v4 : Int64) (v8 : Int64) (fld : Int32) : Int64 × Int32 := fX3_floating_137 v1 v2 v4 v8 (1 : Int32) fld
def okX3_floating_132 (v1 : Int32) (v2 : Int64) (v4 : Int64) (v8 : Int64) (fld : Int32) : Prop := okX3_floating_137 v1 v2 v4 v8 (1 : Int32) fld
def fX3_floating_136 (v1 : Int32) (v2 : Int64) (v4 : Int64) (v8 : Int64) (fld : Int32) : Int64 × Int32 := fX3_floating_137 v1 v2 v4 v8 (0 : Int32) fld
def okX3_floating_136 (v1 : Int32) (v2 : Int64) (v4 : Int64) (v8 : Int64) (fld : Int32) : Prop := okX3_floating_137 v1 v2 v4 v8 (0 : Int32) fld
def fX3_floating_117 (v1 : Int32) (v2 : Int64) (v4 : Int64) (v8 : Int64) (fld : Int32) : Int64 × Int32 := (if (fX2_isZero v2) = (0) then fX3_floating_136 v1 v2 v4 v8 fld else (if (fX2_isZero v4) = (0) then fX3_floating_136 v1 v2 v4 v8 fld else fX3_floating_132 v1 v2 v4 v8 fld))
def okX3_floating_117 (v1 : Int32) (v2 : Int64) (v4 : Int64) (v8 : Int64) (fld : Int32) : Prop := (((fX2_isZero v2) = (0) → okX3_floating_136 v1 v2 v4 v8 fld) ∧ (¬ (fX2_isZero v2) = (0) → (((fX2_isZero v4) = (0) → okX3_floating_136 v1 v2 v4 v8 fld) ∧ (¬ (fX2_isZero v4) = (0) → okX3_floating_132 v1 v2 v4 v8 fld))))
def fX3_floating_160 (v1 : Int32) (v2 : Int64) (v4 : Int64) (v8 : Int64) (s0 : Int32) (fld : Int32) : Int64 × Int32 := fX3_floating_162 v1 v2 v4 v8 s0 fld
def okX3_floating_160 (v1 : Int32) (v2 : Int64) (v4 : Int64) (v8 : Int64) (s0 : Int32) (fld : Int32) : Prop := okX3_floating_162 v1 v2 v4 v8 s0 fld
def fX3_floating_155 (v1 : Int32) (v2 : Int64) (v4 : Int64) (v8 : Int64) (fld : Int32) : Int64 × Int32 := fX3_floating_160 v1 v2 v4 v8 (1 : Int32) fld
def okX3_floating_155 (v1 : Int32) (v2 : Int64) (v4 : Int64) (v8 : Int64) (fld : Int32) : Prop := okX3_floating_160 v1 v2 v4 v8 (1 : Int32) fld
def fX3_floating_28 (v1 : Int32) (v2 : Int64) (v4 : Int64) (v6 : Int32) (v7 : Int32) (s0 : Int64) (fld : Int32) : Int64 × Int32 := (if v1 < (3 : Int32) then (if v6 = (0) then fX3_floating_56 v1 v2 v4 s0 fld else (if v7 = (0) then fX3_floating_56 v1 v2 v4 s0 fld else (if v2 = s0 then fX3_floating_56 v1 v2 v4 s0 fld else fX3_floating_57 v1 v2 v4 s0 (1 : Int32) fld))) else (if v1 = (3 : Int32) then (if v6 = (0) then fX3_floating_80 v1 v2 v4 v7 s0 fld else (if (fX2_isZero v4) = (0) then fX3_floating_80 v1 v2 v4 v7 s0 fld else fX3_floating_92 v1 v2 v4 s0 fld)) else (if v1 = (4 : Int32) then (if v6 = (0) then fX3_floating_117 v1 v2 v4 s0 fld else (if v7 = (0) then fX3_floating_117 v1 v2 v4 s0 fld else fX3_floating_132 v1 v2 v4 s0 fld)) else (if v6 = (0) then (if (fX2_isZero v4) = (0) then fX3_floating_160 v1 v2 v4 s0 (0 : Int32) fld else fX3_floating_155 v1 v2 v4 s0 fld) else fX3_floating_155 v1 v2 v4 s0 fld))))
def okX3_floating_28 (v1 : Int32) (v2 : Int64) (v4 : Int64) (v6 : Int32) (v7 : Int32) (s0 : Int64) (fld : Int32) : Prop := ((v1 < (3 : Int32) → ((v6 = (0) → okX3_floating_56 v1 v2 v4 s0 fld) ∧ (¬ v6 = (0) → ((v7 = (0) → okX3_floating_56 v1 v2 v4 s0 fld) ∧ (¬ v7 = (0) → ((v2 = s0 → okX3_floating_56 v1 v2 v4 s0 fld) ∧ (¬ v2 = s0 → okX3_floating_57 v1 v2 v4 s0 (1 : Int32) fld))))))) ∧ (¬ v1 < (3 : Int32) → ((v1 = (3 : Int32) → ((v6 = (0) → okX3_floating_80 v1 v2 v4 v7 s0 fld) ∧ (¬ v6 = (0) → (((fX2_isZero v4) = (0) → okX3_floating_80 v1 v2 v4 v7 s0 fld) ∧ (¬ (fX2_isZero v4) = (0) → okX3_floating_92 v1 v2 v4 s0 fld))))) ∧ (¬ v1 = (3 : Int32) → ((v1 = (4 : Int32) → ((v6 = (0) → okX3_floating_117 v1 v2 v4 s0 fld) ∧ (¬ v6 = (0) → ((v7 = (0) → okX3_floating_117 v1 v2 v4 s0 fld) ∧ (¬ v7 = (0) → okX3_floating_132 v1 v2 v4 s0 fld))))) ∧ (¬ v1 = (4 : Int32) → ((v6 = (0) → (((fX2_isZero v4) = (0) → okX3_floating_160 v1 v2 v4 s0 (0 : Int32) fld) ∧ (¬ (fX2_isZero v4) = (0) → okX3_floating_155 v1 v2 v4 s0 fld))) ∧ (¬ v6 = (0) → okX3_floating_155 v1 v2 v4 s0 fld))))))))
def fX3_floating_13 (v1 : Int32) (v2 : Int64) (v4 : Int64) (v6 : Int32) (v7 : Int32) (fld : Int32) : Int64 × Int32 := (if v1 = (2 : Int32) then fX3_floating_28 v1 v2 v4 v6 v7 (fX2_negative v4) fld else fX3_floating_28 v1 v2 v4 v6 v7 v4 fld)
def okX3_floating_13 (v1 : Int32) (v2 : Int64) (v4 : Int64) (v6 : Int32) (v7 : Int32) (fld : Int32) : Prop := ((v1 = (2 : Int32) → okX3_floating_28 v1 v2 v4 v6 v7 (fX2_negative v4) fld) ∧ (¬ v1 = (2 : Int32) → okX3_floating_28 v1 v2 v4 v6 v7 v4 fld))
def fX3_floating_6 (v1 : Int32) (v2 : Int64) (v4 : Int64) (v6 : Int32) (fld : Int32) : Int64 × Int32 := fX3_floating_13 v1 v2 v4 v6 (fX2_isInfinite v4) fld
def okX3_floating_6 (v1 : Int32) (v2 : Int64) (v4 : Int64) (v6 : Int32) (fld : Int32) : Prop := okX3_floating_13 v1 v2 v4 v6 (fX2_isInfinite v4) fld
def fX3_floating_0 (v1 : Int32) (v2 : Int64) (v4 : Int64) (fld : Int32) : Int64 × Int32 := fX3_floating_6 v1 v2 v4 (fX2_isInfinite v2) fld
def okX3_floating_0 (v1 : Int32) (v2 : Int64) (v4 : Int64) (fld : Int32) : Prop := okX3_floating_6 v1 v2 v4 (fX2_isInfinite v2) fld
def fX3_floating (v1 : Int32) (v2 : Int64) (v4 : Int64) (fld : Int32) : Int64 × Int32 := fX3_floating_0 v1 v2 v4 fld
def okX3_floating (v1 : Int32) (v2 : Int64) (v4 : Int64) (fld : Int32) : Prop := okX3_floating_0 v1 v2 v4 fld
def fX3_work_128 (v8 : Int32) (s0 : Int64) (fld : Int32) : Int64 × Int32 := (if (0) < fld then ((0 : Int64), fld) else (if v8 = (6 : Int32) then ((((fX2_narrow s0).toInt64) &&& (4294967295 : Int64)), fld) else (s0, fld)))
def okX3_work_128 (v8 : Int32) (s0 : Int64) (fld : Int32) : Prop := (((0) < fld → True) ∧ (¬ (0) < fld → ((v8 = (6 : Int32) → (okX2_narrow s0) ∧ True) ∧ (¬ v8 = (6 : Int32) → True))))
def fX3_work_73 (v1 : Int32) (v8 : Int32) (v9 : Int64) (v11 : Int64) (fld : Int32) : Int64 × Int32 := (if v8 < (6 : Int32) then ((fX3_whole v1 v8 v9 v11 fld).1, (fX3_whole v1 v8 v9 v11 fld).2) else (if v8 = (6 : Int32) then fX3_work_128 v8 ((fX3_floating v1 (fX2_wide (v9.toInt32)) (fX2_wide (v11.toInt32)) fld).1) ((fX3_floating v1 (fX2_wide (v9.toInt32)) (fX2_wide (v11.toInt32)) fld).2) else fX3_work_128 v8 ((fX3_floating v1 v9 v11 fld).1) ((fX3_floating v1 v9 v11 fld).2)))
def okX3_work_73 (v1 : Int32) (v8 : Int32) (v9 : Int64) (v11 : Int64) (fld : Int32) : Prop := ((v8 < (6 : Int32) → (okX3_whole v1 v8 v9 v11 fld) ∧ True) ∧ (¬ v8 < (6 : Int32) → ((v8 = (6 : Int32) → (okX2_wide (v9.toInt32)) ∧ (okX2_wide (v11.toInt32)) ∧ (okX3_floating v1 (fX2_wide (v9.toInt32)) (fX2_wide (v11.toInt32)) fld) ∧ okX3_work_128 v8 ((fX3_floating v1 (fX2_wide (v9.toInt32)) (fX2_wide (v11.toInt32)) fld).1) ((fX3_floating v1 (fX2_wide (v9.toInt32)) (fX2_wide (v11.toInt32)) fld).2)) ∧ (¬ v8 = (6 : Int32) → (okX3_floating v1 v9 v11 fld) ∧ okX3_work_128 v8 ((fX3_floating v1 v9 v11 fld).1) ((fX3_floating v1 v9 v11 fld).2)))))
def fX3_work_62 (v1 : Int32) (v5 : Int32) (v6 : Int64) (v8 : Int32) (v9 : Int64) (fld : Int32) : Int64 × Int32 := fX3_work_73 v1 v8 v9 (fX3_widened v6 v5 v8) fld
def okX3_work_62 (v1 : Int32) (v5 : Int32) (v6 : Int64) (v8 : Int32) (v9 : Int64) (fld : Int32) : Prop := (okX3_widened v6 v5 v8) ∧ okX3_work_73 v1 v8 v9 (fX3_widened v6 v5 v8) fld
def fX3_work_53 (v1 : Int32) (v2 : Int32) (v3 : Int64) (v5 : Int32) (v6 : Int64) (v8 : Int32) (fld : Int32) : Int64 × Int32 := fX3_work_62 v1 v5 v6 v8 (fX3_widened v3 v2 v8) fld
def okX3_work_53 (v1 : Int32) (v2 : Int32) (v3 : Int64) (v5 : Int32) (v6 : Int64) (v8 : Int32) (fld : Int32) : Prop := (okX3_widened v3 v2 v8) ∧ okX3_work_62 v1 v5 v6 v8 (fX3_widened v3 v2 v8) fld
def fX3_work_29 (v1 : Int32) (v2 : Int32) (v3 : Int64) (v5 : Int32) (v6 : Int64) (s1 : Int32) (fld : Int32) : Int64 × Int32 := (if (0) < s1 then ((0 : Int64), s1) else fX3_work_53 v1 v2 v3 v5 v6 (imax (4 : Int32) (imax v2 v5)) s1)
def okX3_work_29 (v1 : Int32) (v2 : Int32) (v3 : Int64) (v5 : Int32) (v6 : Int64) (s1 : Int32) (fld : Int32) : Prop := (((0) < s1 → True) ∧ (¬ (0) < s1 → okX3_work_53 v1 v2 v3 v5 v6 (imax (4 : Int32) (imax v2 v5)) s1))
def fX3_work_28 (v1 : Int32) (v2 : Int32) (v3 : Int64) (v5 : Int32) (v6 : Int64) (fld : Int32) : Int64 × Int32 := fX3_work_29 v1 v2 v3 v5 v6 (1 : Int32) fld
def okX3_work_28 (v1 : Int32) (v2 : Int32) (v3 : Int64) (v5 : Int32) (v6 : Int64) (fld : Int32) : Prop := okX3_work_29 v1 v2 v3 v5 v6 (1 : Int32) fld
def fX3_work_0 (v1 : Int32) (v2 : Int32) (v3 : Int64) (v5 : Int32) (v6 : Int64) (fld : Int32) : Int64 × Int32 := (if v1 < (1 : Int32) then fX3_work_28 v1 v2 v3 v5 v6 fld else (if (5 : Int32) < v1 then fX3_work_28 v1 v2 v3 v5 v6 fld else (if ((fX3_areNumbers v2 v3 v5 v6 fld).1) = (0) then fX3_work_28 v1 v2 v3 v5 v6 ((fX3_areNumbers v2 v3 v5 v6 fld).2) else fX3_work_29 v1 v2 v3 v5 v6 (0 : Int32) ((fX3_areNumbers v2 v3 v5 v6 fld).2))))
def okX3_work_0 (v1 : Int32) (v2 : Int32) (v3 : Int64) (v5 : Int32) (v6 : Int64) (fld : Int32) : Prop := ((v1 < (1 : Int32) → okX3_work_28 v1 v2 v3 v5 v6 fld) ∧ (¬ v1 < (1 : Int32) → (((5 : Int32) < v1 → okX3_work_28 v1 v2 v3 v5 v6 fld) ∧ (¬ (5 : Int32) < v1 → (okX3_areNumbers v2 v3 v5 v6 fld) ∧ ((((fX3_areNumbers v2 v3 v5 v6 fld).1) = (0) → okX3_work_28 v1 v2 v3 v5 v6 ((fX3_areNumbers v2 v3 v5 v6 fld).2)) ∧ (¬ ((fX3_areNumbers v2 v3 v5 v6 fld).1) = (0) → okX3_work_29 v1 v2 v3 v5 v6 (0 : Int32) ((fX3_areNumbers v2 v3 v5 v6 fld).2)))))))
def fX3_work (v1 : Int32) (v2 : Int32) (v3 : Int64) (v5 : Int32) (v6 : Int64) (fld : Int32) : Int64 × Int32 := fX3_work_0 v1 v2 v3 v5 v6 fld
def okX3_work (v1 : Int32) (v2 : Int32) (v3 : Int64) (v5 : Int32) (v6 : Int64) (fld : Int32) : Prop := okX3_work_0 v1 v2 v3 v5 v6 fld
def fX3_shift_106 (v1 : Int32) (v7 : Int32) (v8 : Int32) (fld : Int32) : Int64 × Int32 := (if v1 = (6 : Int32) then ((ishl v8 v7).toInt64, fld) else (if v1 = (7 : Int32) then ((ishr v8 v7).toInt64, fld) else ((iushr v8 v7).toInt64, fld)))
def fX3_shift_66 (v1 : Int32) (v2 : Int32) (v3 : Int64) (v7 : Int32) (fld : Int32) : Int64 × Int32 := (if v2 = (5 : Int32) then (if v1 = (6 : Int32) then ((jshl v3 v7), fld) else (if v1 = (7 : Int32) then ((jshr v3 v7), fld) else ((jushr v3 v7), fld))) else fX3_shift_106 v1 v7 (v3.toInt32) fld)
def fX3_shift_63 (v1 : Int32) (v2 : Int32) (v3 : Int64) (s0 : Int32) (s1 : Int32) (fld : Int32) : Int64 × Int32 := fX3_shift_66 v1 v2 v3 (s0 &&& s1) fld
def fX3_shift_36 (v1 : Int32) (v2 : Int32) (v3 : Int64) (v5 : Int64) (s1 : Int32) (fld : Int32) : Int64 × Int32 := (if (0) < s1 then ((0 : Int64), s1) else (if v2 = (5 : Int32) then fX3_shift_63 v1 v2 v3 (v5.toInt32) (63 : Int32) s1 else fX3_shift_63 v1 v2 v3 (v5.toInt32) (31 : Int32) s1))
def fX3_shift_35 (v1 : Int32) (v2 : Int32) (v3 : Int64) (v5 : Int64) (fld : Int32) : Int64 × Int32 := fX3_shift_36 v1 v2 v3 v5 (1 : Int32) fld
def fX3_shift_0 (v1 : Int32) (v2 : Int32) (v3 : Int64) (v5 : Int64) (fld : Int32) : Int64 × Int32 := (if v1 < (6 : Int32) then fX3_shift_35 v1 v2 v3 v5 fld else (if (8 : Int32) < v1 then fX3_shift_35 v1 v2 v3 v5 fld else (if v2 < (1 : Int32) then fX3_shift_35 v1 v2 v3 v5 fld else (if (5 : Int32) < v2 then fX3_shift_35 v1 v2 v3 v5 fld else (if (fX3_hasBits v2 v3) = (0) then fX3_shift_35 v1 v2 v3 v5 fld else fX3_shift_36 v1 v2 v3 v5 (0 : Int32) fld)))))
def okX3_shift_0 (v1 : Int32) (v2 : Int32) (v3 : Int64) (v5 : Int64) (fld : Int32) : Prop := ((v1 < (6 : Int32) → True) ∧ (¬ v1 < (6 : Int32) → (((8 : Int32) < v1 → True) ∧ (¬ (8 : Int32) < v1 → ((v2 < (1 : Int32) → True) ∧ (¬ v2 < (1 : Int32) → (((5 : Int32) < v2 → True) ∧ (¬ (5 : Int32) < v2 → (okX3_hasBits v2 v3) ∧ (((fX3_hasBits v2 v3) = (0) → True) ∧ (¬ (fX3_hasBits v2 v3) = (0) → True))))))))))
def fX3_shift (v1 : Int32) (v2 : Int32) (v3 : Int64) (v5 : Int64) (fld : Int32) : Int64 × Int32 := fX3_shift_0 v1 v2 v3 v5 fld
def okX3_shift (v1 : Int32) (v2 : Int32) (v3 : Int64) (v5 : Int64) (fld : Int32) : Prop := okX3_shift_0 v1 v2 v3 v5 fld
def fJ13_compare_74951_0 (v0 : Int64) (v2 : Int64) : Int32 := (if v0 < v2 then (-1 : Int32) else (if v0 = v2 then (0 : Int32) else (1 : Int32)))
def fJ13_compare_74951 (v0 : Int64) (v2 : Int64) : Int32 := fJ13_compare_74951_0 v0 v2
def fX3_compare_63 (v7 : Int32) (v8 : Int64) (v10 : Int64) (fld : Int32) : Int32 × Int32 := (if v7 < (6 : Int32) then ((fJ13_compare_74951 v8 v10), fld) else (if v7 = (6 : Int32) then ((fX2_compare (fX2_wide (v8.toInt32)) (fX2_wide (v10.toInt32))), fld) else ((fX2_compare v8 v10), fld)))
def okX3_compare_63 (v7 : Int32) (v8 : Int64) (v10 : Int64) (fld : Int32) : Prop := ((v7 < (6 : Int32) → True) ∧ (¬ v7 < (6 : Int32) → ((v7 = (6 : Int32) → (okX2_wide (v8.toInt32)) ∧ (okX2_wide (v10.toInt32)) ∧ True) ∧ (¬ v7 = (6 : Int32) → True))))
def fX3_compare_52 (v4 : Int32) (v5 : Int64) (v7 : Int32) (v8 : Int64) (fld : Int32) : Int32 × Int32 := fX3_compare_63 v7 v8 (fX3_widened v5 v4 v7) fld
def okX3_compare_52 (v4 : Int32) (v5 : Int64) (v7 : Int32) (v8 : Int64) (fld : Int32) : Prop := (okX3_widened v5 v4 v7) ∧ okX3_compare_63 v7 v8 (fX3_widened v5 v4 v7) fld
def fX3_compare_43 (v1 : Int32) (v2 : Int64) (v4 : Int32) (v5 : Int64) (v7 : Int32) (fld : Int32) : Int32 × Int32 := fX3_compare_52 v4 v5 v7 (fX3_widened v2 v1 v7) fld
def okX3_compare_43 (v1 : Int32) (v2 : Int64) (v4 : Int32) (v5 : Int64) (v7 : Int32) (fld : Int32) : Prop := (okX3_widened v2 v1 v7) ∧ okX3_compare_52 v4 v5 v7 (fX3_widened v2 v1 v7) fld
def fX3_compare_19 (v1 : Int32) (v2 : Int64) (v4 : Int32) (v5 : Int64) (s1 : Int32) (fld : Int32) : Int32 × Int32 := (if (0) < s1 then ((2 : Int32), s1) else fX3_compare_43 v1 v2 v4 v5 (imax (4 : Int32) (imax v1 v4)) s1)
def okX3_compare_19 (v1 : Int32) (v2 : Int64) (v4 : Int32) (v5 : Int64) (s1 : Int32) (fld : Int32) : Prop := (((0) < s1 → True) ∧ (¬ (0) < s1 → okX3_compare_43 v1 v2 v4 v5 (imax (4 : Int32) (imax v1 v4)) s1))
def fX3_compare_0 (v1 : Int32) (v2 : Int64) (v4 : Int32) (v5 : Int64) (fld : Int32) : Int32 × Int32 := (if ((fX3_areNumbers v1 v2 v4 v5 fld).1) = (0) then fX3_compare_19 v1 v2 v4 v5 (1 : Int32) ((fX3_areNumbers v1 v2 v4 v5 fld).2) else fX3_compare_19 v1 v2 v4 v5 (0 : Int32) ((fX3_areNumbers v1 v2 v4 v5 fld).2))
def okX3_compare_0 (v1 : Int32) (v2 : Int64) (v4 : Int32) (v5 : Int64) (fld : Int32) : Prop := (okX3_areNumbers v1 v2 v4 v5 fld) ∧ ((((fX3_areNumbers v1 v2 v4 v5 fld).1) = (0) → okX3_compare_19 v1 v2 v4 v5 (1 : Int32) ((fX3_areNumbers v1 v2 v4 v5 fld).2)) ∧ (¬ ((fX3_areNumbers v1 v2 v4 v5 fld).1) = (0) → okX3_compare_19 v1 v2 v4 v5 (0 : Int32) ((fX3_areNumbers v1 v2 v4 v5 fld).2)))
def fX3_compare (v1 : Int32) (v2 : Int64) (v4 : Int32) (v5 : Int64) (fld : Int32) : Int32 × Int32 := fX3_compare_0 v1 v2 v4 v5 fld
def okX3_compare (v1 : Int32) (v2 : Int64) (v4 : Int32) (v5 : Int64) (fld : Int32) : Prop := okX3_compare_0 v1 v2 v4 v5 fld
def fX3_ranked_23 (s0 : Int64) : Int64 := (if s0 < (0 : Int64) then (s0 ^^^ (9223372036854775807 : Int64)) else s0)
def fX3_ranked_0 (v0 : Int32) (v1 : Int64) : Int64 := (if v0 < (6 : Int32) then v1 else (if v0 = (6 : Int32) then fX3_ranked_23 (fX2_wide (v1.toInt32)) else fX3_ranked_23 v1))
def okX3_ranked_0 (v0 : Int32) (v1 : Int64) : Prop := ((v0 < (6 : Int32) → True) ∧ (¬ v0 < (6 : Int32) → ((v0 = (6 : Int32) → (okX2_wide (v1.toInt32)) ∧ True) ∧ (¬ v0 = (6 : Int32) → True))))
def fX3_ranked (v0 : Int32) (v1 : Int64) : Int64 := fX3_ranked_0 v0 v1
def okX3_ranked (v0 : Int32) (v1 : Int64) : Prop := okX3_ranked_0 v0 v1
def fX3_order_33 (v1 : Int32) (v2 : Int64) (v4 : Int64) (s1 : Int32) (fld : Int32) : Int32 × Int32 := (if (0) < s1 then ((2 : Int32), s1) else ((fJ13_compare_74951 (fX3_ranked v1 v2) (fX3_ranked v1 v4)), s1))
def okX3_order_33 (v1 : Int32) (v2 : Int64) (v4 : Int64) (s1 : Int32) (fld : Int32) : Prop := (((0) < s1 → True) ∧ (¬ (0) < s1 → (okX3_ranked v1 v2) ∧ (okX3_ranked v1 v4) ∧ True))
def fX3_order_32 (v1 : Int32) (v2 : Int64) (v4 : Int64) (fld : Int32) : Int32 × Int32 := fX3_order_33 v1 v2 v4 (1 : Int32) fld
def okX3_order_32 (v1 : Int32) (v2 : Int64) (v4 : Int64) (fld : Int32) : Prop := okX3_order_33 v1 v2 v4 (1 : Int32) fld
def fX3_order_0 (v1 : Int32) (v2 : Int64) (v4 : Int64) (fld : Int32) : Int32 × Int32 := (if v1 < (0) then fX3_order_32 v1 v2 v4 fld else (if (7 : Int32) < v1 then fX3_order_32 v1 v2 v4 fld else (if (fX3_hasBits v1 v2) = (0) then fX3_order_32 v1 v2 v4 fld else (if (fX3_hasBits v1 v4) = (0) then fX3_order_32 v1 v2 v4 fld else fX3_order_33 v1 v2 v4 (0 : Int32) fld))))
def okX3_order_0 (v1 : Int32) (v2 : Int64) (v4 : Int64) (fld : Int32) : Prop := ((v1 < (0) → okX3_order_32 v1 v2 v4 fld) ∧ (¬ v1 < (0) → (((7 : Int32) < v1 → okX3_order_32 v1 v2 v4 fld) ∧ (¬ (7 : Int32) < v1 → (okX3_hasBits v1 v2) ∧ (((fX3_hasBits v1 v2) = (0) → okX3_order_32 v1 v2 v4 fld) ∧ (¬ (fX3_hasBits v1 v2) = (0) → (okX3_hasBits v1 v4) ∧ (((fX3_hasBits v1 v4) = (0) → okX3_order_32 v1 v2 v4 fld) ∧ (¬ (fX3_hasBits v1 v4) = (0) → okX3_order_33 v1 v2 v4 (0 : Int32) fld))))))))
def fX3_order (v1 : Int32) (v2 : Int64) (v4 : Int64) (fld : Int32) : Int32 × Int32 := fX3_order_0 v1 v2 v4 fld
def okX3_order (v1 : Int32) (v2 : Int64) (v4 : Int64) (fld : Int32) : Prop := okX3_order_0 v1 v2 v4 fld
