section
-- ===== PART A: goes FIRST, ahead of the names: the tables' words, and 'selects' of the private methods out of them =====
/-- a private method of a class that the tables say can be made, by its rows of tables_1 -/
def lw_okq (q : MethodName × Nat) : Prop := (q.1.cls ≠ "java/lang/invoke/MethodHandle" ∧ q.1.cls ≠ "java/lang/invoke/VarHandle") ∧ Cond.instantiable q.1.cls q.2 ∈ tables_1 ∧ Cond.privateMethod q.1 ∈ tables_1 ∧ Cond.instanceMethod q.1 ∈ tables_1
theorem lw_p0 : lw_okq (⟨"KindNumbers", "fails", "(II)I"⟩, 1) := ⟨⟨by decide +kernel, by decide +kernel⟩, List.mem_of_getElem? (i := 8) (by decide +kernel), List.mem_of_getElem? (i := 58) (by decide +kernel), List.mem_of_getElem? (i := 59) (by decide +kernel)⟩
theorem lw_p1 : lw_okq (⟨"KindNumbers", "workReal", "(IIJJ)J"⟩, 1) := ⟨⟨by decide +kernel, by decide +kernel⟩, List.mem_of_getElem? (i := 8) (by decide +kernel), List.mem_of_getElem? (i := 137) (by decide +kernel), List.mem_of_getElem? (i := 138) (by decide +kernel)⟩
theorem lw_p2 : lw_okq (⟨"KindNumbers", "workWhole", "(IIJJ)J"⟩, 1) := ⟨⟨by decide +kernel, by decide +kernel⟩, List.mem_of_getElem? (i := 8) (by decide +kernel), List.mem_of_getElem? (i := 181) (by decide +kernel), List.mem_of_getElem? (i := 182) (by decide +kernel)⟩
theorem lw_p3 : lw_okq (⟨"KindNumbersModel", "areNumbers", "(IJIJ)Z"⟩, 1) := ⟨⟨by decide +kernel, by decide +kernel⟩, List.mem_of_getElem? (i := 218) (by decide +kernel), List.mem_of_getElem? (i := 328) (by decide +kernel), List.mem_of_getElem? (i := 329) (by decide +kernel)⟩
theorem lw_p4 : lw_okq (⟨"KindNumbersModel", "whole", "(IIJJ)J"⟩, 1) := ⟨⟨by decide +kernel, by decide +kernel⟩, List.mem_of_getElem? (i := 218) (by decide +kernel), List.mem_of_getElem? (i := 333) (by decide +kernel), List.mem_of_getElem? (i := 334) (by decide +kernel)⟩
theorem lw_p5 : lw_okq (⟨"KindNumbersModel", "floating", "(IJJ)J"⟩, 1) := ⟨⟨by decide +kernel, by decide +kernel⟩, List.mem_of_getElem? (i := 218) (by decide +kernel), List.mem_of_getElem? (i := 338) (by decide +kernel), List.mem_of_getElem? (i := 339) (by decide +kernel)⟩
def lw_privs_1 : List (MethodName × Nat) := [(⟨"KindNumbers", "fails", "(II)I"⟩, 1), (⟨"KindNumbers", "workReal", "(IIJJ)J"⟩, 1), (⟨"KindNumbers", "workWhole", "(IIJJ)J"⟩, 1), (⟨"KindNumbersModel", "areNumbers", "(IJIJ)Z"⟩, 1), (⟨"KindNumbersModel", "whole", "(IIJJ)J"⟩, 1), (⟨"KindNumbersModel", "floating", "(IJJ)J"⟩, 1)]
theorem lw_r1 : ∀ q ∈ lw_privs_1, lw_okq q := List.forall_mem_cons.mpr ⟨lw_p0, List.forall_mem_cons.mpr ⟨lw_p1, List.forall_mem_cons.mpr ⟨lw_p2, List.forall_mem_cons.mpr ⟨lw_p3, List.forall_mem_cons.mpr ⟨lw_p4, List.forall_mem_cons.mpr ⟨lw_p5, fun _ h => absurd h List.not_mem_nil⟩⟩⟩⟩⟩⟩
def lw_privs : List (MethodName × Nat) := lw_privs_1
def lw_tbl : List Cond := k2_sels lw_privs ++ tables_1
theorem lw_privs_ok : ∀ q ∈ lw_privs, lw_okq q := lw_r1
-- ===== end of PART A; then your names; then what follows =====
end
section
/-! ===== BEGIN words of one list among another's, by their places ===== -/
theorem goodIn_r {big : List Cond} (ws : List Cond) (ps : List Nat) (hp : ws = ps.filterMap (fun i => big[i]?)) (h : ws.all goodWord = true) : GoodIn big ws := by
  intro w hw
  have h1 := List.all_eq_true.mp h w hw
  rw [hp] at hw
  obtain ⟨i, -, hi⟩ := List.mem_filterMap.mp hw
  have hm : w ∈ big := by first | exact List.mem_of_getElem? hi | exact List.getElem?_mem hi
  exact ⟨hm, good_of_word h1⟩
theorem goodIn_app {big a b : List Cond} (ha : GoodIn big a) (hb : GoodIn big b) : GoodIn big (a ++ b) := fun w h => (List.mem_append.mp h).elim (ha w) (hb w)
theorem goodIn_ca {big a b : List Cond} {c : Cond} (ha : GoodIn big (c :: a)) (hb : GoodIn big b) : GoodIn big (c :: (a ++ b)) := fun w h => (List.mem_cons.mp h).elim (fun e => ha w (List.mem_cons.mpr (Or.inl e))) (fun h => (List.mem_append.mp h).elim (fun h => ha w (List.mem_cons.mpr (Or.inr h))) (hb w))
theorem goodIn_sub {big ws : List Cond} (hm : ∀ w ∈ ws, w ∈ big) (h : ws.all goodWord = true) : GoodIn big ws := fun w hw => ⟨hm w hw, good_of_word (List.all_eq_true.mp h w hw)⟩
/-! ===== END ===== -/

/-! ===== BEGIN printed: names, fields, word lists, decode rows ===== -/
def RX0 : String := "KindNumbers$Real"
def TX0 : u_T := fun k => match k with
  | _ => ("", "", "", false)
def tyX0 : Nat → FieldType := fun k => match k with
  | _ => .int
abbrev wsX00 : List Cond := u_ws RX0 TX0 0
theorem nmX0 : ∀ a, a < 0 → ∀ b, b < 0 → a ≠ b → (TX0 a).2.1 ≠ (TX0 b).2.1 := by decide +kernel
theorem tyX0_ok : ∀ k, k < 0 → parseFieldDescriptor (TX0 k).2.2.1 = some (tyX0 k) := by decide +kernel
abbrev cX0_fractionBits : ByteArray := prog_2_method_2_code
def yX0_fractionBits : MethodName := ⟨RX0, "fractionBits", "(I)I"⟩
abbrev cX0_leastExponent : ByteArray := prog_2_method_3_code
def yX0_leastExponent : MethodName := ⟨RX0, "leastExponent", "(I)I"⟩
abbrev cX0_greatestAbove : ByteArray := prog_2_method_4_code
def yX0_greatestAbove : MethodName := ⟨RX0, "greatestAbove", "(I)I"⟩
abbrev cX0_infinity : ByteArray := prog_2_method_5_code
def yX0_infinity : MethodName := ⟨RX0, "infinity", "(I)J"⟩
abbrev cX0_notANumber : ByteArray := prog_2_method_6_code
def yX0_notANumber : MethodName := ⟨RX0, "notANumber", "(I)J"⟩
abbrev cX0_signBit : ByteArray := prog_2_method_7_code
def yX0_signBit : MethodName := ⟨RX0, "signBit", "(I)J"⟩
abbrev cX0_size : ByteArray := prog_2_method_8_code
def yX0_size : MethodName := ⟨RX0, "size", "(IJ)J"⟩
abbrev cX0_isNumber : ByteArray := prog_2_method_9_code
def yX0_isNumber : MethodName := ⟨RX0, "isNumber", "(IJ)Z"⟩
abbrev cX0_isNegative : ByteArray := prog_2_method_10_code
def yX0_isNegative : MethodName := ⟨RX0, "isNegative", "(IJ)Z"⟩
abbrev cX0_isInfinite : ByteArray := prog_2_method_11_code
def yX0_isInfinite : MethodName := ⟨RX0, "isInfinite", "(IJ)Z"⟩
abbrev cX0_isZero : ByteArray := prog_2_method_12_code
def yX0_isZero : MethodName := ⟨RX0, "isZero", "(IJ)Z"⟩
abbrev cX0_negated : ByteArray := prog_2_method_13_code
def yX0_negated : MethodName := ⟨RX0, "negated", "(IJ)J"⟩
abbrev cX0_signed : ByteArray := prog_2_method_14_code
def yX0_signed : MethodName := ⟨RX0, "signed", "(IZJ)J"⟩
abbrev cX0_place : ByteArray := prog_2_method_15_code
def yX0_place : MethodName := ⟨RX0, "place", "(IJ)J"⟩
abbrev cX0_placeWithZerosApart : ByteArray := prog_2_method_16_code
def yX0_placeWithZerosApart : MethodName := ⟨RX0, "placeWithZerosApart", "(IJ)J"⟩
abbrev cX0_magnitude : ByteArray := prog_2_method_17_code
def yX0_magnitude : MethodName := ⟨RX0, "magnitude", "(IJ)J"⟩
abbrev cX0_exponent : ByteArray := prog_2_method_18_code
def yX0_exponent : MethodName := ⟨RX0, "exponent", "(IJ)I"⟩
abbrev cX0_roomBelow : ByteArray := prog_2_method_19_code
def yX0_roomBelow : MethodName := ⟨RX0, "roomBelow", "(IJ)I"⟩
abbrev cX0_movedDown : ByteArray := prog_2_method_20_code
def yX0_movedDown : MethodName := ⟨RX0, "movedDown", "(JI)J"⟩
abbrev cX0_ofWhole : ByteArray := prog_2_method_21_code
def yX0_ofWhole : MethodName := ⟨RX0, "ofWhole", "(IJ)J"⟩
abbrev cX0_ofReal : ByteArray := prog_2_method_22_code
def yX0_ofReal : MethodName := ⟨RX0, "ofReal", "(IIJ)J"⟩
abbrev cX0_wholePart : ByteArray := prog_2_method_23_code
def yX0_wholePart : MethodName := ⟨RX0, "wholePart", "(IJ)J"⟩
abbrev cX0_nearest : ByteArray := prog_2_method_24_code
def yX0_nearest : MethodName := ⟨RX0, "nearest", "(IZJI)J"⟩
abbrev cX0_roundedDown : ByteArray := prog_2_method_25_code
def yX0_roundedDown : MethodName := ⟨RX0, "roundedDown", "(JI)J"⟩
abbrev cX0_sum : ByteArray := prog_2_method_26_code
def yX0_sum : MethodName := ⟨RX0, "sum", "(IJJ)J"⟩
abbrev cX0_sumByGreater : ByteArray := prog_2_method_27_code
def yX0_sumByGreater : MethodName := ⟨RX0, "sumByGreater", "(IJJ)J"⟩
abbrev cX0_product : ByteArray := prog_2_method_28_code
def yX0_product : MethodName := ⟨RX0, "product", "(IJJ)J"⟩
abbrev cX0_topOfProduct : ByteArray := prog_2_method_29_code
def yX0_topOfProduct : MethodName := ⟨RX0, "topOfProduct", "(JJ)J"⟩
abbrev cX0_quotient : ByteArray := prog_2_method_30_code
def yX0_quotient : MethodName := ⟨RX0, "quotient", "(IJJ)J"⟩
abbrev cX0_topOfQuotient : ByteArray := prog_2_method_31_code
def yX0_topOfQuotient : MethodName := ⟨RX0, "topOfQuotient", "(JJ)J"⟩
abbrev cX0_rest : ByteArray := prog_2_method_32_code
def yX0_rest : MethodName := ⟨RX0, "rest", "(IJJ)J"⟩
abbrev cX0_restAbove : ByteArray := prog_2_method_33_code
def yX0_restAbove : MethodName := ⟨RX0, "restAbove", "(JIJ)J"⟩
def RX1 : String := "KindNumbers"
def TX1 : u_T := fun k => match k with
  | _ => ("KindNumbers", "why", "I", false)
def tyX1 : Nat → FieldType := fun k => match k with
  | _ => .int
abbrev wsX10 : List Cond := u_ws RX1 TX1 1
theorem nmX1 : ∀ a, a < 1 → ∀ b, b < 1 → a ≠ b → (TX1 a).2.1 ≠ (TX1 b).2.1 := by decide +kernel
theorem tyX1_ok : ∀ k, k < 1 → parseFieldDescriptor (TX1 k).2.2.1 = some (tyX1 k) := by decide +kernel
abbrev cX1_init : ByteArray := prog_1_method_1_code
def yX1_init : MethodName := ⟨RX1, "<init>", "()V"⟩
abbrev cX1_has : ByteArray := prog_1_method_2_code
def yX1_has : MethodName := ⟨RX1, "has", "(IJ)Z"⟩
abbrev cX1_widens : ByteArray := prog_1_method_3_code
def yX1_widens : MethodName := ⟨RX1, "widens", "(II)Z"⟩
abbrev cX1_cast : ByteArray := prog_1_method_4_code
def yX1_cast : MethodName := ⟨RX1, "cast", "(IIJ)J"⟩
abbrev cX1_work : ByteArray := prog_1_method_5_code
def yX1_work : MethodName := ⟨RX1, "work", "(IIJIJ)J"⟩
abbrev cX1_shift : ByteArray := prog_1_method_6_code
def yX1_shift : MethodName := ⟨RX1, "shift", "(IIJJ)J"⟩
abbrev cX1_compare : ByteArray := prog_1_method_7_code
def yX1_compare : MethodName := ⟨RX1, "compare", "(IJIJ)I"⟩
abbrev cX1_order : ByteArray := prog_1_method_8_code
def yX1_order : MethodName := ⟨RX1, "order", "(IJJ)I"⟩
abbrev cX1_failed : ByteArray := prog_1_method_9_code
def yX1_failed : MethodName := ⟨RX1, "failed", "()I"⟩
abbrev cX1_fails : ByteArray := prog_1_method_10_code
def yX1_fails : MethodName := ⟨RX1, "fails", "(II)I"⟩
abbrev cX1_isNumberKind : ByteArray := prog_1_method_11_code
def yX1_isNumberKind : MethodName := ⟨RX1, "isNumberKind", "(I)Z"⟩
abbrev cX1_isValue : ByteArray := prog_1_method_12_code
def yX1_isValue : MethodName := ⟨RX1, "isValue", "(IJ)Z"⟩
abbrev cX1_areNumbers : ByteArray := prog_1_method_13_code
def yX1_areNumbers : MethodName := ⟨RX1, "areNumbers", "(IJIJ)Z"⟩
abbrev cX1_workKind : ByteArray := prog_1_method_14_code
def yX1_workKind : MethodName := ⟨RX1, "workKind", "(II)I"⟩
abbrev cX1_sideOf : ByteArray := prog_1_method_15_code
def yX1_sideOf : MethodName := ⟨RX1, "sideOf", "(JJ)I"⟩
abbrev cX1_narrowed : ByteArray := prog_1_method_16_code
def yX1_narrowed : MethodName := ⟨RX1, "narrowed", "(IJ)J"⟩
abbrev cX1_converted : ByteArray := prog_1_method_17_code
def yX1_converted : MethodName := ⟨RX1, "converted", "(IIJ)J"⟩
abbrev cX1_cutToInt : ByteArray := prog_1_method_18_code
def yX1_cutToInt : MethodName := ⟨RX1, "cutToInt", "(J)J"⟩
abbrev cX1_workWhole : ByteArray := prog_1_method_19_code
def yX1_workWhole : MethodName := ⟨RX1, "workWhole", "(IIJJ)J"⟩
abbrev cX1_workReal : ByteArray := prog_1_method_20_code
def yX1_workReal : MethodName := ⟨RX1, "workReal", "(IIJJ)J"⟩
abbrev cX1_shiftedInt : ByteArray := prog_1_method_21_code
def yX1_shiftedInt : MethodName := ⟨RX1, "shiftedInt", "(III)J"⟩
abbrev cX1_shiftedLong : ByteArray := prog_1_method_22_code
def yX1_shiftedLong : MethodName := ⟨RX1, "shiftedLong", "(IJI)J"⟩
def RX2 : String := "KindNumbersModel$Soft"
def TX2 : u_T := fun k => match k with
  | _ => ("", "", "", false)
def tyX2 : Nat → FieldType := fun k => match k with
  | _ => .int
abbrev wsX20 : List Cond := u_ws RX2 TX2 0
theorem nmX2 : ∀ a, a < 0 → ∀ b, b < 0 → a ≠ b → (TX2 a).2.1 ≠ (TX2 b).2.1 := by decide +kernel
theorem tyX2_ok : ∀ k, k < 0 → parseFieldDescriptor (TX2 k).2.2.1 = some (tyX2 k) := by decide +kernel
abbrev cX2_isNone : ByteArray := prog_5_method_2_code
def yX2_isNone : MethodName := ⟨RX2, "isNone", "(J)Z"⟩
abbrev cX2_isInfinite : ByteArray := prog_5_method_3_code
def yX2_isInfinite : MethodName := ⟨RX2, "isInfinite", "(J)Z"⟩
abbrev cX2_isZero : ByteArray := prog_5_method_4_code
def yX2_isZero : MethodName := ⟨RX2, "isZero", "(J)Z"⟩
abbrev cX2_negative : ByteArray := prog_5_method_5_code
def yX2_negative : MethodName := ⟨RX2, "negative", "(J)J"⟩
abbrev cX2_exponent : ByteArray := prog_5_method_6_code
def yX2_exponent : MethodName := ⟨RX2, "exponent", "(J)I"⟩
abbrev cX2_significand : ByteArray := prog_5_method_7_code
def yX2_significand : MethodName := ⟨RX2, "significand", "(J)J"⟩
abbrev cX2_rounded : ByteArray := prog_5_method_8_code
def yX2_rounded : MethodName := ⟨RX2, "rounded", "(JIZII)J"⟩
abbrev cX2_made : ByteArray := prog_5_method_9_code
def yX2_made : MethodName := ⟨RX2, "made", "(ZJIZ)J"⟩
abbrev cX2_add : ByteArray := prog_5_method_10_code
def yX2_add : MethodName := ⟨RX2, "add", "(JJ)J"⟩
abbrev cX2_multiply : ByteArray := prog_5_method_11_code
def yX2_multiply : MethodName := ⟨RX2, "multiply", "(JJ)J"⟩
abbrev cX2_divide : ByteArray := prog_5_method_12_code
def yX2_divide : MethodName := ⟨RX2, "divide", "(JJ)J"⟩
abbrev cX2_compare : ByteArray := prog_5_method_13_code
def yX2_compare : MethodName := ⟨RX2, "compare", "(JJ)I"⟩
abbrev cX2_of : ByteArray := prog_5_method_14_code
def yX2_of : MethodName := ⟨RX2, "of", "(JZ)J"⟩
abbrev cX2_floatOf : ByteArray := prog_5_method_15_code
def yX2_floatOf : MethodName := ⟨RX2, "floatOf", "(JZ)J"⟩
abbrev cX2_narrow : ByteArray := prog_5_method_16_code
def yX2_narrow : MethodName := ⟨RX2, "narrow", "(J)I"⟩
abbrev cX2_wide : ByteArray := prog_5_method_17_code
def yX2_wide : MethodName := ⟨RX2, "wide", "(I)J"⟩
abbrev cX2_cut : ByteArray := prog_5_method_18_code
def yX2_cut : MethodName := ⟨RX2, "cut", "(J)J"⟩
abbrev cX2_isGreat : ByteArray := prog_5_method_19_code
def yX2_isGreat : MethodName := ⟨RX2, "isGreat", "(J)Z"⟩
def RX3 : String := "KindNumbersModel"
def TX3 : u_T := fun k => match k with
  | _ => ("KindNumbersModel", "failed", "I", false)
def tyX3 : Nat → FieldType := fun k => match k with
  | _ => .int
abbrev wsX30 : List Cond := u_ws RX3 TX3 1
theorem nmX3 : ∀ a, a < 1 → ∀ b, b < 1 → a ≠ b → (TX3 a).2.1 ≠ (TX3 b).2.1 := by decide +kernel
theorem tyX3_ok : ∀ k, k < 1 → parseFieldDescriptor (TX3 k).2.2.1 = some (tyX3 k) := by decide +kernel
abbrev cX3_init : ByteArray := prog_4_method_1_code
def yX3_init : MethodName := ⟨RX3, "<init>", "()V"⟩
abbrev cX3_failed : ByteArray := prog_4_method_3_code
def yX3_failed : MethodName := ⟨RX3, "failed", "()I"⟩
abbrev cX3_isNumber : ByteArray := prog_4_method_4_code
def yX3_isNumber : MethodName := ⟨RX3, "isNumber", "(I)Z"⟩
abbrev cX3_hasBits : ByteArray := prog_4_method_5_code
def yX3_hasBits : MethodName := ⟨RX3, "hasBits", "(IJ)Z"⟩
abbrev cX3_isWider : ByteArray := prog_4_method_6_code
def yX3_isWider : MethodName := ⟨RX3, "isWider", "(II)Z"⟩
abbrev cX3_widened : ByteArray := prog_4_method_7_code
def yX3_widened : MethodName := ⟨RX3, "widened", "(JII)J"⟩
abbrev cX3_casted : ByteArray := prog_4_method_8_code
def yX3_casted : MethodName := ⟨RX3, "casted", "(JII)J"⟩
abbrev cX3_cut : ByteArray := prog_4_method_9_code
def yX3_cut : MethodName := ⟨RX3, "cut", "(JZ)J"⟩
abbrev cX3_rest : ByteArray := prog_4_method_10_code
def yX3_rest : MethodName := ⟨RX3, "rest", "(JJ)J"⟩
abbrev cX3_has : ByteArray := prog_4_method_11_code
def yX3_has : MethodName := ⟨RX3, "has", "(IJ)Z"⟩
abbrev cX3_widens : ByteArray := prog_4_method_12_code
def yX3_widens : MethodName := ⟨RX3, "widens", "(II)Z"⟩
abbrev cX3_cast : ByteArray := prog_4_method_13_code
def yX3_cast : MethodName := ⟨RX3, "cast", "(IIJ)J"⟩
abbrev cX3_areNumbers : ByteArray := prog_4_method_14_code
def yX3_areNumbers : MethodName := ⟨RX3, "areNumbers", "(IJIJ)Z"⟩
abbrev cX3_work : ByteArray := prog_4_method_15_code
def yX3_work : MethodName := ⟨RX3, "work", "(IIJIJ)J"⟩
abbrev cX3_whole : ByteArray := prog_4_method_16_code
def yX3_whole : MethodName := ⟨RX3, "whole", "(IIJJ)J"⟩
abbrev cX3_floating : ByteArray := prog_4_method_17_code
def yX3_floating : MethodName := ⟨RX3, "floating", "(IJJ)J"⟩
abbrev cX3_shift : ByteArray := prog_4_method_18_code
def yX3_shift : MethodName := ⟨RX3, "shift", "(IIJJ)J"⟩
abbrev cX3_compare : ByteArray := prog_4_method_19_code
def yX3_compare : MethodName := ⟨RX3, "compare", "(IJIJ)I"⟩
abbrev cX3_order : ByteArray := prog_4_method_20_code
def yX3_order : MethodName := ⟨RX3, "order", "(IJJ)I"⟩
abbrev cX3_ranked : ByteArray := prog_4_method_21_code
def yX3_ranked : MethodName := ⟨RX3, "ranked", "(IJ)J"⟩
def RJ13 : String := "java/lang/Long"
def TJ13 : u_T := fun k => match k with
  | _ => ("", "", "", false)
def tyJ13 : Nat → FieldType := fun k => match k with
  | _ => .int
abbrev wsJ130 : List Cond := u_ws RJ13 TJ13 0
theorem nmJ13 : ∀ a, a < 0 → ∀ b, b < 0 → a ≠ b → (TJ13 a).2.1 ≠ (TJ13 b).2.1 := by decide +kernel
theorem tyJ13_ok : ∀ k, k < 0 → parseFieldDescriptor (TJ13 k).2.2.1 = some (tyJ13 k) := by decide +kernel
abbrev cJ13_compare_74951 : ByteArray := prog_6_method_42_code
def yJ13_compare_74951 : MethodName := ⟨RJ13, "compare", "(JJ)I"⟩
def RJ9 : String := "java/lang/Math"
def TJ9 : u_T := fun k => match k with
  | _ => ("", "", "", false)
def tyJ9 : Nat → FieldType := fun k => match k with
  | _ => .int
abbrev wsJ90 : List Cond := u_ws RJ9 TJ9 0
theorem nmJ9 : ∀ a, a < 0 → ∀ b, b < 0 → a ≠ b → (TJ9 a).2.1 ≠ (TJ9 b).2.1 := by decide +kernel
theorem tyJ9_ok : ∀ k, k < 0 → parseFieldDescriptor (TJ9 k).2.2.1 = some (tyJ9 k) := by decide +kernel
abbrev cJ9_abs_067f4 : ByteArray := prog_7_method_61_code
def yJ9_abs_067f4 : MethodName := ⟨RJ9, "abs", "(J)J"⟩
abbrev cJ9_max_7cf53 : ByteArray := prog_7_method_65_code
def yJ9_max_7cf53 : MethodName := ⟨RJ9, "max", "(II)I"⟩
abbrev cJ9_max_f86c9 : ByteArray := prog_7_method_66_code
def yJ9_max_f86c9 : MethodName := ⟨RJ9, "max", "(JJ)J"⟩
abbrev cJ9_min_7cf53 : ByteArray := prog_7_method_69_code
def yJ9_min_7cf53 : MethodName := ⟨RJ9, "min", "(II)I"⟩
abbrev cJ9_min_f86c9 : ByteArray := prog_7_method_70_code
def yJ9_min_f86c9 : MethodName := ⟨RJ9, "min", "(JJ)J"⟩
def RL : String := "KindNumbersLaw"
abbrev cL_law : ByteArray := code
def yL_law : MethodName := ⟨RL, "law", "([I)Z"⟩
def wsX0_fractionBits : List Cond := .code yX0_fractionBits cX0_fractionBits 1 (some .int) :: ([])
def wsX0_leastExponent : List Cond := .code yX0_leastExponent cX0_leastExponent 1 (some .int) :: ([])
def wsX0_greatestAbove : List Cond := .code yX0_greatestAbove cX0_greatestAbove 1 (some .int) :: ([])
def wsX0_infinity : List Cond := .code yX0_infinity cX0_infinity 1 (some .long) :: ([.constantLong RX0 9 (2139095040), .constantLong RX0 11 (9218868437227405312)])
def wsX0_notANumber : List Cond := .code yX0_notANumber cX0_notANumber 1 (some .long) :: ([.methodLink RX0 13 yX0_infinity, .static yX0_infinity, .initialized RX0, .code yX0_infinity cX0_infinity 1 (some .long), .constantLong RX0 9 (2139095040), .constantLong RX0 11 (9218868437227405312)])
def wsX0_signBit : List Cond := .code yX0_signBit cX0_signBit 1 (some .long) :: ([.constantLong RX0 19 (2147483648), .constantLong RX0 23 (-9223372036854775808)])
def wsX0_size : List Cond := .code yX0_size cX0_size 3 (some .long) :: ([.constantLong RX0 28 (-1), .methodLink RX0 25 yX0_signBit, .static yX0_signBit, .initialized RX0, .code yX0_signBit cX0_signBit 1 (some .long), .constantLong RX0 19 (2147483648), .constantLong RX0 23 (-9223372036854775808)])
def wsX0_isNumber : List Cond := .code yX0_isNumber cX0_isNumber 5 (some .boolean) :: ([.methodLink RX0 30 yX0_size, .static yX0_size, .initialized RX0, .code yX0_size cX0_size 3 (some .long), .constantLong RX0 28 (-1), .methodLink RX0 25 yX0_signBit, .static yX0_signBit, .code yX0_signBit cX0_signBit 1 (some .long), .constantLong RX0 19 (2147483648), .constantLong RX0 23 (-9223372036854775808), .methodLink RX0 13 yX0_infinity, .static yX0_infinity, .code yX0_infinity cX0_infinity 1 (some .long), .constantLong RX0 9 (2139095040), .constantLong RX0 11 (9218868437227405312)])
def wsX0_isNegative : List Cond := .code yX0_isNegative cX0_isNegative 3 (some .boolean) :: ([.methodLink RX0 25 yX0_signBit, .static yX0_signBit, .initialized RX0, .code yX0_signBit cX0_signBit 1 (some .long), .constantLong RX0 19 (2147483648), .constantLong RX0 23 (-9223372036854775808)])
def wsX0_isInfinite : List Cond := .code yX0_isInfinite cX0_isInfinite 3 (some .boolean) :: ([.methodLink RX0 30 yX0_size, .static yX0_size, .initialized RX0, .code yX0_size cX0_size 3 (some .long), .constantLong RX0 28 (-1), .methodLink RX0 25 yX0_signBit, .static yX0_signBit, .code yX0_signBit cX0_signBit 1 (some .long), .constantLong RX0 19 (2147483648), .constantLong RX0 23 (-9223372036854775808), .methodLink RX0 13 yX0_infinity, .static yX0_infinity, .code yX0_infinity cX0_infinity 1 (some .long), .constantLong RX0 9 (2139095040), .constantLong RX0 11 (9218868437227405312)])
def wsX0_isZero : List Cond := .code yX0_isZero cX0_isZero 3 (some .boolean) :: ([.methodLink RX0 30 yX0_size, .static yX0_size, .initialized RX0, .code yX0_size cX0_size 3 (some .long), .constantLong RX0 28 (-1), .methodLink RX0 25 yX0_signBit, .static yX0_signBit, .code yX0_signBit cX0_signBit 1 (some .long), .constantLong RX0 19 (2147483648), .constantLong RX0 23 (-9223372036854775808)])
def wsX0_negated : List Cond := .code yX0_negated cX0_negated 3 (some .long) :: ([.methodLink RX0 25 yX0_signBit, .static yX0_signBit, .initialized RX0, .code yX0_signBit cX0_signBit 1 (some .long), .constantLong RX0 19 (2147483648), .constantLong RX0 23 (-9223372036854775808)])
def wsX0_signed : List Cond := .code yX0_signed cX0_signed 4 (some .long) :: ([.methodLink RX0 25 yX0_signBit, .static yX0_signBit, .initialized RX0, .code yX0_signBit cX0_signBit 1 (some .long), .constantLong RX0 19 (2147483648), .constantLong RX0 23 (-9223372036854775808)])
def wsX0_place : List Cond := .code yX0_place cX0_place 5 (some .long) :: ([.methodLink RX0 30 yX0_size, .static yX0_size, .initialized RX0, .code yX0_size cX0_size 3 (some .long), .constantLong RX0 28 (-1), .methodLink RX0 25 yX0_signBit, .static yX0_signBit, .code yX0_signBit cX0_signBit 1 (some .long), .constantLong RX0 19 (2147483648), .constantLong RX0 23 (-9223372036854775808), .methodLink RX0 34 yX0_isNegative, .static yX0_isNegative, .code yX0_isNegative cX0_isNegative 3 (some .boolean)])
def wsX0_placeWithZerosApart : List Cond := .code yX0_placeWithZerosApart cX0_placeWithZerosApart 5 (some .long) :: ([.methodLink RX0 30 yX0_size, .static yX0_size, .initialized RX0, .code yX0_size cX0_size 3 (some .long), .constantLong RX0 28 (-1), .methodLink RX0 25 yX0_signBit, .static yX0_signBit, .code yX0_signBit cX0_signBit 1 (some .long), .constantLong RX0 19 (2147483648), .constantLong RX0 23 (-9223372036854775808), .methodLink RX0 34 yX0_isNegative, .static yX0_isNegative, .code yX0_isNegative cX0_isNegative 3 (some .boolean)])
def wsX0_magnitude : List Cond := .code yX0_magnitude cX0_magnitude 7 (some .long) :: ([.methodLink RX0 38 yX0_fractionBits, .static yX0_fractionBits, .initialized RX0, .code yX0_fractionBits cX0_fractionBits 1 (some .int), .methodLink RX0 30 yX0_size, .static yX0_size, .code yX0_size cX0_size 3 (some .long), .constantLong RX0 28 (-1), .methodLink RX0 25 yX0_signBit, .static yX0_signBit, .code yX0_signBit cX0_signBit 1 (some .long), .constantLong RX0 19 (2147483648), .constantLong RX0 23 (-9223372036854775808)])
def wsX0_exponent : List Cond := .code yX0_exponent cX0_exponent 4 (some .int) :: ([.methodLink RX0 45 Lib.Math.max.name, .static Lib.Math.max.name, .initialized "java/lang/Math", .code Lib.Math.max.name Lib.Math.max.code 2 (some .int), .methodLink RX0 30 yX0_size, .static yX0_size, .initialized RX0, .code yX0_size cX0_size 3 (some .long), .constantLong RX0 28 (-1), .methodLink RX0 25 yX0_signBit, .static yX0_signBit, .code yX0_signBit cX0_signBit 1 (some .long), .constantLong RX0 19 (2147483648), .constantLong RX0 23 (-9223372036854775808), .methodLink RX0 38 yX0_fractionBits, .static yX0_fractionBits, .code yX0_fractionBits cX0_fractionBits 1 (some .int), .methodLink RX0 42 yX0_leastExponent, .static yX0_leastExponent, .code yX0_leastExponent cX0_leastExponent 1 (some .int)])
def wsX0_roomBelow : List Cond := .code yX0_roomBelow cX0_roomBelow 4 (some .int) :: ([])
def wsX0_movedDown : List Cond := .code yX0_movedDown cX0_movedDown 5 (some .long) :: ([])
def wsX0_roundedDown : List Cond := .code yX0_roundedDown cX0_roundedDown 10 (some .long) :: ([])
def wsX0_nearest_r1 : List Cond := [Cond.methodLink RX0 64 yX0_signed, Cond.static yX0_signed, Cond.initialized RX0, Cond.code yX0_signed cX0_signed 4 (some .long), Cond.methodLink RX0 25 yX0_signBit, Cond.static yX0_signBit, Cond.code yX0_signBit cX0_signBit 1 (some .long), Cond.constantLong RX0 19 (2147483648), Cond.constantLong RX0 23 (-9223372036854775808), Cond.methodLink RX0 77 yX0_roomBelow, Cond.static yX0_roomBelow, Cond.code yX0_roomBelow cX0_roomBelow 4 (some .int), Cond.methodLink RX0 38 yX0_fractionBits, Cond.static yX0_fractionBits, Cond.code yX0_fractionBits cX0_fractionBits 1 (some .int), Cond.methodLink RX0 42 yX0_leastExponent, Cond.static yX0_leastExponent, Cond.code yX0_leastExponent cX0_leastExponent 1 (some .int), Cond.methodLink RX0 80 yX0_greatestAbove, Cond.static yX0_greatestAbove, Cond.code yX0_greatestAbove cX0_greatestAbove 1 (some .int), Cond.methodLink RX0 13 yX0_infinity, Cond.static yX0_infinity, Cond.code yX0_infinity cX0_infinity 1 (some .long)]
def wsX0_nearest_r2 : List Cond := [Cond.constantLong RX0 9 (2139095040), Cond.constantLong RX0 11 (9218868437227405312), Cond.methodLink RX0 83 yX0_roundedDown, Cond.static yX0_roundedDown, Cond.code yX0_roundedDown cX0_roundedDown 10 (some .long)]
def wsX0_nearest : List Cond := .code yX0_nearest cX0_nearest 10 (some .long) :: ((wsX0_nearest_r1 ++ wsX0_nearest_r2))
def wsX0_ofWhole_r1 : List Cond := [Cond.constantLong RX0 23 (-9223372036854775808), Cond.constantLong RX0 51 (4611686018427387904), Cond.methodLink RX0 57 Lib.MathLoose.abs_long.x, Cond.static Lib.MathLoose.abs_long.x, Cond.initialized "java/lang/Math", Cond.code Lib.MathLoose.abs_long.x Lib.MathLoose.abs_long.code 2 (some .long), Cond.methodLink RX0 53 yX0_nearest, Cond.static yX0_nearest, Cond.initialized RX0, Cond.code yX0_nearest cX0_nearest 10 (some .long), Cond.methodLink RX0 64 yX0_signed, Cond.static yX0_signed, Cond.code yX0_signed cX0_signed 4 (some .long), Cond.methodLink RX0 25 yX0_signBit, Cond.static yX0_signBit, Cond.code yX0_signBit cX0_signBit 1 (some .long), Cond.constantLong RX0 19 (2147483648), Cond.methodLink RX0 77 yX0_roomBelow, Cond.static yX0_roomBelow, Cond.code yX0_roomBelow cX0_roomBelow 4 (some .int), Cond.methodLink RX0 38 yX0_fractionBits, Cond.static yX0_fractionBits, Cond.code yX0_fractionBits cX0_fractionBits 1 (some .int), Cond.methodLink RX0 42 yX0_leastExponent]
def wsX0_ofWhole_r2 : List Cond := [Cond.static yX0_leastExponent, Cond.code yX0_leastExponent cX0_leastExponent 1 (some .int), Cond.methodLink RX0 80 yX0_greatestAbove, Cond.static yX0_greatestAbove, Cond.code yX0_greatestAbove cX0_greatestAbove 1 (some .int), Cond.methodLink RX0 13 yX0_infinity, Cond.static yX0_infinity, Cond.code yX0_infinity cX0_infinity 1 (some .long), Cond.constantLong RX0 9 (2139095040), Cond.constantLong RX0 11 (9218868437227405312), Cond.methodLink RX0 83 yX0_roundedDown, Cond.static yX0_roundedDown, Cond.code yX0_roundedDown cX0_roundedDown 10 (some .long)]
def wsX0_ofWhole : List Cond := .code yX0_ofWhole cX0_ofWhole 3 (some .long) :: ((wsX0_ofWhole_r1 ++ wsX0_ofWhole_r2))
def wsX0_ofReal_r1 : List Cond := [Cond.methodLink RX0 34 yX0_isNegative, Cond.static yX0_isNegative, Cond.initialized RX0, Cond.code yX0_isNegative cX0_isNegative 3 (some .boolean), Cond.methodLink RX0 25 yX0_signBit, Cond.static yX0_signBit, Cond.code yX0_signBit cX0_signBit 1 (some .long), Cond.constantLong RX0 19 (2147483648), Cond.constantLong RX0 23 (-9223372036854775808), Cond.methodLink RX0 61 yX0_isInfinite, Cond.static yX0_isInfinite, Cond.code yX0_isInfinite cX0_isInfinite 3 (some .boolean), Cond.methodLink RX0 30 yX0_size, Cond.static yX0_size, Cond.code yX0_size cX0_size 3 (some .long), Cond.constantLong RX0 28 (-1), Cond.methodLink RX0 13 yX0_infinity, Cond.static yX0_infinity, Cond.code yX0_infinity cX0_infinity 1 (some .long), Cond.constantLong RX0 9 (2139095040), Cond.constantLong RX0 11 (9218868437227405312), Cond.methodLink RX0 64 yX0_signed, Cond.static yX0_signed, Cond.code yX0_signed cX0_signed 4 (some .long)]
def wsX0_ofReal_r2 : List Cond := [Cond.methodLink RX0 68 yX0_magnitude, Cond.static yX0_magnitude, Cond.code yX0_magnitude cX0_magnitude 7 (some .long), Cond.methodLink RX0 38 yX0_fractionBits, Cond.static yX0_fractionBits, Cond.code yX0_fractionBits cX0_fractionBits 1 (some .int), Cond.methodLink RX0 71 yX0_exponent, Cond.static yX0_exponent, Cond.code yX0_exponent cX0_exponent 4 (some .int), Cond.methodLink RX0 45 Lib.Math.max.name, Cond.static Lib.Math.max.name, Cond.initialized "java/lang/Math", Cond.code Lib.Math.max.name Lib.Math.max.code 2 (some .int), Cond.methodLink RX0 42 yX0_leastExponent, Cond.static yX0_leastExponent, Cond.code yX0_leastExponent cX0_leastExponent 1 (some .int), Cond.methodLink RX0 53 yX0_nearest, Cond.static yX0_nearest, Cond.code yX0_nearest cX0_nearest 10 (some .long), Cond.methodLink RX0 77 yX0_roomBelow, Cond.static yX0_roomBelow, Cond.code yX0_roomBelow cX0_roomBelow 4 (some .int), Cond.methodLink RX0 80 yX0_greatestAbove, Cond.static yX0_greatestAbove]
def wsX0_ofReal_r3 : List Cond := [Cond.code yX0_greatestAbove cX0_greatestAbove 1 (some .int), Cond.methodLink RX0 83 yX0_roundedDown, Cond.static yX0_roundedDown, Cond.code yX0_roundedDown cX0_roundedDown 10 (some .long)]
def wsX0_ofReal : List Cond := .code yX0_ofReal cX0_ofReal 5 (some .long) :: ((wsX0_ofReal_r1 ++ (wsX0_ofReal_r2 ++ wsX0_ofReal_r3)))
def wsX0_wholePart_r1 : List Cond := [Cond.constantLong RX0 75 (9223372036854775807), Cond.constantLong RX0 23 (-9223372036854775808), Cond.methodLink RX0 34 yX0_isNegative, Cond.static yX0_isNegative, Cond.initialized RX0, Cond.code yX0_isNegative cX0_isNegative 3 (some .boolean), Cond.methodLink RX0 25 yX0_signBit, Cond.static yX0_signBit, Cond.code yX0_signBit cX0_signBit 1 (some .long), Cond.constantLong RX0 19 (2147483648), Cond.methodLink RX0 68 yX0_magnitude, Cond.static yX0_magnitude, Cond.code yX0_magnitude cX0_magnitude 7 (some .long), Cond.methodLink RX0 38 yX0_fractionBits, Cond.static yX0_fractionBits, Cond.code yX0_fractionBits cX0_fractionBits 1 (some .int), Cond.methodLink RX0 30 yX0_size, Cond.static yX0_size, Cond.code yX0_size cX0_size 3 (some .long), Cond.constantLong RX0 28 (-1), Cond.methodLink RX0 71 yX0_exponent, Cond.static yX0_exponent, Cond.code yX0_exponent cX0_exponent 4 (some .int), Cond.methodLink RX0 45 Lib.Math.max.name]
def wsX0_wholePart_r2 : List Cond := [Cond.static Lib.Math.max.name, Cond.initialized "java/lang/Math", Cond.code Lib.Math.max.name Lib.Math.max.code 2 (some .int), Cond.methodLink RX0 42 yX0_leastExponent, Cond.static yX0_leastExponent, Cond.code yX0_leastExponent cX0_leastExponent 1 (some .int)]
def wsX0_wholePart : List Cond := .code yX0_wholePart cX0_wholePart 9 (some .long) :: ((wsX0_wholePart_r1 ++ wsX0_wholePart_r2))
def wsX0_sumByGreater_r1 : List Cond := [Cond.methodLink RX0 68 yX0_magnitude, Cond.static yX0_magnitude, Cond.initialized RX0, Cond.code yX0_magnitude cX0_magnitude 7 (some .long), Cond.methodLink RX0 38 yX0_fractionBits, Cond.static yX0_fractionBits, Cond.code yX0_fractionBits cX0_fractionBits 1 (some .int), Cond.methodLink RX0 30 yX0_size, Cond.static yX0_size, Cond.code yX0_size cX0_size 3 (some .long), Cond.constantLong RX0 28 (-1), Cond.methodLink RX0 25 yX0_signBit, Cond.static yX0_signBit, Cond.code yX0_signBit cX0_signBit 1 (some .long), Cond.constantLong RX0 19 (2147483648), Cond.constantLong RX0 23 (-9223372036854775808), Cond.methodLink RX0 77 yX0_roomBelow, Cond.static yX0_roomBelow, Cond.code yX0_roomBelow cX0_roomBelow 4 (some .int), Cond.methodLink RX0 71 yX0_exponent, Cond.static yX0_exponent, Cond.code yX0_exponent cX0_exponent 4 (some .int), Cond.methodLink RX0 45 Lib.Math.max.name, Cond.static Lib.Math.max.name]
def wsX0_sumByGreater_r2 : List Cond := [Cond.initialized "java/lang/Math", Cond.code Lib.Math.max.name Lib.Math.max.code 2 (some .int), Cond.methodLink RX0 42 yX0_leastExponent, Cond.static yX0_leastExponent, Cond.code yX0_leastExponent cX0_leastExponent 1 (some .int), Cond.methodLink RX0 97 yX0_movedDown, Cond.static yX0_movedDown, Cond.code yX0_movedDown cX0_movedDown 5 (some .long), Cond.methodLink RX0 34 yX0_isNegative, Cond.static yX0_isNegative, Cond.code yX0_isNegative cX0_isNegative 3 (some .boolean), Cond.methodLink RX0 53 yX0_nearest, Cond.static yX0_nearest, Cond.code yX0_nearest cX0_nearest 10 (some .long), Cond.methodLink RX0 64 yX0_signed, Cond.static yX0_signed, Cond.code yX0_signed cX0_signed 4 (some .long), Cond.methodLink RX0 80 yX0_greatestAbove, Cond.static yX0_greatestAbove, Cond.code yX0_greatestAbove cX0_greatestAbove 1 (some .int), Cond.methodLink RX0 13 yX0_infinity, Cond.static yX0_infinity, Cond.code yX0_infinity cX0_infinity 1 (some .long), Cond.constantLong RX0 9 (2139095040)]
def wsX0_sumByGreater_r3 : List Cond := [Cond.constantLong RX0 11 (9218868437227405312), Cond.methodLink RX0 83 yX0_roundedDown, Cond.static yX0_roundedDown, Cond.code yX0_roundedDown cX0_roundedDown 10 (some .long)]
def wsX0_sumByGreater : List Cond := .code yX0_sumByGreater cX0_sumByGreater 13 (some .long) :: ((wsX0_sumByGreater_r1 ++ (wsX0_sumByGreater_r2 ++ wsX0_sumByGreater_r3)))
def wsX0_sum_r1 : List Cond := [Cond.methodLink RX0 61 yX0_isInfinite, Cond.static yX0_isInfinite, Cond.initialized RX0, Cond.code yX0_isInfinite cX0_isInfinite 3 (some .boolean), Cond.methodLink RX0 30 yX0_size, Cond.static yX0_size, Cond.code yX0_size cX0_size 3 (some .long), Cond.constantLong RX0 28 (-1), Cond.methodLink RX0 25 yX0_signBit, Cond.static yX0_signBit, Cond.code yX0_signBit cX0_signBit 1 (some .long), Cond.constantLong RX0 19 (2147483648), Cond.constantLong RX0 23 (-9223372036854775808), Cond.methodLink RX0 13 yX0_infinity, Cond.static yX0_infinity, Cond.code yX0_infinity cX0_infinity 1 (some .long), Cond.constantLong RX0 9 (2139095040), Cond.constantLong RX0 11 (9218868437227405312), Cond.methodLink RX0 87 yX0_notANumber, Cond.static yX0_notANumber, Cond.code yX0_notANumber cX0_notANumber 1 (some .long), Cond.methodLink RX0 90 yX0_isZero, Cond.static yX0_isZero, Cond.code yX0_isZero cX0_isZero 3 (some .boolean)]
def wsX0_sum_r2 : List Cond := [Cond.methodLink RX0 93 yX0_sumByGreater, Cond.static yX0_sumByGreater, Cond.code yX0_sumByGreater cX0_sumByGreater 13 (some .long), Cond.methodLink RX0 68 yX0_magnitude, Cond.static yX0_magnitude, Cond.code yX0_magnitude cX0_magnitude 7 (some .long), Cond.methodLink RX0 38 yX0_fractionBits, Cond.static yX0_fractionBits, Cond.code yX0_fractionBits cX0_fractionBits 1 (some .int), Cond.methodLink RX0 77 yX0_roomBelow, Cond.static yX0_roomBelow, Cond.code yX0_roomBelow cX0_roomBelow 4 (some .int), Cond.methodLink RX0 71 yX0_exponent, Cond.static yX0_exponent, Cond.code yX0_exponent cX0_exponent 4 (some .int), Cond.methodLink RX0 45 Lib.Math.max.name, Cond.static Lib.Math.max.name, Cond.initialized "java/lang/Math", Cond.code Lib.Math.max.name Lib.Math.max.code 2 (some .int), Cond.methodLink RX0 42 yX0_leastExponent, Cond.static yX0_leastExponent, Cond.code yX0_leastExponent cX0_leastExponent 1 (some .int), Cond.methodLink RX0 97 yX0_movedDown, Cond.static yX0_movedDown]
def wsX0_sum_r3 : List Cond := [Cond.code yX0_movedDown cX0_movedDown 5 (some .long), Cond.methodLink RX0 34 yX0_isNegative, Cond.static yX0_isNegative, Cond.code yX0_isNegative cX0_isNegative 3 (some .boolean), Cond.methodLink RX0 53 yX0_nearest, Cond.static yX0_nearest, Cond.code yX0_nearest cX0_nearest 10 (some .long), Cond.methodLink RX0 64 yX0_signed, Cond.static yX0_signed, Cond.code yX0_signed cX0_signed 4 (some .long), Cond.methodLink RX0 80 yX0_greatestAbove, Cond.static yX0_greatestAbove, Cond.code yX0_greatestAbove cX0_greatestAbove 1 (some .int), Cond.methodLink RX0 83 yX0_roundedDown, Cond.static yX0_roundedDown, Cond.code yX0_roundedDown cX0_roundedDown 10 (some .long)]
def wsX0_sum : List Cond := .code yX0_sum cX0_sum 6 (some .long) :: ((wsX0_sum_r1 ++ (wsX0_sum_r2 ++ wsX0_sum_r3)))
def wsX0_topOfProduct : List Cond := .code yX0_topOfProduct cX0_topOfProduct 22 (some .long) :: ([.constantLong RX0 104 (134217727), .methodLink RX0 97 yX0_movedDown, .static yX0_movedDown, .initialized RX0, .code yX0_movedDown cX0_movedDown 5 (some .long)])
def wsX0_product_r1 : List Cond := [Cond.methodLink RX0 34 yX0_isNegative, Cond.static yX0_isNegative, Cond.initialized RX0, Cond.code yX0_isNegative cX0_isNegative 3 (some .boolean), Cond.methodLink RX0 25 yX0_signBit, Cond.static yX0_signBit, Cond.code yX0_signBit cX0_signBit 1 (some .long), Cond.constantLong RX0 19 (2147483648), Cond.constantLong RX0 23 (-9223372036854775808), Cond.methodLink RX0 61 yX0_isInfinite, Cond.static yX0_isInfinite, Cond.code yX0_isInfinite cX0_isInfinite 3 (some .boolean), Cond.methodLink RX0 30 yX0_size, Cond.static yX0_size, Cond.code yX0_size cX0_size 3 (some .long), Cond.constantLong RX0 28 (-1), Cond.methodLink RX0 13 yX0_infinity, Cond.static yX0_infinity, Cond.code yX0_infinity cX0_infinity 1 (some .long), Cond.constantLong RX0 9 (2139095040), Cond.constantLong RX0 11 (9218868437227405312), Cond.methodLink RX0 90 yX0_isZero, Cond.static yX0_isZero, Cond.code yX0_isZero cX0_isZero 3 (some .boolean)]
def wsX0_product_r2 : List Cond := [Cond.methodLink RX0 87 yX0_notANumber, Cond.static yX0_notANumber, Cond.code yX0_notANumber cX0_notANumber 1 (some .long), Cond.methodLink RX0 64 yX0_signed, Cond.static yX0_signed, Cond.code yX0_signed cX0_signed 4 (some .long), Cond.methodLink RX0 68 yX0_magnitude, Cond.static yX0_magnitude, Cond.code yX0_magnitude cX0_magnitude 7 (some .long), Cond.methodLink RX0 38 yX0_fractionBits, Cond.static yX0_fractionBits, Cond.code yX0_fractionBits cX0_fractionBits 1 (some .int), Cond.methodLink RX0 77 yX0_roomBelow, Cond.static yX0_roomBelow, Cond.code yX0_roomBelow cX0_roomBelow 4 (some .int), Cond.methodLink RX0 100 yX0_topOfProduct, Cond.static yX0_topOfProduct, Cond.code yX0_topOfProduct cX0_topOfProduct 22 (some .long), Cond.constantLong RX0 104 (134217727), Cond.methodLink RX0 97 yX0_movedDown, Cond.static yX0_movedDown, Cond.code yX0_movedDown cX0_movedDown 5 (some .long), Cond.methodLink RX0 71 yX0_exponent, Cond.static yX0_exponent]
def wsX0_product_r3 : List Cond := [Cond.code yX0_exponent cX0_exponent 4 (some .int), Cond.methodLink RX0 45 Lib.Math.max.name, Cond.static Lib.Math.max.name, Cond.initialized "java/lang/Math", Cond.code Lib.Math.max.name Lib.Math.max.code 2 (some .int), Cond.methodLink RX0 42 yX0_leastExponent, Cond.static yX0_leastExponent, Cond.code yX0_leastExponent cX0_leastExponent 1 (some .int), Cond.methodLink RX0 53 yX0_nearest, Cond.static yX0_nearest, Cond.code yX0_nearest cX0_nearest 10 (some .long), Cond.methodLink RX0 80 yX0_greatestAbove, Cond.static yX0_greatestAbove, Cond.code yX0_greatestAbove cX0_greatestAbove 1 (some .int), Cond.methodLink RX0 83 yX0_roundedDown, Cond.static yX0_roundedDown, Cond.code yX0_roundedDown cX0_roundedDown 10 (some .long)]
def wsX0_product : List Cond := .code yX0_product cX0_product 11 (some .long) :: ((wsX0_product_r1 ++ (wsX0_product_r2 ++ wsX0_product_r3)))
def wsX0_topOfQuotient : List Cond := .code yX0_topOfQuotient cX0_topOfQuotient 9 (some .long) :: ([])
def wsX0_quotient_r1 : List Cond := [Cond.methodLink RX0 61 yX0_isInfinite, Cond.static yX0_isInfinite, Cond.initialized RX0, Cond.code yX0_isInfinite cX0_isInfinite 3 (some .boolean), Cond.methodLink RX0 30 yX0_size, Cond.static yX0_size, Cond.code yX0_size cX0_size 3 (some .long), Cond.constantLong RX0 28 (-1), Cond.methodLink RX0 25 yX0_signBit, Cond.static yX0_signBit, Cond.code yX0_signBit cX0_signBit 1 (some .long), Cond.constantLong RX0 19 (2147483648), Cond.constantLong RX0 23 (-9223372036854775808), Cond.methodLink RX0 13 yX0_infinity, Cond.static yX0_infinity, Cond.code yX0_infinity cX0_infinity 1 (some .long), Cond.constantLong RX0 9 (2139095040), Cond.constantLong RX0 11 (9218868437227405312), Cond.methodLink RX0 90 yX0_isZero, Cond.static yX0_isZero, Cond.code yX0_isZero cX0_isZero 3 (some .boolean), Cond.methodLink RX0 87 yX0_notANumber, Cond.static yX0_notANumber, Cond.code yX0_notANumber cX0_notANumber 1 (some .long)]
def wsX0_quotient_r2 : List Cond := [Cond.methodLink RX0 34 yX0_isNegative, Cond.static yX0_isNegative, Cond.code yX0_isNegative cX0_isNegative 3 (some .boolean), Cond.methodLink RX0 64 yX0_signed, Cond.static yX0_signed, Cond.code yX0_signed cX0_signed 4 (some .long), Cond.methodLink RX0 68 yX0_magnitude, Cond.static yX0_magnitude, Cond.code yX0_magnitude cX0_magnitude 7 (some .long), Cond.methodLink RX0 38 yX0_fractionBits, Cond.static yX0_fractionBits, Cond.code yX0_fractionBits cX0_fractionBits 1 (some .int), Cond.methodLink RX0 77 yX0_roomBelow, Cond.static yX0_roomBelow, Cond.code yX0_roomBelow cX0_roomBelow 4 (some .int), Cond.methodLink RX0 106 yX0_topOfQuotient, Cond.static yX0_topOfQuotient, Cond.code yX0_topOfQuotient cX0_topOfQuotient 9 (some .long), Cond.methodLink RX0 71 yX0_exponent, Cond.static yX0_exponent, Cond.code yX0_exponent cX0_exponent 4 (some .int), Cond.methodLink RX0 45 Lib.Math.max.name, Cond.static Lib.Math.max.name, Cond.initialized "java/lang/Math"]
def wsX0_quotient_r3 : List Cond := [Cond.code Lib.Math.max.name Lib.Math.max.code 2 (some .int), Cond.methodLink RX0 42 yX0_leastExponent, Cond.static yX0_leastExponent, Cond.code yX0_leastExponent cX0_leastExponent 1 (some .int), Cond.methodLink RX0 53 yX0_nearest, Cond.static yX0_nearest, Cond.code yX0_nearest cX0_nearest 10 (some .long), Cond.methodLink RX0 80 yX0_greatestAbove, Cond.static yX0_greatestAbove, Cond.code yX0_greatestAbove cX0_greatestAbove 1 (some .int), Cond.methodLink RX0 83 yX0_roundedDown, Cond.static yX0_roundedDown, Cond.code yX0_roundedDown cX0_roundedDown 10 (some .long)]
def wsX0_quotient : List Cond := .code yX0_quotient cX0_quotient 14 (some .long) :: ((wsX0_quotient_r1 ++ (wsX0_quotient_r2 ++ wsX0_quotient_r3)))
def wsX0_restAbove : List Cond := .code yX0_restAbove cX0_restAbove 8 (some .long) :: ([.methodLink RX0 113 Lib.Math.min.name, .static Lib.Math.min.name, .initialized "java/lang/Math", .code Lib.Math.min.name Lib.Math.min.code 2 (some .int)])
def wsX0_rest_r1 : List Cond := [Cond.methodLink RX0 61 yX0_isInfinite, Cond.static yX0_isInfinite, Cond.initialized RX0, Cond.code yX0_isInfinite cX0_isInfinite 3 (some .boolean), Cond.methodLink RX0 30 yX0_size, Cond.static yX0_size, Cond.code yX0_size cX0_size 3 (some .long), Cond.constantLong RX0 28 (-1), Cond.methodLink RX0 25 yX0_signBit, Cond.static yX0_signBit, Cond.code yX0_signBit cX0_signBit 1 (some .long), Cond.constantLong RX0 19 (2147483648), Cond.constantLong RX0 23 (-9223372036854775808), Cond.methodLink RX0 13 yX0_infinity, Cond.static yX0_infinity, Cond.code yX0_infinity cX0_infinity 1 (some .long), Cond.constantLong RX0 9 (2139095040), Cond.constantLong RX0 11 (9218868437227405312), Cond.methodLink RX0 90 yX0_isZero, Cond.static yX0_isZero, Cond.code yX0_isZero cX0_isZero 3 (some .boolean), Cond.methodLink RX0 87 yX0_notANumber, Cond.static yX0_notANumber, Cond.code yX0_notANumber cX0_notANumber 1 (some .long)]
def wsX0_rest_r2 : List Cond := [Cond.methodLink RX0 68 yX0_magnitude, Cond.static yX0_magnitude, Cond.code yX0_magnitude cX0_magnitude 7 (some .long), Cond.methodLink RX0 38 yX0_fractionBits, Cond.static yX0_fractionBits, Cond.code yX0_fractionBits cX0_fractionBits 1 (some .int), Cond.methodLink RX0 77 yX0_roomBelow, Cond.static yX0_roomBelow, Cond.code yX0_roomBelow cX0_roomBelow 4 (some .int), Cond.methodLink RX0 71 yX0_exponent, Cond.static yX0_exponent, Cond.code yX0_exponent cX0_exponent 4 (some .int), Cond.methodLink RX0 45 Lib.Math.max.name, Cond.static Lib.Math.max.name, Cond.initialized "java/lang/Math", Cond.code Lib.Math.max.name Lib.Math.max.code 2 (some .int), Cond.methodLink RX0 42 yX0_leastExponent, Cond.static yX0_leastExponent, Cond.code yX0_leastExponent cX0_leastExponent 1 (some .int), Cond.methodLink RX0 109 yX0_restAbove, Cond.static yX0_restAbove, Cond.code yX0_restAbove cX0_restAbove 8 (some .long), Cond.methodLink RX0 113 Lib.Math.min.name, Cond.static Lib.Math.min.name]
def wsX0_rest_r3 : List Cond := [Cond.code Lib.Math.min.name Lib.Math.min.code 2 (some .int), Cond.methodLink RX0 34 yX0_isNegative, Cond.static yX0_isNegative, Cond.code yX0_isNegative cX0_isNegative 3 (some .boolean), Cond.methodLink RX0 53 yX0_nearest, Cond.static yX0_nearest, Cond.code yX0_nearest cX0_nearest 10 (some .long), Cond.methodLink RX0 64 yX0_signed, Cond.static yX0_signed, Cond.code yX0_signed cX0_signed 4 (some .long), Cond.methodLink RX0 80 yX0_greatestAbove, Cond.static yX0_greatestAbove, Cond.code yX0_greatestAbove cX0_greatestAbove 1 (some .int), Cond.methodLink RX0 83 yX0_roundedDown, Cond.static yX0_roundedDown, Cond.code yX0_roundedDown cX0_roundedDown 10 (some .long)]
def wsX0_rest : List Cond := .code yX0_rest cX0_rest 11 (some .long) :: ((wsX0_rest_r1 ++ (wsX0_rest_r2 ++ wsX0_rest_r3)))
def wsX1_init : List Cond := .code yX1_init cX1_init 1 none :: ([.methodLink RX1 1 objectInit, .instanceMethod objectInit, .code objectInit ⟨#[0xb1]⟩ 1 none, .fieldLink RX1 9 "KindNumbers" "why" "I"] ++ wsX10)
def wsX1_narrowed : List Cond := .code yX1_narrowed cX1_narrowed 3 (some .long) :: ([])
def wsX1_isValue : List Cond := .code yX1_isValue cX1_isValue 3 (some .boolean) :: ([.methodLink RX1 68 yX1_narrowed, .static yX1_narrowed, .initialized RX1, .code yX1_narrowed cX1_narrowed 3 (some .long), .methodLink RX1 71 yX0_isNumber, .static yX0_isNumber, .initialized RX0, .code yX0_isNumber cX0_isNumber 5 (some .boolean), .methodLink RX0 30 yX0_size, .static yX0_size, .code yX0_size cX0_size 3 (some .long), .constantLong RX0 28 (-1), .methodLink RX0 25 yX0_signBit, .static yX0_signBit, .code yX0_signBit cX0_signBit 1 (some .long), .constantLong RX0 19 (2147483648), .constantLong RX0 23 (-9223372036854775808), .methodLink RX0 13 yX0_infinity, .static yX0_infinity, .code yX0_infinity cX0_infinity 1 (some .long), .constantLong RX0 9 (2139095040), .constantLong RX0 11 (9218868437227405312)])
def wsX1_has_r1 : List Cond := [Cond.methodLink RX1 13 yX1_isValue, Cond.static yX1_isValue, Cond.initialized RX1, Cond.code yX1_isValue cX1_isValue 3 (some .boolean), Cond.methodLink RX1 68 yX1_narrowed, Cond.static yX1_narrowed, Cond.code yX1_narrowed cX1_narrowed 3 (some .long), Cond.methodLink RX1 71 yX0_isNumber, Cond.static yX0_isNumber, Cond.initialized RX0, Cond.code yX0_isNumber cX0_isNumber 5 (some .boolean), Cond.methodLink RX0 30 yX0_size, Cond.static yX0_size, Cond.code yX0_size cX0_size 3 (some .long), Cond.constantLong RX0 28 (-1), Cond.methodLink RX0 25 yX0_signBit, Cond.static yX0_signBit, Cond.code yX0_signBit cX0_signBit 1 (some .long), Cond.constantLong RX0 19 (2147483648), Cond.constantLong RX0 23 (-9223372036854775808), Cond.methodLink RX0 13 yX0_infinity, Cond.static yX0_infinity, Cond.code yX0_infinity cX0_infinity 1 (some .long), Cond.constantLong RX0 9 (2139095040)]
def wsX1_has_r2 : List Cond := [Cond.constantLong RX0 11 (9218868437227405312)]
def wsX1_has : List Cond := .code yX1_has cX1_has 4 (some .boolean) :: ((wsX1_has_r1 ++ wsX1_has_r2))
def wsX1_isNumberKind : List Cond := .code yX1_isNumberKind cX1_isNumberKind 1 (some .boolean) :: ([])
def wsX1_widens : List Cond := .code yX1_widens cX1_widens 3 (some .boolean) :: ([.methodLink RX1 17 yX1_isNumberKind, .static yX1_isNumberKind, .initialized RX1, .code yX1_isNumberKind cX1_isNumberKind 1 (some .boolean)])
def wsX1_fails : List Cond := .code yX1_fails cX1_fails 3 (some .int) :: ([.fieldLink RX1 9 "KindNumbers" "why" "I"] ++ wsX10)
def wsX1_cutToInt : List Cond := .code yX1_cutToInt cX1_cutToInt 2 (some .long) :: ([.constantLong RX1 94 (-2147483648), .constantLong RX1 96 (2147483647), .methodLink RX1 98 Lib.MathLoose.min_long.x, .static Lib.MathLoose.min_long.x, .initialized "java/lang/Math", .code Lib.MathLoose.min_long.x Lib.MathLoose.min_long.code 4 (some .long), .methodLink RX1 102 Lib.MathLoose.max_long.x, .static Lib.MathLoose.max_long.x, .code Lib.MathLoose.max_long.x Lib.MathLoose.max_long.code 4 (some .long)])
def wsX1_converted_r1 : List Cond := [Cond.methodLink RX1 79 yX0_ofReal, Cond.static yX0_ofReal, Cond.initialized RX0, Cond.code yX0_ofReal cX0_ofReal 5 (some .long), Cond.methodLink RX0 34 yX0_isNegative, Cond.static yX0_isNegative, Cond.code yX0_isNegative cX0_isNegative 3 (some .boolean), Cond.methodLink RX0 25 yX0_signBit, Cond.static yX0_signBit, Cond.code yX0_signBit cX0_signBit 1 (some .long), Cond.constantLong RX0 19 (2147483648), Cond.constantLong RX0 23 (-9223372036854775808), Cond.methodLink RX0 61 yX0_isInfinite, Cond.static yX0_isInfinite, Cond.code yX0_isInfinite cX0_isInfinite 3 (some .boolean), Cond.methodLink RX0 30 yX0_size, Cond.static yX0_size, Cond.code yX0_size cX0_size 3 (some .long), Cond.constantLong RX0 28 (-1), Cond.methodLink RX0 13 yX0_infinity, Cond.static yX0_infinity, Cond.code yX0_infinity cX0_infinity 1 (some .long), Cond.constantLong RX0 9 (2139095040), Cond.constantLong RX0 11 (9218868437227405312)]
def wsX1_converted_r2 : List Cond := [Cond.methodLink RX0 64 yX0_signed, Cond.static yX0_signed, Cond.code yX0_signed cX0_signed 4 (some .long), Cond.methodLink RX0 68 yX0_magnitude, Cond.static yX0_magnitude, Cond.code yX0_magnitude cX0_magnitude 7 (some .long), Cond.methodLink RX0 38 yX0_fractionBits, Cond.static yX0_fractionBits, Cond.code yX0_fractionBits cX0_fractionBits 1 (some .int), Cond.methodLink RX0 71 yX0_exponent, Cond.static yX0_exponent, Cond.code yX0_exponent cX0_exponent 4 (some .int), Cond.methodLink RX0 45 Lib.Math.max.name, Cond.static Lib.Math.max.name, Cond.initialized "java/lang/Math", Cond.code Lib.Math.max.name Lib.Math.max.code 2 (some .int), Cond.methodLink RX0 42 yX0_leastExponent, Cond.static yX0_leastExponent, Cond.code yX0_leastExponent cX0_leastExponent 1 (some .int), Cond.methodLink RX0 53 yX0_nearest, Cond.static yX0_nearest, Cond.code yX0_nearest cX0_nearest 10 (some .long), Cond.methodLink RX0 77 yX0_roomBelow, Cond.static yX0_roomBelow]
def wsX1_converted_r3 : List Cond := [Cond.code yX0_roomBelow cX0_roomBelow 4 (some .int), Cond.methodLink RX0 80 yX0_greatestAbove, Cond.static yX0_greatestAbove, Cond.code yX0_greatestAbove cX0_greatestAbove 1 (some .int), Cond.methodLink RX0 83 yX0_roundedDown, Cond.static yX0_roundedDown, Cond.code yX0_roundedDown cX0_roundedDown 10 (some .long), Cond.methodLink RX1 82 yX0_ofWhole, Cond.static yX0_ofWhole, Cond.code yX0_ofWhole cX0_ofWhole 3 (some .long), Cond.constantLong RX0 51 (4611686018427387904), Cond.methodLink RX0 57 Lib.MathLoose.abs_long.x, Cond.static Lib.MathLoose.abs_long.x, Cond.code Lib.MathLoose.abs_long.x Lib.MathLoose.abs_long.code 2 (some .long), Cond.methodLink RX1 68 yX1_narrowed, Cond.static yX1_narrowed, Cond.initialized RX1, Cond.code yX1_narrowed cX1_narrowed 3 (some .long), Cond.methodLink RX1 85 yX0_wholePart, Cond.static yX0_wholePart, Cond.code yX0_wholePart cX0_wholePart 9 (some .long), Cond.constantLong RX0 75 (9223372036854775807), Cond.methodLink RX1 88 yX1_cutToInt, Cond.static yX1_cutToInt]
def wsX1_converted_r4 : List Cond := [Cond.code yX1_cutToInt cX1_cutToInt 2 (some .long), Cond.constantLong RX1 94 (-2147483648), Cond.constantLong RX1 96 (2147483647), Cond.methodLink RX1 98 Lib.MathLoose.min_long.x, Cond.static Lib.MathLoose.min_long.x, Cond.code Lib.MathLoose.min_long.x Lib.MathLoose.min_long.code 4 (some .long), Cond.methodLink RX1 102 Lib.MathLoose.max_long.x, Cond.static Lib.MathLoose.max_long.x, Cond.code Lib.MathLoose.max_long.x Lib.MathLoose.max_long.code 4 (some .long)]
def wsX1_converted : List Cond := .code yX1_converted cX1_converted 6 (some .long) :: ((wsX1_converted_r1 ++ (wsX1_converted_r2 ++ (wsX1_converted_r3 ++ wsX1_converted_r4))))
def wsX1_cast_r1 : List Cond := [Cond.fieldLink RX1 9 "KindNumbers" "why" "I", Cond.methodLink RX1 17 yX1_isNumberKind, Cond.static yX1_isNumberKind, Cond.initialized RX1, Cond.code yX1_isNumberKind cX1_isNumberKind 1 (some .boolean), Cond.methodLink RX1 13 yX1_isValue, Cond.static yX1_isValue, Cond.code yX1_isValue cX1_isValue 3 (some .boolean), Cond.methodLink RX1 68 yX1_narrowed, Cond.static yX1_narrowed, Cond.code yX1_narrowed cX1_narrowed 3 (some .long), Cond.methodLink RX1 71 yX0_isNumber, Cond.static yX0_isNumber, Cond.initialized RX0, Cond.code yX0_isNumber cX0_isNumber 5 (some .boolean), Cond.methodLink RX0 30 yX0_size, Cond.static yX0_size, Cond.code yX0_size cX0_size 3 (some .long), Cond.constantLong RX0 28 (-1), Cond.methodLink RX0 25 yX0_signBit, Cond.static yX0_signBit, Cond.code yX0_signBit cX0_signBit 1 (some .long), Cond.constantLong RX0 19 (2147483648), Cond.constantLong RX0 23 (-9223372036854775808)]
def wsX1_cast_r2 : List Cond := [Cond.methodLink RX0 13 yX0_infinity, Cond.static yX0_infinity, Cond.code yX0_infinity cX0_infinity 1 (some .long), Cond.constantLong RX0 9 (2139095040), Cond.constantLong RX0 11 (9218868437227405312), Cond.methodLink RX1 21 yX1_fails, Cond.instanceMethod yX1_fails, Cond.selects RX1 yX1_fails yX1_fails, Cond.code yX1_fails cX1_fails 3 (some .int), Cond.methodLink RX1 25 yX1_converted, Cond.static yX1_converted, Cond.code yX1_converted cX1_converted 6 (some .long), Cond.methodLink RX1 79 yX0_ofReal, Cond.static yX0_ofReal, Cond.code yX0_ofReal cX0_ofReal 5 (some .long), Cond.methodLink RX0 34 yX0_isNegative, Cond.static yX0_isNegative, Cond.code yX0_isNegative cX0_isNegative 3 (some .boolean), Cond.methodLink RX0 61 yX0_isInfinite, Cond.static yX0_isInfinite, Cond.code yX0_isInfinite cX0_isInfinite 3 (some .boolean), Cond.methodLink RX0 64 yX0_signed, Cond.static yX0_signed, Cond.code yX0_signed cX0_signed 4 (some .long)]
def wsX1_cast_r3 : List Cond := [Cond.methodLink RX0 68 yX0_magnitude, Cond.static yX0_magnitude, Cond.code yX0_magnitude cX0_magnitude 7 (some .long), Cond.methodLink RX0 38 yX0_fractionBits, Cond.static yX0_fractionBits, Cond.code yX0_fractionBits cX0_fractionBits 1 (some .int), Cond.methodLink RX0 71 yX0_exponent, Cond.static yX0_exponent, Cond.code yX0_exponent cX0_exponent 4 (some .int), Cond.methodLink RX0 45 Lib.Math.max.name, Cond.static Lib.Math.max.name, Cond.initialized "java/lang/Math", Cond.code Lib.Math.max.name Lib.Math.max.code 2 (some .int), Cond.methodLink RX0 42 yX0_leastExponent, Cond.static yX0_leastExponent, Cond.code yX0_leastExponent cX0_leastExponent 1 (some .int), Cond.methodLink RX0 53 yX0_nearest, Cond.static yX0_nearest, Cond.code yX0_nearest cX0_nearest 10 (some .long), Cond.methodLink RX0 77 yX0_roomBelow, Cond.static yX0_roomBelow, Cond.code yX0_roomBelow cX0_roomBelow 4 (some .int), Cond.methodLink RX0 80 yX0_greatestAbove, Cond.static yX0_greatestAbove]
def wsX1_cast_r4 : List Cond := [Cond.code yX0_greatestAbove cX0_greatestAbove 1 (some .int), Cond.methodLink RX0 83 yX0_roundedDown, Cond.static yX0_roundedDown, Cond.code yX0_roundedDown cX0_roundedDown 10 (some .long), Cond.methodLink RX1 82 yX0_ofWhole, Cond.static yX0_ofWhole, Cond.code yX0_ofWhole cX0_ofWhole 3 (some .long), Cond.constantLong RX0 51 (4611686018427387904), Cond.methodLink RX0 57 Lib.MathLoose.abs_long.x, Cond.static Lib.MathLoose.abs_long.x, Cond.code Lib.MathLoose.abs_long.x Lib.MathLoose.abs_long.code 2 (some .long), Cond.methodLink RX1 85 yX0_wholePart, Cond.static yX0_wholePart, Cond.code yX0_wholePart cX0_wholePart 9 (some .long), Cond.constantLong RX0 75 (9223372036854775807), Cond.methodLink RX1 88 yX1_cutToInt, Cond.static yX1_cutToInt, Cond.code yX1_cutToInt cX1_cutToInt 2 (some .long), Cond.constantLong RX1 94 (-2147483648), Cond.constantLong RX1 96 (2147483647), Cond.methodLink RX1 98 Lib.MathLoose.min_long.x, Cond.static Lib.MathLoose.min_long.x, Cond.code Lib.MathLoose.min_long.x Lib.MathLoose.min_long.code 4 (some .long), Cond.methodLink RX1 102 Lib.MathLoose.max_long.x]
def wsX1_cast_r5 : List Cond := [Cond.static Lib.MathLoose.max_long.x, Cond.code Lib.MathLoose.max_long.x Lib.MathLoose.max_long.code 4 (some .long)]
def wsX1_cast : List Cond := .code yX1_cast cX1_cast 6 (some .long) :: ((wsX1_cast_r1 ++ (wsX1_cast_r2 ++ (wsX1_cast_r3 ++ (wsX1_cast_r4 ++ wsX1_cast_r5)))) ++ wsX10)
def wsX1_areNumbers_r1 : List Cond := [Cond.methodLink RX1 17 yX1_isNumberKind, Cond.static yX1_isNumberKind, Cond.initialized RX1, Cond.code yX1_isNumberKind cX1_isNumberKind 1 (some .boolean), Cond.methodLink RX1 13 yX1_isValue, Cond.static yX1_isValue, Cond.code yX1_isValue cX1_isValue 3 (some .boolean), Cond.methodLink RX1 68 yX1_narrowed, Cond.static yX1_narrowed, Cond.code yX1_narrowed cX1_narrowed 3 (some .long), Cond.methodLink RX1 71 yX0_isNumber, Cond.static yX0_isNumber, Cond.initialized RX0, Cond.code yX0_isNumber cX0_isNumber 5 (some .boolean), Cond.methodLink RX0 30 yX0_size, Cond.static yX0_size, Cond.code yX0_size cX0_size 3 (some .long), Cond.constantLong RX0 28 (-1), Cond.methodLink RX0 25 yX0_signBit, Cond.static yX0_signBit, Cond.code yX0_signBit cX0_signBit 1 (some .long), Cond.constantLong RX0 19 (2147483648), Cond.constantLong RX0 23 (-9223372036854775808), Cond.methodLink RX0 13 yX0_infinity]
def wsX1_areNumbers_r2 : List Cond := [Cond.static yX0_infinity, Cond.code yX0_infinity cX0_infinity 1 (some .long), Cond.constantLong RX0 9 (2139095040), Cond.constantLong RX0 11 (9218868437227405312)]
def wsX1_areNumbers : List Cond := .code yX1_areNumbers cX1_areNumbers 6 (some .boolean) :: ((wsX1_areNumbers_r1 ++ wsX1_areNumbers_r2))
def wsX1_workKind : List Cond := .code yX1_workKind cX1_workKind 2 (some .int) :: ([.methodLink RX1 74 Lib.Math.max.name, .static Lib.Math.max.name, .initialized "java/lang/Math", .code Lib.Math.max.name Lib.Math.max.code 2 (some .int)])
def wsX1_workReal_r1 : List Cond := [Cond.methodLink RX1 104 yX0_sum, Cond.static yX0_sum, Cond.initialized RX0, Cond.code yX0_sum cX0_sum 6 (some .long), Cond.methodLink RX0 61 yX0_isInfinite, Cond.static yX0_isInfinite, Cond.code yX0_isInfinite cX0_isInfinite 3 (some .boolean), Cond.methodLink RX0 30 yX0_size, Cond.static yX0_size, Cond.code yX0_size cX0_size 3 (some .long), Cond.constantLong RX0 28 (-1), Cond.methodLink RX0 25 yX0_signBit, Cond.static yX0_signBit, Cond.code yX0_signBit cX0_signBit 1 (some .long), Cond.constantLong RX0 19 (2147483648), Cond.constantLong RX0 23 (-9223372036854775808), Cond.methodLink RX0 13 yX0_infinity, Cond.static yX0_infinity, Cond.code yX0_infinity cX0_infinity 1 (some .long), Cond.constantLong RX0 9 (2139095040), Cond.constantLong RX0 11 (9218868437227405312), Cond.methodLink RX0 87 yX0_notANumber, Cond.static yX0_notANumber, Cond.code yX0_notANumber cX0_notANumber 1 (some .long)]
def wsX1_workReal_r2 : List Cond := [Cond.methodLink RX0 90 yX0_isZero, Cond.static yX0_isZero, Cond.code yX0_isZero cX0_isZero 3 (some .boolean), Cond.methodLink RX0 93 yX0_sumByGreater, Cond.static yX0_sumByGreater, Cond.code yX0_sumByGreater cX0_sumByGreater 13 (some .long), Cond.methodLink RX0 68 yX0_magnitude, Cond.static yX0_magnitude, Cond.code yX0_magnitude cX0_magnitude 7 (some .long), Cond.methodLink RX0 38 yX0_fractionBits, Cond.static yX0_fractionBits, Cond.code yX0_fractionBits cX0_fractionBits 1 (some .int), Cond.methodLink RX0 77 yX0_roomBelow, Cond.static yX0_roomBelow, Cond.code yX0_roomBelow cX0_roomBelow 4 (some .int), Cond.methodLink RX0 71 yX0_exponent, Cond.static yX0_exponent, Cond.code yX0_exponent cX0_exponent 4 (some .int), Cond.methodLink RX0 45 Lib.Math.max.name, Cond.static Lib.Math.max.name, Cond.initialized "java/lang/Math", Cond.code Lib.Math.max.name Lib.Math.max.code 2 (some .int), Cond.methodLink RX0 42 yX0_leastExponent, Cond.static yX0_leastExponent]
def wsX1_workReal_r3 : List Cond := [Cond.code yX0_leastExponent cX0_leastExponent 1 (some .int), Cond.methodLink RX0 97 yX0_movedDown, Cond.static yX0_movedDown, Cond.code yX0_movedDown cX0_movedDown 5 (some .long), Cond.methodLink RX0 34 yX0_isNegative, Cond.static yX0_isNegative, Cond.code yX0_isNegative cX0_isNegative 3 (some .boolean), Cond.methodLink RX0 53 yX0_nearest, Cond.static yX0_nearest, Cond.code yX0_nearest cX0_nearest 10 (some .long), Cond.methodLink RX0 64 yX0_signed, Cond.static yX0_signed, Cond.code yX0_signed cX0_signed 4 (some .long), Cond.methodLink RX0 80 yX0_greatestAbove, Cond.static yX0_greatestAbove, Cond.code yX0_greatestAbove cX0_greatestAbove 1 (some .int), Cond.methodLink RX0 83 yX0_roundedDown, Cond.static yX0_roundedDown, Cond.code yX0_roundedDown cX0_roundedDown 10 (some .long), Cond.methodLink RX1 108 yX0_negated, Cond.static yX0_negated, Cond.code yX0_negated cX0_negated 3 (some .long), Cond.methodLink RX1 111 yX0_product, Cond.static yX0_product]
def wsX1_workReal_r4 : List Cond := [Cond.code yX0_product cX0_product 11 (some .long), Cond.methodLink RX0 100 yX0_topOfProduct, Cond.static yX0_topOfProduct, Cond.code yX0_topOfProduct cX0_topOfProduct 22 (some .long), Cond.constantLong RX0 104 (134217727), Cond.methodLink RX1 114 yX0_quotient, Cond.static yX0_quotient, Cond.code yX0_quotient cX0_quotient 14 (some .long), Cond.methodLink RX0 106 yX0_topOfQuotient, Cond.static yX0_topOfQuotient, Cond.code yX0_topOfQuotient cX0_topOfQuotient 9 (some .long), Cond.methodLink RX1 117 yX0_rest, Cond.static yX0_rest, Cond.code yX0_rest cX0_rest 11 (some .long), Cond.methodLink RX0 109 yX0_restAbove, Cond.static yX0_restAbove, Cond.code yX0_restAbove cX0_restAbove 8 (some .long), Cond.methodLink RX0 113 Lib.Math.min.name, Cond.static Lib.Math.min.name, Cond.code Lib.Math.min.name Lib.Math.min.code 2 (some .int), Cond.methodLink RX1 71 yX0_isNumber, Cond.static yX0_isNumber, Cond.code yX0_isNumber cX0_isNumber 5 (some .boolean), Cond.methodLink RX1 21 yX1_fails]
def wsX1_workReal_r5 : List Cond := [Cond.instanceMethod yX1_fails, Cond.selects RX1 yX1_fails yX1_fails, Cond.initialized RX1, Cond.code yX1_fails cX1_fails 3 (some .int), Cond.fieldLink RX1 9 "KindNumbers" "why" "I"]
def wsX1_workReal : List Cond := .code yX1_workReal cX1_workReal 9 (some .long) :: ((wsX1_workReal_r1 ++ (wsX1_workReal_r2 ++ (wsX1_workReal_r3 ++ (wsX1_workReal_r4 ++ wsX1_workReal_r5)))) ++ wsX10)
def wsX1_workWhole : List Cond := .code yX1_workWhole cX1_workWhole 7 (some .long) :: ([.methodLink RX1 68 yX1_narrowed, .static yX1_narrowed, .initialized RX1, .code yX1_narrowed cX1_narrowed 3 (some .long), .methodLink RX1 21 yX1_fails, .instanceMethod yX1_fails, .selects RX1 yX1_fails yX1_fails, .code yX1_fails cX1_fails 3 (some .int), .fieldLink RX1 9 "KindNumbers" "why" "I"] ++ wsX10)
def wsX1_work_r1 : List Cond := [Cond.fieldLink RX1 9 "KindNumbers" "why" "I", Cond.methodLink RX1 29 yX1_areNumbers, Cond.static yX1_areNumbers, Cond.initialized RX1, Cond.code yX1_areNumbers cX1_areNumbers 6 (some .boolean), Cond.methodLink RX1 17 yX1_isNumberKind, Cond.static yX1_isNumberKind, Cond.code yX1_isNumberKind cX1_isNumberKind 1 (some .boolean), Cond.methodLink RX1 13 yX1_isValue, Cond.static yX1_isValue, Cond.code yX1_isValue cX1_isValue 3 (some .boolean), Cond.methodLink RX1 68 yX1_narrowed, Cond.static yX1_narrowed, Cond.code yX1_narrowed cX1_narrowed 3 (some .long), Cond.methodLink RX1 71 yX0_isNumber, Cond.static yX0_isNumber, Cond.initialized RX0, Cond.code yX0_isNumber cX0_isNumber 5 (some .boolean), Cond.methodLink RX0 30 yX0_size, Cond.static yX0_size, Cond.code yX0_size cX0_size 3 (some .long), Cond.constantLong RX0 28 (-1), Cond.methodLink RX0 25 yX0_signBit, Cond.static yX0_signBit]
def wsX1_work_r2 : List Cond := [Cond.code yX0_signBit cX0_signBit 1 (some .long), Cond.constantLong RX0 19 (2147483648), Cond.constantLong RX0 23 (-9223372036854775808), Cond.methodLink RX0 13 yX0_infinity, Cond.static yX0_infinity, Cond.code yX0_infinity cX0_infinity 1 (some .long), Cond.constantLong RX0 9 (2139095040), Cond.constantLong RX0 11 (9218868437227405312), Cond.methodLink RX1 21 yX1_fails, Cond.instanceMethod yX1_fails, Cond.selects RX1 yX1_fails yX1_fails, Cond.code yX1_fails cX1_fails 3 (some .int), Cond.methodLink RX1 33 yX1_workKind, Cond.static yX1_workKind, Cond.code yX1_workKind cX1_workKind 2 (some .int), Cond.methodLink RX1 74 Lib.Math.max.name, Cond.static Lib.Math.max.name, Cond.initialized "java/lang/Math", Cond.code Lib.Math.max.name Lib.Math.max.code 2 (some .int), Cond.methodLink RX1 25 yX1_converted, Cond.static yX1_converted, Cond.code yX1_converted cX1_converted 6 (some .long), Cond.methodLink RX1 79 yX0_ofReal, Cond.static yX0_ofReal]
def wsX1_work_r3 : List Cond := [Cond.code yX0_ofReal cX0_ofReal 5 (some .long), Cond.methodLink RX0 34 yX0_isNegative, Cond.static yX0_isNegative, Cond.code yX0_isNegative cX0_isNegative 3 (some .boolean), Cond.methodLink RX0 61 yX0_isInfinite, Cond.static yX0_isInfinite, Cond.code yX0_isInfinite cX0_isInfinite 3 (some .boolean), Cond.methodLink RX0 64 yX0_signed, Cond.static yX0_signed, Cond.code yX0_signed cX0_signed 4 (some .long), Cond.methodLink RX0 68 yX0_magnitude, Cond.static yX0_magnitude, Cond.code yX0_magnitude cX0_magnitude 7 (some .long), Cond.methodLink RX0 38 yX0_fractionBits, Cond.static yX0_fractionBits, Cond.code yX0_fractionBits cX0_fractionBits 1 (some .int), Cond.methodLink RX0 71 yX0_exponent, Cond.static yX0_exponent, Cond.code yX0_exponent cX0_exponent 4 (some .int), Cond.methodLink RX0 45 Lib.Math.max.name, Cond.methodLink RX0 42 yX0_leastExponent, Cond.static yX0_leastExponent, Cond.code yX0_leastExponent cX0_leastExponent 1 (some .int), Cond.methodLink RX0 53 yX0_nearest]
def wsX1_work_r4 : List Cond := [Cond.static yX0_nearest, Cond.code yX0_nearest cX0_nearest 10 (some .long), Cond.methodLink RX0 77 yX0_roomBelow, Cond.static yX0_roomBelow, Cond.code yX0_roomBelow cX0_roomBelow 4 (some .int), Cond.methodLink RX0 80 yX0_greatestAbove, Cond.static yX0_greatestAbove, Cond.code yX0_greatestAbove cX0_greatestAbove 1 (some .int), Cond.methodLink RX0 83 yX0_roundedDown, Cond.static yX0_roundedDown, Cond.code yX0_roundedDown cX0_roundedDown 10 (some .long), Cond.methodLink RX1 82 yX0_ofWhole, Cond.static yX0_ofWhole, Cond.code yX0_ofWhole cX0_ofWhole 3 (some .long), Cond.constantLong RX0 51 (4611686018427387904), Cond.methodLink RX0 57 Lib.MathLoose.abs_long.x, Cond.static Lib.MathLoose.abs_long.x, Cond.code Lib.MathLoose.abs_long.x Lib.MathLoose.abs_long.code 2 (some .long), Cond.methodLink RX1 85 yX0_wholePart, Cond.static yX0_wholePart, Cond.code yX0_wholePart cX0_wholePart 9 (some .long), Cond.constantLong RX0 75 (9223372036854775807), Cond.methodLink RX1 88 yX1_cutToInt, Cond.static yX1_cutToInt]
def wsX1_work_r5 : List Cond := [Cond.code yX1_cutToInt cX1_cutToInt 2 (some .long), Cond.constantLong RX1 94 (-2147483648), Cond.constantLong RX1 96 (2147483647), Cond.methodLink RX1 98 Lib.MathLoose.min_long.x, Cond.static Lib.MathLoose.min_long.x, Cond.code Lib.MathLoose.min_long.x Lib.MathLoose.min_long.code 4 (some .long), Cond.methodLink RX1 102 Lib.MathLoose.max_long.x, Cond.static Lib.MathLoose.max_long.x, Cond.code Lib.MathLoose.max_long.x Lib.MathLoose.max_long.code 4 (some .long), Cond.methodLink RX1 36 yX1_workReal, Cond.instanceMethod yX1_workReal, Cond.selects RX1 yX1_workReal yX1_workReal, Cond.code yX1_workReal cX1_workReal 9 (some .long), Cond.methodLink RX1 104 yX0_sum, Cond.static yX0_sum, Cond.code yX0_sum cX0_sum 6 (some .long), Cond.methodLink RX0 87 yX0_notANumber, Cond.static yX0_notANumber, Cond.code yX0_notANumber cX0_notANumber 1 (some .long), Cond.methodLink RX0 90 yX0_isZero, Cond.static yX0_isZero, Cond.code yX0_isZero cX0_isZero 3 (some .boolean), Cond.methodLink RX0 93 yX0_sumByGreater, Cond.static yX0_sumByGreater]
def wsX1_work_r6 : List Cond := [Cond.code yX0_sumByGreater cX0_sumByGreater 13 (some .long), Cond.methodLink RX0 97 yX0_movedDown, Cond.static yX0_movedDown, Cond.code yX0_movedDown cX0_movedDown 5 (some .long), Cond.methodLink RX1 108 yX0_negated, Cond.static yX0_negated, Cond.code yX0_negated cX0_negated 3 (some .long), Cond.methodLink RX1 111 yX0_product, Cond.static yX0_product, Cond.code yX0_product cX0_product 11 (some .long), Cond.methodLink RX0 100 yX0_topOfProduct, Cond.static yX0_topOfProduct, Cond.code yX0_topOfProduct cX0_topOfProduct 22 (some .long), Cond.constantLong RX0 104 (134217727), Cond.methodLink RX1 114 yX0_quotient, Cond.static yX0_quotient, Cond.code yX0_quotient cX0_quotient 14 (some .long), Cond.methodLink RX0 106 yX0_topOfQuotient, Cond.static yX0_topOfQuotient, Cond.code yX0_topOfQuotient cX0_topOfQuotient 9 (some .long), Cond.methodLink RX1 117 yX0_rest, Cond.static yX0_rest, Cond.code yX0_rest cX0_rest 11 (some .long), Cond.methodLink RX0 109 yX0_restAbove]
def wsX1_work_r7 : List Cond := [Cond.static yX0_restAbove, Cond.code yX0_restAbove cX0_restAbove 8 (some .long), Cond.methodLink RX0 113 Lib.Math.min.name, Cond.static Lib.Math.min.name, Cond.code Lib.Math.min.name Lib.Math.min.code 2 (some .int), Cond.methodLink RX1 40 yX1_workWhole, Cond.instanceMethod yX1_workWhole, Cond.selects RX1 yX1_workWhole yX1_workWhole, Cond.code yX1_workWhole cX1_workWhole 7 (some .long)]
def wsX1_work : List Cond := .code yX1_work cX1_work 13 (some .long) :: ((wsX1_work_r1 ++ (wsX1_work_r2 ++ (wsX1_work_r3 ++ (wsX1_work_r4 ++ (wsX1_work_r5 ++ (wsX1_work_r6 ++ wsX1_work_r7)))))) ++ wsX10)
def wsX1_shiftedLong : List Cond := .code yX1_shiftedLong cX1_shiftedLong 4 (some .long) :: ([])
def wsX1_shiftedInt : List Cond := .code yX1_shiftedInt cX1_shiftedInt 3 (some .long) :: ([])
def wsX1_shift_r1 : List Cond := [Cond.fieldLink RX1 9 "KindNumbers" "why" "I", Cond.constantLong RX1 43 (63), Cond.constantLong RX1 49 (31), Cond.methodLink RX1 13 yX1_isValue, Cond.static yX1_isValue, Cond.initialized RX1, Cond.code yX1_isValue cX1_isValue 3 (some .boolean), Cond.methodLink RX1 68 yX1_narrowed, Cond.static yX1_narrowed, Cond.code yX1_narrowed cX1_narrowed 3 (some .long), Cond.methodLink RX1 71 yX0_isNumber, Cond.static yX0_isNumber, Cond.initialized RX0, Cond.code yX0_isNumber cX0_isNumber 5 (some .boolean), Cond.methodLink RX0 30 yX0_size, Cond.static yX0_size, Cond.code yX0_size cX0_size 3 (some .long), Cond.constantLong RX0 28 (-1), Cond.methodLink RX0 25 yX0_signBit, Cond.static yX0_signBit, Cond.code yX0_signBit cX0_signBit 1 (some .long), Cond.constantLong RX0 19 (2147483648), Cond.constantLong RX0 23 (-9223372036854775808), Cond.methodLink RX0 13 yX0_infinity]
def wsX1_shift_r2 : List Cond := [Cond.static yX0_infinity, Cond.code yX0_infinity cX0_infinity 1 (some .long), Cond.constantLong RX0 9 (2139095040), Cond.constantLong RX0 11 (9218868437227405312), Cond.methodLink RX1 21 yX1_fails, Cond.instanceMethod yX1_fails, Cond.selects RX1 yX1_fails yX1_fails, Cond.code yX1_fails cX1_fails 3 (some .int), Cond.methodLink RX1 45 yX1_shiftedLong, Cond.static yX1_shiftedLong, Cond.code yX1_shiftedLong cX1_shiftedLong 4 (some .long), Cond.methodLink RX1 51 yX1_shiftedInt, Cond.static yX1_shiftedInt, Cond.code yX1_shiftedInt cX1_shiftedInt 3 (some .long)]
def wsX1_shift : List Cond := .code yX1_shift cX1_shift 8 (some .long) :: ((wsX1_shift_r1 ++ wsX1_shift_r2) ++ wsX10)
def wsX1_sideOf : List Cond := .code yX1_sideOf cX1_sideOf 4 (some .int) :: ([])
def wsX1_compare_r1 : List Cond := [Cond.fieldLink RX1 9 "KindNumbers" "why" "I", Cond.methodLink RX1 29 yX1_areNumbers, Cond.static yX1_areNumbers, Cond.initialized RX1, Cond.code yX1_areNumbers cX1_areNumbers 6 (some .boolean), Cond.methodLink RX1 17 yX1_isNumberKind, Cond.static yX1_isNumberKind, Cond.code yX1_isNumberKind cX1_isNumberKind 1 (some .boolean), Cond.methodLink RX1 13 yX1_isValue, Cond.static yX1_isValue, Cond.code yX1_isValue cX1_isValue 3 (some .boolean), Cond.methodLink RX1 68 yX1_narrowed, Cond.static yX1_narrowed, Cond.code yX1_narrowed cX1_narrowed 3 (some .long), Cond.methodLink RX1 71 yX0_isNumber, Cond.static yX0_isNumber, Cond.initialized RX0, Cond.code yX0_isNumber cX0_isNumber 5 (some .boolean), Cond.methodLink RX0 30 yX0_size, Cond.static yX0_size, Cond.code yX0_size cX0_size 3 (some .long), Cond.constantLong RX0 28 (-1), Cond.methodLink RX0 25 yX0_signBit, Cond.static yX0_signBit]
def wsX1_compare_r2 : List Cond := [Cond.code yX0_signBit cX0_signBit 1 (some .long), Cond.constantLong RX0 19 (2147483648), Cond.constantLong RX0 23 (-9223372036854775808), Cond.methodLink RX0 13 yX0_infinity, Cond.static yX0_infinity, Cond.code yX0_infinity cX0_infinity 1 (some .long), Cond.constantLong RX0 9 (2139095040), Cond.constantLong RX0 11 (9218868437227405312), Cond.methodLink RX1 21 yX1_fails, Cond.instanceMethod yX1_fails, Cond.selects RX1 yX1_fails yX1_fails, Cond.code yX1_fails cX1_fails 3 (some .int), Cond.methodLink RX1 33 yX1_workKind, Cond.static yX1_workKind, Cond.code yX1_workKind cX1_workKind 2 (some .int), Cond.methodLink RX1 74 Lib.Math.max.name, Cond.static Lib.Math.max.name, Cond.initialized "java/lang/Math", Cond.code Lib.Math.max.name Lib.Math.max.code 2 (some .int), Cond.methodLink RX1 25 yX1_converted, Cond.static yX1_converted, Cond.code yX1_converted cX1_converted 6 (some .long), Cond.methodLink RX1 79 yX0_ofReal, Cond.static yX0_ofReal]
def wsX1_compare_r3 : List Cond := [Cond.code yX0_ofReal cX0_ofReal 5 (some .long), Cond.methodLink RX0 34 yX0_isNegative, Cond.static yX0_isNegative, Cond.code yX0_isNegative cX0_isNegative 3 (some .boolean), Cond.methodLink RX0 61 yX0_isInfinite, Cond.static yX0_isInfinite, Cond.code yX0_isInfinite cX0_isInfinite 3 (some .boolean), Cond.methodLink RX0 64 yX0_signed, Cond.static yX0_signed, Cond.code yX0_signed cX0_signed 4 (some .long), Cond.methodLink RX0 68 yX0_magnitude, Cond.static yX0_magnitude, Cond.code yX0_magnitude cX0_magnitude 7 (some .long), Cond.methodLink RX0 38 yX0_fractionBits, Cond.static yX0_fractionBits, Cond.code yX0_fractionBits cX0_fractionBits 1 (some .int), Cond.methodLink RX0 71 yX0_exponent, Cond.static yX0_exponent, Cond.code yX0_exponent cX0_exponent 4 (some .int), Cond.methodLink RX0 45 Lib.Math.max.name, Cond.methodLink RX0 42 yX0_leastExponent, Cond.static yX0_leastExponent, Cond.code yX0_leastExponent cX0_leastExponent 1 (some .int), Cond.methodLink RX0 53 yX0_nearest]
def wsX1_compare_r4 : List Cond := [Cond.static yX0_nearest, Cond.code yX0_nearest cX0_nearest 10 (some .long), Cond.methodLink RX0 77 yX0_roomBelow, Cond.static yX0_roomBelow, Cond.code yX0_roomBelow cX0_roomBelow 4 (some .int), Cond.methodLink RX0 80 yX0_greatestAbove, Cond.static yX0_greatestAbove, Cond.code yX0_greatestAbove cX0_greatestAbove 1 (some .int), Cond.methodLink RX0 83 yX0_roundedDown, Cond.static yX0_roundedDown, Cond.code yX0_roundedDown cX0_roundedDown 10 (some .long), Cond.methodLink RX1 82 yX0_ofWhole, Cond.static yX0_ofWhole, Cond.code yX0_ofWhole cX0_ofWhole 3 (some .long), Cond.constantLong RX0 51 (4611686018427387904), Cond.methodLink RX0 57 Lib.MathLoose.abs_long.x, Cond.static Lib.MathLoose.abs_long.x, Cond.code Lib.MathLoose.abs_long.x Lib.MathLoose.abs_long.code 2 (some .long), Cond.methodLink RX1 85 yX0_wholePart, Cond.static yX0_wholePart, Cond.code yX0_wholePart cX0_wholePart 9 (some .long), Cond.constantLong RX0 75 (9223372036854775807), Cond.methodLink RX1 88 yX1_cutToInt, Cond.static yX1_cutToInt]
def wsX1_compare_r5 : List Cond := [Cond.code yX1_cutToInt cX1_cutToInt 2 (some .long), Cond.constantLong RX1 94 (-2147483648), Cond.constantLong RX1 96 (2147483647), Cond.methodLink RX1 98 Lib.MathLoose.min_long.x, Cond.static Lib.MathLoose.min_long.x, Cond.code Lib.MathLoose.min_long.x Lib.MathLoose.min_long.code 4 (some .long), Cond.methodLink RX1 102 Lib.MathLoose.max_long.x, Cond.static Lib.MathLoose.max_long.x, Cond.code Lib.MathLoose.max_long.x Lib.MathLoose.max_long.code 4 (some .long), Cond.methodLink RX1 55 yX0_place, Cond.static yX0_place, Cond.code yX0_place cX0_place 5 (some .long), Cond.methodLink RX1 61 yX1_sideOf, Cond.static yX1_sideOf, Cond.code yX1_sideOf cX1_sideOf 4 (some .int)]
def wsX1_compare : List Cond := .code yX1_compare cX1_compare 12 (some .int) :: ((wsX1_compare_r1 ++ (wsX1_compare_r2 ++ (wsX1_compare_r3 ++ (wsX1_compare_r4 ++ wsX1_compare_r5)))) ++ wsX10)
def wsX1_order_r1 : List Cond := [Cond.fieldLink RX1 9 "KindNumbers" "why" "I", Cond.methodLink RX1 13 yX1_isValue, Cond.static yX1_isValue, Cond.initialized RX1, Cond.code yX1_isValue cX1_isValue 3 (some .boolean), Cond.methodLink RX1 68 yX1_narrowed, Cond.static yX1_narrowed, Cond.code yX1_narrowed cX1_narrowed 3 (some .long), Cond.methodLink RX1 71 yX0_isNumber, Cond.static yX0_isNumber, Cond.initialized RX0, Cond.code yX0_isNumber cX0_isNumber 5 (some .boolean), Cond.methodLink RX0 30 yX0_size, Cond.static yX0_size, Cond.code yX0_size cX0_size 3 (some .long), Cond.constantLong RX0 28 (-1), Cond.methodLink RX0 25 yX0_signBit, Cond.static yX0_signBit, Cond.code yX0_signBit cX0_signBit 1 (some .long), Cond.constantLong RX0 19 (2147483648), Cond.constantLong RX0 23 (-9223372036854775808), Cond.methodLink RX0 13 yX0_infinity, Cond.static yX0_infinity, Cond.code yX0_infinity cX0_infinity 1 (some .long)]
def wsX1_order_r2 : List Cond := [Cond.constantLong RX0 9 (2139095040), Cond.constantLong RX0 11 (9218868437227405312), Cond.methodLink RX1 21 yX1_fails, Cond.instanceMethod yX1_fails, Cond.selects RX1 yX1_fails yX1_fails, Cond.code yX1_fails cX1_fails 3 (some .int), Cond.methodLink RX1 65 yX0_placeWithZerosApart, Cond.static yX0_placeWithZerosApart, Cond.code yX0_placeWithZerosApart cX0_placeWithZerosApart 5 (some .long), Cond.methodLink RX0 34 yX0_isNegative, Cond.static yX0_isNegative, Cond.code yX0_isNegative cX0_isNegative 3 (some .boolean), Cond.methodLink RX1 61 yX1_sideOf, Cond.static yX1_sideOf, Cond.code yX1_sideOf cX1_sideOf 4 (some .int)]
def wsX1_order : List Cond := .code yX1_order cX1_order 6 (some .int) :: ((wsX1_order_r1 ++ wsX1_order_r2) ++ wsX10)
def wsX1_failed : List Cond := .code yX1_failed cX1_failed 1 (some .int) :: ([.fieldLink RX1 9 "KindNumbers" "why" "I"] ++ wsX10)
def wsX2_isNone : List Cond := .code yX2_isNone cX2_isNone 2 (some .boolean) :: ([.constantLong RX2 9 (9223372036854775807), .constantLong RX2 13 (9218868437227405312)])
def wsX2_isInfinite : List Cond := .code yX2_isInfinite cX2_isInfinite 2 (some .boolean) :: ([.constantLong RX2 9 (9223372036854775807), .constantLong RX2 13 (9218868437227405312)])
def wsX2_isZero : List Cond := .code yX2_isZero cX2_isZero 2 (some .boolean) :: ([.constantLong RX2 9 (9223372036854775807)])
def wsX2_negative : List Cond := .code yX2_negative cX2_negative 2 (some .long) :: ([.constantLong RX2 15 (-9223372036854775808)])
def wsX2_exponent : List Cond := .code yX2_exponent cX2_exponent 6 (some .int) :: ([.constantLong RX2 17 (2047), .constantLong RX2 19 (4503599627370495), .constantLong RX2 21 (4503599627370496)])
def wsX2_significand : List Cond := .code yX2_significand cX2_significand 4 (some .long) :: ([.constantLong RX2 19 (4503599627370495), .constantLong RX2 17 (2047), .constantLong RX2 21 (4503599627370496)])
def wsX2_rounded : List Cond := .code yX2_rounded cX2_rounded 18 (some .long) :: ([.constantLong RX2 23 (2305843009213693952)])
def wsX2_made : List Cond := .code yX2_made cX2_made 7 (some .long) :: ([.constantLong RX2 15 (-9223372036854775808), .methodLink RX2 25 yX2_rounded, .static yX2_rounded, .initialized RX2, .code yX2_rounded cX2_rounded 18 (some .long), .constantLong RX2 23 (2305843009213693952)])
def wsX2_add_r1 : List Cond := [Cond.methodLink RX2 29 yX2_isInfinite, Cond.static yX2_isInfinite, Cond.initialized RX2, Cond.code yX2_isInfinite cX2_isInfinite 2 (some .boolean), Cond.constantLong RX2 9 (9223372036854775807), Cond.constantLong RX2 13 (9218868437227405312), Cond.methodLink RX2 33 yX2_isZero, Cond.static yX2_isZero, Cond.code yX2_isZero cX2_isZero 2 (some .boolean), Cond.methodLink RX2 36 yX2_exponent, Cond.static yX2_exponent, Cond.code yX2_exponent cX2_exponent 6 (some .int), Cond.constantLong RX2 17 (2047), Cond.constantLong RX2 19 (4503599627370495), Cond.constantLong RX2 21 (4503599627370496), Cond.methodLink RX2 40 yX2_significand, Cond.static yX2_significand, Cond.code yX2_significand cX2_significand 4 (some .long), Cond.methodLink RX2 44 yX2_made, Cond.static yX2_made, Cond.code yX2_made cX2_made 7 (some .long), Cond.constantLong RX2 15 (-9223372036854775808), Cond.methodLink RX2 25 yX2_rounded, Cond.static yX2_rounded]
def wsX2_add_r2 : List Cond := [Cond.code yX2_rounded cX2_rounded 18 (some .long), Cond.constantLong RX2 23 (2305843009213693952)]
def wsX2_add : List Cond := .code yX2_add cX2_add 20 (some .long) :: ((wsX2_add_r1 ++ wsX2_add_r2))
def wsX2_multiply_r1 : List Cond := [Cond.constantLong RX2 15 (-9223372036854775808), Cond.constantLong RX2 13 (9218868437227405312), Cond.constantLong RX2 48 (134217727), Cond.constantLong RX2 50 (524287), Cond.methodLink RX2 29 yX2_isInfinite, Cond.static yX2_isInfinite, Cond.initialized RX2, Cond.code yX2_isInfinite cX2_isInfinite 2 (some .boolean), Cond.constantLong RX2 9 (9223372036854775807), Cond.methodLink RX2 33 yX2_isZero, Cond.static yX2_isZero, Cond.code yX2_isZero cX2_isZero 2 (some .boolean), Cond.methodLink RX2 40 yX2_significand, Cond.static yX2_significand, Cond.code yX2_significand cX2_significand 4 (some .long), Cond.constantLong RX2 19 (4503599627370495), Cond.constantLong RX2 17 (2047), Cond.constantLong RX2 21 (4503599627370496), Cond.methodLink RX2 36 yX2_exponent, Cond.static yX2_exponent, Cond.code yX2_exponent cX2_exponent 6 (some .int), Cond.methodLink RX2 44 yX2_made, Cond.static yX2_made, Cond.code yX2_made cX2_made 7 (some .long)]
def wsX2_multiply_r2 : List Cond := [Cond.methodLink RX2 25 yX2_rounded, Cond.static yX2_rounded, Cond.code yX2_rounded cX2_rounded 18 (some .long), Cond.constantLong RX2 23 (2305843009213693952)]
def wsX2_multiply : List Cond := .code yX2_multiply cX2_multiply 21 (some .long) :: ((wsX2_multiply_r1 ++ wsX2_multiply_r2))
def wsX2_divide_r1 : List Cond := [Cond.constantLong RX2 15 (-9223372036854775808), Cond.constantLong RX2 13 (9218868437227405312), Cond.methodLink RX2 29 yX2_isInfinite, Cond.static yX2_isInfinite, Cond.initialized RX2, Cond.code yX2_isInfinite cX2_isInfinite 2 (some .boolean), Cond.constantLong RX2 9 (9223372036854775807), Cond.methodLink RX2 33 yX2_isZero, Cond.static yX2_isZero, Cond.code yX2_isZero cX2_isZero 2 (some .boolean), Cond.methodLink RX2 40 yX2_significand, Cond.static yX2_significand, Cond.code yX2_significand cX2_significand 4 (some .long), Cond.constantLong RX2 19 (4503599627370495), Cond.constantLong RX2 17 (2047), Cond.constantLong RX2 21 (4503599627370496), Cond.methodLink RX2 36 yX2_exponent, Cond.static yX2_exponent, Cond.code yX2_exponent cX2_exponent 6 (some .int), Cond.methodLink RX2 44 yX2_made, Cond.static yX2_made, Cond.code yX2_made cX2_made 7 (some .long), Cond.methodLink RX2 25 yX2_rounded, Cond.static yX2_rounded]
def wsX2_divide_r2 : List Cond := [Cond.code yX2_rounded cX2_rounded 18 (some .long), Cond.constantLong RX2 23 (2305843009213693952)]
def wsX2_divide : List Cond := .code yX2_divide cX2_divide 13 (some .long) :: ((wsX2_divide_r1 ++ wsX2_divide_r2))
def wsX2_compare : List Cond := .code yX2_compare cX2_compare 8 (some .int) :: ([.constantLong RX2 9 (9223372036854775807), .methodLink RX2 33 yX2_isZero, .static yX2_isZero, .initialized RX2, .code yX2_isZero cX2_isZero 2 (some .boolean)])
def wsX2_of : List Cond := .code yX2_of cX2_of 6 (some .long) :: ([.constantLong RX2 52 (4611686018427387904), .constantLong RX2 54 (3), .methodLink RX2 44 yX2_made, .static yX2_made, .initialized RX2, .code yX2_made cX2_made 7 (some .long), .constantLong RX2 15 (-9223372036854775808), .methodLink RX2 25 yX2_rounded, .static yX2_rounded, .code yX2_rounded cX2_rounded 18 (some .long), .constantLong RX2 23 (2305843009213693952)])
def wsX2_wide : List Cond := .code yX2_wide cX2_wide 8 (some .long) :: ([.constantLong RX2 15 (-9223372036854775808), .constant RX2 64 (8388607), .constantLong RX2 13 (9218868437227405312), .constantLong RX2 65 (8388608), .methodLink RX2 25 yX2_rounded, .static yX2_rounded, .initialized RX2, .code yX2_rounded cX2_rounded 18 (some .long), .constantLong RX2 23 (2305843009213693952)])
def wsX2_floatOf : List Cond := .code yX2_floatOf cX2_floatOf 9 (some .long) :: ([.constantLong RX2 52 (4611686018427387904), .constantLong RX2 54 (3), .constant RX2 58 (-2147483648), .methodLink RX2 25 yX2_rounded, .static yX2_rounded, .initialized RX2, .code yX2_rounded cX2_rounded 18 (some .long), .constantLong RX2 23 (2305843009213693952), .methodLink RX2 59 yX2_wide, .static yX2_wide, .code yX2_wide cX2_wide 8 (some .long), .constantLong RX2 15 (-9223372036854775808), .constant RX2 64 (8388607), .constantLong RX2 13 (9218868437227405312), .constantLong RX2 65 (8388608)])
def wsX2_narrow : List Cond := .code yX2_narrow cX2_narrow 3 (some .int) :: ([.constant RX2 58 (-2147483648), .constant RX2 63 (2139095040), .methodLink RX2 29 yX2_isInfinite, .static yX2_isInfinite, .initialized RX2, .code yX2_isInfinite cX2_isInfinite 2 (some .boolean), .constantLong RX2 9 (9223372036854775807), .constantLong RX2 13 (9218868437227405312), .methodLink RX2 33 yX2_isZero, .static yX2_isZero, .code yX2_isZero cX2_isZero 2 (some .boolean), .methodLink RX2 40 yX2_significand, .static yX2_significand, .code yX2_significand cX2_significand 4 (some .long), .constantLong RX2 19 (4503599627370495), .constantLong RX2 17 (2047), .constantLong RX2 21 (4503599627370496), .methodLink RX2 36 yX2_exponent, .static yX2_exponent, .code yX2_exponent cX2_exponent 6 (some .int), .methodLink RX2 25 yX2_rounded, .static yX2_rounded, .code yX2_rounded cX2_rounded 18 (some .long), .constantLong RX2 23 (2305843009213693952)])
def wsX2_cut : List Cond := .code yX2_cut cX2_cut 5 (some .long) :: ([.methodLink RX2 33 yX2_isZero, .static yX2_isZero, .initialized RX2, .code yX2_isZero cX2_isZero 2 (some .boolean), .constantLong RX2 9 (9223372036854775807), .methodLink RX2 36 yX2_exponent, .static yX2_exponent, .code yX2_exponent cX2_exponent 6 (some .int), .constantLong RX2 17 (2047), .constantLong RX2 19 (4503599627370495), .constantLong RX2 21 (4503599627370496), .methodLink RX2 40 yX2_significand, .static yX2_significand, .code yX2_significand cX2_significand 4 (some .long)])
def wsX2_isGreat : List Cond := .code yX2_isGreat cX2_isGreat 2 (some .boolean) :: ([.methodLink RX2 29 yX2_isInfinite, .static yX2_isInfinite, .initialized RX2, .code yX2_isInfinite cX2_isInfinite 2 (some .boolean), .constantLong RX2 9 (9223372036854775807), .constantLong RX2 13 (9218868437227405312), .methodLink RX2 33 yX2_isZero, .static yX2_isZero, .code yX2_isZero cX2_isZero 2 (some .boolean), .methodLink RX2 36 yX2_exponent, .static yX2_exponent, .code yX2_exponent cX2_exponent 6 (some .int), .constantLong RX2 17 (2047), .constantLong RX2 19 (4503599627370495), .constantLong RX2 21 (4503599627370496)])
def wsX3_init : List Cond := .code yX3_init cX3_init 1 none :: ([.methodLink RX3 1 objectInit, .instanceMethod objectInit, .code objectInit ⟨#[0xb1]⟩ 1 none])
def wsX3_failed : List Cond := .code yX3_failed cX3_failed 1 (some .int) :: ([.fieldLink RX3 7 "KindNumbersModel" "failed" "I"] ++ wsX30)
def wsX3_isNumber : List Cond := .code yX3_isNumber cX3_isNumber 1 (some .boolean) :: ([])
def wsX3_hasBits : List Cond := .code yX3_hasBits cX3_hasBits 3 (some .boolean) :: ([.constantLong RX3 13 (-128), .constantLong RX3 15 (127), .constantLong RX3 17 (-32768), .constantLong RX3 19 (32767), .constantLong RX3 21 (65535), .constantLong RX3 25 (-2147483648), .constantLong RX3 27 (2147483647), .constantLong RX3 29 (4294967295), .methodLink RX3 31 yX2_wide, .static yX2_wide, .initialized RX2, .code yX2_wide cX2_wide 8 (some .long), .constantLong RX2 15 (-9223372036854775808), .constant RX2 64 (8388607), .constantLong RX2 13 (9218868437227405312), .constantLong RX2 65 (8388608), .methodLink RX2 25 yX2_rounded, .static yX2_rounded, .code yX2_rounded cX2_rounded 18 (some .long), .constantLong RX2 23 (2305843009213693952), .methodLink RX3 37 yX2_isNone, .static yX2_isNone, .code yX2_isNone cX2_isNone 2 (some .boolean), .constantLong RX2 9 (9223372036854775807)])
def wsX3_isWider : List Cond := .code yX3_isWider cX3_isWider 2 (some .boolean) :: ([])
def wsX3_widened_r1 : List Cond := [Cond.constantLong RX3 29 (4294967295), Cond.methodLink RX3 31 yX2_wide, Cond.static yX2_wide, Cond.initialized RX2, Cond.code yX2_wide cX2_wide 8 (some .long), Cond.constantLong RX2 15 (-9223372036854775808), Cond.constant RX2 64 (8388607), Cond.constantLong RX2 13 (9218868437227405312), Cond.constantLong RX2 65 (8388608), Cond.methodLink RX2 25 yX2_rounded, Cond.static yX2_rounded, Cond.code yX2_rounded cX2_rounded 18 (some .long), Cond.constantLong RX2 23 (2305843009213693952), Cond.methodLink RX3 41 yX2_of, Cond.static yX2_of, Cond.code yX2_of cX2_of 6 (some .long), Cond.constantLong RX2 52 (4611686018427387904), Cond.constantLong RX2 54 (3), Cond.methodLink RX2 44 yX2_made, Cond.static yX2_made, Cond.code yX2_made cX2_made 7 (some .long), Cond.methodLink RX3 45 yX2_floatOf, Cond.static yX2_floatOf, Cond.code yX2_floatOf cX2_floatOf 9 (some .long)]
def wsX3_widened_r2 : List Cond := [Cond.constant RX2 58 (-2147483648), Cond.methodLink RX2 59 yX2_wide, Cond.methodLink RX3 48 yX2_narrow, Cond.static yX2_narrow, Cond.code yX2_narrow cX2_narrow 3 (some .int), Cond.constant RX2 63 (2139095040), Cond.methodLink RX2 29 yX2_isInfinite, Cond.static yX2_isInfinite, Cond.code yX2_isInfinite cX2_isInfinite 2 (some .boolean), Cond.constantLong RX2 9 (9223372036854775807), Cond.methodLink RX2 33 yX2_isZero, Cond.static yX2_isZero, Cond.code yX2_isZero cX2_isZero 2 (some .boolean), Cond.methodLink RX2 40 yX2_significand, Cond.static yX2_significand, Cond.code yX2_significand cX2_significand 4 (some .long), Cond.constantLong RX2 19 (4503599627370495), Cond.constantLong RX2 17 (2047), Cond.constantLong RX2 21 (4503599627370496), Cond.methodLink RX2 36 yX2_exponent, Cond.static yX2_exponent, Cond.code yX2_exponent cX2_exponent 6 (some .int)]
def wsX3_widened : List Cond := .code yX3_widened cX3_widened 4 (some .long) :: ((wsX3_widened_r1 ++ wsX3_widened_r2))
def wsX3_cut_r1 : List Cond := [Cond.constantLong RX3 61 (9223372036854775807), Cond.constantLong RX3 27 (2147483647), Cond.methodLink RX3 63 yX2_isGreat, Cond.static yX2_isGreat, Cond.initialized RX2, Cond.code yX2_isGreat cX2_isGreat 2 (some .boolean), Cond.methodLink RX2 29 yX2_isInfinite, Cond.static yX2_isInfinite, Cond.code yX2_isInfinite cX2_isInfinite 2 (some .boolean), Cond.constantLong RX2 9 (9223372036854775807), Cond.constantLong RX2 13 (9218868437227405312), Cond.methodLink RX2 33 yX2_isZero, Cond.static yX2_isZero, Cond.code yX2_isZero cX2_isZero 2 (some .boolean), Cond.methodLink RX2 36 yX2_exponent, Cond.static yX2_exponent, Cond.code yX2_exponent cX2_exponent 6 (some .int), Cond.constantLong RX2 17 (2047), Cond.constantLong RX2 19 (4503599627370495), Cond.constantLong RX2 21 (4503599627370496), Cond.methodLink RX3 66 yX2_cut, Cond.static yX2_cut, Cond.code yX2_cut cX2_cut 5 (some .long), Cond.methodLink RX2 40 yX2_significand]
def wsX3_cut_r2 : List Cond := [Cond.static yX2_significand, Cond.code yX2_significand cX2_significand 4 (some .long)]
def wsX3_cut : List Cond := .code yX3_cut cX3_cut 9 (some .long) :: ((wsX3_cut_r1 ++ wsX3_cut_r2))
def wsX3_casted_r1 : List Cond := [Cond.constantLong RX3 29 (4294967295), Cond.methodLink RX3 52 yX3_widened, Cond.static yX3_widened, Cond.initialized RX3, Cond.code yX3_widened cX3_widened 4 (some .long), Cond.methodLink RX3 31 yX2_wide, Cond.static yX2_wide, Cond.initialized RX2, Cond.code yX2_wide cX2_wide 8 (some .long), Cond.constantLong RX2 15 (-9223372036854775808), Cond.constant RX2 64 (8388607), Cond.constantLong RX2 13 (9218868437227405312), Cond.constantLong RX2 65 (8388608), Cond.methodLink RX2 25 yX2_rounded, Cond.static yX2_rounded, Cond.code yX2_rounded cX2_rounded 18 (some .long), Cond.constantLong RX2 23 (2305843009213693952), Cond.methodLink RX3 41 yX2_of, Cond.static yX2_of, Cond.code yX2_of cX2_of 6 (some .long), Cond.constantLong RX2 52 (4611686018427387904), Cond.constantLong RX2 54 (3), Cond.methodLink RX2 44 yX2_made, Cond.static yX2_made]
def wsX3_casted_r2 : List Cond := [Cond.code yX2_made cX2_made 7 (some .long), Cond.methodLink RX3 45 yX2_floatOf, Cond.static yX2_floatOf, Cond.code yX2_floatOf cX2_floatOf 9 (some .long), Cond.constant RX2 58 (-2147483648), Cond.methodLink RX2 59 yX2_wide, Cond.methodLink RX3 48 yX2_narrow, Cond.static yX2_narrow, Cond.code yX2_narrow cX2_narrow 3 (some .int), Cond.constant RX2 63 (2139095040), Cond.methodLink RX2 29 yX2_isInfinite, Cond.static yX2_isInfinite, Cond.code yX2_isInfinite cX2_isInfinite 2 (some .boolean), Cond.constantLong RX2 9 (9223372036854775807), Cond.methodLink RX2 33 yX2_isZero, Cond.static yX2_isZero, Cond.code yX2_isZero cX2_isZero 2 (some .boolean), Cond.methodLink RX2 40 yX2_significand, Cond.static yX2_significand, Cond.code yX2_significand cX2_significand 4 (some .long), Cond.constantLong RX2 19 (4503599627370495), Cond.constantLong RX2 17 (2047), Cond.constantLong RX2 21 (4503599627370496), Cond.methodLink RX2 36 yX2_exponent]
def wsX3_casted_r3 : List Cond := [Cond.static yX2_exponent, Cond.code yX2_exponent cX2_exponent 6 (some .int), Cond.methodLink RX3 56 yX3_cut, Cond.static yX3_cut, Cond.code yX3_cut cX3_cut 9 (some .long), Cond.constantLong RX3 61 (9223372036854775807), Cond.constantLong RX3 27 (2147483647), Cond.methodLink RX3 63 yX2_isGreat, Cond.static yX2_isGreat, Cond.code yX2_isGreat cX2_isGreat 2 (some .boolean), Cond.methodLink RX3 66 yX2_cut, Cond.static yX2_cut, Cond.code yX2_cut cX2_cut 5 (some .long)]
def wsX3_casted : List Cond := .code yX3_casted cX3_casted 6 (some .long) :: ((wsX3_casted_r1 ++ (wsX3_casted_r2 ++ wsX3_casted_r3)))
def wsX3_rest : List Cond := .code yX3_rest cX3_rest 15 (some .long) :: ([.constantLong RX3 81 (-9223372036854775808), .methodLink RX3 69 yX2_isInfinite, .static yX2_isInfinite, .initialized RX2, .code yX2_isInfinite cX2_isInfinite 2 (some .boolean), .constantLong RX2 9 (9223372036854775807), .constantLong RX2 13 (9218868437227405312), .methodLink RX3 72 yX2_isZero, .static yX2_isZero, .code yX2_isZero cX2_isZero 2 (some .boolean), .static yX2_significand, .code yX2_significand cX2_significand 4 (some .long), .constantLong RX2 19 (4503599627370495), .constantLong RX2 17 (2047), .constantLong RX2 21 (4503599627370496), .static yX2_exponent, .code yX2_exponent cX2_exponent 6 (some .int), .static yX2_made, .code yX2_made cX2_made 7 (some .long), .constantLong RX2 15 (-9223372036854775808), .methodLink RX2 25 yX2_rounded, .static yX2_rounded, .code yX2_rounded cX2_rounded 18 (some .long), .constantLong RX2 23 (2305843009213693952)])
def wsX3_has_r1 : List Cond := [Cond.methodLink RX3 87 yX3_hasBits, Cond.static yX3_hasBits, Cond.initialized RX3, Cond.code yX3_hasBits cX3_hasBits 3 (some .boolean), Cond.constantLong RX3 13 (-128), Cond.constantLong RX3 15 (127), Cond.constantLong RX3 17 (-32768), Cond.constantLong RX3 19 (32767), Cond.constantLong RX3 21 (65535), Cond.constantLong RX3 25 (-2147483648), Cond.constantLong RX3 27 (2147483647), Cond.constantLong RX3 29 (4294967295), Cond.methodLink RX3 31 yX2_wide, Cond.static yX2_wide, Cond.initialized RX2, Cond.code yX2_wide cX2_wide 8 (some .long), Cond.constantLong RX2 15 (-9223372036854775808), Cond.constant RX2 64 (8388607), Cond.constantLong RX2 13 (9218868437227405312), Cond.constantLong RX2 65 (8388608), Cond.methodLink RX2 25 yX2_rounded, Cond.static yX2_rounded, Cond.code yX2_rounded cX2_rounded 18 (some .long), Cond.constantLong RX2 23 (2305843009213693952)]
def wsX3_has_r2 : List Cond := [Cond.methodLink RX3 37 yX2_isNone, Cond.static yX2_isNone, Cond.code yX2_isNone cX2_isNone 2 (some .boolean), Cond.constantLong RX2 9 (9223372036854775807)]
def wsX3_has : List Cond := .code yX3_has cX3_has 4 (some .boolean) :: ((wsX3_has_r1 ++ wsX3_has_r2))
def wsX3_widens : List Cond := .code yX3_widens cX3_widens 3 (some .boolean) :: ([.methodLink RX3 91 yX3_isWider, .static yX3_isWider, .initialized RX3, .code yX3_isWider cX3_isWider 2 (some .boolean)])
def wsX3_cast_r1 : List Cond := [Cond.fieldLink RX3 7 "KindNumbersModel" "failed" "I", Cond.methodLink RX3 95 yX3_isNumber, Cond.static yX3_isNumber, Cond.initialized RX3, Cond.code yX3_isNumber cX3_isNumber 1 (some .boolean), Cond.methodLink RX3 87 yX3_hasBits, Cond.static yX3_hasBits, Cond.code yX3_hasBits cX3_hasBits 3 (some .boolean), Cond.constantLong RX3 13 (-128), Cond.constantLong RX3 15 (127), Cond.constantLong RX3 17 (-32768), Cond.constantLong RX3 19 (32767), Cond.constantLong RX3 21 (65535), Cond.constantLong RX3 25 (-2147483648), Cond.constantLong RX3 27 (2147483647), Cond.constantLong RX3 29 (4294967295), Cond.methodLink RX3 31 yX2_wide, Cond.static yX2_wide, Cond.initialized RX2, Cond.code yX2_wide cX2_wide 8 (some .long), Cond.constantLong RX2 15 (-9223372036854775808), Cond.constant RX2 64 (8388607), Cond.constantLong RX2 13 (9218868437227405312), Cond.constantLong RX2 65 (8388608)]
def wsX3_cast_r2 : List Cond := [Cond.methodLink RX2 25 yX2_rounded, Cond.static yX2_rounded, Cond.code yX2_rounded cX2_rounded 18 (some .long), Cond.constantLong RX2 23 (2305843009213693952), Cond.methodLink RX3 37 yX2_isNone, Cond.static yX2_isNone, Cond.code yX2_isNone cX2_isNone 2 (some .boolean), Cond.constantLong RX2 9 (9223372036854775807), Cond.methodLink RX3 99 yX3_casted, Cond.static yX3_casted, Cond.code yX3_casted cX3_casted 6 (some .long), Cond.methodLink RX3 52 yX3_widened, Cond.static yX3_widened, Cond.code yX3_widened cX3_widened 4 (some .long), Cond.methodLink RX3 41 yX2_of, Cond.static yX2_of, Cond.code yX2_of cX2_of 6 (some .long), Cond.constantLong RX2 52 (4611686018427387904), Cond.constantLong RX2 54 (3), Cond.methodLink RX2 44 yX2_made, Cond.static yX2_made, Cond.code yX2_made cX2_made 7 (some .long), Cond.methodLink RX3 45 yX2_floatOf, Cond.static yX2_floatOf]
def wsX3_cast_r3 : List Cond := [Cond.code yX2_floatOf cX2_floatOf 9 (some .long), Cond.constant RX2 58 (-2147483648), Cond.methodLink RX2 59 yX2_wide, Cond.methodLink RX3 48 yX2_narrow, Cond.static yX2_narrow, Cond.code yX2_narrow cX2_narrow 3 (some .int), Cond.constant RX2 63 (2139095040), Cond.methodLink RX2 29 yX2_isInfinite, Cond.static yX2_isInfinite, Cond.code yX2_isInfinite cX2_isInfinite 2 (some .boolean), Cond.methodLink RX2 33 yX2_isZero, Cond.static yX2_isZero, Cond.code yX2_isZero cX2_isZero 2 (some .boolean), Cond.methodLink RX2 40 yX2_significand, Cond.static yX2_significand, Cond.code yX2_significand cX2_significand 4 (some .long), Cond.constantLong RX2 19 (4503599627370495), Cond.constantLong RX2 17 (2047), Cond.constantLong RX2 21 (4503599627370496), Cond.methodLink RX2 36 yX2_exponent, Cond.static yX2_exponent, Cond.code yX2_exponent cX2_exponent 6 (some .int), Cond.methodLink RX3 56 yX3_cut, Cond.static yX3_cut]
def wsX3_cast_r4 : List Cond := [Cond.code yX3_cut cX3_cut 9 (some .long), Cond.constantLong RX3 61 (9223372036854775807), Cond.methodLink RX3 63 yX2_isGreat, Cond.static yX2_isGreat, Cond.code yX2_isGreat cX2_isGreat 2 (some .boolean), Cond.methodLink RX3 66 yX2_cut, Cond.static yX2_cut, Cond.code yX2_cut cX2_cut 5 (some .long)]
def wsX3_cast : List Cond := .code yX3_cast cX3_cast 6 (some .long) :: ((wsX3_cast_r1 ++ (wsX3_cast_r2 ++ (wsX3_cast_r3 ++ wsX3_cast_r4))) ++ wsX30)
def wsX3_areNumbers_r1 : List Cond := [Cond.methodLink RX3 95 yX3_isNumber, Cond.static yX3_isNumber, Cond.initialized RX3, Cond.code yX3_isNumber cX3_isNumber 1 (some .boolean), Cond.methodLink RX3 87 yX3_hasBits, Cond.static yX3_hasBits, Cond.code yX3_hasBits cX3_hasBits 3 (some .boolean), Cond.constantLong RX3 13 (-128), Cond.constantLong RX3 15 (127), Cond.constantLong RX3 17 (-32768), Cond.constantLong RX3 19 (32767), Cond.constantLong RX3 21 (65535), Cond.constantLong RX3 25 (-2147483648), Cond.constantLong RX3 27 (2147483647), Cond.constantLong RX3 29 (4294967295), Cond.methodLink RX3 31 yX2_wide, Cond.static yX2_wide, Cond.initialized RX2, Cond.code yX2_wide cX2_wide 8 (some .long), Cond.constantLong RX2 15 (-9223372036854775808), Cond.constant RX2 64 (8388607), Cond.constantLong RX2 13 (9218868437227405312), Cond.constantLong RX2 65 (8388608), Cond.methodLink RX2 25 yX2_rounded]
def wsX3_areNumbers_r2 : List Cond := [Cond.static yX2_rounded, Cond.code yX2_rounded cX2_rounded 18 (some .long), Cond.constantLong RX2 23 (2305843009213693952), Cond.methodLink RX3 37 yX2_isNone, Cond.static yX2_isNone, Cond.code yX2_isNone cX2_isNone 2 (some .boolean), Cond.constantLong RX2 9 (9223372036854775807)]
def wsX3_areNumbers : List Cond := .code yX3_areNumbers cX3_areNumbers 7 (some .boolean) :: ((wsX3_areNumbers_r1 ++ wsX3_areNumbers_r2))
def wsX3_whole : List Cond := .code yX3_whole cX3_whole 9 (some .long) :: ([.fieldLink RX3 7 "KindNumbersModel" "failed" "I", .constantLong RX3 120 (-1)] ++ wsX30)
def wsX3_floating_r1 : List Cond := [Cond.fieldLink RX3 7 "KindNumbersModel" "failed" "I", Cond.methodLink RX3 69 yX2_isInfinite, Cond.static yX2_isInfinite, Cond.initialized RX2, Cond.code yX2_isInfinite cX2_isInfinite 2 (some .boolean), Cond.constantLong RX2 9 (9223372036854775807), Cond.constantLong RX2 13 (9218868437227405312), Cond.methodLink RX3 122 yX2_negative, Cond.static yX2_negative, Cond.code yX2_negative cX2_negative 2 (some .long), Cond.constantLong RX2 15 (-9223372036854775808), Cond.methodLink RX3 72 yX2_isZero, Cond.static yX2_isZero, Cond.code yX2_isZero cX2_isZero 2 (some .boolean), Cond.methodLink RX3 125 yX2_add, Cond.static yX2_add, Cond.code yX2_add cX2_add 20 (some .long), Cond.methodLink RX2 29 yX2_isInfinite, Cond.methodLink RX2 33 yX2_isZero, Cond.methodLink RX2 36 yX2_exponent, Cond.static yX2_exponent, Cond.code yX2_exponent cX2_exponent 6 (some .int), Cond.constantLong RX2 17 (2047), Cond.constantLong RX2 19 (4503599627370495)]
def wsX3_floating_r2 : List Cond := [Cond.constantLong RX2 21 (4503599627370496), Cond.methodLink RX2 40 yX2_significand, Cond.static yX2_significand, Cond.code yX2_significand cX2_significand 4 (some .long), Cond.methodLink RX2 44 yX2_made, Cond.static yX2_made, Cond.code yX2_made cX2_made 7 (some .long), Cond.methodLink RX2 25 yX2_rounded, Cond.static yX2_rounded, Cond.code yX2_rounded cX2_rounded 18 (some .long), Cond.constantLong RX2 23 (2305843009213693952), Cond.methodLink RX3 129 yX2_multiply, Cond.static yX2_multiply, Cond.code yX2_multiply cX2_multiply 21 (some .long), Cond.constantLong RX2 48 (134217727), Cond.constantLong RX2 50 (524287), Cond.methodLink RX3 132 yX2_divide, Cond.static yX2_divide, Cond.code yX2_divide cX2_divide 13 (some .long), Cond.methodLink RX3 135 yX3_rest, Cond.static yX3_rest, Cond.initialized RX3, Cond.code yX3_rest cX3_rest 15 (some .long), Cond.constantLong RX3 81 (-9223372036854775808)]
def wsX3_floating : List Cond := .code yX3_floating cX3_floating 11 (some .long) :: ((wsX3_floating_r1 ++ wsX3_floating_r2) ++ wsX30)
def wsX3_work_r1 : List Cond := [Cond.fieldLink RX3 7 "KindNumbersModel" "failed" "I", Cond.methodLink RX3 106 Lib.Math.max.name, Cond.static Lib.Math.max.name, Cond.initialized "java/lang/Math", Cond.code Lib.Math.max.name Lib.Math.max.code 2 (some .int), Cond.constantLong RX3 29 (4294967295), Cond.methodLink RX3 102 yX3_areNumbers, Cond.instanceMethod yX3_areNumbers, Cond.selects RX3 yX3_areNumbers yX3_areNumbers, Cond.initialized RX3, Cond.code yX3_areNumbers cX3_areNumbers 7 (some .boolean), Cond.methodLink RX3 95 yX3_isNumber, Cond.static yX3_isNumber, Cond.code yX3_isNumber cX3_isNumber 1 (some .boolean), Cond.methodLink RX3 87 yX3_hasBits, Cond.static yX3_hasBits, Cond.code yX3_hasBits cX3_hasBits 3 (some .boolean), Cond.constantLong RX3 13 (-128), Cond.constantLong RX3 15 (127), Cond.constantLong RX3 17 (-32768), Cond.constantLong RX3 19 (32767), Cond.constantLong RX3 21 (65535), Cond.constantLong RX3 25 (-2147483648), Cond.constantLong RX3 27 (2147483647)]
def wsX3_work_r2 : List Cond := [Cond.methodLink RX3 31 yX2_wide, Cond.static yX2_wide, Cond.initialized RX2, Cond.code yX2_wide cX2_wide 8 (some .long), Cond.constantLong RX2 15 (-9223372036854775808), Cond.constant RX2 64 (8388607), Cond.constantLong RX2 13 (9218868437227405312), Cond.constantLong RX2 65 (8388608), Cond.methodLink RX2 25 yX2_rounded, Cond.static yX2_rounded, Cond.code yX2_rounded cX2_rounded 18 (some .long), Cond.constantLong RX2 23 (2305843009213693952), Cond.methodLink RX3 37 yX2_isNone, Cond.static yX2_isNone, Cond.code yX2_isNone cX2_isNone 2 (some .boolean), Cond.constantLong RX2 9 (9223372036854775807), Cond.methodLink RX3 52 yX3_widened, Cond.static yX3_widened, Cond.code yX3_widened cX3_widened 4 (some .long), Cond.methodLink RX3 41 yX2_of, Cond.static yX2_of, Cond.code yX2_of cX2_of 6 (some .long), Cond.constantLong RX2 52 (4611686018427387904), Cond.constantLong RX2 54 (3)]
def wsX3_work_r3 : List Cond := [Cond.methodLink RX2 44 yX2_made, Cond.static yX2_made, Cond.code yX2_made cX2_made 7 (some .long), Cond.methodLink RX3 45 yX2_floatOf, Cond.static yX2_floatOf, Cond.code yX2_floatOf cX2_floatOf 9 (some .long), Cond.constant RX2 58 (-2147483648), Cond.methodLink RX2 59 yX2_wide, Cond.methodLink RX3 48 yX2_narrow, Cond.static yX2_narrow, Cond.code yX2_narrow cX2_narrow 3 (some .int), Cond.constant RX2 63 (2139095040), Cond.methodLink RX2 29 yX2_isInfinite, Cond.static yX2_isInfinite, Cond.code yX2_isInfinite cX2_isInfinite 2 (some .boolean), Cond.methodLink RX2 33 yX2_isZero, Cond.static yX2_isZero, Cond.code yX2_isZero cX2_isZero 2 (some .boolean), Cond.methodLink RX2 40 yX2_significand, Cond.static yX2_significand, Cond.code yX2_significand cX2_significand 4 (some .long), Cond.constantLong RX2 19 (4503599627370495), Cond.constantLong RX2 17 (2047), Cond.constantLong RX2 21 (4503599627370496)]
def wsX3_work_r4 : List Cond := [Cond.methodLink RX2 36 yX2_exponent, Cond.static yX2_exponent, Cond.code yX2_exponent cX2_exponent 6 (some .int), Cond.methodLink RX3 112 yX3_whole, Cond.instanceMethod yX3_whole, Cond.selects RX3 yX3_whole yX3_whole, Cond.code yX3_whole cX3_whole 9 (some .long), Cond.constantLong RX3 120 (-1), Cond.methodLink RX3 116 yX3_floating, Cond.instanceMethod yX3_floating, Cond.selects RX3 yX3_floating yX3_floating, Cond.code yX3_floating cX3_floating 11 (some .long), Cond.methodLink RX3 69 yX2_isInfinite, Cond.methodLink RX3 122 yX2_negative, Cond.static yX2_negative, Cond.code yX2_negative cX2_negative 2 (some .long), Cond.methodLink RX3 72 yX2_isZero, Cond.methodLink RX3 125 yX2_add, Cond.static yX2_add, Cond.code yX2_add cX2_add 20 (some .long), Cond.methodLink RX3 129 yX2_multiply, Cond.static yX2_multiply, Cond.code yX2_multiply cX2_multiply 21 (some .long), Cond.constantLong RX2 48 (134217727)]
def wsX3_work_r5 : List Cond := [Cond.constantLong RX2 50 (524287), Cond.methodLink RX3 132 yX2_divide, Cond.static yX2_divide, Cond.code yX2_divide cX2_divide 13 (some .long), Cond.methodLink RX3 135 yX3_rest, Cond.static yX3_rest, Cond.code yX3_rest cX3_rest 15 (some .long), Cond.constantLong RX3 81 (-9223372036854775808)]
def wsX3_work : List Cond := .code yX3_work cX3_work 15 (some .long) :: ((wsX3_work_r1 ++ (wsX3_work_r2 ++ (wsX3_work_r3 ++ (wsX3_work_r4 ++ wsX3_work_r5)))) ++ wsX30)
def wsX3_shift_r1 : List Cond := [Cond.fieldLink RX3 7 "KindNumbersModel" "failed" "I", Cond.methodLink RX3 87 yX3_hasBits, Cond.static yX3_hasBits, Cond.initialized RX3, Cond.code yX3_hasBits cX3_hasBits 3 (some .boolean), Cond.constantLong RX3 13 (-128), Cond.constantLong RX3 15 (127), Cond.constantLong RX3 17 (-32768), Cond.constantLong RX3 19 (32767), Cond.constantLong RX3 21 (65535), Cond.constantLong RX3 25 (-2147483648), Cond.constantLong RX3 27 (2147483647), Cond.constantLong RX3 29 (4294967295), Cond.methodLink RX3 31 yX2_wide, Cond.static yX2_wide, Cond.initialized RX2, Cond.code yX2_wide cX2_wide 8 (some .long), Cond.constantLong RX2 15 (-9223372036854775808), Cond.constant RX2 64 (8388607), Cond.constantLong RX2 13 (9218868437227405312), Cond.constantLong RX2 65 (8388608), Cond.methodLink RX2 25 yX2_rounded, Cond.static yX2_rounded, Cond.code yX2_rounded cX2_rounded 18 (some .long)]
def wsX3_shift_r2 : List Cond := [Cond.constantLong RX2 23 (2305843009213693952), Cond.methodLink RX3 37 yX2_isNone, Cond.static yX2_isNone, Cond.code yX2_isNone cX2_isNone 2 (some .boolean), Cond.constantLong RX2 9 (9223372036854775807)]
def wsX3_shift : List Cond := .code yX3_shift cX3_shift 9 (some .long) :: ((wsX3_shift_r1 ++ wsX3_shift_r2) ++ wsX30)
def wsJ13_compare_74951 : List Cond := .code yJ13_compare_74951 cJ13_compare_74951 4 (some .int) :: ([])
def wsX3_compare_r1 : List Cond := [Cond.fieldLink RX3 7 "KindNumbersModel" "failed" "I", Cond.methodLink RX3 106 Lib.Math.max.name, Cond.static Lib.Math.max.name, Cond.initialized "java/lang/Math", Cond.code Lib.Math.max.name Lib.Math.max.code 2 (some .int), Cond.methodLink RX3 102 yX3_areNumbers, Cond.instanceMethod yX3_areNumbers, Cond.selects RX3 yX3_areNumbers yX3_areNumbers, Cond.initialized RX3, Cond.code yX3_areNumbers cX3_areNumbers 7 (some .boolean), Cond.methodLink RX3 95 yX3_isNumber, Cond.static yX3_isNumber, Cond.code yX3_isNumber cX3_isNumber 1 (some .boolean), Cond.methodLink RX3 87 yX3_hasBits, Cond.static yX3_hasBits, Cond.code yX3_hasBits cX3_hasBits 3 (some .boolean), Cond.constantLong RX3 13 (-128), Cond.constantLong RX3 15 (127), Cond.constantLong RX3 17 (-32768), Cond.constantLong RX3 19 (32767), Cond.constantLong RX3 21 (65535), Cond.constantLong RX3 25 (-2147483648), Cond.constantLong RX3 27 (2147483647), Cond.constantLong RX3 29 (4294967295)]
def wsX3_compare_r2 : List Cond := [Cond.methodLink RX3 31 yX2_wide, Cond.static yX2_wide, Cond.initialized RX2, Cond.code yX2_wide cX2_wide 8 (some .long), Cond.constantLong RX2 15 (-9223372036854775808), Cond.constant RX2 64 (8388607), Cond.constantLong RX2 13 (9218868437227405312), Cond.constantLong RX2 65 (8388608), Cond.methodLink RX2 25 yX2_rounded, Cond.static yX2_rounded, Cond.code yX2_rounded cX2_rounded 18 (some .long), Cond.constantLong RX2 23 (2305843009213693952), Cond.methodLink RX3 37 yX2_isNone, Cond.static yX2_isNone, Cond.code yX2_isNone cX2_isNone 2 (some .boolean), Cond.constantLong RX2 9 (9223372036854775807), Cond.methodLink RX3 52 yX3_widened, Cond.static yX3_widened, Cond.code yX3_widened cX3_widened 4 (some .long), Cond.methodLink RX3 41 yX2_of, Cond.static yX2_of, Cond.code yX2_of cX2_of 6 (some .long), Cond.constantLong RX2 52 (4611686018427387904), Cond.constantLong RX2 54 (3)]
def wsX3_compare_r3 : List Cond := [Cond.methodLink RX2 44 yX2_made, Cond.static yX2_made, Cond.code yX2_made cX2_made 7 (some .long), Cond.methodLink RX3 45 yX2_floatOf, Cond.static yX2_floatOf, Cond.code yX2_floatOf cX2_floatOf 9 (some .long), Cond.constant RX2 58 (-2147483648), Cond.methodLink RX2 59 yX2_wide, Cond.methodLink RX3 48 yX2_narrow, Cond.static yX2_narrow, Cond.code yX2_narrow cX2_narrow 3 (some .int), Cond.constant RX2 63 (2139095040), Cond.methodLink RX2 29 yX2_isInfinite, Cond.static yX2_isInfinite, Cond.code yX2_isInfinite cX2_isInfinite 2 (some .boolean), Cond.methodLink RX2 33 yX2_isZero, Cond.static yX2_isZero, Cond.code yX2_isZero cX2_isZero 2 (some .boolean), Cond.methodLink RX2 40 yX2_significand, Cond.static yX2_significand, Cond.code yX2_significand cX2_significand 4 (some .long), Cond.constantLong RX2 19 (4503599627370495), Cond.constantLong RX2 17 (2047), Cond.constantLong RX2 21 (4503599627370496)]
def wsX3_compare_r4 : List Cond := [Cond.methodLink RX2 36 yX2_exponent, Cond.static yX2_exponent, Cond.code yX2_exponent cX2_exponent 6 (some .int), Cond.methodLink RX3 138 yJ13_compare_74951, Cond.static yJ13_compare_74951, Cond.initialized RJ13, Cond.code yJ13_compare_74951 cJ13_compare_74951 4 (some .int), Cond.methodLink RX3 142 yX2_compare, Cond.static yX2_compare, Cond.code yX2_compare cX2_compare 8 (some .int)]
def wsX3_compare : List Cond := .code yX3_compare cX3_compare 12 (some .int) :: ((wsX3_compare_r1 ++ (wsX3_compare_r2 ++ (wsX3_compare_r3 ++ wsX3_compare_r4))) ++ wsX30)
def wsX3_ranked : List Cond := .code yX3_ranked cX3_ranked 5 (some .long) :: ([.constantLong RX3 61 (9223372036854775807), .methodLink RX3 31 yX2_wide, .static yX2_wide, .initialized RX2, .code yX2_wide cX2_wide 8 (some .long), .constantLong RX2 15 (-9223372036854775808), .constant RX2 64 (8388607), .constantLong RX2 13 (9218868437227405312), .constantLong RX2 65 (8388608), .methodLink RX2 25 yX2_rounded, .static yX2_rounded, .code yX2_rounded cX2_rounded 18 (some .long), .constantLong RX2 23 (2305843009213693952)])
def wsX3_order_r1 : List Cond := [Cond.fieldLink RX3 7 "KindNumbersModel" "failed" "I", Cond.methodLink RX3 87 yX3_hasBits, Cond.static yX3_hasBits, Cond.initialized RX3, Cond.code yX3_hasBits cX3_hasBits 3 (some .boolean), Cond.constantLong RX3 13 (-128), Cond.constantLong RX3 15 (127), Cond.constantLong RX3 17 (-32768), Cond.constantLong RX3 19 (32767), Cond.constantLong RX3 21 (65535), Cond.constantLong RX3 25 (-2147483648), Cond.constantLong RX3 27 (2147483647), Cond.constantLong RX3 29 (4294967295), Cond.methodLink RX3 31 yX2_wide, Cond.static yX2_wide, Cond.initialized RX2, Cond.code yX2_wide cX2_wide 8 (some .long), Cond.constantLong RX2 15 (-9223372036854775808), Cond.constant RX2 64 (8388607), Cond.constantLong RX2 13 (9218868437227405312), Cond.constantLong RX2 65 (8388608), Cond.methodLink RX2 25 yX2_rounded, Cond.static yX2_rounded, Cond.code yX2_rounded cX2_rounded 18 (some .long)]
def wsX3_order_r2 : List Cond := [Cond.constantLong RX2 23 (2305843009213693952), Cond.methodLink RX3 37 yX2_isNone, Cond.static yX2_isNone, Cond.code yX2_isNone cX2_isNone 2 (some .boolean), Cond.constantLong RX2 9 (9223372036854775807), Cond.methodLink RX3 143 yX3_ranked, Cond.static yX3_ranked, Cond.code yX3_ranked cX3_ranked 5 (some .long), Cond.constantLong RX3 61 (9223372036854775807), Cond.methodLink RX3 138 yJ13_compare_74951, Cond.static yJ13_compare_74951, Cond.initialized RJ13, Cond.code yJ13_compare_74951 cJ13_compare_74951 4 (some .int)]
def wsX3_order : List Cond := .code yX3_order cX3_order 6 (some .int) :: ((wsX3_order_r1 ++ wsX3_order_r2) ++ wsX30)
def wsJ9_abs_067f4 : List Cond := .code yJ9_abs_067f4 cJ9_abs_067f4 2 (some .long) :: ([])
def wsJ9_max_7cf53 : List Cond := .code yJ9_max_7cf53 cJ9_max_7cf53 2 (some .int) :: ([])
def wsJ9_max_f86c9 : List Cond := .code yJ9_max_f86c9 cJ9_max_f86c9 4 (some .long) :: ([])
def wsJ9_min_7cf53 : List Cond := .code yJ9_min_7cf53 cJ9_min_7cf53 2 (some .int) :: ([])
def wsJ9_min_f86c9 : List Cond := .code yJ9_min_f86c9 cJ9_min_f86c9 4 (some .long) :: ([])
def wsL_law_r1 : List Cond := [Cond.classLink RL 7 RX1, Cond.instantiable RX1 1, Cond.initialized RX1, Cond.classLink RL 10 RX3, Cond.instantiable RX3 1, Cond.initialized RX3, Cond.constantLong RL 13 (4294967295), Cond.methodLink RL 9 yX1_init, Cond.instanceMethod yX1_init, Cond.code yX1_init cX1_init 1 none, Cond.methodLink RX1 1 objectInit, Cond.instanceMethod objectInit, Cond.code objectInit ⟨#[0xb1]⟩ 1 none, Cond.fieldLink RX1 9 "KindNumbers" "why" "I", Cond.methodLink RL 12 yX3_init, Cond.instanceMethod yX3_init, Cond.code yX3_init cX3_init 1 none, Cond.methodLink RX3 1 objectInit, Cond.methodLink RL 15 yX1_has, Cond.instanceMethod yX1_has, Cond.selects RX1 yX1_has yX1_has, Cond.code yX1_has cX1_has 4 (some .boolean), Cond.methodLink RX1 13 yX1_isValue, Cond.static yX1_isValue]
def wsL_law_r2 : List Cond := [Cond.code yX1_isValue cX1_isValue 3 (some .boolean), Cond.methodLink RX1 68 yX1_narrowed, Cond.static yX1_narrowed, Cond.code yX1_narrowed cX1_narrowed 3 (some .long), Cond.methodLink RX1 71 yX0_isNumber, Cond.static yX0_isNumber, Cond.initialized RX0, Cond.code yX0_isNumber cX0_isNumber 5 (some .boolean), Cond.methodLink RX0 30 yX0_size, Cond.static yX0_size, Cond.code yX0_size cX0_size 3 (some .long), Cond.constantLong RX0 28 (-1), Cond.methodLink RX0 25 yX0_signBit, Cond.static yX0_signBit, Cond.code yX0_signBit cX0_signBit 1 (some .long), Cond.constantLong RX0 19 (2147483648), Cond.constantLong RX0 23 (-9223372036854775808), Cond.methodLink RX0 13 yX0_infinity, Cond.static yX0_infinity, Cond.code yX0_infinity cX0_infinity 1 (some .long), Cond.constantLong RX0 9 (2139095040), Cond.constantLong RX0 11 (9218868437227405312), Cond.methodLink RL 19 yX3_has, Cond.instanceMethod yX3_has]
def wsL_law_r3 : List Cond := [Cond.selects RX3 yX3_has yX3_has, Cond.code yX3_has cX3_has 4 (some .boolean), Cond.methodLink RX3 87 yX3_hasBits, Cond.static yX3_hasBits, Cond.code yX3_hasBits cX3_hasBits 3 (some .boolean), Cond.constantLong RX3 13 (-128), Cond.constantLong RX3 15 (127), Cond.constantLong RX3 17 (-32768), Cond.constantLong RX3 19 (32767), Cond.constantLong RX3 21 (65535), Cond.constantLong RX3 25 (-2147483648), Cond.constantLong RX3 27 (2147483647), Cond.constantLong RX3 29 (4294967295), Cond.methodLink RX3 31 yX2_wide, Cond.static yX2_wide, Cond.initialized RX2, Cond.code yX2_wide cX2_wide 8 (some .long), Cond.constantLong RX2 15 (-9223372036854775808), Cond.constant RX2 64 (8388607), Cond.constantLong RX2 13 (9218868437227405312), Cond.constantLong RX2 65 (8388608), Cond.methodLink RX2 25 yX2_rounded, Cond.static yX2_rounded, Cond.code yX2_rounded cX2_rounded 18 (some .long)]
def wsL_law_r4 : List Cond := [Cond.constantLong RX2 23 (2305843009213693952), Cond.methodLink RX3 37 yX2_isNone, Cond.static yX2_isNone, Cond.code yX2_isNone cX2_isNone 2 (some .boolean), Cond.constantLong RX2 9 (9223372036854775807), Cond.methodLink RL 20 yX1_widens, Cond.instanceMethod yX1_widens, Cond.selects RX1 yX1_widens yX1_widens, Cond.code yX1_widens cX1_widens 3 (some .boolean), Cond.methodLink RX1 17 yX1_isNumberKind, Cond.static yX1_isNumberKind, Cond.code yX1_isNumberKind cX1_isNumberKind 1 (some .boolean), Cond.methodLink RL 24 yX3_widens, Cond.instanceMethod yX3_widens, Cond.selects RX3 yX3_widens yX3_widens, Cond.code yX3_widens cX3_widens 3 (some .boolean), Cond.methodLink RX3 91 yX3_isWider, Cond.static yX3_isWider, Cond.code yX3_isWider cX3_isWider 2 (some .boolean), Cond.methodLink RL 25 yX1_cast, Cond.instanceMethod yX1_cast, Cond.selects RX1 yX1_cast yX1_cast, Cond.code yX1_cast cX1_cast 6 (some .long), Cond.methodLink RX1 21 yX1_fails]
def wsL_law_r5 : List Cond := [Cond.instanceMethod yX1_fails, Cond.selects RX1 yX1_fails yX1_fails, Cond.code yX1_fails cX1_fails 3 (some .int), Cond.methodLink RX1 25 yX1_converted, Cond.static yX1_converted, Cond.code yX1_converted cX1_converted 6 (some .long), Cond.methodLink RX1 79 yX0_ofReal, Cond.static yX0_ofReal, Cond.code yX0_ofReal cX0_ofReal 5 (some .long), Cond.methodLink RX0 34 yX0_isNegative, Cond.static yX0_isNegative, Cond.code yX0_isNegative cX0_isNegative 3 (some .boolean), Cond.methodLink RX0 61 yX0_isInfinite, Cond.static yX0_isInfinite, Cond.code yX0_isInfinite cX0_isInfinite 3 (some .boolean), Cond.methodLink RX0 64 yX0_signed, Cond.static yX0_signed, Cond.code yX0_signed cX0_signed 4 (some .long), Cond.methodLink RX0 68 yX0_magnitude, Cond.static yX0_magnitude, Cond.code yX0_magnitude cX0_magnitude 7 (some .long), Cond.methodLink RX0 38 yX0_fractionBits, Cond.static yX0_fractionBits, Cond.code yX0_fractionBits cX0_fractionBits 1 (some .int)]
def wsL_law_r6 : List Cond := [Cond.methodLink RX0 71 yX0_exponent, Cond.static yX0_exponent, Cond.code yX0_exponent cX0_exponent 4 (some .int), Cond.methodLink RX0 45 Lib.Math.max.name, Cond.static Lib.Math.max.name, Cond.initialized "java/lang/Math", Cond.code Lib.Math.max.name Lib.Math.max.code 2 (some .int), Cond.methodLink RX0 42 yX0_leastExponent, Cond.static yX0_leastExponent, Cond.code yX0_leastExponent cX0_leastExponent 1 (some .int), Cond.methodLink RX0 53 yX0_nearest, Cond.static yX0_nearest, Cond.code yX0_nearest cX0_nearest 10 (some .long), Cond.methodLink RX0 77 yX0_roomBelow, Cond.static yX0_roomBelow, Cond.code yX0_roomBelow cX0_roomBelow 4 (some .int), Cond.methodLink RX0 80 yX0_greatestAbove, Cond.static yX0_greatestAbove, Cond.code yX0_greatestAbove cX0_greatestAbove 1 (some .int), Cond.methodLink RX0 83 yX0_roundedDown, Cond.static yX0_roundedDown, Cond.code yX0_roundedDown cX0_roundedDown 10 (some .long), Cond.methodLink RX1 82 yX0_ofWhole, Cond.static yX0_ofWhole]
def wsL_law_r7 : List Cond := [Cond.code yX0_ofWhole cX0_ofWhole 3 (some .long), Cond.constantLong RX0 51 (4611686018427387904), Cond.methodLink RX0 57 Lib.MathLoose.abs_long.x, Cond.static Lib.MathLoose.abs_long.x, Cond.code Lib.MathLoose.abs_long.x Lib.MathLoose.abs_long.code 2 (some .long), Cond.methodLink RX1 85 yX0_wholePart, Cond.static yX0_wholePart, Cond.code yX0_wholePart cX0_wholePart 9 (some .long), Cond.constantLong RX0 75 (9223372036854775807), Cond.methodLink RX1 88 yX1_cutToInt, Cond.static yX1_cutToInt, Cond.code yX1_cutToInt cX1_cutToInt 2 (some .long), Cond.constantLong RX1 94 (-2147483648), Cond.constantLong RX1 96 (2147483647), Cond.methodLink RX1 98 Lib.MathLoose.min_long.x, Cond.static Lib.MathLoose.min_long.x, Cond.code Lib.MathLoose.min_long.x Lib.MathLoose.min_long.code 4 (some .long), Cond.methodLink RX1 102 Lib.MathLoose.max_long.x, Cond.static Lib.MathLoose.max_long.x, Cond.code Lib.MathLoose.max_long.x Lib.MathLoose.max_long.code 4 (some .long), Cond.methodLink RL 29 yX3_cast, Cond.instanceMethod yX3_cast, Cond.selects RX3 yX3_cast yX3_cast, Cond.code yX3_cast cX3_cast 6 (some .long)]
def wsL_law_r8 : List Cond := [Cond.fieldLink RX3 7 "KindNumbersModel" "failed" "I", Cond.methodLink RX3 95 yX3_isNumber, Cond.static yX3_isNumber, Cond.code yX3_isNumber cX3_isNumber 1 (some .boolean), Cond.methodLink RX3 99 yX3_casted, Cond.static yX3_casted, Cond.code yX3_casted cX3_casted 6 (some .long), Cond.methodLink RX3 52 yX3_widened, Cond.static yX3_widened, Cond.code yX3_widened cX3_widened 4 (some .long), Cond.methodLink RX3 41 yX2_of, Cond.static yX2_of, Cond.code yX2_of cX2_of 6 (some .long), Cond.constantLong RX2 52 (4611686018427387904), Cond.constantLong RX2 54 (3), Cond.methodLink RX2 44 yX2_made, Cond.static yX2_made, Cond.code yX2_made cX2_made 7 (some .long), Cond.methodLink RX3 45 yX2_floatOf, Cond.static yX2_floatOf, Cond.code yX2_floatOf cX2_floatOf 9 (some .long), Cond.constant RX2 58 (-2147483648), Cond.methodLink RX2 59 yX2_wide, Cond.methodLink RX3 48 yX2_narrow]
def wsL_law_r9 : List Cond := [Cond.static yX2_narrow, Cond.code yX2_narrow cX2_narrow 3 (some .int), Cond.constant RX2 63 (2139095040), Cond.methodLink RX2 29 yX2_isInfinite, Cond.static yX2_isInfinite, Cond.code yX2_isInfinite cX2_isInfinite 2 (some .boolean), Cond.methodLink RX2 33 yX2_isZero, Cond.static yX2_isZero, Cond.code yX2_isZero cX2_isZero 2 (some .boolean), Cond.methodLink RX2 40 yX2_significand, Cond.static yX2_significand, Cond.code yX2_significand cX2_significand 4 (some .long), Cond.constantLong RX2 19 (4503599627370495), Cond.constantLong RX2 17 (2047), Cond.constantLong RX2 21 (4503599627370496), Cond.methodLink RX2 36 yX2_exponent, Cond.static yX2_exponent, Cond.code yX2_exponent cX2_exponent 6 (some .int), Cond.methodLink RX3 56 yX3_cut, Cond.static yX3_cut, Cond.code yX3_cut cX3_cut 9 (some .long), Cond.constantLong RX3 61 (9223372036854775807), Cond.methodLink RX3 63 yX2_isGreat, Cond.static yX2_isGreat]
def wsL_law_r10 : List Cond := [Cond.code yX2_isGreat cX2_isGreat 2 (some .boolean), Cond.methodLink RX3 66 yX2_cut, Cond.static yX2_cut, Cond.code yX2_cut cX2_cut 5 (some .long), Cond.methodLink RL 30 yX1_work, Cond.instanceMethod yX1_work, Cond.selects RX1 yX1_work yX1_work, Cond.code yX1_work cX1_work 13 (some .long), Cond.methodLink RX1 29 yX1_areNumbers, Cond.static yX1_areNumbers, Cond.code yX1_areNumbers cX1_areNumbers 6 (some .boolean), Cond.methodLink RX1 33 yX1_workKind, Cond.static yX1_workKind, Cond.code yX1_workKind cX1_workKind 2 (some .int), Cond.methodLink RX1 74 Lib.Math.max.name, Cond.methodLink RX1 36 yX1_workReal, Cond.instanceMethod yX1_workReal, Cond.selects RX1 yX1_workReal yX1_workReal, Cond.code yX1_workReal cX1_workReal 9 (some .long), Cond.methodLink RX1 104 yX0_sum, Cond.static yX0_sum, Cond.code yX0_sum cX0_sum 6 (some .long), Cond.methodLink RX0 87 yX0_notANumber, Cond.static yX0_notANumber]
def wsL_law_r11 : List Cond := [Cond.code yX0_notANumber cX0_notANumber 1 (some .long), Cond.methodLink RX0 90 yX0_isZero, Cond.static yX0_isZero, Cond.code yX0_isZero cX0_isZero 3 (some .boolean), Cond.methodLink RX0 93 yX0_sumByGreater, Cond.static yX0_sumByGreater, Cond.code yX0_sumByGreater cX0_sumByGreater 13 (some .long), Cond.methodLink RX0 97 yX0_movedDown, Cond.static yX0_movedDown, Cond.code yX0_movedDown cX0_movedDown 5 (some .long), Cond.methodLink RX1 108 yX0_negated, Cond.static yX0_negated, Cond.code yX0_negated cX0_negated 3 (some .long), Cond.methodLink RX1 111 yX0_product, Cond.static yX0_product, Cond.code yX0_product cX0_product 11 (some .long), Cond.methodLink RX0 100 yX0_topOfProduct, Cond.static yX0_topOfProduct, Cond.code yX0_topOfProduct cX0_topOfProduct 22 (some .long), Cond.constantLong RX0 104 (134217727), Cond.methodLink RX1 114 yX0_quotient, Cond.static yX0_quotient, Cond.code yX0_quotient cX0_quotient 14 (some .long), Cond.methodLink RX0 106 yX0_topOfQuotient]
def wsL_law_r12 : List Cond := [Cond.static yX0_topOfQuotient, Cond.code yX0_topOfQuotient cX0_topOfQuotient 9 (some .long), Cond.methodLink RX1 117 yX0_rest, Cond.static yX0_rest, Cond.code yX0_rest cX0_rest 11 (some .long), Cond.methodLink RX0 109 yX0_restAbove, Cond.static yX0_restAbove, Cond.code yX0_restAbove cX0_restAbove 8 (some .long), Cond.methodLink RX0 113 Lib.Math.min.name, Cond.static Lib.Math.min.name, Cond.code Lib.Math.min.name Lib.Math.min.code 2 (some .int), Cond.methodLink RX1 40 yX1_workWhole, Cond.instanceMethod yX1_workWhole, Cond.selects RX1 yX1_workWhole yX1_workWhole, Cond.code yX1_workWhole cX1_workWhole 7 (some .long), Cond.methodLink RL 34 yX3_work, Cond.instanceMethod yX3_work, Cond.selects RX3 yX3_work yX3_work, Cond.code yX3_work cX3_work 15 (some .long), Cond.methodLink RX3 106 Lib.Math.max.name, Cond.methodLink RX3 102 yX3_areNumbers, Cond.instanceMethod yX3_areNumbers, Cond.selects RX3 yX3_areNumbers yX3_areNumbers, Cond.code yX3_areNumbers cX3_areNumbers 7 (some .boolean)]
def wsL_law_r13 : List Cond := [Cond.methodLink RX3 112 yX3_whole, Cond.instanceMethod yX3_whole, Cond.selects RX3 yX3_whole yX3_whole, Cond.code yX3_whole cX3_whole 9 (some .long), Cond.constantLong RX3 120 (-1), Cond.methodLink RX3 116 yX3_floating, Cond.instanceMethod yX3_floating, Cond.selects RX3 yX3_floating yX3_floating, Cond.code yX3_floating cX3_floating 11 (some .long), Cond.methodLink RX3 69 yX2_isInfinite, Cond.methodLink RX3 122 yX2_negative, Cond.static yX2_negative, Cond.code yX2_negative cX2_negative 2 (some .long), Cond.methodLink RX3 72 yX2_isZero, Cond.methodLink RX3 125 yX2_add, Cond.static yX2_add, Cond.code yX2_add cX2_add 20 (some .long), Cond.methodLink RX3 129 yX2_multiply, Cond.static yX2_multiply, Cond.code yX2_multiply cX2_multiply 21 (some .long), Cond.constantLong RX2 48 (134217727), Cond.constantLong RX2 50 (524287), Cond.methodLink RX3 132 yX2_divide, Cond.static yX2_divide]
def wsL_law_r14 : List Cond := [Cond.code yX2_divide cX2_divide 13 (some .long), Cond.methodLink RX3 135 yX3_rest, Cond.static yX3_rest, Cond.code yX3_rest cX3_rest 15 (some .long), Cond.constantLong RX3 81 (-9223372036854775808), Cond.methodLink RL 35 yX1_shift, Cond.instanceMethod yX1_shift, Cond.selects RX1 yX1_shift yX1_shift, Cond.code yX1_shift cX1_shift 8 (some .long), Cond.constantLong RX1 43 (63), Cond.constantLong RX1 49 (31), Cond.methodLink RX1 45 yX1_shiftedLong, Cond.static yX1_shiftedLong, Cond.code yX1_shiftedLong cX1_shiftedLong 4 (some .long), Cond.methodLink RX1 51 yX1_shiftedInt, Cond.static yX1_shiftedInt, Cond.code yX1_shiftedInt cX1_shiftedInt 3 (some .long), Cond.methodLink RL 39 yX3_shift, Cond.instanceMethod yX3_shift, Cond.selects RX3 yX3_shift yX3_shift, Cond.code yX3_shift cX3_shift 9 (some .long), Cond.methodLink RL 40 yX1_compare, Cond.instanceMethod yX1_compare, Cond.selects RX1 yX1_compare yX1_compare]
def wsL_law_r15 : List Cond := [Cond.code yX1_compare cX1_compare 12 (some .int), Cond.methodLink RX1 55 yX0_place, Cond.static yX0_place, Cond.code yX0_place cX0_place 5 (some .long), Cond.methodLink RX1 61 yX1_sideOf, Cond.static yX1_sideOf, Cond.code yX1_sideOf cX1_sideOf 4 (some .int), Cond.methodLink RL 44 yX3_compare, Cond.instanceMethod yX3_compare, Cond.selects RX3 yX3_compare yX3_compare, Cond.code yX3_compare cX3_compare 12 (some .int), Cond.methodLink RX3 138 yJ13_compare_74951, Cond.static yJ13_compare_74951, Cond.initialized RJ13, Cond.code yJ13_compare_74951 cJ13_compare_74951 4 (some .int), Cond.methodLink RX3 142 yX2_compare, Cond.static yX2_compare, Cond.code yX2_compare cX2_compare 8 (some .int), Cond.methodLink RL 45 yX1_order, Cond.instanceMethod yX1_order, Cond.selects RX1 yX1_order yX1_order, Cond.code yX1_order cX1_order 6 (some .int), Cond.methodLink RX1 65 yX0_placeWithZerosApart, Cond.static yX0_placeWithZerosApart]
def wsL_law_r16 : List Cond := [Cond.code yX0_placeWithZerosApart cX0_placeWithZerosApart 5 (some .long), Cond.methodLink RL 49 yX3_order, Cond.instanceMethod yX3_order, Cond.selects RX3 yX3_order yX3_order, Cond.code yX3_order cX3_order 6 (some .int), Cond.methodLink RX3 143 yX3_ranked, Cond.static yX3_ranked, Cond.code yX3_ranked cX3_ranked 5 (some .long), Cond.methodLink RL 50 yX1_failed, Cond.instanceMethod yX1_failed, Cond.selects RX1 yX1_failed yX1_failed, Cond.code yX1_failed cX1_failed 1 (some .int), Cond.methodLink RL 54 yX3_failed, Cond.instanceMethod yX3_failed, Cond.selects RX3 yX3_failed yX3_failed, Cond.code yX3_failed cX3_failed 1 (some .int)]
def wsL_law : List Cond := (wsL_law_r1 ++ (wsL_law_r2 ++ (wsL_law_r3 ++ (wsL_law_r4 ++ (wsL_law_r5 ++ (wsL_law_r6 ++ (wsL_law_r7 ++ (wsL_law_r8 ++ (wsL_law_r9 ++ (wsL_law_r10 ++ (wsL_law_r11 ++ (wsL_law_r12 ++ (wsL_law_r13 ++ (wsL_law_r14 ++ (wsL_law_r15 ++ wsL_law_r16))))))))))))))) ++ wsX10 ++ wsX30 ++ ([] : List Cond)
abbrev vwCl : List vw_C := [(RX1, TX1, 1), (RX3, TX3, 1)]
end
section
/-! a method that only computes: its answer is r, the heap stays -/
def px_P (av : List Value) : Array Value → State → Prop := fun v _ => v = av.toArray
def px_Q (r : Value) : Array Value → State → Outcome → State → Prop := fun _ st o t => o = .returned (some r) ∧ t.heap = st.heap
theorem px_blind (av : List Value) : FrameBlind (px_P av) := fun _ _ _ _ h => h
abbrev px_M (l : Launch) (y : MethodName) (ws : List Cond) (rm : Room) (av : List Value) (r : Value) : Prop := Met l y ws rm (px_P av) (px_Q r) 0 0 (fun _ => False)
section PXC
variable {p : Program} {l : Launch} {e : Env} {R : Room} {s : State} {m : MethodId} {args : Array Value} {below : List Frame} {meth : Method} {c : Code} {H : Heap} {locs : List Loc} {cells slots : Nat} {Q : State → Prop}
variable {pc : Nat} {ls : Array Slot} {rest st0 : List Value} {a : Array Value}
theorem px_go {r : Value} (hr : va_Run p l e R s m args below meth c H locs cells slots 0 0 (F0 m pc ls st0) rest (px_Q r a) (fun _ => False))
    (kk : W p l e R s m args below meth c H locs cells slots Q (F0 m (pc + 3) ls (r :: rest))) : W p l e R s m args below meth c H locs cells slots Q (F0 m pc ls st0) := by
  intro T hT X
  obtain ⟨v, st₀, t, T', L, h0, X', hL, e1, e2, ⟨hv, hh⟩, st⟩ := hr T hT X
  cases hv
  obtain ⟨t2, a1, b1⟩ := kk T' (by rw [e1, hh, h0]) (Stand.forget X' (fun q h => (hL q h).elim))
  exact ⟨t2, st t2 a1, b1⟩
variable {y : MethodName} {bytes cc : ByteArray} {maxL nL n index : Nat} {ret : Option FieldType} {ws : List Cond} {rm : Room} {Ts : List Cond} {own : String} {As : List Value} {r : Value}
/-- a static call of a method that only computes -/
theorem px_S (S : CallFix p m c cc nL s args Ts own) (hM : px_M l y ws rm As r) (cw : CallB R s args own index y bytes maxL ret ws rm 0 0 n ∧ (Cond.static y).before args s = true)
    (hn : As.length = n) (hsize : ls.size = nL) (hstack : st0 = As.reverse ++ rest) (hW : (rest.map fun v => v.category).sum ≤ 8) (hdg : decode cc pc = .ok (.invokestatic index, 3)) (hc : cells ≤ R.cells) (hs : slots ≤ R.slots)
    (kk : W p l e R s m args below meth c H locs cells slots Q (F0 m (pc + 3) ls (r :: rest))) : W p l e R s m args below meth c H locs cells slots Q (F0 m pc ls st0) :=
  px_go (va_runS (g := F0 m pc ls st0) S hM cw ⟨px_blind As, fun _ _ _ => rfl⟩ rfl hn hsize hstack (lv_room hW) hdg ⟨hc, hs⟩) kk
/-- the same of a nest mate's private method -/
theorem px_N {host : String} (S : CallFix p m c cc nL s args Ts own) (hM : px_M l y ws rm As r) (cw : va_CN R s args own index y host bytes maxL ret ws rm 0 0 n) (hst : (Cond.static y).before args s = true)
    (hn : As.length = n) (hsize : ls.size = nL) (hstack : st0 = As.reverse ++ rest) (hW : (rest.map fun v => v.category).sum ≤ 8) (hdg : decode cc pc = .ok (.invokestatic index, 3)) (hc : cells ≤ R.cells) (hs : slots ≤ R.slots)
    (kk : W p l e R s m args below meth c H locs cells slots Q (F0 m (pc + 3) ls (r :: rest))) : W p l e R s m args below meth c H locs cells slots Q (F0 m pc ls st0) :=
  px_go (va_runSN (g := F0 m pc ls st0) S hM ⟨cw, hst, trivial⟩ ⟨px_blind As, fun _ _ _ => rfl⟩ rfl hn hsize hstack (lv_room hW) hdg ⟨hc, hs⟩) kk
end PXC
def jshl (x : Int64) (y : Int32) : Int64 := x <<< (y.toInt64 &&& 63)
def jshr (x : Int64) (y : Int32) : Int64 := x >>> (y.toInt64 &&& 63)
def jushr (x : Int64) (y : Int32) : Int64 := (x.toUInt64 >>> (y.toInt64.toUInt64 &&& Int64.toUInt64 63)).toInt64
def jrem (x y : Int64) : Int64 := x - x / y * y
def ishl (x y : Int32) : Int32 := x <<< (y &&& 31)
def ishr (x y : Int32) : Int32 := x >>> (y &&& 31)
def iushr (x y : Int32) : Int32 := (x.toUInt32 >>> (y.toUInt32 &&& Int32.toUInt32 31)).toInt32
def jchar (x : Int32) : Int32 := (x.toUInt32 % 65536).toInt32
def jbyte (x : Int32) : Int32 := x.toInt8.toInt32
def jshort (x : Int32) : Int32 := x.toInt16.toInt32
def imax (x y : Int32) : Int32 := if x < y then y else x
def imin (x y : Int32) : Int32 := if y < x then y else x
def jmax (x y : Int64) : Int64 := if y < x then x else y
def jmin (x y : Int64) : Int64 := if y < x then y else x
def jabs (x : Int64) : Int64 := if 0 < x then x else -x
/-- what a method's blocks share -/
abbrev px_C (p : Program) (s : State) (m : MethodId) (args : Array Value) (meth : Method) (c : Code) (cc : ByteArray) (n : Nat) (ret : Option FieldType) (own : String) (ws : List Cond) : Prop :=
  p.tables.exec = Jvm.exec ∧ c.code = cc ∧ c.maxLocals = n ∧ s.vm.findClass own = some m.cls ∧ (∀ w ∈ ws, w.before args s = true) ∧ meth.sig.returnType = ret ∧ meth.locks = false
section PXB
variable {p : Program} {l : Launch} {e : Env} {R : Room} {s : State} {m : MethodId} {args : Array Value} {below : List Frame} {meth : Method} {c : Code} {H : Heap} {locs : List Loc} {cells slots : Nat} {Q : State → Prop}
variable {pc : Nat} {ls : Array Slot} {rest : List Value} {cc : ByteArray}

theorem px_if_eq (hexec : p.tables.exec = Jvm.exec) (hb : c.code = cc) {x : Int32} {off : Int} {tgt : Nat} (hdg : decode cc pc = .ok (.ifCond .eq off, 3)) (ht : (pc : Int) + off = (tgt : Int))
    (ka : x = 0 → W p l e R s m args below meth c H locs cells slots Q (F0 m tgt ls rest)) (kb : ¬ x = 0 → W p l e R s m args below meth c H locs cells slots Q (F0 m (pc + 3) ls rest)) : W p l e R s m args below meth c H locs cells slots Q (F0 m pc ls (.int x :: rest)) := lv_if_eq hexec hb hdg ht ka kb
theorem px_if_ne (hexec : p.tables.exec = Jvm.exec) (hb : c.code = cc) {x : Int32} {off : Int} {tgt : Nat} (hdg : decode cc pc = .ok (.ifCond .ne off, 3)) (ht : (pc : Int) + off = (tgt : Int))
    (ka : x = 0 → W p l e R s m args below meth c H locs cells slots Q (F0 m (pc + 3) ls rest)) (kb : ¬ x = 0 → W p l e R s m args below meth c H locs cells slots Q (F0 m tgt ls rest)) : W p l e R s m args below meth c H locs cells slots Q (F0 m pc ls (.int x :: rest)) := lv_if_ne hexec hb hdg ht kb ka
theorem px_if_lt (hexec : p.tables.exec = Jvm.exec) (hb : c.code = cc) {x : Int32} {off : Int} {tgt : Nat} (hdg : decode cc pc = .ok (.ifCond .lt off, 3)) (ht : (pc : Int) + off = (tgt : Int))
    (ka : x < 0 → W p l e R s m args below meth c H locs cells slots Q (F0 m tgt ls rest)) (kb : ¬ x < 0 → W p l e R s m args below meth c H locs cells slots Q (F0 m (pc + 3) ls rest)) : W p l e R s m args below meth c H locs cells slots Q (F0 m pc ls (.int x :: rest)) := lv_if_lt hexec hb hdg ht ka kb
theorem px_if_ge (hexec : p.tables.exec = Jvm.exec) (hb : c.code = cc) {x : Int32} {off : Int} {tgt : Nat} (hdg : decode cc pc = .ok (.ifCond .ge off, 3)) (ht : (pc : Int) + off = (tgt : Int))
    (ka : x < 0 → W p l e R s m args below meth c H locs cells slots Q (F0 m (pc + 3) ls rest)) (kb : ¬ x < 0 → W p l e R s m args below meth c H locs cells slots Q (F0 m tgt ls rest)) : W p l e R s m args below meth c H locs cells slots Q (F0 m pc ls (.int x :: rest)) := lv_if_ge hexec hb hdg ht (fun h => kb (Int32.not_lt.mpr h)) (fun h => ka (Int32.not_le.mp h))
theorem px_if_gt (hexec : p.tables.exec = Jvm.exec) (hb : c.code = cc) {x : Int32} {off : Int} {tgt : Nat} (hdg : decode cc pc = .ok (.ifCond .gt off, 3)) (ht : (pc : Int) + off = (tgt : Int))
    (ka : 0 < x → W p l e R s m args below meth c H locs cells slots Q (F0 m tgt ls rest)) (kb : ¬ 0 < x → W p l e R s m args below meth c H locs cells slots Q (F0 m (pc + 3) ls rest)) : W p l e R s m args below meth c H locs cells slots Q (F0 m pc ls (.int x :: rest)) := lv_if_gt hexec hb hdg ht ka kb
theorem px_if_le (hexec : p.tables.exec = Jvm.exec) (hb : c.code = cc) {x : Int32} {off : Int} {tgt : Nat} (hdg : decode cc pc = .ok (.ifCond .le off, 3)) (ht : (pc : Int) + off = (tgt : Int))
    (ka : 0 < x → W p l e R s m args below meth c H locs cells slots Q (F0 m (pc + 3) ls rest)) (kb : ¬ 0 < x → W p l e R s m args below meth c H locs cells slots Q (F0 m tgt ls rest)) : W p l e R s m args below meth c H locs cells slots Q (F0 m pc ls (.int x :: rest)) := lv_if_le hexec hb hdg ht (fun h => kb (Int32.not_lt.mpr h)) (fun h => ka (Int32.not_le.mp h))
theorem px_icmp_eq (hexec : p.tables.exec = Jvm.exec) (hb : c.code = cc) {x y : Int32} {off : Int} {tgt : Nat} (hdg : decode cc pc = .ok (.if_icmp .eq off, 3)) (ht : (pc : Int) + off = (tgt : Int))
    (ka : x = y → W p l e R s m args below meth c H locs cells slots Q (F0 m tgt ls rest)) (kb : ¬ x = y → W p l e R s m args below meth c H locs cells slots Q (F0 m (pc + 3) ls rest)) : W p l e R s m args below meth c H locs cells slots Q (F0 m pc ls (.int y :: .int x :: rest)) := lv_icmp_eq hexec hb hdg ht ka kb
theorem px_icmp_ne (hexec : p.tables.exec = Jvm.exec) (hb : c.code = cc) {x y : Int32} {off : Int} {tgt : Nat} (hdg : decode cc pc = .ok (.if_icmp .ne off, 3)) (ht : (pc : Int) + off = (tgt : Int))
    (ka : x = y → W p l e R s m args below meth c H locs cells slots Q (F0 m (pc + 3) ls rest)) (kb : ¬ x = y → W p l e R s m args below meth c H locs cells slots Q (F0 m tgt ls rest)) : W p l e R s m args below meth c H locs cells slots Q (F0 m pc ls (.int y :: .int x :: rest)) := lv_icmp_ne hexec hb hdg ht kb ka
theorem px_icmp_lt (hexec : p.tables.exec = Jvm.exec) (hb : c.code = cc) {x y : Int32} {off : Int} {tgt : Nat} (hdg : decode cc pc = .ok (.if_icmp .lt off, 3)) (ht : (pc : Int) + off = (tgt : Int))
    (ka : x < y → W p l e R s m args below meth c H locs cells slots Q (F0 m tgt ls rest)) (kb : ¬ x < y → W p l e R s m args below meth c H locs cells slots Q (F0 m (pc + 3) ls rest)) : W p l e R s m args below meth c H locs cells slots Q (F0 m pc ls (.int y :: .int x :: rest)) := lv_icmp_lt hexec hb hdg ht ka kb
theorem px_icmp_ge (hexec : p.tables.exec = Jvm.exec) (hb : c.code = cc) {x y : Int32} {off : Int} {tgt : Nat} (hdg : decode cc pc = .ok (.if_icmp .ge off, 3)) (ht : (pc : Int) + off = (tgt : Int))
    (ka : x < y → W p l e R s m args below meth c H locs cells slots Q (F0 m (pc + 3) ls rest)) (kb : ¬ x < y → W p l e R s m args below meth c H locs cells slots Q (F0 m tgt ls rest)) : W p l e R s m args below meth c H locs cells slots Q (F0 m pc ls (.int y :: .int x :: rest)) := lv_icmp_ge hexec hb hdg ht (fun h => kb (Int32.not_lt.mpr h)) (fun h => ka (Int32.not_le.mp h))
theorem px_icmp_gt (hexec : p.tables.exec = Jvm.exec) (hb : c.code = cc) {x y : Int32} {off : Int} {tgt : Nat} (hdg : decode cc pc = .ok (.if_icmp .gt off, 3)) (ht : (pc : Int) + off = (tgt : Int))
    (ka : y < x → W p l e R s m args below meth c H locs cells slots Q (F0 m tgt ls rest)) (kb : ¬ y < x → W p l e R s m args below meth c H locs cells slots Q (F0 m (pc + 3) ls rest)) : W p l e R s m args below meth c H locs cells slots Q (F0 m pc ls (.int y :: .int x :: rest)) := lv_icmp_gt hexec hb hdg ht ka kb
theorem px_icmp_le (hexec : p.tables.exec = Jvm.exec) (hb : c.code = cc) {x y : Int32} {off : Int} {tgt : Nat} (hdg : decode cc pc = .ok (.if_icmp .le off, 3)) (ht : (pc : Int) + off = (tgt : Int))
    (ka : y < x → W p l e R s m args below meth c H locs cells slots Q (F0 m (pc + 3) ls rest)) (kb : ¬ y < x → W p l e R s m args below meth c H locs cells slots Q (F0 m tgt ls rest)) : W p l e R s m args below meth c H locs cells slots Q (F0 m pc ls (.int y :: .int x :: rest)) := lv_icmp_le hexec hb hdg ht (fun h => kb (Int32.not_lt.mpr h)) (fun h => ka (Int32.not_le.mp h))
theorem px_lcmp_eq (hexec : p.tables.exec = Jvm.exec) (hb : c.code = cc) {x y : Int64} {off : Int} {tgt : Nat} (hd0 : decode cc pc = .ok (.lcmp, 1)) (hdg : decode cc (pc + 1) = .ok (.ifCond .eq off, 3)) (ht : ((pc + 1 : Nat) : Int) + off = (tgt : Int))
    (ka : x = y → W p l e R s m args below meth c H locs cells slots Q (F0 m tgt ls rest)) (kb : ¬ x = y → W p l e R s m args below meth c H locs cells slots Q (F0 m (pc + 4) ls rest)) : W p l e R s m args below meth c H locs cells slots Q (F0 m pc ls (.long y :: .long x :: rest)) :=
  W.lcmp hexec hb hd0 (px_if_eq hexec hb hdg ht (fun h => ka ((lg_cmp_eq x y).mp h)) (fun h => kb (fun h2 => h ((lg_cmp_eq x y).mpr h2))))
theorem px_lcmp_ne (hexec : p.tables.exec = Jvm.exec) (hb : c.code = cc) {x y : Int64} {off : Int} {tgt : Nat} (hd0 : decode cc pc = .ok (.lcmp, 1)) (hdg : decode cc (pc + 1) = .ok (.ifCond .ne off, 3)) (ht : ((pc + 1 : Nat) : Int) + off = (tgt : Int))
    (ka : x = y → W p l e R s m args below meth c H locs cells slots Q (F0 m (pc + 4) ls rest)) (kb : ¬ x = y → W p l e R s m args below meth c H locs cells slots Q (F0 m tgt ls rest)) : W p l e R s m args below meth c H locs cells slots Q (F0 m pc ls (.long y :: .long x :: rest)) :=
  W.lcmp hexec hb hd0 (px_if_ne hexec hb hdg ht (fun h => ka ((lg_cmp_eq x y).mp h)) (fun h => kb (fun h2 => h ((lg_cmp_eq x y).mpr h2))))
theorem px_lcmp_lt (hexec : p.tables.exec = Jvm.exec) (hb : c.code = cc) {x y : Int64} {off : Int} {tgt : Nat} (hd0 : decode cc pc = .ok (.lcmp, 1)) (hdg : decode cc (pc + 1) = .ok (.ifCond .lt off, 3)) (ht : ((pc + 1 : Nat) : Int) + off = (tgt : Int))
    (ka : x < y → W p l e R s m args below meth c H locs cells slots Q (F0 m tgt ls rest)) (kb : ¬ x < y → W p l e R s m args below meth c H locs cells slots Q (F0 m (pc + 4) ls rest)) : W p l e R s m args below meth c H locs cells slots Q (F0 m pc ls (.long y :: .long x :: rest)) :=
  W.lcmp hexec hb hd0 (px_if_lt hexec hb hdg ht (fun h => ka ((lg_cmp_lt x y).mp h)) (fun h => kb (fun h2 => h ((lg_cmp_lt x y).mpr h2))))
theorem px_lcmp_ge (hexec : p.tables.exec = Jvm.exec) (hb : c.code = cc) {x y : Int64} {off : Int} {tgt : Nat} (hd0 : decode cc pc = .ok (.lcmp, 1)) (hdg : decode cc (pc + 1) = .ok (.ifCond .ge off, 3)) (ht : ((pc + 1 : Nat) : Int) + off = (tgt : Int))
    (ka : x < y → W p l e R s m args below meth c H locs cells slots Q (F0 m (pc + 4) ls rest)) (kb : ¬ x < y → W p l e R s m args below meth c H locs cells slots Q (F0 m tgt ls rest)) : W p l e R s m args below meth c H locs cells slots Q (F0 m pc ls (.long y :: .long x :: rest)) :=
  W.lcmp hexec hb hd0 (px_if_ge hexec hb hdg ht (fun h => ka ((lg_cmp_lt x y).mp h)) (fun h => kb (fun h2 => h ((lg_cmp_lt x y).mpr h2))))
theorem px_lcmp_gt (hexec : p.tables.exec = Jvm.exec) (hb : c.code = cc) {x y : Int64} {off : Int} {tgt : Nat} (hd0 : decode cc pc = .ok (.lcmp, 1)) (hdg : decode cc (pc + 1) = .ok (.ifCond .gt off, 3)) (ht : ((pc + 1 : Nat) : Int) + off = (tgt : Int))
    (ka : y < x → W p l e R s m args below meth c H locs cells slots Q (F0 m tgt ls rest)) (kb : ¬ y < x → W p l e R s m args below meth c H locs cells slots Q (F0 m (pc + 4) ls rest)) : W p l e R s m args below meth c H locs cells slots Q (F0 m pc ls (.long y :: .long x :: rest)) :=
  W.lcmp hexec hb hd0 (px_if_gt hexec hb hdg ht (fun h => ka ((lg_cmp_gt x y).mp h)) (fun h => kb (fun h2 => h ((lg_cmp_gt x y).mpr h2))))
theorem px_lcmp_le (hexec : p.tables.exec = Jvm.exec) (hb : c.code = cc) {x y : Int64} {off : Int} {tgt : Nat} (hd0 : decode cc pc = .ok (.lcmp, 1)) (hdg : decode cc (pc + 1) = .ok (.ifCond .le off, 3)) (ht : ((pc + 1 : Nat) : Int) + off = (tgt : Int))
    (ka : y < x → W p l e R s m args below meth c H locs cells slots Q (F0 m (pc + 4) ls rest)) (kb : ¬ y < x → W p l e R s m args below meth c H locs cells slots Q (F0 m tgt ls rest)) : W p l e R s m args below meth c H locs cells slots Q (F0 m pc ls (.long y :: .long x :: rest)) :=
  W.lcmp hexec hb hd0 (px_if_le hexec hb hdg ht (fun h => ka ((lg_cmp_gt x y).mp h)) (fun h => kb (fun h2 => h ((lg_cmp_gt x y).mpr h2))))
theorem px_lshl (hexec : p.tables.exec = Jvm.exec) (hb : c.code = cc) {x : Int64} {y : Int32} (hdg : decode cc pc = .ok (.lshl, 1))
    (k : W p l e R s m args below meth c H locs cells slots Q (F0 m (pc + 1) ls (.long (jshl x y) :: rest))) : W p l e R s m args below meth c H locs cells slots Q (F0 m pc ls (.int y :: .long x :: rest)) := lv_lshl hexec hb hdg rfl k
theorem px_lshr (hexec : p.tables.exec = Jvm.exec) (hb : c.code = cc) {x : Int64} {y : Int32} (hdg : decode cc pc = .ok (.lshr, 1))
    (k : W p l e R s m args below meth c H locs cells slots Q (F0 m (pc + 1) ls (.long (jshr x y) :: rest))) : W p l e R s m args below meth c H locs cells slots Q (F0 m pc ls (.int y :: .long x :: rest)) := lv_lshr hexec hb hdg rfl k
theorem px_lushr (hexec : p.tables.exec = Jvm.exec) (hb : c.code = cc) {x : Int64} {y : Int32} (hdg : decode cc pc = .ok (.lushr, 1))
    (k : W p l e R s m args below meth c H locs cells slots Q (F0 m (pc + 1) ls (.long (jushr x y) :: rest))) : W p l e R s m args below meth c H locs cells slots Q (F0 m pc ls (.int y :: .long x :: rest)) := lv_lushr hexec hb hdg rfl k
theorem px_lrem (hexec : p.tables.exec = Jvm.exec) (hb : c.code = cc) {x y : Int64} (hdg : decode cc pc = .ok (.lrem, 1)) (hne : ¬ y = 0)
    (k : W p l e R s m args below meth c H locs cells slots Q (F0 m (pc + 1) ls (.long (jrem x y) :: rest))) : W p l e R s m args below meth c H locs cells slots Q (F0 m pc ls (.long y :: .long x :: rest)) := lv_lrem hexec hb hdg hne k
theorem px_ishl (hexec : p.tables.exec = Jvm.exec) (hb : c.code = cc) {x y : Int32} (hdg : decode cc pc = .ok (.ishl, 1))
    (k : W p l e R s m args below meth c H locs cells slots Q (F0 m (pc + 1) ls (.int (ishl x y) :: rest))) : W p l e R s m args below meth c H locs cells slots Q (F0 m pc ls (.int y :: .int x :: rest)) := lv_ishl hexec hb hdg k
theorem px_ishr (hexec : p.tables.exec = Jvm.exec) (hb : c.code = cc) {x y : Int32} (hdg : decode cc pc = .ok (.ishr, 1))
    (k : W p l e R s m args below meth c H locs cells slots Q (F0 m (pc + 1) ls (.int (ishr x y) :: rest))) : W p l e R s m args below meth c H locs cells slots Q (F0 m pc ls (.int y :: .int x :: rest)) := lv_ishr hexec hb hdg k
theorem px_iushr (hexec : p.tables.exec = Jvm.exec) (hb : c.code = cc) {x y : Int32} (hdg : decode cc pc = .ok (.iushr, 1))
    (k : W p l e R s m args below meth c H locs cells slots Q (F0 m (pc + 1) ls (.int (iushr x y) :: rest))) : W p l e R s m args below meth c H locs cells slots Q (F0 m pc ls (.int y :: .int x :: rest)) := lv_iushr hexec hb hdg rfl k
theorem px_i2c (hexec : p.tables.exec = Jvm.exec) (hb : c.code = cc) {x : Int32} (hdg : decode cc pc = .ok (.i2c, 1))
    (k : W p l e R s m args below meth c H locs cells slots Q (F0 m (pc + 1) ls (.int (jchar x) :: rest))) : W p l e R s m args below meth c H locs cells slots Q (F0 m pc ls (.int x :: rest)) := lv_i2c hexec hb hdg rfl k
theorem px_i2b (hexec : p.tables.exec = Jvm.exec) (hb : c.code = cc) {x : Int32} (hdg : decode cc pc = .ok (.i2b, 1))
    (k : W p l e R s m args below meth c H locs cells slots Q (F0 m (pc + 1) ls (.int (jbyte x) :: rest))) : W p l e R s m args below meth c H locs cells slots Q (F0 m pc ls (.int x :: rest)) := lv_i2b hexec hb hdg rfl k
theorem px_i2s (hexec : p.tables.exec = Jvm.exec) (hb : c.code = cc) {x : Int32} (hdg : decode cc pc = .ok (.i2s, 1))
    (k : W p l e R s m args below meth c H locs cells slots Q (F0 m (pc + 1) ls (.int (jshort x) :: rest))) : W p l e R s m args below meth c H locs cells slots Q (F0 m pc ls (.int x :: rest)) := lv_i2s hexec hb hdg rfl k
theorem px_i2l (hexec : p.tables.exec = Jvm.exec) (hb : c.code = cc) {x : Int32} (hdg : decode cc pc = .ok (.i2l, 1))
    (k : W p l e R s m args below meth c H locs cells slots Q (F0 m (pc + 1) ls (.long x.toInt64 :: rest))) : W p l e R s m args below meth c H locs cells slots Q (F0 m pc ls (.int x :: rest)) := lv_i2l hexec hb hdg rfl k
theorem px_l2i (hexec : p.tables.exec = Jvm.exec) (hb : c.code = cc) {x : Int64} (hdg : decode cc pc = .ok (.l2i, 1))
    (k : W p l e R s m args below meth c H locs cells slots Q (F0 m (pc + 1) ls (.int x.toInt32 :: rest))) : W p l e R s m args below meth c H locs cells slots Q (F0 m pc ls (.long x :: rest)) := lv_l2i hexec hb hdg rfl k
theorem px_mmax (hexec : p.tables.exec = Jvm.exec) (hb : c.code = cc) (hml : c.maxLocals = ls.size) {own : String} {index : Nat} (hown : s.vm.findClass own = some m.cls) (hlink : (Cond.methodLink own index Lib.Math.max.name).before args s = true) (hstat : (Cond.static Lib.Math.max.name).before args s = true) (hini : (Cond.initialized "java/lang/Math").before args s = true) (hcode : (Cond.code Lib.Math.max.name Lib.Math.max.code 2 (some .int)).before args s = true)
    (hframes : 1 ≤ R.frames) (hlocals : (rest.map fun v => v.category).sum + 13 ≤ R.locals) (hc : cells ≤ R.cells) (hs : slots ≤ R.slots) {x y : Int32} (hdg : decode cc pc = .ok (.invokestatic index, 3))
    (kk : W p l e R s m args below meth c H locs cells slots Q (F0 m (pc + 3) ls (.int (imax x y) :: rest))) : W p l e R s m args below meth c H locs cells slots Q (F0 m pc ls (.int y :: .int x :: rest)) := va_mmax hexec hb hml hown hlink hstat hini hcode hframes hlocals hc hs hdg kk
theorem px_mmin (hexec : p.tables.exec = Jvm.exec) (hb : c.code = cc) (hml : c.maxLocals = ls.size) {own : String} {index : Nat} (hown : s.vm.findClass own = some m.cls) (hlink : (Cond.methodLink own index Lib.Math.min.name).before args s = true) (hstat : (Cond.static Lib.Math.min.name).before args s = true) (hini : (Cond.initialized "java/lang/Math").before args s = true) (hcode : (Cond.code Lib.Math.min.name Lib.Math.min.code 2 (some .int)).before args s = true)
    (hframes : 1 ≤ R.frames) (hlocals : (rest.map fun v => v.category).sum + 13 ≤ R.locals) (hc : cells ≤ R.cells) (hs : slots ≤ R.slots) {x y : Int32} (hdg : decode cc pc = .ok (.invokestatic index, 3))
    (kk : W p l e R s m args below meth c H locs cells slots Q (F0 m (pc + 3) ls (.int (imin x y) :: rest))) : W p l e R s m args below meth c H locs cells slots Q (F0 m pc ls (.int y :: .int x :: rest)) := va_mmin hexec hb hml hown hlink hstat hini hcode hframes hlocals hc hs hdg kk
theorem px_mmaxl (hexec : p.tables.exec = Jvm.exec) (hb : c.code = cc) (hml : c.maxLocals = ls.size) {own : String} {index : Nat} (hown : s.vm.findClass own = some m.cls) (hlink : (Cond.methodLink own index Lib.MathLoose.max_long.x).before args s = true) (hstat : (Cond.static Lib.MathLoose.max_long.x).before args s = true) (hini : (Cond.initialized "java/lang/Math").before args s = true) (hcode : (Cond.code Lib.MathLoose.max_long.x Lib.MathLoose.max_long.code 4 (some .long)).before args s = true)
    (hframes : 1 ≤ R.frames) (hlocals : (rest.map fun v => v.category).sum + 15 ≤ R.locals) (hc : cells ≤ R.cells) (hs : slots ≤ R.slots) {x y : Int64} (hdg : decode cc pc = .ok (.invokestatic index, 3))
    (kk : W p l e R s m args below meth c H locs cells slots Q (F0 m (pc + 3) ls (.long (jmax x y) :: rest))) : W p l e R s m args below meth c H locs cells slots Q (F0 m pc ls (.long y :: .long x :: rest)) := va_mmax_long hexec hb hml hown hlink hstat hini hcode hframes hlocals hc hs hdg kk
theorem px_mminl (hexec : p.tables.exec = Jvm.exec) (hb : c.code = cc) (hml : c.maxLocals = ls.size) {own : String} {index : Nat} (hown : s.vm.findClass own = some m.cls) (hlink : (Cond.methodLink own index Lib.MathLoose.min_long.x).before args s = true) (hstat : (Cond.static Lib.MathLoose.min_long.x).before args s = true) (hini : (Cond.initialized "java/lang/Math").before args s = true) (hcode : (Cond.code Lib.MathLoose.min_long.x Lib.MathLoose.min_long.code 4 (some .long)).before args s = true)
    (hframes : 1 ≤ R.frames) (hlocals : (rest.map fun v => v.category).sum + 15 ≤ R.locals) (hc : cells ≤ R.cells) (hs : slots ≤ R.slots) {x y : Int64} (hdg : decode cc pc = .ok (.invokestatic index, 3))
    (kk : W p l e R s m args below meth c H locs cells slots Q (F0 m (pc + 3) ls (.long (jmin x y) :: rest))) : W p l e R s m args below meth c H locs cells slots Q (F0 m pc ls (.long y :: .long x :: rest)) := va_mmin_long hexec hb hml hown hlink hstat hini hcode hframes hlocals hc hs hdg kk
theorem px_mabsl (hexec : p.tables.exec = Jvm.exec) (hb : c.code = cc) (hml : c.maxLocals = ls.size) {own : String} {index : Nat} (hown : s.vm.findClass own = some m.cls) (hlink : (Cond.methodLink own index Lib.MathLoose.abs_long.x).before args s = true) (hstat : (Cond.static Lib.MathLoose.abs_long.x).before args s = true) (hini : (Cond.initialized "java/lang/Math").before args s = true) (hcode : (Cond.code Lib.MathLoose.abs_long.x Lib.MathLoose.abs_long.code 2 (some .long)).before args s = true)
    (hframes : 1 ≤ R.frames) (hlocals : (rest.map fun v => v.category).sum + 13 ≤ R.locals) (hc : cells ≤ R.cells) (hs : slots ≤ R.slots) {x : Int64} (hdg : decode cc pc = .ok (.invokestatic index, 3))
    (kk : W p l e R s m args below meth c H locs cells slots Q (F0 m (pc + 3) ls (.long (jabs x) :: rest))) : W p l e R s m args below meth c H locs cells slots Q (F0 m pc ls (.long x :: rest)) := va_mabs_long hexec hb hml hown hlink hstat hini hcode hframes hlocals hc hs hdg kk
end PXB
end
section
/-! ===== lN n to 2^64: shifts, and, or, masks, one bit ===== -/
theorem wb_tb (n : Nat) : (lN n).toBitVec = BitVec.ofNat 64 n := rfl
theorem wb_inj {a b : Int64} (h : a.toBitVec = b.toBitVec) : a = b := Int64.toBitVec_inj.mp h
theorem wb_tn {n : Nat} (h : n < 2 ^ 64) : (lN n).toBitVec.toNat = n := by rw [wb_tb, BitVec.toNat_ofNat, Nat.mod_eq_of_lt h]
theorem wb_of (x : Int64) : ∃ n, n < 2 ^ 64 ∧ x = lN n := ⟨x.toBitVec.toNat, x.toBitVec.isLt, wb_inj (by rw [wb_tb]; simp)⟩
theorem wb_of32 (x : Int32) : ∃ n, n < 2 ^ 32 ∧ x = nI n := ⟨x.toBitVec.toNat, x.toBitVec.isLt, Int32.toBitVec_inj.mp (by show _ = BitVec.ofNat 32 _; simp)⟩
theorem wb_c : ∀ k, k < 64 → ((nI k).toInt64 &&& 63) = lN k := by decide +kernel
theorem wb_cu : ∀ k, k < 64 → ((nI k).toInt64.toUInt64 &&& Int64.toUInt64 63) = UInt64.ofNat k := by decide +kernel
theorem wb_sm : ∀ k, k < 64 → (BitVec.ofNat 64 k).smod 64 = BitVec.ofNat 64 k := by decide +kernel
theorem wb_pw {a b : Nat} (h : a ≤ b) : 2 ^ b = 2 ^ a * 2 ^ (b - a) := by rw [← Nat.pow_add]; congr 1; omega
theorem wb_lt2 {a b : Nat} (h : a < b) : 2 ^ a < 2 ^ b := Nat.pow_lt_pow_right (by decide) h
theorem wb_mod (n : Nat) : lN n = lN (n % 2 ^ 64) := wb_inj (by rw [wb_tb, wb_tb]; apply BitVec.eq_of_toNat_eq; rw [BitVec.toNat_ofNat, BitVec.toNat_ofNat, Nat.mod_mod])
theorem wb_shr {n k : Nat} (hn : n < 2 ^ 64) (hk : k < 64) : ((lN n).toUInt64 >>> ((nI k).toInt64.toUInt64 &&& Int64.toUInt64 63)).toInt64 = lN (n / 2 ^ k) := by
  rw [wb_cu k hk]
  apply wb_inj
  apply BitVec.eq_of_toNat_eq
  show ((lN n).toUInt64 >>> UInt64.ofNat k).toNat = (BitVec.ofNat 64 _).toNat
  have h1 : (UInt64.ofNat k).toNat = k := by
    show (BitVec.ofNat 64 k).toNat = k
    rw [BitVec.toNat_ofNat, Nat.mod_eq_of_lt (by omega)]
  have h2 : (lN n).toUInt64.toNat = n := wb_tn hn
  rw [UInt64.toNat_shiftRight, h1, h2, Nat.mod_eq_of_lt hk, Nat.shiftRight_eq_div_pow, BitVec.toNat_ofNat, Nat.mod_eq_of_lt (Nat.lt_of_le_of_lt (Nat.div_le_self _ _) hn)]
theorem wb_shl (n : Nat) {k : Nat} (hk : k < 64) : lN n <<< ((nI k).toInt64 &&& 63) = lN (n * 2 ^ k) := by
  rw [wb_c k hk]
  apply wb_inj
  rw [Int64.toBitVec_shiftLeft, wb_tb, wb_tb, wb_tb, wb_sm k hk]
  apply BitVec.eq_of_toNat_eq
  rw [BitVec.shiftLeft_eq', BitVec.toNat_shiftLeft, BitVec.toNat_ofNat, BitVec.toNat_ofNat, BitVec.toNat_ofNat, Nat.mod_eq_of_lt (show k < 2 ^ 64 by omega), Nat.shiftLeft_eq, Nat.mul_mod, Nat.mod_mod, ← Nat.mul_mod]
theorem wb_and {a b : Nat} (ha : a < 2 ^ 64) (hb : b < 2 ^ 64) : lN a &&& lN b = lN (a &&& b) := by
  apply wb_inj
  rw [Int64.toBitVec_and, wb_tb, wb_tb, wb_tb]
  apply BitVec.eq_of_toNat_eq
  rw [BitVec.toNat_and, BitVec.toNat_ofNat, BitVec.toNat_ofNat, BitVec.toNat_ofNat, Nat.mod_eq_of_lt ha, Nat.mod_eq_of_lt hb, Nat.mod_eq_of_lt (Nat.and_lt_two_pow _ hb)]
theorem wb_or {a b : Nat} (ha : a < 2 ^ 64) (hb : b < 2 ^ 64) : lN a ||| lN b = lN (a ||| b) := by
  apply wb_inj
  rw [Int64.toBitVec_or, wb_tb, wb_tb, wb_tb]
  apply BitVec.eq_of_toNat_eq
  rw [BitVec.toNat_or, BitVec.toNat_ofNat, BitVec.toNat_ofNat, BitVec.toNat_ofNat, Nat.mod_eq_of_lt ha, Nat.mod_eq_of_lt hb, Nat.mod_eq_of_lt (Nat.or_lt_two_pow ha hb)]
theorem wb_mask {n k : Nat} (hn : n < 2 ^ 64) (hk : k < 64) : lN n &&& lN (2 ^ k - 1) = lN (n % 2 ^ k) := by
  rw [wb_and hn (by have := wb_lt2 hk; omega), Nat.and_two_pow_sub_one_eq_mod]
theorem wb_a1 {n : Nat} (hn : n < 2 ^ 64) : lN n &&& 1 = lN (n % 2) := wb_mask (k := 1) hn (by decide)
theorem wb_bit {n k : Nat} (hn : n < 2 ^ 64) (hk : k < 64) : ((lN n).toUInt64 >>> ((nI k).toInt64.toUInt64 &&& Int64.toUInt64 63)).toInt64 &&& 1 = lN (n / 2 ^ k % 2) := by
  rw [wb_shr hn hk, wb_a1 (Nat.lt_of_le_of_lt (Nat.div_le_self _ _) hn)]
theorem wb_xor {q k : Nat} (hk : k < 63) (h : 2 ^ k ≤ q) (h2 : q < 2 ^ (k + 1)) : lN q ^^^ lN (2 ^ k) = lN (q - 2 ^ k) := by
  obtain ⟨r, rfl⟩ : ∃ r, q = 2 ^ k + r := ⟨q - 2 ^ k, by omega⟩
  have hr : r < 2 ^ k := by rw [Nat.pow_succ] at h2; omega
  have hx : (2 ^ k + r) ^^^ 2 ^ k = r := by
    apply Nat.eq_of_testBit_eq
    intro i
    rw [Nat.testBit_xor, Nat.testBit_two_pow]
    rcases Nat.lt_trichotomy i k with h | h | h
    · rw [Nat.testBit_two_pow_add_gt h]
      simp [show ¬ k = i by omega]
    · subst h
      rw [Nat.testBit_two_pow_add_eq]
      simp
    · have a1 : 2 ^ (k + 1) ≤ 2 ^ i := Nat.pow_le_pow_right (by decide) h
      rw [Nat.testBit_lt_two_pow (show 2 ^ k + r < 2 ^ i by omega), Nat.testBit_lt_two_pow (show r < 2 ^ i by omega)]
      simp [show ¬ k = i by omega]
  have b1 := wb_lt2 (show k + 1 < 64 by omega)
  have b2 := wb_lt2 (show k < 64 by omega)
  apply wb_inj
  rw [Int64.toBitVec_xor, wb_tb, wb_tb, wb_tb]
  apply BitVec.eq_of_toNat_eq
  rw [BitVec.toNat_xor, BitVec.toNat_ofNat, BitVec.toNat_ofNat, BitVec.toNat_ofNat, Nat.mod_eq_of_lt (by omega : 2 ^ k + r < 2 ^ 64), Nat.mod_eq_of_lt b2, hx, Nat.add_sub_cancel_left, Nat.mod_eq_of_lt (by omega)]
/-! ===== lN: masks, 'or' of parts that don't overlap is a sum ===== -/
theorem u_tn {n : Nat} (h : n < 2 ^ 64) : (UInt64.ofNat n).toNat = n := Nat.mod_eq_of_lt h
theorem g_and {a b c : Nat} (ha : a < 2 ^ 64) (hb : b < 2 ^ 64) (hc : a &&& b = c) : lN a &&& lN b = lN c := by
  subst hc
  have h : UInt64.ofNat a &&& UInt64.ofNat b = UInt64.ofNat (a &&& b) := UInt64.toNat_inj.mp (by rw [UInt64.toNat_and, u_tn ha, u_tn hb, u_tn (Nat.and_lt_two_pow a hb)])
  have h2 := congrArg UInt64.toInt64 h
  exact h2
theorem g_and1 {a : Nat} (ha : a < 2 ^ 64) : lN a &&& 1 = lN (a % 2) := g_and (b := 1) ha (by decide) (Nat.and_two_pow_sub_one_eq_mod a 1)
theorem g_mask {a s p : Nat} (hp : 2 ^ s = p) (hs : s < 64) (ha : a < 2 ^ 64) : lN a &&& lN (p - 1) = lN (a % p) := by
  subst hp
  have := Nat.pow_lt_pow_right (show 1 < 2 by decide) hs
  exact g_and ha (by omega) (Nat.and_two_pow_sub_one_eq_mod a s)
theorem g_or {k p a b : Nat} (hp : 2 ^ k = p) (ha : a < p) (h : b * p + a < 2 ^ 64) : lN (b * p) ||| lN a = lN (b * p + a) := by
  subst hp
  have h1 : b * 2 ^ k ||| a = b * 2 ^ k + a := by rw [← Nat.shiftLeft_eq, Nat.shiftLeft_add_eq_or_of_lt ha]
  have h3 : UInt64.ofNat (b * 2 ^ k) ||| UInt64.ofNat a = UInt64.ofNat (b * 2 ^ k + a) := UInt64.toNat_inj.mp (by rw [UInt64.toNat_or, u_tn (by omega), u_tn (by omega), u_tn h, h1])
  have h2 := congrArg UInt64.toInt64 h3
  exact h2
theorem g_or' {k p a b : Nat} (hp : 2 ^ k = p) (ha : a < p) (h : a + b * p < 2 ^ 64) : lN a ||| lN (b * p) = lN (a + b * p) := by
  rw [Int64.or_comm, g_or hp ha (by omega), Nat.add_comm]
theorem g_ushr {a k p : Nat} {y : UInt64} (hy : y = UInt64.ofNat k) (hk : k < 64) (hp : 2 ^ k = p) (ha : a < 2 ^ 64) : ((lN a).toUInt64 >>> y).toInt64 = lN (a / p) := by
  subst hy hp
  have h : UInt64.ofNat a >>> UInt64.ofNat k = UInt64.ofNat (a / 2 ^ k) := UInt64.toNat_inj.mp (by rw [UInt64.toNat_shiftRight, u_tn ha, u_tn (by omega), u_tn (Nat.lt_of_le_of_lt (Nat.div_le_self _ _) ha), Nat.mod_eq_of_lt hk, Nat.shiftRight_eq_div_pow])
  have h2 := congrArg UInt64.toInt64 h
  exact h2
theorem g_shl {a k p : Nat} {y : Int64} (hy : y.toBitVec.smod 64 = BitVec.ofNat 64 k) (hk : k < 64) (hp : 2 ^ k = p) (ha : a < 2 ^ 64) : lN a <<< y = lN (a * p) := by
  subst hp
  apply Int64.toBitVec_inj.mp
  rw [Int64.toBitVec_shiftLeft, hy]
  apply BitVec.eq_of_toNat_eq
  have hb : (lN a).toBitVec.toNat = a := Nat.mod_eq_of_lt ha
  have hk' : (BitVec.ofNat 64 k).toNat = k := Nat.mod_eq_of_lt (by omega)
  have h : ((lN a).toBitVec <<< BitVec.ofNat 64 k).toNat = (a * 2 ^ k) % 2 ^ 64 := by simp only [BitVec.shiftLeft_eq', BitVec.toNat_shiftLeft, hb, hk', Nat.shiftLeft_eq]
  exact h
/-! ===== Int64 as an unsigned number: uN x ===== -/
def uN (x : Int64) : Nat := x.toUInt64.toNat
theorem uN_lt (x : Int64) : uN x < 18446744073709551616 := x.toUInt64.toNat_lt
theorem uN_inj {x y : Int64} (h : uN x = uN y) : x = y := congrArg UInt64.toInt64 (UInt64.toNat_inj.mp h)
theorem uN_add (x y : Int64) : uN (x + y) = (uN x + uN y) % 18446744073709551616 := by
  show (x.toUInt64 + y.toUInt64).toNat = _
  exact UInt64.toNat_add _ _
theorem uN_mul (x y : Int64) : uN (x * y) = (uN x * uN y) % 18446744073709551616 := by
  show (x.toUInt64 * y.toUInt64).toNat = _
  exact UInt64.toNat_mul _ _
theorem uN_shl (x : Int64) : uN (x <<< ((1 : Int32).toInt64 &&& 63)) = (2 * uN x) % 18446744073709551616 := by
  have h : (((1 : Int32).toInt64 &&& 63).toBitVec.smod 64).toNat = 1 := by decide
  show (x.toBitVec <<< (((1 : Int32).toInt64 &&& 63).toBitVec.smod 64).toNat).toNat = _
  rw [h, BitVec.toNat_shiftLeft, Nat.shiftLeft_eq, Nat.mul_comm]
  rfl
theorem uN_shr (x : Int64) (s : UInt64) : uN (x.toUInt64 >>> s).toInt64 = uN x / 2 ^ (s.toNat % 64) := by
  show (x.toUInt64 >>> s).toNat = _
  rw [UInt64.toNat_shiftRight, Nat.shiftRight_eq_div_pow]
  rfl
theorem uN_s32 (x : Int64) : uN (x.toUInt64 >>> ((32 : Int32).toInt64.toUInt64 &&& Int64.toUInt64 63)).toInt64 = uN x / 4294967296 := by
  have h : ((32 : Int32).toInt64.toUInt64 &&& Int64.toUInt64 63).toNat % 64 = 32 := by decide
  rw [uN_shr, h]
theorem uN_s63 (x : Int64) : uN (x.toUInt64 >>> ((63 : Int32).toInt64.toUInt64 &&& Int64.toUInt64 63)).toInt64 = uN x / 9223372036854775808 := by
  have h : ((63 : Int32).toInt64.toUInt64 &&& Int64.toUInt64 63).toNat % 64 = 63 := by decide
  rw [uN_shr, h]
theorem uN_lo (x : Int64) : uN (x &&& 4294967295) = uN x % 4294967296 := by
  show (x.toUInt64 &&& Int64.toUInt64 4294967295).toNat = _
  rw [UInt64.toNat_and]
  exact Nat.and_two_pow_sub_one_eq_mod _ 32
theorem uN_bit (x : Int64) : (x &&& 1) = 0 ↔ uN x % 2 = 0 := by
  have h : uN (x &&& 1) = uN x % 2 := by
    show (x.toUInt64 &&& Int64.toUInt64 1).toNat = _
    rw [UInt64.toNat_and]
    exact Nat.and_two_pow_sub_one_eq_mod _ 1
  rw [← h]
  exact ⟨fun z => by rw [z]; rfl, fun z => uN_inj (z.trans rfl)⟩
theorem uN_or {x y : Int64} (hy : uN y < 2) : uN ((x <<< ((1 : Int32).toInt64 &&& 63)) ||| y) = (2 * uN x) % 18446744073709551616 + uN y := by
  have h1 : uN ((x <<< ((1 : Int32).toInt64 &&& 63)) ||| y) = uN (x <<< ((1 : Int32).toInt64 &&& 63)) ||| uN y := UInt64.toNat_or _ _
  have h2 : (2 * uN x) % 18446744073709551616 = 2 ^ 1 * (uN x % 9223372036854775808) := by omega
  rw [h1, uN_shl, h2]
  exact (Nat.two_pow_add_eq_or_of_lt (i := 1) hy _).symm
theorem nat_xor {a : Nat} (h : a < 18446744073709551616) : a ^^^ 2 ^ 63 = (a + 9223372036854775808) % 18446744073709551616 := by
  have h1 : (a ^^^ 2 ^ 63) % 2 ^ 63 = a % 2 ^ 63 := by rw [Nat.xor_mod_two_pow, Nat.mod_self, Nat.xor_zero]
  have h2 : (a ^^^ 2 ^ 63) / 2 ^ 63 = (a / 2 ^ 63) ^^^ 1 := by rw [Nat.xor_div_two_pow, Nat.div_self (Nat.two_pow_pos 63)]
  have h3 : a / 2 ^ 63 = 0 ∨ a / 2 ^ 63 = 1 := by omega
  generalize a ^^^ 2 ^ 63 = t at h1 h2
  rcases h3 with h3 | h3
  · rw [h3] at h2
    have h2 : t / 2 ^ 63 = 1 := h2
    omega
  · rw [h3] at h2
    have h2 : t / 2 ^ 63 = 0 := h2
    omega
theorem uN_xor (x : Int64) : uN (x ^^^ (-9223372036854775808)) = (uN x + 9223372036854775808) % 18446744073709551616 := by
  rw [← nat_xor (uN_lt x)]
  exact UInt64.toNat_xor _ _
theorem uN_int (x : Int64) : x.toInt = if 2 * uN x < 18446744073709551616 then (uN x : Int) else (uN x : Int) - 18446744073709551616 := BitVec.toInt_eq_toNat_cond _
theorem uN_le (x y : Int64) : (x ^^^ (-9223372036854775808)) ≤ (y ^^^ (-9223372036854775808)) ↔ uN x ≤ uN y := by
  have hx := uN_lt x
  have hy := uN_lt y
  rw [Int64.le_iff_toInt_le, uN_int, uN_int, uN_xor, uN_xor]
  omega
theorem uN_sk (x : Int64) {k : Nat} (hk : k < 64) : uN (x.toUInt64 >>> ((nI k).toInt64.toUInt64 &&& Int64.toUInt64 63)).toInt64 = uN x / 2 ^ k := by
  have h : ((nI k).toInt64.toUInt64 &&& Int64.toUInt64 63).toNat % 64 = k := by
    rw [nI_l (by omega), UInt64.toNat_and]
    have e : (lN k).toUInt64.toNat = k % 2 ^ 64 := rfl
    have e2 : (Int64.toUInt64 63).toNat = 2 ^ 6 - 1 := by decide
    rw [e, e2, Nat.and_two_pow_sub_one_eq_mod]
    omega
  rw [uN_shr, h]
/-! ===== unsigned comparison by xor with the least ===== -/
theorem lN_bv (n : Nat) : (lN n).toBitVec = BitVec.ofNat 64 n := rfl
theorem lN_nat {n : Nat} (h : n < 2 ^ 64) : (lN n).toBitVec.toNat = n := by rw [lN_bv, BitVec.toNat_ofNat]; exact Nat.mod_eq_of_lt h
theorem lN_xor (a b : Nat) : lN a ^^^ lN b = lN (a ^^^ b) := by
  apply Int64.toBitVec_inj.mp; rw [Int64.toBitVec_xor, lN_bv, lN_bv, lN_bv]; apply BitVec.eq_of_getLsbD_eq; intro i hi; simp [BitVec.getLsbD_ofNat, Nat.testBit_xor, hi]
theorem lN_ti {m : Nat} (h : m < 2 ^ 64) : (lN m).toInt = if m < 2 ^ 63 then (m : Int) else (m : Int) - 2 ^ 64 := by
  have c := BitVec.toInt_eq_toNat_cond (lN m).toBitVec
  rw [lN_nat h] at c
  show (lN m).toBitVec.toInt = _
  rw [c]
  split <;> split <;> omega
theorem xor63 {x : Nat} (h : x < 2 ^ 63) : x ^^^ 2 ^ 63 = 2 ^ 63 + x := by
  apply Nat.eq_of_testBit_eq
  intro i
  rw [Nat.testBit_xor, Nat.testBit_two_pow]
  rcases Nat.lt_trichotomy i 63 with z | z | z
  · rw [Nat.testBit_two_pow_add_gt z, decide_eq_false (by omega)]; simp
  · subst z; rw [Nat.testBit_two_pow_add_eq]; simp
  · have hp : 2 ^ 64 ≤ 2 ^ i := Nat.pow_le_pow_right (by decide) z
    rw [Nat.testBit_lt_two_pow (show x < 2 ^ i by omega), Nat.testBit_lt_two_pow (show 2 ^ 63 + x < 2 ^ i by omega), decide_eq_false (by omega)]; rfl
theorem xorS {a : Nat} (h : a < 2 ^ 64) : (lN a ^^^ (-9223372036854775808)).toInt = (a : Int) - 2 ^ 63 := by
  rw [show (-9223372036854775808 : Int64) = lN (2 ^ 63) from by decide +kernel, lN_xor]
  rcases Nat.lt_or_ge a (2 ^ 63) with z | z
  · rw [xor63 z, lN_ti (by omega), if_neg (by omega)]; omega
  · obtain ⟨x, rfl⟩ : ∃ x, a = 2 ^ 63 + x := ⟨a - 2 ^ 63, by omega⟩
    rw [← xor63 (by omega), Nat.xor_assoc, Nat.xor_self, Nat.xor_zero, lN_ti (by omega), if_pos (by omega), xor63 (by omega)]; omega
theorem ultL {a b : Nat} (ha : a < 2 ^ 64) (hb : b < 2 ^ 64) : ((lN b ^^^ (-9223372036854775808)) ≤ (lN a ^^^ (-9223372036854775808))) ↔ b ≤ a := by
  rw [Int64.le_iff_toInt_le, xorS ha, xorS hb]; omega
/-! ===== signed ints as whole numbers, within bounds ===== -/
theorem fb_rng (x : Int32) : -2147483648 ≤ x.toInt ∧ x.toInt < 2147483648 := by
  have h1 := Int32.le_toInt x
  have h2 := Int32.toInt_lt x
  omega
theorem fb_bmod {z : Int} (h1 : -2147483648 ≤ z) (h2 : z < 2147483648) : z.bmod (2 ^ 32) = z := by
  rw [Int.bmod_eq_of_le (by omega) (by omega)]
theorem fb_addI {x y : Int32} (h1 : -2147483648 ≤ x.toInt + y.toInt) (h2 : x.toInt + y.toInt < 2147483648) : (x + y).toInt = x.toInt + y.toInt := by
  rw [Int32.toInt_add, fb_bmod h1 h2]
theorem fb_subI {x y : Int32} (h1 : -2147483648 ≤ x.toInt - y.toInt) (h2 : x.toInt - y.toInt < 2147483648) : (x - y).toInt = x.toInt - y.toInt := by
  rw [Int32.toInt_sub, fb_bmod h1 h2]
theorem fb_mulI {x y : Int32} (h1 : -2147483648 ≤ x.toInt * y.toInt) (h2 : x.toInt * y.toInt < 2147483648) : (x * y).toInt = x.toInt * y.toInt := by
  rw [Int32.toInt_mul, fb_bmod h1 h2]
theorem fb_negI {x : Int32} (h : x.toInt ≠ -2147483648) : (-x).toInt = -x.toInt := by
  have := fb_rng x
  rw [Int32.toInt_neg, fb_bmod (by omega) (by omega)]
theorem fb_ofI {z : Int} (h1 : -2147483648 ≤ z) (h2 : z < 2147483648) : (Int32.ofInt z).toInt = z := by
  rw [Int32.toInt_ofInt, fb_bmod h1 h2]
theorem fb_asI (x : Int32) : Int32.ofInt x.toInt = x := Int32.ofInt_toInt x
theorem fb_rngL (x : Int64) : -9223372036854775808 ≤ x.toInt ∧ x.toInt < 9223372036854775808 := by
  have h1 := Int64.le_toInt x
  have h2 := Int64.toInt_lt x
  omega
theorem fb_bmodL {z : Int} (h1 : -9223372036854775808 ≤ z) (h2 : z < 9223372036854775808) : z.bmod (2 ^ 64) = z := by
  rw [Int.bmod_eq_of_le (by omega) (by omega)]
theorem fb_addL {x y : Int64} (h1 : -9223372036854775808 ≤ x.toInt + y.toInt) (h2 : x.toInt + y.toInt < 9223372036854775808) : (x + y).toInt = x.toInt + y.toInt := by
  rw [Int64.toInt_add, fb_bmodL h1 h2]
theorem fb_subL {x y : Int64} (h1 : -9223372036854775808 ≤ x.toInt - y.toInt) (h2 : x.toInt - y.toInt < 9223372036854775808) : (x - y).toInt = x.toInt - y.toInt := by
  rw [Int64.toInt_sub, fb_bmodL h1 h2]
theorem fb_mulL {x y : Int64} (h1 : -9223372036854775808 ≤ x.toInt * y.toInt) (h2 : x.toInt * y.toInt < 9223372036854775808) : (x * y).toInt = x.toInt * y.toInt := by
  rw [Int64.toInt_mul, fb_bmodL h1 h2]
/-! ===== cuts of what is narrow already ===== -/
theorem fb_byte {x : Int32} (h1 : -128 ≤ x.toInt) (h2 : x.toInt < 128) : x.toInt8.toInt32 = x := by
  apply Int32.toInt_inj.1
  rw [Int8.toInt_toInt32, Int32.toInt_toInt8, Int.bmod_eq_of_le (by omega) (by omega)]
theorem fb_short {x : Int32} (h1 : -32768 ≤ x.toInt) (h2 : x.toInt < 32768) : x.toInt16.toInt32 = x := by
  apply Int32.toInt_inj.1
  rw [Int16.toInt_toInt32, Int32.toInt_toInt16, Int.bmod_eq_of_le (by omega) (by omega)]
theorem fb_byte_rng (x : Int32) : -128 ≤ x.toInt8.toInt32.toInt ∧ x.toInt8.toInt32.toInt < 128 := by
  rw [Int8.toInt_toInt32]
  have h1 := Int8.le_toInt x.toInt8
  have h2 := Int8.toInt_lt x.toInt8
  omega
theorem fb_short_rng (x : Int32) : -32768 ≤ x.toInt16.toInt32.toInt ∧ x.toInt16.toInt32.toInt < 32768 := by
  rw [Int16.toInt_toInt32]
  have h1 := Int16.le_toInt x.toInt16
  have h2 := Int16.toInt_lt x.toInt16
  omega
theorem fb_byte_twice (x : Int32) : x.toInt8.toInt32.toInt8.toInt32 = x.toInt8.toInt32 := fb_byte (fb_byte_rng x).1 (fb_byte_rng x).2
theorem fb_short_twice (x : Int32) : x.toInt16.toInt32.toInt16.toInt32 = x.toInt16.toInt32 := fb_short (fb_short_rng x).1 (fb_short_rng x).2
theorem fb_char {n : Nat} (h : n < 65536) : (nI n).toUInt32.toUInt16.toUInt32.toInt32 = nI n := by
  apply Int32.toBitVec_inj.1
  apply BitVec.eq_of_toNat_eq
  have e1 : (nI n).toBitVec.toNat = n := by
    show (BitVec.ofNat 32 n).toNat = n
    rw [BitVec.toNat_ofNat, Nat.mod_eq_of_lt (by omega)]
  have e2 : ((nI n).toUInt32.toUInt16.toUInt32).toNat = n := by
    rw [UInt16.toNat_toUInt32, UInt32.toNat_toUInt16]
    show (nI n).toBitVec.toNat % 2 ^ 16 = n
    rw [e1, Nat.mod_eq_of_lt (by omega)]
  rw [e1]
  exact e2
/-! ===== order of ints, in all its forms, and through longs ===== -/
theorem fa_lt (a b : Int32) : a < b ↔ a.toInt < b.toInt := Int32.lt_iff_toInt_lt
theorem fa_le (a b : Int32) : a ≤ b ↔ a.toInt ≤ b.toInt := Int32.le_iff_toInt_le
theorem fa_eq (a b : Int32) : a = b ↔ a.toInt = b.toInt := Int32.toInt_inj.symm
theorem fa_lt64 (a b : Int64) : a < b ↔ a.toInt < b.toInt := Int64.lt_iff_toInt_lt
theorem fa_le64 (a b : Int64) : a ≤ b ↔ a.toInt ≤ b.toInt := Int64.le_iff_toInt_le
theorem fa_eq64 (a b : Int64) : a = b ↔ a.toInt = b.toInt := Int64.toInt_inj.symm
/-- a comparison of two ints taken as longs -/
theorem fa_wide_lt (a b : Int32) : a.toInt64 < b.toInt64 ↔ a < b := by rw [fa_lt64, fa_lt, Int32.toInt_toInt64, Int32.toInt_toInt64]
theorem fa_wide_le (a b : Int32) : a.toInt64 ≤ b.toInt64 ↔ a ≤ b := by rw [fa_le64, fa_le, Int32.toInt_toInt64, Int32.toInt_toInt64]
theorem fa_wide_eq (a b : Int32) : a.toInt64 = b.toInt64 ↔ a = b := by rw [fa_eq64, fa_eq, Int32.toInt_toInt64, Int32.toInt_toInt64]
/-- one strict comparison gives all the others -/
theorem fa_of_lt {a b : Int32} (h : a < b) : a ≤ b ∧ ¬ b ≤ a ∧ ¬ b < a ∧ a ≠ b ∧ b ≠ a := by
  rw [fa_lt] at h
  refine ⟨?_, ?_, ?_, ?_, ?_⟩
  · rw [fa_le]; omega
  · rw [fa_le]; omega
  · rw [fa_lt]; omega
  · intro e; rw [fa_eq] at e; omega
  · intro e; rw [fa_eq] at e; omega
theorem fa_of_nlt {a b : Int32} (h : ¬ a < b) : b ≤ a := by
  rw [fa_lt] at h
  rw [fa_le]
  omega
theorem fa_of_nle {a b : Int32} (h : ¬ a ≤ b) : b < a := by
  rw [fa_le] at h
  rw [fa_lt]
  omega
theorem fa_le_ne {a b : Int32} (h : a ≤ b) (h2 : a ≠ b) : a < b := by
  rw [fa_le] at h
  rw [fa_lt]
  have h3 : a.toInt ≠ b.toInt := fun e => h2 ((fa_eq a b).mpr e)
  omega
theorem fa_three (a b : Int32) : a < b ∨ a = b ∨ b < a := by
  rw [fa_lt, fa_lt, fa_eq]
  omega
theorem fa_trans {a b c : Int32} (h : a < b) (h2 : b ≤ c) : a < c := by
  rw [fa_lt] at *
  rw [fa_le] at h2
  omega
end
section
def fX0_fractionBits_0 (v0 : Int32) : Int32 := (if v0 = (6 : Int32) then (23 : Int32) else (52 : Int32))
def fX0_fractionBits (v0 : Int32) : Int32 := fX0_fractionBits_0 v0
def fX0_leastExponent_0 (v0 : Int32) : Int32 := (if v0 = (6 : Int32) then (-149 : Int32) else (-1074 : Int32))
def fX0_leastExponent (v0 : Int32) : Int32 := fX0_leastExponent_0 v0
def fX0_greatestAbove_0 (v0 : Int32) : Int32 := (if v0 = (6 : Int32) then (253 : Int32) else (2045 : Int32))
def fX0_greatestAbove (v0 : Int32) : Int32 := fX0_greatestAbove_0 v0
def fX0_infinity_0 (v0 : Int32) : Int64 := (if v0 = (6 : Int32) then (2139095040 : Int64) else (9218868437227405312 : Int64))
def fX0_infinity (v0 : Int32) : Int64 := fX0_infinity_0 v0
def fX0_notANumber_0 (v0 : Int32) : Int64 := ((fX0_infinity v0) + (1 : Int64))
def fX0_notANumber (v0 : Int32) : Int64 := fX0_notANumber_0 v0
def fX0_signBit_0 (v0 : Int32) : Int64 := (if v0 = (6 : Int32) then (2147483648 : Int64) else (-9223372036854775808 : Int64))
def fX0_signBit (v0 : Int32) : Int64 := fX0_signBit_0 v0
def fX0_size_0 (v0 : Int32) (v1 : Int64) : Int64 := (v1 &&& ((fX0_signBit v0) ^^^ (-1 : Int64)))
def fX0_size (v0 : Int32) (v1 : Int64) : Int64 := fX0_size_0 v0 v1
def fX0_isNumber_6 (v0 : Int32) (v3 : Int64) : Int32 := (if v3 < (0 : Int64) then (0 : Int32) else (if (fX0_infinity v0) < v3 then (0 : Int32) else (1 : Int32)))
def fX0_isNumber_0 (v0 : Int32) (v1 : Int64) : Int32 := fX0_isNumber_6 v0 (fX0_size v0 v1)
def fX0_isNumber (v0 : Int32) (v1 : Int64) : Int32 := fX0_isNumber_0 v0 v1
def fX0_isNegative_0 (v0 : Int32) (v1 : Int64) : Int32 := (if (v1 &&& (fX0_signBit v0)) = (0 : Int64) then (0 : Int32) else (1 : Int32))
def fX0_isNegative (v0 : Int32) (v1 : Int64) : Int32 := fX0_isNegative_0 v0 v1
def fX0_isInfinite_0 (v0 : Int32) (v1 : Int64) : Int32 := (if (fX0_size v0 v1) = (fX0_infinity v0) then (1 : Int32) else (0 : Int32))
def fX0_isInfinite (v0 : Int32) (v1 : Int64) : Int32 := fX0_isInfinite_0 v0 v1
def fX0_isZero_0 (v0 : Int32) (v1 : Int64) : Int32 := (if (fX0_size v0 v1) = (0 : Int64) then (1 : Int32) else (0 : Int32))
def fX0_isZero (v0 : Int32) (v1 : Int64) : Int32 := fX0_isZero_0 v0 v1
def fX0_negated_0 (v0 : Int32) (v1 : Int64) : Int64 := (v1 ^^^ (fX0_signBit v0))
def fX0_negated (v0 : Int32) (v1 : Int64) : Int64 := fX0_negated_0 v0 v1
def fX0_signed_0 (v0 : Int32) (v1 : Int32) (v2 : Int64) : Int64 := (if v1 = (0) then v2 else (v2 ||| (fX0_signBit v0)))
def fX0_signed (v0 : Int32) (v1 : Int32) (v2 : Int64) : Int64 := fX0_signed_0 v0 v1 v2
def fX0_place_6 (v0 : Int32) (v1 : Int64) (v3 : Int64) : Int64 := (if (fX0_isNegative v0 v1) = (0) then v3 else (-v3))
def fX0_place_0 (v0 : Int32) (v1 : Int64) : Int64 := fX0_place_6 v0 v1 (fX0_size v0 v1)
def fX0_place (v0 : Int32) (v1 : Int64) : Int64 := fX0_place_0 v0 v1
def fX0_placeWithZerosApart_6 (v0 : Int32) (v1 : Int64) (v3 : Int64) : Int64 := (if (fX0_isNegative v0 v1) = (0) then v3 else ((-v3) - (1 : Int64)))
def fX0_placeWithZerosApart_0 (v0 : Int32) (v1 : Int64) : Int64 := fX0_placeWithZerosApart_6 v0 v1 (fX0_size v0 v1)
def fX0_placeWithZerosApart (v0 : Int32) (v1 : Int64) : Int64 := fX0_placeWithZerosApart_0 v0 v1
def fX0_magnitude_14 (v0 : Int32) (v1 : Int64) (v3 : Int64) (v5 : Int64) : Int64 := (if (fX0_size v0 v1) < v3 then v5 else (v5 + v3))
def fX0_magnitude_7 (v0 : Int32) (v1 : Int64) (v3 : Int64) : Int64 := fX0_magnitude_14 v0 v1 v3 (v1 &&& (v3 - (1 : Int64)))
def fX0_magnitude_0 (v0 : Int32) (v1 : Int64) : Int64 := fX0_magnitude_7 v0 v1 (jshl (1 : Int64) (fX0_fractionBits v0))
def fX0_magnitude (v0 : Int32) (v1 : Int64) : Int64 := fX0_magnitude_0 v0 v1
def fX0_exponent_12 (v0 : Int32) (v3 : Int32) : Int32 := (((fX0_leastExponent v0) + (imax v3 (1 : Int32))) - (1 : Int32))
def fX0_exponent_0 (v0 : Int32) (v1 : Int64) : Int32 := fX0_exponent_12 v0 ((jushr (fX0_size v0 v1) (fX0_fractionBits v0)).toInt32)
def fX0_exponent (v0 : Int32) (v1 : Int64) : Int32 := fX0_exponent_0 v0 v1
def fX0_roomBelow_2 : Nat → Int32 → Int64 → Int32 → Int32
  | 0, _, _, _ => 0
  | fuel + 1, v0, v1, v3 => (if v3 < v0 then (if (jshl v1 v3) < (jshl (1 : Int64) v0) then fX0_roomBelow_2 fuel v0 v1 (v3 + (1 : Int32)) else v3) else v3)
def okX0_roomBelow_2 : Nat → Int32 → Int64 → Int32 → Prop
  | 0, _, _, _ => False
  | fuel + 1, v0, v1, v3 => ((v3 < v0 → (((jshl v1 v3) < (jshl (1 : Int64) v0) → okX0_roomBelow_2 fuel v0 v1 (v3 + (1 : Int32))) ∧ (¬ (jshl v1 v3) < (jshl (1 : Int64) v0) → True))) ∧ (¬ v3 < v0 → True))
def fX0_roomBelow_0 (v0 : Int32) (v1 : Int64) : Int32 := fX0_roomBelow_2 (v0.toNatClampNeg + 1) v0 v1 (0 : Int32)
def okX0_roomBelow_0 (v0 : Int32) (v1 : Int64) : Prop := okX0_roomBelow_2 (v0.toNatClampNeg + 1) v0 v1 (0 : Int32)
def fX0_roomBelow (v0 : Int32) (v1 : Int64) : Int32 := fX0_roomBelow_0 v0 v1
def okX0_roomBelow (v0 : Int32) (v1 : Int64) : Prop := okX0_roomBelow_0 v0 v1
def fX0_movedDown_22 (v0 : Int64) (v2 : Int32) (v3 : Int64) : Int64 := (if (jshl v3 v2) = v0 then v3 else (v3 ||| (1 : Int64)))
def fX0_movedDown_0 (v0 : Int64) (v2 : Int32) : Int64 := (if (63 : Int32) < v2 then (if v0 = (0 : Int64) then (0 : Int64) else (1 : Int64)) else fX0_movedDown_22 v0 v2 (jushr v0 v2))
def fX0_movedDown (v0 : Int64) (v2 : Int32) : Int64 := fX0_movedDown_0 v0 v2
def fX0_roundedDown_57 (v3 : Int64) (s0 : Int32) : Int64 := (if s0 = (0) then v3 else (v3 + (1 : Int64)))
def fX0_roundedDown_52 (v3 : Int64) : Int64 := fX0_roundedDown_57 v3 (1 : Int32)
def fX0_roundedDown_56 (v3 : Int64) : Int64 := fX0_roundedDown_57 v3 (0 : Int32)
def fX0_roundedDown_28 (v3 : Int64) (v5 : Int64) (v7 : Int64) : Int64 := (if v7 < v5 then fX0_roundedDown_52 v3 else (if v5 = v7 then (if (v3 &&& (1 : Int64)) = (1 : Int64) then fX0_roundedDown_52 v3 else fX0_roundedDown_56 v3) else fX0_roundedDown_56 v3))
def fX0_roundedDown_21 (v2 : Int32) (v3 : Int64) (v5 : Int64) : Int64 := fX0_roundedDown_28 v3 v5 (jshl (1 : Int64) (v2 - (1 : Int32)))
def fX0_roundedDown_12 (v0 : Int64) (v2 : Int32) (v3 : Int64) : Int64 := fX0_roundedDown_21 v2 v3 (v0 &&& ((jshl (1 : Int64) v2) - (1 : Int64)))
def fX0_roundedDown_0 (v0 : Int64) (v2 : Int32) : Int64 := (if (63 : Int32) < v2 then (0 : Int64) else fX0_roundedDown_12 v0 v2 (jushr v0 v2))
def fX0_roundedDown (v0 : Int64) (v2 : Int32) : Int64 := fX0_roundedDown_0 v0 v2
def fX0_nearest_90 (v0 : Int32) (v1 : Int32) (v7 : Int32) (v8 : Int64) : Int64 := (fX0_signed v0 v1 ((jshl (v7.toInt64) (fX0_fractionBits v0)) + v8))
def fX0_nearest_79 (v0 : Int32) (v1 : Int32) (v2 : Int64) (v5 : Int32) (v6 : Int32) (v7 : Int32) : Int64 := fX0_nearest_90 v0 v1 v7 (fX0_roundedDown (jshl v2 v5) v6)
def fX0_nearest_76 (v0 : Int32) (v1 : Int32) (v2 : Int64) (v5 : Int32) (v6 : Int32) : Int64 := fX0_nearest_79 v0 v1 v2 v5 v6 (0 : Int32)
def fX0_nearest_45 (v0 : Int32) (v1 : Int32) (v2 : Int64) (v5 : Int32) (v6 : Int32) (v7 : Int32) : Int64 := (if (fX0_greatestAbove v0) < v7 then (fX0_signed v0 v1 (fX0_infinity v0)) else (if v7 < (0) then fX0_nearest_76 v0 v1 v2 v5 (v6 - v7) else fX0_nearest_79 v0 v1 v2 v5 v6 v7))
def fX0_nearest_30 (v0 : Int32) (v1 : Int32) (v2 : Int64) (v4 : Int32) (v5 : Int32) (v6 : Int32) : Int64 := fX0_nearest_45 v0 v1 v2 v5 v6 (((v4 - v5) + v6) - (fX0_leastExponent v0))
def fX0_nearest_21 (v0 : Int32) (v1 : Int32) (v2 : Int64) (v4 : Int32) (v5 : Int32) : Int64 := fX0_nearest_30 v0 v1 v2 v4 v5 ((62 : Int32) - (fX0_fractionBits v0))
def fX0_nearest_0 (v0 : Int32) (v1 : Int32) (v2 : Int64) (v4 : Int32) : Int64 := (if v2 = (0 : Int64) then (fX0_signed v0 v1 (0 : Int64)) else fX0_nearest_21 v0 v1 v2 v4 (fX0_roomBelow (62 : Int32) v2))
def fX0_nearest (v0 : Int32) (v1 : Int32) (v2 : Int64) (v4 : Int32) : Int64 := fX0_nearest_0 v0 v1 v2 v4
def fX0_ofWhole_30 (v1 : Int64) (s0 : Int32) (s1 : Int32) : Int64 := (fX0_nearest s0 s1 (jabs v1) (0 : Int32))
def fX0_ofWhole_0 (v0 : Int32) (v1 : Int64) : Int64 := (if v1 = (-9223372036854775808 : Int64) then (fX0_nearest v0 (1 : Int32) (4611686018427387904 : Int64) (1 : Int32)) else (if v1 < (0 : Int64) then fX0_ofWhole_30 v1 v0 (1 : Int32) else fX0_ofWhole_30 v1 v0 (0 : Int32)))
def fX0_ofWhole (v0 : Int32) (v1 : Int64) : Int64 := fX0_ofWhole_0 v0 v1
def fX0_ofReal_7 (v0 : Int32) (v1 : Int32) (v2 : Int64) (v4 : Int32) : Int64 := (if (fX0_isInfinite v1 v2) = (0) then (fX0_nearest v0 v4 (fX0_magnitude v1 v2) (fX0_exponent v1 v2)) else (fX0_signed v0 v4 (fX0_infinity v0)))
def fX0_ofReal_0 (v0 : Int32) (v1 : Int32) (v2 : Int64) : Int64 := fX0_ofReal_7 v0 v1 v2 (fX0_isNegative v1 v2)
def fX0_ofReal (v0 : Int32) (v1 : Int32) (v2 : Int64) : Int64 := fX0_ofReal_0 v0 v1 v2
def fX0_wholePart_42 (v3 : Int32) (s0 : Int64) : Int64 := (if v3 = (0) then s0 else (-s0))
def fX0_wholePart_76 (v3 : Int32) : Int64 := (if v3 = (0) then (9223372036854775807 : Int64) else (-9223372036854775808 : Int64))
def fX0_wholePart_20 (v3 : Int32) (v4 : Int64) (v6 : Int32) : Int64 := (if (0) < v6 then (if (63 : Int32) < v6 then fX0_wholePart_76 v3 else (if (jushr (9223372036854775807 : Int64) v6) < v4 then fX0_wholePart_76 v3 else (if v3 = (0) then (jshl v4 v6) else (-(jshl v4 v6))))) else (if v6 < (-63 : Int32) then fX0_wholePart_42 v3 (0 : Int64) else fX0_wholePart_42 v3 (jushr v4 (-v6))))
def fX0_wholePart_13 (v0 : Int32) (v1 : Int64) (v3 : Int32) (v4 : Int64) : Int64 := fX0_wholePart_20 v3 v4 (fX0_exponent v0 v1)
def fX0_wholePart_6 (v0 : Int32) (v1 : Int64) (v3 : Int32) : Int64 := fX0_wholePart_13 v0 v1 v3 (fX0_magnitude v0 v1)
def fX0_wholePart_0 (v0 : Int32) (v1 : Int64) : Int64 := fX0_wholePart_6 v0 v1 (fX0_isNegative v0 v1)
def fX0_wholePart (v0 : Int32) (v1 : Int64) : Int64 := fX0_wholePart_0 v0 v1
def fX0_sumByGreater_79 (v0 : Int32) (v3 : Int64) (v6 : Int64) (v8 : Int32) (v9 : Int64) (v12 : Int32) : Int64 := (if v12 = (fX0_isNegative v0 v3) then (fX0_nearest v0 v12 (v6 + v9) v8) else (if v6 = v9 then (0 : Int64) else (fX0_nearest v0 v12 (v6 - v9) v8)))
def fX0_sumByGreater_70 (v0 : Int32) (v1 : Int64) (v3 : Int64) (v6 : Int64) (v8 : Int32) (s0 : Int64) : Int64 := fX0_sumByGreater_79 v0 v3 v6 v8 s0 (fX0_isNegative v0 v1)
def fX0_sumByGreater_49 (v0 : Int32) (v1 : Int64) (v3 : Int64) (v6 : Int64) (v8 : Int32) (v9 : Int64) (v11 : Int32) : Int64 := (if v11 < (0) then fX0_sumByGreater_70 v0 v1 v3 v6 v8 (fX0_movedDown v9 (-v11)) else fX0_sumByGreater_70 v0 v1 v3 v6 v8 (jshl v9 v11))
def fX0_sumByGreater_39 (v0 : Int32) (v1 : Int64) (v3 : Int64) (v6 : Int64) (v8 : Int32) (v9 : Int64) : Int64 := fX0_sumByGreater_49 v0 v1 v3 v6 v8 v9 ((fX0_exponent v0 v3) - v8)
def fX0_sumByGreater_32 (v0 : Int32) (v1 : Int64) (v3 : Int64) (v6 : Int64) (v8 : Int32) : Int64 := fX0_sumByGreater_39 v0 v1 v3 v6 v8 (fX0_magnitude v0 v3)
def fX0_sumByGreater_22 (v0 : Int32) (v1 : Int64) (v3 : Int64) (v5 : Int32) (v6 : Int64) : Int64 := fX0_sumByGreater_32 v0 v1 v3 v6 ((fX0_exponent v0 v1) - v5)
def fX0_sumByGreater_12 (v0 : Int32) (v1 : Int64) (v3 : Int64) (v5 : Int32) : Int64 := fX0_sumByGreater_22 v0 v1 v3 v5 (jshl (fX0_magnitude v0 v1) v5)
def fX0_sumByGreater_0 (v0 : Int32) (v1 : Int64) (v3 : Int64) : Int64 := fX0_sumByGreater_12 v0 v1 v3 (fX0_roomBelow (61 : Int32) (fX0_magnitude v0 v1))
def fX0_sumByGreater (v0 : Int32) (v1 : Int64) (v3 : Int64) : Int64 := fX0_sumByGreater_0 v0 v1 v3
def fX0_sum_80 (v0 : Int32) (v1 : Int64) (v3 : Int64) (s0 : Int32) : Int64 := (if s0 = (0) then (fX0_sumByGreater v0 v3 v1) else (fX0_sumByGreater v0 v1 v3))
def fX0_sum_61 (v0 : Int32) (v1 : Int64) (v3 : Int64) : Int64 := (if (fX0_size v0 v1) < (fX0_size v0 v3) then fX0_sum_80 v0 v1 v3 (0 : Int32) else fX0_sum_80 v0 v1 v3 (1 : Int32))
def fX0_sum_0 (v0 : Int32) (v1 : Int64) (v3 : Int64) : Int64 := (if (fX0_isInfinite v0 v1) = (0) then (if (fX0_isInfinite v0 v3) = (0) then (if (fX0_isZero v0 v1) = (0) then fX0_sum_61 v0 v1 v3 else (if (fX0_isZero v0 v3) = (0) then fX0_sum_61 v0 v1 v3 else (v1 &&& v3))) else v3) else (if (fX0_isInfinite v0 v3) = (0) then v1 else (if v1 = v3 then v1 else (fX0_notANumber v0))))
def fX0_sum (v0 : Int32) (v1 : Int64) (v3 : Int64) : Int64 := fX0_sum_0 v0 v1 v3
def fX0_topOfProduct_84 (v18 : Int64) (v20 : Int64) : Int64 := ((jshl v18 (10 : Int32)) ||| (fX0_movedDown v20 (44 : Int32)))
def fX0_topOfProduct_68 (v4 : Int64) (v14 : Int64) (v16 : Int64) (v18 : Int64) : Int64 := fX0_topOfProduct_84 v18 ((jshl (v16 &&& v4) (27 : Int32)) ||| (v14 &&& v4))
def fX0_topOfProduct_55 (v4 : Int64) (v6 : Int64) (v10 : Int64) (v14 : Int64) (v16 : Int64) : Int64 := fX0_topOfProduct_68 v4 v14 v16 ((v6 * v10) + (jushr v16 (27 : Int32)))
def fX0_topOfProduct_36 (v4 : Int64) (v6 : Int64) (v8 : Int64) (v10 : Int64) (v12 : Int64) (v14 : Int64) : Int64 := fX0_topOfProduct_55 v4 v6 v10 v14 (((v6 * v12) + (v8 * v10)) + (jushr v14 (27 : Int32)))
def fX0_topOfProduct_29 (v4 : Int64) (v6 : Int64) (v8 : Int64) (v10 : Int64) (v12 : Int64) : Int64 := fX0_topOfProduct_36 v4 v6 v8 v10 v12 (v8 * v12)
def fX0_topOfProduct_23 (v2 : Int64) (v4 : Int64) (v6 : Int64) (v8 : Int64) (v10 : Int64) : Int64 := fX0_topOfProduct_29 v4 v6 v8 v10 (v2 &&& v4)
def fX0_topOfProduct_17 (v2 : Int64) (v4 : Int64) (v6 : Int64) (v8 : Int64) : Int64 := fX0_topOfProduct_23 v2 v4 v6 v8 (jushr v2 (27 : Int32))
def fX0_topOfProduct_11 (v0 : Int64) (v2 : Int64) (v4 : Int64) (v6 : Int64) : Int64 := fX0_topOfProduct_17 v2 v4 v6 (v0 &&& v4)
def fX0_topOfProduct_0 (v0 : Int64) (v2 : Int64) : Int64 := fX0_topOfProduct_11 v0 v2 (134217727 : Int64) (jushr v0 (27 : Int32))
def fX0_topOfProduct (v0 : Int64) (v2 : Int64) : Int64 := fX0_topOfProduct_0 v0 v2
def fX0_product_57 (v0 : Int32) (v5 : Int32) (s0 : Int32) : Int64 := (if s0 = (0) then (fX0_signed v0 v5 (fX0_infinity v0)) else (fX0_notANumber v0))
def fX0_product_52 (v0 : Int32) (v5 : Int32) : Int64 := fX0_product_57 v0 v5 (1 : Int32)
def fX0_product_36 (v0 : Int32) (v1 : Int64) (v3 : Int64) (v5 : Int32) : Int64 := (if (fX0_isZero v0 v1) = (0) then (if (fX0_isZero v0 v3) = (0) then fX0_product_57 v0 v5 (0 : Int32) else fX0_product_52 v0 v5) else fX0_product_52 v0 v5)
def fX0_product_146 (v0 : Int32) (v5 : Int32) (v8 : Int64) (v10 : Int32) : Int64 := (fX0_nearest v0 v5 v8 ((v10 + (54 : Int32)) - (10 : Int32)))
def fX0_product_127 (v0 : Int32) (v1 : Int64) (v3 : Int64) (v5 : Int32) (v6 : Int32) (v7 : Int32) (v8 : Int64) : Int64 := fX0_product_146 v0 v5 v8 ((((fX0_exponent v0 v1) - v6) + (fX0_exponent v0 v3)) - v7)
def fX0_product_106 (v0 : Int32) (v1 : Int64) (v3 : Int64) (v5 : Int32) (v6 : Int32) (v7 : Int32) : Int64 := fX0_product_127 v0 v1 v3 v5 v6 v7 (fX0_topOfProduct (jshl (fX0_magnitude v0 v1) v6) (jshl (fX0_magnitude v0 v3) v7))
def fX0_product_94 (v0 : Int32) (v1 : Int64) (v3 : Int64) (v5 : Int32) (v6 : Int32) : Int64 := fX0_product_106 v0 v1 v3 v5 v6 (fX0_roomBelow (52 : Int32) (fX0_magnitude v0 v3))
def fX0_product_18 (v0 : Int32) (v1 : Int64) (v3 : Int64) (s0 : Int32) : Int64 := (if (fX0_isInfinite v0 v1) = (0) then (if (fX0_isInfinite v0 v3) = (0) then fX0_product_94 v0 v1 v3 s0 (fX0_roomBelow (52 : Int32) (fX0_magnitude v0 v1)) else fX0_product_36 v0 v1 v3 s0) else fX0_product_36 v0 v1 v3 s0)
def fX0_product_0 (v0 : Int32) (v1 : Int64) (v3 : Int64) : Int64 := (if (fX0_isNegative v0 v1) = (fX0_isNegative v0 v3) then fX0_product_18 v0 v1 v3 (0 : Int32) else fX0_product_18 v0 v1 v3 (1 : Int32))
def fX0_product (v0 : Int32) (v1 : Int64) (v3 : Int64) : Int64 := fX0_product_0 v0 v1 v3
def fX0_topOfQuotient_59 (v4 : Int64) (v6 : Int64) : Int64 := (if v6 = (0 : Int64) then v4 else (v4 ||| (1 : Int64)))
def fX0_topOfQuotient_21 : Nat → Int64 → Int64 → Int64 → Int32 → Int64
  | 0, _, _, _, _ => 0
  | fuel + 1, v2, v4, v6, v8 => (if v8 < (6 : Int32) then fX0_topOfQuotient_21 fuel v2 ((jshl v4 (10 : Int32)) + ((jshl v6 (10 : Int32)) / v2)) (jrem (jshl v6 (10 : Int32)) v2) (v8 + (1 : Int32)) else fX0_topOfQuotient_59 v4 v6)
def okX0_topOfQuotient_21 : Nat → Int64 → Int64 → Int64 → Int32 → Prop
  | 0, _, _, _, _ => False
  | fuel + 1, v2, v4, v6, v8 => ((v8 < (6 : Int32) → ¬ v2 = 0 ∧ ¬ v2 = 0 ∧ okX0_topOfQuotient_21 fuel v2 ((jshl v4 (10 : Int32)) + ((jshl v6 (10 : Int32)) / v2)) (jrem (jshl v6 (10 : Int32)) v2) (v8 + (1 : Int32))) ∧ (¬ v8 < (6 : Int32) → True))
def fX0_topOfQuotient_18 (v2 : Int64) (v4 : Int64) (v6 : Int64) : Int64 := fX0_topOfQuotient_21 64 v2 v4 v6 (0 : Int32)
def okX0_topOfQuotient_18 (v2 : Int64) (v4 : Int64) (v6 : Int64) : Prop := okX0_topOfQuotient_21 64 v2 v4 v6 (0 : Int32)
def fX0_topOfQuotient_13 (v0 : Int64) (v2 : Int64) (v4 : Int64) : Int64 := fX0_topOfQuotient_18 v2 v4 (jrem v0 v2)
def okX0_topOfQuotient_13 (v0 : Int64) (v2 : Int64) (v4 : Int64) : Prop := ¬ v2 = 0 ∧ okX0_topOfQuotient_18 v2 v4 (jrem v0 v2)
def fX0_topOfQuotient_0 (v0 : Int64) (v2 : Int64) : Int64 := (if v2 = (0 : Int64) then (0 : Int64) else fX0_topOfQuotient_13 v0 v2 (v0 / v2))
def okX0_topOfQuotient_0 (v0 : Int64) (v2 : Int64) : Prop := ((v2 = (0 : Int64) → True) ∧ (¬ v2 = (0 : Int64) → ¬ v2 = 0 ∧ okX0_topOfQuotient_13 v0 v2 (v0 / v2)))
def fX0_topOfQuotient (v0 : Int64) (v2 : Int64) : Int64 := fX0_topOfQuotient_0 v0 v2
def okX0_topOfQuotient (v0 : Int64) (v2 : Int64) : Prop := okX0_topOfQuotient_0 v0 v2
def fX0_quotient_44 (v0 : Int32) : Int64 := (fX0_notANumber v0)
def fX0_quotient_85 (v0 : Int32) (v6 : Int32) : Int64 := (fX0_signed v0 v6 (fX0_infinity v0))
def fX0_quotient_180 (v0 : Int32) (v6 : Int32) (v11 : Int64) (v13 : Int32) : Int64 := (fX0_nearest v0 v6 v11 (v13 - (60 : Int32)))
def fX0_quotient_161 (v0 : Int32) (v1 : Int64) (v3 : Int64) (v6 : Int32) (v7 : Int32) (v8 : Int32) (v11 : Int64) : Int64 := fX0_quotient_180 v0 v6 v11 ((((fX0_exponent v0 v1) - v7) - (fX0_exponent v0 v3)) + v8)
def fX0_quotient_146 (v0 : Int32) (v1 : Int64) (v3 : Int64) (v6 : Int32) (v7 : Int32) (v8 : Int32) (v9 : Int64) : Int64 := fX0_quotient_161 v0 v1 v3 v6 v7 v8 (fX0_topOfQuotient (jshl (fX0_magnitude v0 v1) v7) v9)
def fX0_quotient_136 (v0 : Int32) (v1 : Int64) (v3 : Int64) (v6 : Int32) (v7 : Int32) (v8 : Int32) : Int64 := fX0_quotient_146 v0 v1 v3 v6 v7 v8 (jshl (fX0_magnitude v0 v3) v8)
def fX0_quotient_124 (v0 : Int32) (v1 : Int64) (v3 : Int64) (v6 : Int32) (v7 : Int32) : Int64 := fX0_quotient_136 v0 v1 v3 v6 v7 (fX0_roomBelow (52 : Int32) (fX0_magnitude v0 v3))
def fX0_quotient_67 (v0 : Int32) (v1 : Int64) (v3 : Int64) (s0 : Int32) : Int64 := (if (fX0_isInfinite v0 v1) = (0) then (if (fX0_isZero v0 v3) = (0) then (if (fX0_isInfinite v0 v3) = (0) then fX0_quotient_124 v0 v1 v3 s0 (fX0_roomBelow (52 : Int32) (fX0_magnitude v0 v1)) else (fX0_signed v0 s0 (0 : Int64))) else fX0_quotient_85 v0 s0) else fX0_quotient_85 v0 s0)
def fX0_quotient_49 (v0 : Int32) (v1 : Int64) (v3 : Int64) : Int64 := (if (fX0_isNegative v0 v1) = (fX0_isNegative v0 v3) then fX0_quotient_67 v0 v1 v3 (0 : Int32) else fX0_quotient_67 v0 v1 v3 (1 : Int32))
def fX0_quotient_21 (v0 : Int32) (v1 : Int64) (v3 : Int64) (s0 : Int32) : Int64 := (if s0 = (0) then (if (fX0_isZero v0 v1) = (0) then fX0_quotient_49 v0 v1 v3 else (if (fX0_isZero v0 v3) = (0) then fX0_quotient_49 v0 v1 v3 else fX0_quotient_44 v0)) else fX0_quotient_44 v0)
def fX0_quotient_20 (v0 : Int32) (v1 : Int64) (v3 : Int64) : Int64 := fX0_quotient_21 v0 v1 v3 (0 : Int32)
def fX0_quotient_0 (v0 : Int32) (v1 : Int64) (v3 : Int64) : Int64 := (if (fX0_isInfinite v0 v1) = (0) then fX0_quotient_20 v0 v1 v3 else (if (fX0_isInfinite v0 v3) = (0) then fX0_quotient_20 v0 v1 v3 else fX0_quotient_21 v0 v1 v3 (1 : Int32)))
def fX0_quotient (v0 : Int32) (v1 : Int64) (v3 : Int64) : Int64 := fX0_quotient_0 v0 v1 v3
def fX0_restAbove_16 : Nat → Int64 → Int64 → Int32 → Int64
  | 0, _, _, _ => 0
  | fuel + 1, v3, v5, v7 => (if (0) < v7 then fX0_restAbove_16 fuel v3 (jrem (jshl v5 (imin v7 (10 : Int32))) v3) (v7 + (-10 : Int32)) else v5)
def okX0_restAbove_16 : Nat → Int64 → Int64 → Int32 → Prop
  | 0, _, _, _ => False
  | fuel + 1, v3, v5, v7 => (((0) < v7 → ¬ v3 = 0 ∧ okX0_restAbove_16 fuel v3 (jrem (jshl v5 (imin v7 (10 : Int32))) v3) (v7 + (-10 : Int32))) ∧ (¬ (0) < v7 → True))
def fX0_restAbove_13 (v2 : Int32) (v3 : Int64) (v5 : Int64) : Int64 := fX0_restAbove_16 (v2.toNatClampNeg + 1) v3 v5 v2
def okX0_restAbove_13 (v2 : Int32) (v3 : Int64) (v5 : Int64) : Prop := okX0_restAbove_16 (v2.toNatClampNeg + 1) v3 v5 v2
def fX0_restAbove_0 (v0 : Int64) (v2 : Int32) (v3 : Int64) : Int64 := (if v3 = (0 : Int64) then (0 : Int64) else fX0_restAbove_13 v2 v3 (jrem v0 v3))
def okX0_restAbove_0 (v0 : Int64) (v2 : Int32) (v3 : Int64) : Prop := ((v3 = (0 : Int64) → True) ∧ (¬ v3 = (0 : Int64) → ¬ v3 = 0 ∧ okX0_restAbove_13 v2 v3 (jrem v0 v3)))
def fX0_restAbove (v0 : Int64) (v2 : Int32) (v3 : Int64) : Int64 := fX0_restAbove_0 v0 v2 v3
def okX0_restAbove (v0 : Int64) (v2 : Int32) (v3 : Int64) : Prop := okX0_restAbove_0 v0 v2 v3
def fX0_rest_16 (v0 : Int32) : Int64 := (fX0_notANumber v0)
def fX0_rest_107 (v0 : Int32) (v1 : Int64) (v7 : Int32) (v9 : Int64) : Int64 := (fX0_nearest v0 (fX0_isNegative v0 v1) v9 v7)
def fX0_rest_84 (v0 : Int32) (v1 : Int64) (v3 : Int64) (v5 : Int32) (v6 : Int32) (v7 : Int32) (v8 : Int32) : Int64 := fX0_rest_107 v0 v1 v7 (fX0_restAbove (jshl (fX0_magnitude v0 v1) v5) v8 (jshl (fX0_magnitude v0 v3) v6))
def fX0_rest_71 (v0 : Int32) (v1 : Int64) (v3 : Int64) (v5 : Int32) (v6 : Int32) (v7 : Int32) : Int64 := fX0_rest_84 v0 v1 v3 v5 v6 v7 (((fX0_exponent v0 v1) - v5) - v7)
def fX0_rest_61 (v0 : Int32) (v1 : Int64) (v3 : Int64) (v5 : Int32) (v6 : Int32) : Int64 := fX0_rest_71 v0 v1 v3 v5 v6 ((fX0_exponent v0 v3) - v6)
def fX0_rest_49 (v0 : Int32) (v1 : Int64) (v3 : Int64) (v5 : Int32) : Int64 := fX0_rest_61 v0 v1 v3 v5 (fX0_roomBelow (52 : Int32) (fX0_magnitude v0 v3))
def fX0_rest_0 (v0 : Int32) (v1 : Int64) (v3 : Int64) : Int64 := (if (fX0_isInfinite v0 v1) = (0) then (if (fX0_isZero v0 v3) = (0) then (if (fX0_size v0 v1) < (fX0_size v0 v3) then v1 else fX0_rest_49 v0 v1 v3 (fX0_roomBelow (52 : Int32) (fX0_magnitude v0 v1))) else fX0_rest_16 v0) else fX0_rest_16 v0)
def fX0_rest (v0 : Int32) (v1 : Int64) (v3 : Int64) : Int64 := fX0_rest_0 v0 v1 v3
def fX1_init_0 (fld : Int32) : Int32 := (0 : Int32)
def fX1_init  (fld : Int32) : Int32 := fX1_init_0 fld
def fX1_narrowed_0 (v0 : Int32) (v1 : Int64) : Int64 := (if v0 = (1 : Int32) then (jbyte (v1.toInt32)).toInt64 else (if v0 = (2 : Int32) then (jshort (v1.toInt32)).toInt64 else (if v0 = (3 : Int32) then (jchar (v1.toInt32)).toInt64 else (if v0 = (4 : Int32) then (v1.toInt32).toInt64 else v1))))
def fX1_narrowed (v0 : Int32) (v1 : Int64) : Int64 := fX1_narrowed_0 v0 v1
def fX1_isValue_66 (v0 : Int32) (v1 : Int64) : Int32 := (if (fX1_narrowed v0 v1) = v1 then (1 : Int32) else (0 : Int32))
def fX1_isValue_82 (v0 : Int32) (v1 : Int64) : Int32 := (fX0_isNumber v0 v1)
def fX1_isValue_0 (v0 : Int32) (v1 : Int64) : Int32 := (if v0 = (0 : Int32) then (if v1 = (0 : Int64) then (1 : Int32) else (if v1 = (1 : Int64) then (1 : Int32) else (0 : Int32))) else (if v0 = (1 : Int32) then fX1_isValue_66 v0 v1 else (if v0 = (2 : Int32) then fX1_isValue_66 v0 v1 else (if v0 = (3 : Int32) then fX1_isValue_66 v0 v1 else (if v0 = (4 : Int32) then fX1_isValue_66 v0 v1 else (if v0 = (5 : Int32) then fX1_isValue_66 v0 v1 else (if v0 = (6 : Int32) then fX1_isValue_82 v0 v1 else (if v0 = (7 : Int32) then fX1_isValue_82 v0 v1 else (0 : Int32)))))))))
def fX1_isValue (v0 : Int32) (v1 : Int64) : Int32 := fX1_isValue_0 v0 v1
def fX1_has_0 (v1 : Int32) (v2 : Int64) (fld : Int32) : Int32 × Int32 := ((fX1_isValue v1 v2), fld)
def fX1_has (v1 : Int32) (v2 : Int64) (fld : Int32) : Int32 × Int32 := fX1_has_0 v1 v2 fld
def fX1_isNumberKind_0 (v0 : Int32) : Int32 := (if v0 < (1 : Int32) then (0 : Int32) else (if (7 : Int32) < v0 then (0 : Int32) else (1 : Int32)))
def fX1_isNumberKind (v0 : Int32) : Int32 := fX1_isNumberKind_0 v0
def fX1_widens_0 (v1 : Int32) (v2 : Int32) (fld : Int32) : Int32 × Int32 := (if v1 = v2 then (if v1 < (0) then ((0 : Int32), fld) else (if (7 : Int32) < v1 then ((0 : Int32), fld) else ((1 : Int32), fld))) else (if (fX1_isNumberKind v1) = (0) then ((0 : Int32), fld) else (if (fX1_isNumberKind v2) = (0) then ((0 : Int32), fld) else (if v2 = (3 : Int32) then ((0 : Int32), fld) else (if v1 < v2 then ((1 : Int32), fld) else ((0 : Int32), fld))))))
def fX1_widens (v1 : Int32) (v2 : Int32) (fld : Int32) : Int32 × Int32 := fX1_widens_0 v1 v2 fld
def fX1_cutToInt_0 (v0 : Int64) : Int64 := (jmax (-2147483648 : Int64) (jmin (2147483647 : Int64) v0))
def fX1_cutToInt (v0 : Int64) : Int64 := fX1_cutToInt_0 v0
def fX1_converted_53 (v1 : Int32) (v4 : Int64) : Int64 := (if v1 = (5 : Int32) then v4 else (fX1_narrowed v1 (fX1_cutToInt v4)))
def fX1_converted_0 (v0 : Int32) (v1 : Int32) (v2 : Int64) : Int64 := (if v0 = v1 then v2 else (if v1 < (6 : Int32) then (if v0 < (6 : Int32) then (fX1_narrowed v1 v2) else fX1_converted_53 v1 (fX0_wholePart v0 v2)) else (if v0 < (6 : Int32) then (fX0_ofWhole v1 v2) else (fX0_ofReal v1 v0 v2))))
def fX1_converted (v0 : Int32) (v1 : Int32) (v2 : Int64) : Int64 := fX1_converted_0 v0 v1 v2
def fX1_fails_0 (v1 : Int32) (v2 : Int32) (fld : Int32) : Int32 × Int32 := (v2, v1)
def fX1_fails (v1 : Int32) (v2 : Int32) (fld : Int32) : Int32 × Int32 := fX1_fails_0 v1 v2 fld
def fX1_cast_39 (fld : Int32) : Int64 × Int32 := (((fX1_fails (1 : Int32) (0 : Int32) fld).1).toInt64, (fX1_fails (1 : Int32) (0 : Int32) fld).2)
def fX1_cast_24 (v1 : Int32) (v2 : Int32) (v3 : Int64) (s0 : Int32) (fld : Int32) : Int64 × Int32 := (if s0 = (0) then fX1_cast_39 fld else (if (fX1_isValue v1 v3) = (0) then fX1_cast_39 fld else ((fX1_converted v1 v2 v3), (0 : Int32))))
def fX1_cast_19 (v1 : Int32) (v2 : Int32) (v3 : Int64) (fld : Int32) : Int64 × Int32 := fX1_cast_24 v1 v2 v3 (1 : Int32) fld
def fX1_cast_23 (v1 : Int32) (v2 : Int32) (v3 : Int64) (fld : Int32) : Int64 × Int32 := fX1_cast_24 v1 v2 v3 (0 : Int32) fld
def fX1_cast_0 (v1 : Int32) (v2 : Int32) (v3 : Int64) (fld : Int32) : Int64 × Int32 := (if v1 = v2 then fX1_cast_19 v1 v2 v3 fld else (if (fX1_isNumberKind v1) = (0) then fX1_cast_23 v1 v2 v3 fld else (if (fX1_isNumberKind v2) = (0) then fX1_cast_23 v1 v2 v3 fld else fX1_cast_19 v1 v2 v3 fld)))
def fX1_cast (v1 : Int32) (v2 : Int32) (v3 : Int64) (fld : Int32) : Int64 × Int32 := fX1_cast_0 v1 v2 v3 fld
def fX1_areNumbers_0 (v0 : Int32) (v1 : Int64) (v3 : Int32) (v4 : Int64) : Int32 := (if (fX1_isNumberKind v0) = (0) then (0 : Int32) else (if (fX1_isNumberKind v3) = (0) then (0 : Int32) else (if (fX1_isValue v0 v1) = (0) then (0 : Int32) else (if (fX1_isValue v3 v4) = (0) then (0 : Int32) else (1 : Int32)))))
def fX1_areNumbers (v0 : Int32) (v1 : Int64) (v3 : Int32) (v4 : Int64) : Int32 := fX1_areNumbers_0 v0 v1 v3 v4
def fX1_workKind_0 (v0 : Int32) (v1 : Int32) : Int32 := (imax (4 : Int32) (imax v0 v1))
def fX1_workKind (v0 : Int32) (v1 : Int32) : Int32 := fX1_workKind_0 v0 v1
def fX1_workWhole_0 (v1 : Int32) (v2 : Int32) (v3 : Int64) (v5 : Int64) (fld : Int32) : Int64 × Int32 := (if v1 = (1 : Int32) then ((fX1_narrowed v2 (v3 + v5)), fld) else (if v1 = (2 : Int32) then ((fX1_narrowed v2 (v3 - v5)), fld) else (if v1 = (3 : Int32) then ((fX1_narrowed v2 (v3 * v5)), fld) else (if v1 = (4 : Int32) then (if v5 = (0 : Int64) then (((fX1_fails (8 : Int32) (0 : Int32) fld).1).toInt64, (fX1_fails (8 : Int32) (0 : Int32) fld).2) else ((fX1_narrowed v2 (v3 / v5)), fld)) else (if v5 = (0 : Int64) then (((fX1_fails (8 : Int32) (0 : Int32) fld).1).toInt64, (fX1_fails (8 : Int32) (0 : Int32) fld).2) else ((fX1_narrowed v2 (jrem v3 v5)), fld))))))
def fX1_workWhole (v1 : Int32) (v2 : Int32) (v3 : Int64) (v5 : Int64) (fld : Int32) : Int64 × Int32 := fX1_workWhole_0 v1 v2 v3 v5 fld
def fX1_workReal_93 (v2 : Int32) (v7 : Int64) (fld : Int32) : Int64 × Int32 := (if (fX0_isNumber v2 v7) = (0) then (((fX1_fails (8 : Int32) (0 : Int32) fld).1).toInt64, (fX1_fails (8 : Int32) (0 : Int32) fld).2) else (v7, fld))
def fX1_workReal_41 (v2 : Int32) (v7 : Int64) (fld : Int32) : Int64 × Int32 := fX1_workReal_93 v2 v7 fld
def fX1_workReal_57 (v2 : Int32) (v7 : Int64) (fld : Int32) : Int64 × Int32 := fX1_workReal_93 v2 v7 fld
def fX1_workReal_69 (v2 : Int32) (v7 : Int64) (fld : Int32) : Int64 × Int32 := fX1_workReal_93 v2 v7 fld
def fX1_workReal_81 (v2 : Int32) (v7 : Int64) (fld : Int32) : Int64 × Int32 := fX1_workReal_93 v2 v7 fld
def fX1_workReal_0 (v1 : Int32) (v2 : Int32) (v3 : Int64) (v5 : Int64) (fld : Int32) : Int64 × Int32 := (if v1 = (1 : Int32) then fX1_workReal_41 v2 (fX0_sum v2 v3 v5) fld else (if v1 = (2 : Int32) then fX1_workReal_57 v2 (fX0_sum v2 v3 (fX0_negated v2 v5)) fld else (if v1 = (3 : Int32) then fX1_workReal_69 v2 (fX0_product v2 v3 v5) fld else (if v1 = (4 : Int32) then fX1_workReal_81 v2 (fX0_quotient v2 v3 v5) fld else fX1_workReal_93 v2 (fX0_rest v2 v3 v5) fld))))
def fX1_workReal (v1 : Int32) (v2 : Int32) (v3 : Int64) (v5 : Int64) (fld : Int32) : Int64 × Int32 := fX1_workReal_0 v1 v2 v3 v5 fld
def fX1_work_22 (fld : Int32) : Int64 × Int32 := (((fX1_fails (1 : Int32) (0 : Int32) fld).1).toInt64, (fX1_fails (1 : Int32) (0 : Int32) fld).2)
def fX1_work_63 (v1 : Int32) (v8 : Int32) (v9 : Int64) (v11 : Int64) (fld : Int32) : Int64 × Int32 := (if v8 < (6 : Int32) then ((fX1_workWhole v1 v8 v9 v11 fld).1, (fX1_workWhole v1 v8 v9 v11 fld).2) else ((fX1_workReal v1 v8 v9 v11 fld).1, (fX1_workReal v1 v8 v9 v11 fld).2))
def fX1_work_52 (v1 : Int32) (v5 : Int32) (v6 : Int64) (v8 : Int32) (v9 : Int64) (fld : Int32) : Int64 × Int32 := fX1_work_63 v1 v8 v9 (fX1_converted v5 v8 v6) fld
def fX1_work_43 (v1 : Int32) (v2 : Int32) (v3 : Int64) (v5 : Int32) (v6 : Int64) (v8 : Int32) (fld : Int32) : Int64 × Int32 := fX1_work_52 v1 v5 v6 v8 (fX1_converted v2 v8 v3) fld
def fX1_work_0 (v1 : Int32) (v2 : Int32) (v3 : Int64) (v5 : Int32) (v6 : Int64) (fld : Int32) : Int64 × Int32 := (if v1 < (1 : Int32) then fX1_work_22 fld else (if (5 : Int32) < v1 then fX1_work_22 fld else (if (fX1_areNumbers v2 v3 v5 v6) = (0) then fX1_work_22 fld else fX1_work_43 v1 v2 v3 v5 v6 (fX1_workKind v2 v5) (0 : Int32))))
def fX1_work (v1 : Int32) (v2 : Int32) (v3 : Int64) (v5 : Int32) (v6 : Int64) (fld : Int32) : Int64 × Int32 := fX1_work_0 v1 v2 v3 v5 v6 fld
def fX1_shiftedLong_0 (v0 : Int32) (v1 : Int64) (v3 : Int32) : Int64 := (if v0 = (6 : Int32) then (jshl v1 v3) else (if v0 = (7 : Int32) then (jshr v1 v3) else (jushr v1 v3)))
def fX1_shiftedLong (v0 : Int32) (v1 : Int64) (v3 : Int32) : Int64 := fX1_shiftedLong_0 v0 v1 v3
def fX1_shiftedInt_0 (v0 : Int32) (v1 : Int32) (v2 : Int32) : Int64 := (if v0 = (6 : Int32) then (ishl v1 v2).toInt64 else (if v0 = (7 : Int32) then (ishr v1 v2).toInt64 else (iushr v1 v2).toInt64))
def fX1_shiftedInt (v0 : Int32) (v1 : Int32) (v2 : Int32) : Int64 := fX1_shiftedInt_0 v0 v1 v2
def fX1_shift_42 (fld : Int32) : Int64 × Int32 := (((fX1_fails (1 : Int32) (0 : Int32) fld).1).toInt64, (fX1_fails (1 : Int32) (0 : Int32) fld).2)
def fX1_shift_17 (v1 : Int32) (v2 : Int32) (v3 : Int64) (v5 : Int64) (s0 : Int32) (fld : Int32) : Int64 × Int32 := (if s0 = (0) then fX1_shift_42 fld else (if v2 < (1 : Int32) then fX1_shift_42 fld else (if (5 : Int32) < v2 then fX1_shift_42 fld else (if (fX1_isValue v2 v3) = (0) then fX1_shift_42 fld else (if v2 = (5 : Int32) then ((fX1_shiftedLong v1 v3 ((v5 &&& (63 : Int64)).toInt32)), (0 : Int32)) else ((fX1_shiftedInt v1 (v3.toInt32) ((v5 &&& (31 : Int64)).toInt32)), (0 : Int32)))))))
def fX1_shift_16 (v1 : Int32) (v2 : Int32) (v3 : Int64) (v5 : Int64) (fld : Int32) : Int64 × Int32 := fX1_shift_17 v1 v2 v3 v5 (0 : Int32) fld
def fX1_shift_0 (v1 : Int32) (v2 : Int32) (v3 : Int64) (v5 : Int64) (fld : Int32) : Int64 × Int32 := (if v1 < (6 : Int32) then fX1_shift_16 v1 v2 v3 v5 fld else (if (8 : Int32) < v1 then fX1_shift_16 v1 v2 v3 v5 fld else fX1_shift_17 v1 v2 v3 v5 (1 : Int32) fld))
def fX1_shift (v1 : Int32) (v2 : Int32) (v3 : Int64) (v5 : Int64) (fld : Int32) : Int64 × Int32 := fX1_shift_0 v1 v2 v3 v5 fld
def fX1_sideOf_0 (v0 : Int64) (v2 : Int64) : Int32 := (if v0 = v2 then (0 : Int32) else (if v0 < v2 then (-1 : Int32) else (1 : Int32)))
def fX1_sideOf (v0 : Int64) (v2 : Int64) : Int32 := fX1_sideOf_0 v0 v2
def fX1_compare_52 (v7 : Int32) (v8 : Int64) (v10 : Int64) (fld : Int32) : Int32 × Int32 := (if v7 < (6 : Int32) then ((fX1_sideOf v8 v10), fld) else ((fX1_sideOf (fX0_place v7 v8) (fX0_place v7 v10)), fld))
def fX1_compare_41 (v4 : Int32) (v5 : Int64) (v7 : Int32) (v8 : Int64) (fld : Int32) : Int32 × Int32 := fX1_compare_52 v7 v8 (fX1_converted v4 v7 v5) fld
def fX1_compare_32 (v1 : Int32) (v2 : Int64) (v4 : Int32) (v5 : Int64) (v7 : Int32) (fld : Int32) : Int32 × Int32 := fX1_compare_41 v4 v5 v7 (fX1_converted v1 v7 v2) fld
def fX1_compare_0 (v1 : Int32) (v2 : Int64) (v4 : Int32) (v5 : Int64) (fld : Int32) : Int32 × Int32 := (if (fX1_areNumbers v1 v2 v4 v5) = (0) then ((fX1_fails (1 : Int32) (2 : Int32) fld).1, (fX1_fails (1 : Int32) (2 : Int32) fld).2) else fX1_compare_32 v1 v2 v4 v5 (fX1_workKind v1 v4) (0 : Int32))
def fX1_compare (v1 : Int32) (v2 : Int64) (v4 : Int32) (v5 : Int64) (fld : Int32) : Int32 × Int32 := fX1_compare_0 v1 v2 v4 v5 fld
def fX1_order_17 (fld : Int32) : Int32 × Int32 := ((fX1_fails (1 : Int32) (2 : Int32) fld).1, (fX1_fails (1 : Int32) (2 : Int32) fld).2)
def fX1_order_0 (v1 : Int32) (v2 : Int64) (v4 : Int64) (fld : Int32) : Int32 × Int32 := (if (fX1_isValue v1 v2) = (0) then fX1_order_17 fld else (if (fX1_isValue v1 v4) = (0) then fX1_order_17 fld else (if v1 < (6 : Int32) then ((fX1_sideOf v2 v4), (0 : Int32)) else ((fX1_sideOf (fX0_placeWithZerosApart v1 v2) (fX0_placeWithZerosApart v1 v4)), (0 : Int32)))))
def fX1_order (v1 : Int32) (v2 : Int64) (v4 : Int64) (fld : Int32) : Int32 × Int32 := fX1_order_0 v1 v2 v4 fld
def fX1_failed_0 (fld : Int32) : Int32 × Int32 := (fld, fld)
def fX1_failed  (fld : Int32) : Int32 × Int32 := fX1_failed_0 fld
def fX2_isNone_0 (v0 : Int64) : Int32 := (if (9218868437227405312 : Int64) < (v0 &&& (9223372036854775807 : Int64)) then (1 : Int32) else (0 : Int32))
def fX2_isNone (v0 : Int64) : Int32 := fX2_isNone_0 v0
def fX2_isInfinite_0 (v0 : Int64) : Int32 := (if (v0 &&& (9223372036854775807 : Int64)) = (9218868437227405312 : Int64) then (1 : Int32) else (0 : Int32))
def fX2_isInfinite (v0 : Int64) : Int32 := fX2_isInfinite_0 v0
def fX2_isZero_0 (v0 : Int64) : Int32 := (if (v0 &&& (9223372036854775807 : Int64)) = (0 : Int64) then (1 : Int32) else (0 : Int32))
def fX2_isZero (v0 : Int64) : Int32 := fX2_isZero_0 v0
def fX2_negative_0 (v0 : Int64) : Int64 := (v0 ^^^ (-9223372036854775808 : Int64))
def fX2_negative (v0 : Int64) : Int64 := fX2_negative_0 v0
def fX2_exponent_31 : Nat → Int32 → Int64 → Int32
  | 0, _, _ => 0
  | fuel + 1, v3, v4 => (if v4 < (4503599627370496 : Int64) then fX2_exponent_31 fuel (v3 + (-1 : Int32)) (jshl v4 (1 : Int32)) else v3)
def okX2_exponent_31 : Nat → Int32 → Int64 → Prop
  | 0, _, _ => False
  | fuel + 1, v3, v4 => ((v4 < (4503599627370496 : Int64) → okX2_exponent_31 fuel (v3 + (-1 : Int32)) (jshl v4 (1 : Int32))) ∧ (¬ v4 < (4503599627370496 : Int64) → True))
def fX2_exponent_10 (v0 : Int64) (v2 : Int32) : Int32 := (if (0) < v2 then (v2 - (1075 : Int32)) else fX2_exponent_31 64 (-1074 : Int32) (v0 &&& (4503599627370495 : Int64)))
def okX2_exponent_10 (v0 : Int64) (v2 : Int32) : Prop := (((0) < v2 → True) ∧ (¬ (0) < v2 → okX2_exponent_31 64 (-1074 : Int32) (v0 &&& (4503599627370495 : Int64))))
def fX2_exponent_0 (v0 : Int64) : Int32 := fX2_exponent_10 v0 (((jshr v0 (52 : Int32)) &&& (2047 : Int64)).toInt32)
def okX2_exponent_0 (v0 : Int64) : Prop := okX2_exponent_10 v0 (((jshr v0 (52 : Int32)) &&& (2047 : Int64)).toInt32)
def fX2_exponent (v0 : Int64) : Int32 := fX2_exponent_0 v0
def okX2_exponent (v0 : Int64) : Prop := okX2_exponent_0 v0
def fX2_significand_25 : Nat → Int64 → Int64
  | 0, _ => 0
  | fuel + 1, v2 => (if v2 < (4503599627370496 : Int64) then fX2_significand_25 fuel (jshl v2 (1 : Int32)) else v2)
def okX2_significand_25 : Nat → Int64 → Prop
  | 0, _ => False
  | fuel + 1, v2 => ((v2 < (4503599627370496 : Int64) → okX2_significand_25 fuel (jshl v2 (1 : Int32))) ∧ (¬ v2 < (4503599627370496 : Int64) → True))
def fX2_significand_6 (v0 : Int64) (v2 : Int64) : Int64 := (if (0 : Int64) < ((jshr v0 (52 : Int32)) &&& (2047 : Int64)) then (v2 ||| (4503599627370496 : Int64)) else fX2_significand_25 64 v2)
def okX2_significand_6 (v0 : Int64) (v2 : Int64) : Prop := (((0 : Int64) < ((jshr v0 (52 : Int32)) &&& (2047 : Int64)) → True) ∧ (¬ (0 : Int64) < ((jshr v0 (52 : Int32)) &&& (2047 : Int64)) → okX2_significand_25 64 v2))
def fX2_significand_0 (v0 : Int64) : Int64 := fX2_significand_6 v0 (v0 &&& (4503599627370495 : Int64))
def okX2_significand_0 (v0 : Int64) : Prop := okX2_significand_6 v0 (v0 &&& (4503599627370495 : Int64))
def fX2_significand (v0 : Int64) : Int64 := fX2_significand_0 v0
def okX2_significand (v0 : Int64) : Prop := okX2_significand_0 v0
def fX2_rounded_152 (v4 : Int32) (v9 : Int32) (v12 : Int64) : Int64 := (if (0) < v9 then ((jshl ((v9 - (1 : Int32)).toInt64) (v4 - (1 : Int32))) + v12) else v12)
def fX2_rounded_146 (v4 : Int32) (v9 : Int32) (v12 : Int64) : Int64 := fX2_rounded_152 v4 v9 (v12 + (1 : Int64))
def fX2_rounded_117 (v3 : Int32) (v4 : Int32) (v9 : Int32) (v12 : Int64) (v14 : Int64) (v16 : Int64) : Int64 := (if v16 < v14 then fX2_rounded_146 v4 v9 v12 else (if v14 = v16 then (if v3 = (0) then (if (v12 &&& (1 : Int64)) = (1 : Int64) then fX2_rounded_146 v4 v9 v12 else fX2_rounded_152 v4 v9 v12) else fX2_rounded_146 v4 v9 v12) else fX2_rounded_152 v4 v9 v12))
def fX2_rounded_109 (v3 : Int32) (v4 : Int32) (v9 : Int32) (v11 : Int32) (v12 : Int64) (v14 : Int64) : Int64 := fX2_rounded_117 v3 v4 v9 v12 v14 (jshl (1 : Int64) (v11 - (1 : Int32)))
def fX2_rounded_98 (v3 : Int32) (v4 : Int32) (v6 : Int64) (v9 : Int32) (v11 : Int32) (v12 : Int64) : Int64 := fX2_rounded_109 v3 v4 v9 v11 v12 (v6 &&& ((jshl (1 : Int64) v11) - (1 : Int64)))
def fX2_rounded_82 (v3 : Int32) (v4 : Int32) (v6 : Int64) (v9 : Int32) (v11 : Int32) : Int64 := (if (62 : Int32) < v11 then (0 : Int64) else fX2_rounded_98 v3 v4 v6 v9 v11 (jushr v6 v11))
def fX2_rounded_68 (v3 : Int32) (v4 : Int32) (v6 : Int64) (v9 : Int32) (v11 : Int32) : Int64 := (if (0) < v9 then fX2_rounded_82 v3 v4 v6 v9 v11 else fX2_rounded_82 v3 v4 v6 v9 ((v11 + (1 : Int32)) - v9))
def fX2_rounded_45 (v3 : Int32) (v4 : Int32) (v6 : Int64) (v9 : Int32) (v10 : Int32) : Int64 := (if v9 < v10 then fX2_rounded_68 v3 v4 v6 v9 ((62 : Int32) - v4) else (jshl (v10.toInt64) (v4 - (1 : Int32))))
def fX2_rounded_37 (v3 : Int32) (v4 : Int32) (v5 : Int32) (v6 : Int64) (v9 : Int32) : Int64 := fX2_rounded_45 v3 v4 v6 v9 (((2 : Int32) * v5) + (1 : Int32))
def fX2_rounded_27 (v3 : Int32) (v4 : Int32) (v5 : Int32) (v6 : Int64) (v8 : Int32) : Int64 := fX2_rounded_37 v3 v4 v5 v6 ((v8 + (61 : Int32)) + v5)
def fX2_rounded_6 : Nat → Int32 → Int32 → Int32 → Int64 → Int32 → Int64
  | 0, _, _, _, _, _ => 0
  | fuel + 1, v3, v4, v5, v6, v8 => (if v6 < (2305843009213693952 : Int64) then fX2_rounded_6 fuel v3 v4 v5 (jshl v6 (1 : Int32)) (v8 + (-1 : Int32)) else fX2_rounded_27 v3 v4 v5 v6 v8)
def okX2_rounded_6 : Nat → Int32 → Int32 → Int32 → Int64 → Int32 → Prop
  | 0, _, _, _, _, _ => False
  | fuel + 1, v3, v4, v5, v6, v8 => ((v6 < (2305843009213693952 : Int64) → okX2_rounded_6 fuel v3 v4 v5 (jshl v6 (1 : Int32)) (v8 + (-1 : Int32))) ∧ (¬ v6 < (2305843009213693952 : Int64) → True))
def fX2_rounded_0 (v0 : Int64) (v2 : Int32) (v3 : Int32) (v4 : Int32) (v5 : Int32) : Int64 := fX2_rounded_6 64 v3 v4 v5 v0 v2
def okX2_rounded_0 (v0 : Int64) (v2 : Int32) (v3 : Int32) (v4 : Int32) (v5 : Int32) : Prop := okX2_rounded_6 64 v3 v4 v5 v0 v2
def fX2_rounded (v0 : Int64) (v2 : Int32) (v3 : Int32) (v4 : Int32) (v5 : Int32) : Int64 := fX2_rounded_0 v0 v2 v3 v4 v5
def okX2_rounded (v0 : Int64) (v2 : Int32) (v3 : Int32) (v4 : Int32) (v5 : Int32) : Prop := okX2_rounded_0 v0 v2 v3 v4 v5
def fX2_made_14 (v0 : Int32) (v5 : Int64) : Int64 := (if v0 = (0) then v5 else (v5 ||| (-9223372036854775808 : Int64)))
def fX2_made_0 (v0 : Int32) (v1 : Int64) (v3 : Int32) (v4 : Int32) : Int64 := fX2_made_14 v0 (fX2_rounded v1 v3 v4 (53 : Int32) (1023 : Int32))
def okX2_made_0 (v0 : Int32) (v1 : Int64) (v3 : Int32) (v4 : Int32) : Prop := (okX2_rounded v1 v3 v4 (53 : Int32) (1023 : Int32)) ∧ True
def fX2_made (v0 : Int32) (v1 : Int64) (v3 : Int32) (v4 : Int32) : Int64 := fX2_made_0 v0 v1 v3 v4
def okX2_made (v0 : Int32) (v1 : Int64) (v3 : Int32) (v4 : Int32) : Prop := okX2_made_0 v0 v1 v3 v4
def fX2_add_14 (v0 : Int64) (v2 : Int64) : Int64 := (if (fX2_isZero v0) = (0) then v0 else (if (fX2_isZero v2) = (0) then v0 else (v0 &&& v2)))
def fX2_add_242 (v9 : Int32) (v11 : Int64) (v15 : Int64) (v17 : Int32) (s0 : Int32) : Int64 := (fX2_made s0 (v11 + v15) v9 v17)
def okX2_add_242 (v9 : Int32) (v11 : Int64) (v15 : Int64) (v17 : Int32) (s0 : Int32) : Prop := (okX2_made s0 (v11 + v15) v9 v17) ∧ True
def fX2_add_302 (v9 : Int32) (v17 : Int32) (v18 : Int64) (s0 : Int32) : Int64 := (fX2_made s0 v18 v9 v17)
def okX2_add_302 (v9 : Int32) (v17 : Int32) (v18 : Int64) (s0 : Int32) : Prop := (okX2_made s0 v18 v9 v17) ∧ True
def fX2_add_290 (v5 : Int64) (v9 : Int32) (v17 : Int32) (v18 : Int64) : Int64 := (if v5 < (0 : Int64) then fX2_add_302 v9 v17 v18 (1 : Int32) else fX2_add_302 v9 v17 v18 (0 : Int32))
def okX2_add_290 (v5 : Int64) (v9 : Int32) (v17 : Int32) (v18 : Int64) : Prop := ((v5 < (0 : Int64) → okX2_add_302 v9 v17 v18 (1 : Int32)) ∧ (¬ v5 < (0 : Int64) → okX2_add_302 v9 v17 v18 (0 : Int32)))
def fX2_add_274 (v5 : Int64) (v9 : Int32) (v17 : Int32) (v18 : Int64) : Int64 := (if v18 = (0 : Int64) then (if v17 = (0) then (0 : Int64) else fX2_add_290 v5 v9 v17 v18) else fX2_add_290 v5 v9 v17 v18)
def okX2_add_274 (v5 : Int64) (v9 : Int32) (v17 : Int32) (v18 : Int64) : Prop := ((v18 = (0 : Int64) → ((v17 = (0) → True) ∧ (¬ v17 = (0) → okX2_add_290 v5 v9 v17 v18))) ∧ (¬ v18 = (0 : Int64) → okX2_add_290 v5 v9 v17 v18))
def fX2_add_270 (v5 : Int64) (v9 : Int32) (v17 : Int32) (s0 : Int64) (s1 : Int32) : Int64 := fX2_add_274 v5 v9 v17 (s0 - (s1.toInt64))
def okX2_add_270 (v5 : Int64) (v9 : Int32) (v17 : Int32) (s0 : Int64) (s1 : Int32) : Prop := okX2_add_274 v5 v9 v17 (s0 - (s1.toInt64))
def fX2_add_227 (v5 : Int64) (v9 : Int32) (v11 : Int64) (v15 : Int64) (v17 : Int32) (s0 : Int32) (s1 : Int32) : Int64 := (if s0 = s1 then (if v5 < (0 : Int64) then fX2_add_242 v9 v11 v15 v17 (1 : Int32) else fX2_add_242 v9 v11 v15 v17 (0 : Int32)) else (if v17 = (0) then fX2_add_270 v5 v9 v17 (v11 - v15) (0 : Int32) else fX2_add_270 v5 v9 v17 (v11 - v15) (1 : Int32)))
def okX2_add_227 (v5 : Int64) (v9 : Int32) (v11 : Int64) (v15 : Int64) (v17 : Int32) (s0 : Int32) (s1 : Int32) : Prop := ((s0 = s1 → ((v5 < (0 : Int64) → okX2_add_242 v9 v11 v15 v17 (1 : Int32)) ∧ (¬ v5 < (0 : Int64) → okX2_add_242 v9 v11 v15 v17 (0 : Int32)))) ∧ (¬ s0 = s1 → ((v17 = (0) → okX2_add_270 v5 v9 v17 (v11 - v15) (0 : Int32)) ∧ (¬ v17 = (0) → okX2_add_270 v5 v9 v17 (v11 - v15) (1 : Int32)))))
def fX2_add_215 (v5 : Int64) (v7 : Int64) (v9 : Int32) (v11 : Int64) (v15 : Int64) (v17 : Int32) (s0 : Int32) : Int64 := (if v7 < (0 : Int64) then fX2_add_227 v5 v9 v11 v15 v17 s0 (1 : Int32) else fX2_add_227 v5 v9 v11 v15 v17 s0 (0 : Int32))
def okX2_add_215 (v5 : Int64) (v7 : Int64) (v9 : Int32) (v11 : Int64) (v15 : Int64) (v17 : Int32) (s0 : Int32) : Prop := ((v7 < (0 : Int64) → okX2_add_227 v5 v9 v11 v15 v17 s0 (1 : Int32)) ∧ (¬ v7 < (0 : Int64) → okX2_add_227 v5 v9 v11 v15 v17 s0 (0 : Int32)))
def fX2_add_201 (v5 : Int64) (v7 : Int64) (v9 : Int32) (v11 : Int64) (v15 : Int64) (s0 : Int32) : Int64 := (if v5 < (0 : Int64) then fX2_add_215 v5 v7 v9 v11 v15 s0 (1 : Int32) else fX2_add_215 v5 v7 v9 v11 v15 s0 (0 : Int32))
def okX2_add_201 (v5 : Int64) (v7 : Int64) (v9 : Int32) (v11 : Int64) (v15 : Int64) (s0 : Int32) : Prop := ((v5 < (0 : Int64) → okX2_add_215 v5 v7 v9 v11 v15 s0 (1 : Int32)) ∧ (¬ v5 < (0 : Int64) → okX2_add_215 v5 v7 v9 v11 v15 s0 (0 : Int32)))
def fX2_add_196 (v5 : Int64) (v7 : Int64) (v9 : Int32) (v11 : Int64) (v15 : Int64) : Int64 := fX2_add_201 v5 v7 v9 v11 v15 (1 : Int32)
def okX2_add_196 (v5 : Int64) (v7 : Int64) (v9 : Int32) (v11 : Int64) (v15 : Int64) : Prop := okX2_add_201 v5 v7 v9 v11 v15 (1 : Int32)
def fX2_add_176 (v5 : Int64) (v7 : Int64) (v9 : Int32) (v10 : Int32) (v11 : Int64) (v13 : Int64) (s0 : Int64) : Int64 := (if (62 : Int32) < v10 then fX2_add_196 v5 v7 v9 v11 s0 else (if (jshl s0 v10) = v13 then fX2_add_201 v5 v7 v9 v11 s0 (0 : Int32) else fX2_add_196 v5 v7 v9 v11 s0))
def okX2_add_176 (v5 : Int64) (v7 : Int64) (v9 : Int32) (v10 : Int32) (v11 : Int64) (v13 : Int64) (s0 : Int64) : Prop := (((62 : Int32) < v10 → okX2_add_196 v5 v7 v9 v11 s0) ∧ (¬ (62 : Int32) < v10 → (((jshl s0 v10) = v13 → okX2_add_201 v5 v7 v9 v11 s0 (0 : Int32)) ∧ (¬ (jshl s0 v10) = v13 → okX2_add_196 v5 v7 v9 v11 s0))))
def fX2_add_160 (v5 : Int64) (v7 : Int64) (v9 : Int32) (v10 : Int32) (v11 : Int64) (v13 : Int64) : Int64 := (if (62 : Int32) < v10 then fX2_add_176 v5 v7 v9 v10 v11 v13 (0 : Int64) else fX2_add_176 v5 v7 v9 v10 v11 v13 (jushr v13 v10))
def okX2_add_160 (v5 : Int64) (v7 : Int64) (v9 : Int32) (v10 : Int32) (v11 : Int64) (v13 : Int64) : Prop := (((62 : Int32) < v10 → okX2_add_176 v5 v7 v9 v10 v11 v13 (0 : Int64)) ∧ (¬ (62 : Int32) < v10 → okX2_add_176 v5 v7 v9 v10 v11 v13 (jushr v13 v10)))
def fX2_add_150 (v5 : Int64) (v7 : Int64) (v9 : Int32) (v10 : Int32) (v11 : Int64) : Int64 := fX2_add_160 v5 v7 v9 v10 v11 (jshl (fX2_significand v7) (8 : Int32))
def okX2_add_150 (v5 : Int64) (v7 : Int64) (v9 : Int32) (v10 : Int32) (v11 : Int64) : Prop := (okX2_significand v7) ∧ okX2_add_160 v5 v7 v9 v10 v11 (jshl (fX2_significand v7) (8 : Int32))
def fX2_add_140 (v5 : Int64) (v7 : Int64) (v9 : Int32) (v10 : Int32) : Int64 := fX2_add_150 v5 v7 v9 v10 (jshl (fX2_significand v5) (8 : Int32))
def okX2_add_140 (v5 : Int64) (v7 : Int64) (v9 : Int32) (v10 : Int32) : Prop := (okX2_significand v5) ∧ okX2_add_150 v5 v7 v9 v10 (jshl (fX2_significand v5) (8 : Int32))
def fX2_add_127 (v5 : Int64) (v7 : Int64) (v9 : Int32) : Int64 := fX2_add_140 v5 v7 v9 ((fX2_exponent v5) - (fX2_exponent v7))
def okX2_add_127 (v5 : Int64) (v7 : Int64) (v9 : Int32) : Prop := (okX2_exponent v5) ∧ (okX2_exponent v7) ∧ okX2_add_140 v5 v7 v9 ((fX2_exponent v5) - (fX2_exponent v7))
def fX2_add_115 (v5 : Int64) (s0 : Int64) : Int64 := fX2_add_127 v5 s0 ((fX2_exponent v5) - (8 : Int32))
def okX2_add_115 (v5 : Int64) (s0 : Int64) : Prop := (okX2_exponent v5) ∧ okX2_add_127 v5 s0 ((fX2_exponent v5) - (8 : Int32))
def fX2_add_103 (v0 : Int64) (v2 : Int64) (v4 : Int32) (s0 : Int64) : Int64 := (if v4 = (0) then fX2_add_115 s0 v0 else fX2_add_115 s0 v2)
def okX2_add_103 (v0 : Int64) (v2 : Int64) (v4 : Int32) (s0 : Int64) : Prop := ((v4 = (0) → okX2_add_115 s0 v0) ∧ (¬ v4 = (0) → okX2_add_115 s0 v2))
def fX2_add_91 (v0 : Int64) (v2 : Int64) (s0 : Int32) : Int64 := (if s0 = (0) then fX2_add_103 v0 v2 s0 v2 else fX2_add_103 v0 v2 s0 v0)
def okX2_add_91 (v0 : Int64) (v2 : Int64) (s0 : Int32) : Prop := ((s0 = (0) → okX2_add_103 v0 v2 s0 v2) ∧ (¬ s0 = (0) → okX2_add_103 v0 v2 s0 v0))
def fX2_add_86 (v0 : Int64) (v2 : Int64) : Int64 := fX2_add_91 v0 v2 (1 : Int32)
def okX2_add_86 (v0 : Int64) (v2 : Int64) : Prop := okX2_add_91 v0 v2 (1 : Int32)
def fX2_add_90 (v0 : Int64) (v2 : Int64) : Int64 := fX2_add_91 v0 v2 (0 : Int32)
def okX2_add_90 (v0 : Int64) (v2 : Int64) : Prop := okX2_add_91 v0 v2 (0 : Int32)
def fX2_add_0 (v0 : Int64) (v2 : Int64) : Int64 := (if (fX2_isInfinite v0) = (0) then (if (fX2_isZero v2) = (0) then (if (fX2_isInfinite v2) = (0) then (if (fX2_isZero v0) = (0) then (if (fX2_exponent v2) < (fX2_exponent v0) then fX2_add_86 v0 v2 else (if (fX2_exponent v0) = (fX2_exponent v2) then (if (fX2_significand v0) < (fX2_significand v2) then fX2_add_90 v0 v2 else fX2_add_86 v0 v2) else fX2_add_90 v0 v2)) else v2) else v2) else fX2_add_14 v0 v2) else fX2_add_14 v0 v2)
def okX2_add_0 (v0 : Int64) (v2 : Int64) : Prop := (((fX2_isInfinite v0) = (0) → (((fX2_isZero v2) = (0) → (((fX2_isInfinite v2) = (0) → (((fX2_isZero v0) = (0) → (okX2_exponent v0) ∧ (okX2_exponent v2) ∧ (((fX2_exponent v2) < (fX2_exponent v0) → okX2_add_86 v0 v2) ∧ (¬ (fX2_exponent v2) < (fX2_exponent v0) → (okX2_exponent v0) ∧ (okX2_exponent v2) ∧ (((fX2_exponent v0) = (fX2_exponent v2) → (okX2_significand v0) ∧ (okX2_significand v2) ∧ (((fX2_significand v0) < (fX2_significand v2) → okX2_add_90 v0 v2) ∧ (¬ (fX2_significand v0) < (fX2_significand v2) → okX2_add_86 v0 v2))) ∧ (¬ (fX2_exponent v0) = (fX2_exponent v2) → okX2_add_90 v0 v2))))) ∧ (¬ (fX2_isZero v0) = (0) → True))) ∧ (¬ (fX2_isInfinite v2) = (0) → True))) ∧ (¬ (fX2_isZero v2) = (0) → True))) ∧ (¬ (fX2_isInfinite v0) = (0) → True))
def fX2_add (v0 : Int64) (v2 : Int64) : Int64 := fX2_add_0 v0 v2
def okX2_add (v0 : Int64) (v2 : Int64) : Prop := okX2_add_0 v0 v2
def fX2_multiply_174 (v0 : Int64) (v2 : Int64) (v16 : Int64) (v18 : Int64) (v20 : Int32) (s0 : Int32) : Int64 := (fX2_made s0 ((jshl v16 (8 : Int32)) ||| (jushr v18 (19 : Int32))) (((fX2_exponent v0) + (fX2_exponent v2)) + (46 : Int32)) v20)
def okX2_multiply_174 (v0 : Int64) (v2 : Int64) (v16 : Int64) (v18 : Int64) (v20 : Int32) (s0 : Int32) : Prop := (okX2_exponent v0) ∧ (okX2_exponent v2) ∧ (okX2_made s0 ((jshl v16 (8 : Int32)) ||| (jushr v18 (19 : Int32))) (((fX2_exponent v0) + (fX2_exponent v2)) + (46 : Int32)) v20) ∧ True
def fX2_multiply_160 (v0 : Int64) (v2 : Int64) (v4 : Int64) (v16 : Int64) (v18 : Int64) (s0 : Int32) : Int64 := (if v4 = (0 : Int64) then fX2_multiply_174 v0 v2 v16 v18 s0 (0 : Int32) else fX2_multiply_174 v0 v2 v16 v18 s0 (1 : Int32))
def okX2_multiply_160 (v0 : Int64) (v2 : Int64) (v4 : Int64) (v16 : Int64) (v18 : Int64) (s0 : Int32) : Prop := ((v4 = (0 : Int64) → okX2_multiply_174 v0 v2 v16 v18 s0 (0 : Int32)) ∧ (¬ v4 = (0 : Int64) → okX2_multiply_174 v0 v2 v16 v18 s0 (1 : Int32)))
def fX2_multiply_155 (v0 : Int64) (v2 : Int64) (v4 : Int64) (v16 : Int64) (v18 : Int64) : Int64 := fX2_multiply_160 v0 v2 v4 v16 v18 (1 : Int32)
def okX2_multiply_155 (v0 : Int64) (v2 : Int64) (v4 : Int64) (v16 : Int64) (v18 : Int64) : Prop := okX2_multiply_160 v0 v2 v4 v16 v18 (1 : Int32)
def fX2_multiply_134 (v0 : Int64) (v2 : Int64) (v4 : Int64) (v10 : Int64) (v12 : Int64) (v16 : Int64) (v18 : Int64) : Int64 := (if (v12 &&& v10) = (0 : Int64) then (if (v18 &&& (524287 : Int64)) = (0 : Int64) then fX2_multiply_160 v0 v2 v4 v16 v18 (0 : Int32) else fX2_multiply_155 v0 v2 v4 v16 v18) else fX2_multiply_155 v0 v2 v4 v16 v18)
def okX2_multiply_134 (v0 : Int64) (v2 : Int64) (v4 : Int64) (v10 : Int64) (v12 : Int64) (v16 : Int64) (v18 : Int64) : Prop := (((v12 &&& v10) = (0 : Int64) → (((v18 &&& (524287 : Int64)) = (0 : Int64) → okX2_multiply_160 v0 v2 v4 v16 v18 (0 : Int32)) ∧ (¬ (v18 &&& (524287 : Int64)) = (0 : Int64) → okX2_multiply_155 v0 v2 v4 v16 v18))) ∧ (¬ (v12 &&& v10) = (0 : Int64) → okX2_multiply_155 v0 v2 v4 v16 v18))
def fX2_multiply_127 (v0 : Int64) (v2 : Int64) (v4 : Int64) (v10 : Int64) (v12 : Int64) (v14 : Int64) (v16 : Int64) : Int64 := fX2_multiply_134 v0 v2 v4 v10 v12 v16 (v14 &&& v10)
def okX2_multiply_127 (v0 : Int64) (v2 : Int64) (v4 : Int64) (v10 : Int64) (v12 : Int64) (v14 : Int64) (v16 : Int64) : Prop := okX2_multiply_134 v0 v2 v4 v10 v12 v16 (v14 &&& v10)
def fX2_multiply_108 (v0 : Int64) (v2 : Int64) (v4 : Int64) (v6 : Int64) (v8 : Int64) (v10 : Int64) (v12 : Int64) (v14 : Int64) : Int64 := fX2_multiply_127 v0 v2 v4 v10 v12 v14 (((jushr v6 (27 : Int32)) * (jushr v8 (27 : Int32))) + (jushr v14 (27 : Int32)))
def okX2_multiply_108 (v0 : Int64) (v2 : Int64) (v4 : Int64) (v6 : Int64) (v8 : Int64) (v10 : Int64) (v12 : Int64) (v14 : Int64) : Prop := okX2_multiply_127 v0 v2 v4 v10 v12 v14 (((jushr v6 (27 : Int32)) * (jushr v8 (27 : Int32))) + (jushr v14 (27 : Int32)))
def fX2_multiply_77 (v0 : Int64) (v2 : Int64) (v4 : Int64) (v6 : Int64) (v8 : Int64) (v10 : Int64) (v12 : Int64) : Int64 := fX2_multiply_108 v0 v2 v4 v6 v8 v10 v12 ((((jushr v6 (27 : Int32)) * (v8 &&& v10)) + ((v6 &&& v10) * (jushr v8 (27 : Int32)))) + (jushr v12 (27 : Int32)))
def okX2_multiply_77 (v0 : Int64) (v2 : Int64) (v4 : Int64) (v6 : Int64) (v8 : Int64) (v10 : Int64) (v12 : Int64) : Prop := okX2_multiply_108 v0 v2 v4 v6 v8 v10 v12 ((((jushr v6 (27 : Int32)) * (v8 &&& v10)) + ((v6 &&& v10) * (jushr v8 (27 : Int32)))) + (jushr v12 (27 : Int32)))
def fX2_multiply_59 (v0 : Int64) (v2 : Int64) (v4 : Int64) (v6 : Int64) (v8 : Int64) : Int64 := fX2_multiply_77 v0 v2 v4 v6 v8 (134217727 : Int64) ((v6 &&& (134217727 : Int64)) * (v8 &&& (134217727 : Int64)))
def okX2_multiply_59 (v0 : Int64) (v2 : Int64) (v4 : Int64) (v6 : Int64) (v8 : Int64) : Prop := okX2_multiply_77 v0 v2 v4 v6 v8 (134217727 : Int64) ((v6 &&& (134217727 : Int64)) * (v8 &&& (134217727 : Int64)))
def fX2_multiply_53 (v0 : Int64) (v2 : Int64) (v4 : Int64) (v6 : Int64) : Int64 := fX2_multiply_59 v0 v2 v4 v6 (fX2_significand v2)
def okX2_multiply_53 (v0 : Int64) (v2 : Int64) (v4 : Int64) (v6 : Int64) : Prop := (okX2_significand v2) ∧ okX2_multiply_59 v0 v2 v4 v6 (fX2_significand v2)
def fX2_multiply_9 (v0 : Int64) (v2 : Int64) (v4 : Int64) : Int64 := (if (fX2_isInfinite v0) = (0) then (if (fX2_isInfinite v2) = (0) then (if (fX2_isZero v0) = (0) then (if (fX2_isZero v2) = (0) then fX2_multiply_53 v0 v2 v4 (fX2_significand v0) else v4) else v4) else (v4 ||| (9218868437227405312 : Int64))) else (v4 ||| (9218868437227405312 : Int64)))
def okX2_multiply_9 (v0 : Int64) (v2 : Int64) (v4 : Int64) : Prop := (((fX2_isInfinite v0) = (0) → (((fX2_isInfinite v2) = (0) → (((fX2_isZero v0) = (0) → (((fX2_isZero v2) = (0) → (okX2_significand v0) ∧ okX2_multiply_53 v0 v2 v4 (fX2_significand v0)) ∧ (¬ (fX2_isZero v2) = (0) → True))) ∧ (¬ (fX2_isZero v0) = (0) → True))) ∧ (¬ (fX2_isInfinite v2) = (0) → True))) ∧ (¬ (fX2_isInfinite v0) = (0) → True))
def fX2_multiply_0 (v0 : Int64) (v2 : Int64) : Int64 := fX2_multiply_9 v0 v2 ((v0 ^^^ v2) &&& (-9223372036854775808 : Int64))
def okX2_multiply_0 (v0 : Int64) (v2 : Int64) : Prop := okX2_multiply_9 v0 v2 ((v0 ^^^ v2) &&& (-9223372036854775808 : Int64))
def fX2_multiply (v0 : Int64) (v2 : Int64) : Int64 := fX2_multiply_0 v0 v2
def okX2_multiply (v0 : Int64) (v2 : Int64) : Prop := okX2_multiply_0 v0 v2
def fX2_divide_149 (s0 : Int32) (s1 : Int64) (s2 : Int32) (s3 : Int32) : Int64 := (fX2_made s0 s1 s2 s3)
def okX2_divide_149 (s0 : Int32) (s1 : Int64) (s2 : Int32) (s3 : Int32) : Prop := (okX2_made s0 s1 s2 s3) ∧ True
def fX2_divide_123 (v0 : Int64) (v2 : Int64) (v6 : Int64) (v10 : Int64) (s0 : Int32) : Int64 := (if v6 = (0 : Int64) then fX2_divide_149 s0 v10 (((fX2_exponent v0) - (fX2_exponent v2)) - (56 : Int32)) (0 : Int32) else fX2_divide_149 s0 v10 (((fX2_exponent v0) - (fX2_exponent v2)) - (56 : Int32)) (1 : Int32))
def okX2_divide_123 (v0 : Int64) (v2 : Int64) (v6 : Int64) (v10 : Int64) (s0 : Int32) : Prop := (okX2_exponent v0) ∧ (okX2_exponent v2) ∧ ((v6 = (0 : Int64) → okX2_divide_149 s0 v10 (((fX2_exponent v0) - (fX2_exponent v2)) - (56 : Int32)) (0 : Int32)) ∧ (¬ v6 = (0 : Int64) → okX2_divide_149 s0 v10 (((fX2_exponent v0) - (fX2_exponent v2)) - (56 : Int32)) (1 : Int32)))
def fX2_divide_111 (v0 : Int64) (v2 : Int64) (v4 : Int64) (v6 : Int64) (v10 : Int64) : Int64 := (if v4 = (0 : Int64) then fX2_divide_123 v0 v2 v6 v10 (0 : Int32) else fX2_divide_123 v0 v2 v6 v10 (1 : Int32))
def okX2_divide_111 (v0 : Int64) (v2 : Int64) (v4 : Int64) (v6 : Int64) (v10 : Int64) : Prop := ((v4 = (0 : Int64) → okX2_divide_123 v0 v2 v6 v10 (0 : Int32)) ∧ (¬ v4 = (0 : Int64) → okX2_divide_123 v0 v2 v6 v10 (1 : Int32)))
def fX2_divide_65 : Nat → Int64 → Int64 → Int64 → Int64 → Int64 → Int64 → Int32 → Int64
  | 0, _, _, _, _, _, _, _ => 0
  | fuel + 1, v0, v2, v4, v6, v8, v10, v12 => (if v12 < (57 : Int32) then (if v6 < v8 then fX2_divide_65 fuel v0 v2 v4 (jshl v6 (1 : Int32)) v8 (jshl v10 (1 : Int32)) (v12 + (1 : Int32)) else fX2_divide_65 fuel v0 v2 v4 (jshl (v6 - v8) (1 : Int32)) v8 ((jshl v10 (1 : Int32)) ||| (1 : Int64)) (v12 + (1 : Int32))) else fX2_divide_111 v0 v2 v4 v6 v10)
def okX2_divide_65 : Nat → Int64 → Int64 → Int64 → Int64 → Int64 → Int64 → Int32 → Prop
  | 0, _, _, _, _, _, _, _ => False
  | fuel + 1, v0, v2, v4, v6, v8, v10, v12 => ((v12 < (57 : Int32) → ((v6 < v8 → okX2_divide_65 fuel v0 v2 v4 (jshl v6 (1 : Int32)) v8 (jshl v10 (1 : Int32)) (v12 + (1 : Int32))) ∧ (¬ v6 < v8 → okX2_divide_65 fuel v0 v2 v4 (jshl (v6 - v8) (1 : Int32)) v8 ((jshl v10 (1 : Int32)) ||| (1 : Int64)) (v12 + (1 : Int32))))) ∧ (¬ v12 < (57 : Int32) → okX2_divide_111 v0 v2 v4 v6 v10))
def fX2_divide_59 (v0 : Int64) (v2 : Int64) (v4 : Int64) (v6 : Int64) (v8 : Int64) : Int64 := fX2_divide_65 64 v0 v2 v4 v6 v8 (0 : Int64) (0 : Int32)
def okX2_divide_59 (v0 : Int64) (v2 : Int64) (v4 : Int64) (v6 : Int64) (v8 : Int64) : Prop := okX2_divide_65 64 v0 v2 v4 v6 v8 (0 : Int64) (0 : Int32)
def fX2_divide_53 (v0 : Int64) (v2 : Int64) (v4 : Int64) (v6 : Int64) : Int64 := fX2_divide_59 v0 v2 v4 v6 (fX2_significand v2)
def okX2_divide_53 (v0 : Int64) (v2 : Int64) (v4 : Int64) (v6 : Int64) : Prop := (okX2_significand v2) ∧ okX2_divide_59 v0 v2 v4 v6 (fX2_significand v2)
def fX2_divide_9 (v0 : Int64) (v2 : Int64) (v4 : Int64) : Int64 := (if (fX2_isInfinite v0) = (0) then (if (fX2_isZero v2) = (0) then (if (fX2_isZero v0) = (0) then (if (fX2_isInfinite v2) = (0) then fX2_divide_53 v0 v2 v4 (fX2_significand v0) else v4) else v4) else (v4 ||| (9218868437227405312 : Int64))) else (v4 ||| (9218868437227405312 : Int64)))
def okX2_divide_9 (v0 : Int64) (v2 : Int64) (v4 : Int64) : Prop := (((fX2_isInfinite v0) = (0) → (((fX2_isZero v2) = (0) → (((fX2_isZero v0) = (0) → (((fX2_isInfinite v2) = (0) → (okX2_significand v0) ∧ okX2_divide_53 v0 v2 v4 (fX2_significand v0)) ∧ (¬ (fX2_isInfinite v2) = (0) → True))) ∧ (¬ (fX2_isZero v0) = (0) → True))) ∧ (¬ (fX2_isZero v2) = (0) → True))) ∧ (¬ (fX2_isInfinite v0) = (0) → True))
def fX2_divide_0 (v0 : Int64) (v2 : Int64) : Int64 := fX2_divide_9 v0 v2 ((v0 ^^^ v2) &&& (-9223372036854775808 : Int64))
def okX2_divide_0 (v0 : Int64) (v2 : Int64) : Prop := okX2_divide_9 v0 v2 ((v0 ^^^ v2) &&& (-9223372036854775808 : Int64))
def fX2_divide (v0 : Int64) (v2 : Int64) : Int64 := fX2_divide_0 v0 v2
def okX2_divide (v0 : Int64) (v2 : Int64) : Prop := okX2_divide_0 v0 v2
def fX2_compare_48 (v4 : Int64) (s0 : Int64) : Int32 := (if v4 < s0 then (-1 : Int32) else (if s0 < v4 then (1 : Int32) else (0 : Int32)))
def fX2_compare_31 (v2 : Int64) (s0 : Int64) : Int32 := (if v2 < (0 : Int64) then fX2_compare_48 s0 (v2 ^^^ (9223372036854775807 : Int64)) else fX2_compare_48 s0 v2)
def fX2_compare_16 (v0 : Int64) (v2 : Int64) : Int32 := (if v0 < (0 : Int64) then fX2_compare_31 v2 (v0 ^^^ (9223372036854775807 : Int64)) else fX2_compare_31 v2 v0)
def fX2_compare_0 (v0 : Int64) (v2 : Int64) : Int32 := (if (fX2_isZero v0) = (0) then fX2_compare_16 v0 v2 else (if (fX2_isZero v2) = (0) then fX2_compare_16 v0 v2 else (0 : Int32)))
def fX2_compare (v0 : Int64) (v2 : Int64) : Int32 := fX2_compare_0 v0 v2
def fX2_of_83 (s0 : Int32) (s1 : Int64) (s2 : Int32) (s3 : Int32) : Int64 := (fX2_made s0 s1 s2 s3)
def okX2_of_83 (s0 : Int32) (s1 : Int64) (s2 : Int32) (s3 : Int32) : Prop := (okX2_made s0 s1 s2 s3) ∧ True
def fX2_of_61 (v3 : Int32) (v4 : Int64) : Int64 := (if (v4 &&& (3 : Int64)) = (0 : Int64) then fX2_of_83 v3 (jushr v4 (2 : Int32)) (2 : Int32) (0 : Int32) else fX2_of_83 v3 (jushr v4 (2 : Int32)) (2 : Int32) (1 : Int32))
def okX2_of_61 (v3 : Int32) (v4 : Int64) : Prop := (((v4 &&& (3 : Int64)) = (0 : Int64) → okX2_of_83 v3 (jushr v4 (2 : Int32)) (2 : Int32) (0 : Int32)) ∧ (¬ (v4 &&& (3 : Int64)) = (0 : Int64) → okX2_of_83 v3 (jushr v4 (2 : Int32)) (2 : Int32) (1 : Int32)))
def fX2_of_34 (v3 : Int32) (s0 : Int64) : Int64 := (if (0 : Int64) < s0 then (if s0 < (4611686018427387904 : Int64) then (fX2_made v3 s0 (0 : Int32) (0 : Int32)) else fX2_of_61 v3 s0) else fX2_of_61 v3 s0)
def okX2_of_34 (v3 : Int32) (s0 : Int64) : Prop := (((0 : Int64) < s0 → ((s0 < (4611686018427387904 : Int64) → (okX2_made v3 s0 (0 : Int32) (0 : Int32)) ∧ True) ∧ (¬ s0 < (4611686018427387904 : Int64) → okX2_of_61 v3 s0))) ∧ (¬ (0 : Int64) < s0 → okX2_of_61 v3 s0))
def fX2_of_23 (v0 : Int64) (s0 : Int32) : Int64 := (if s0 = (0) then fX2_of_34 s0 v0 else fX2_of_34 s0 (-v0))
def okX2_of_23 (v0 : Int64) (s0 : Int32) : Prop := ((s0 = (0) → okX2_of_34 s0 v0) ∧ (¬ s0 = (0) → okX2_of_34 s0 (-v0)))
def fX2_of_22 (v0 : Int64) : Int64 := fX2_of_23 v0 (0 : Int32)
def okX2_of_22 (v0 : Int64) : Prop := okX2_of_23 v0 (0 : Int32)
def fX2_of_0 (v0 : Int64) (v2 : Int32) : Int64 := (if v0 = (0 : Int64) then (0 : Int64) else (if v0 < (0 : Int64) then (if v2 = (0) then fX2_of_23 v0 (1 : Int32) else fX2_of_22 v0) else fX2_of_22 v0))
def okX2_of_0 (v0 : Int64) (v2 : Int32) : Prop := ((v0 = (0 : Int64) → True) ∧ (¬ v0 = (0 : Int64) → ((v0 < (0 : Int64) → ((v2 = (0) → okX2_of_23 v0 (1 : Int32)) ∧ (¬ v2 = (0) → okX2_of_22 v0))) ∧ (¬ v0 < (0 : Int64) → okX2_of_22 v0))))
def fX2_of (v0 : Int64) (v2 : Int32) : Int64 := fX2_of_0 v0 v2
def okX2_of (v0 : Int64) (v2 : Int32) : Prop := okX2_of_0 v0 v2
def fX2_wide_81 (v1 : Int64) (s0 : Int64) (s1 : Int32) : Int64 := (v1 ||| (fX2_rounded s0 (s1 - (150 : Int32)) (0 : Int32) (53 : Int32) (1023 : Int32)))
def okX2_wide_81 (v1 : Int64) (s0 : Int64) (s1 : Int32) : Prop := (okX2_rounded s0 (s1 - (150 : Int32)) (0 : Int32) (53 : Int32) (1023 : Int32)) ∧ True
def fX2_wide_72 (v1 : Int64) (v3 : Int32) (s0 : Int64) : Int64 := (if v3 = (0) then fX2_wide_81 v1 s0 (1 : Int32) else fX2_wide_81 v1 s0 v3)
def okX2_wide_72 (v1 : Int64) (v3 : Int32) (s0 : Int64) : Prop := ((v3 = (0) → okX2_wide_81 v1 s0 (1 : Int32)) ∧ (¬ v3 = (0) → okX2_wide_81 v1 s0 v3))
def fX2_wide_57 (v1 : Int64) (v3 : Int32) (v4 : Int64) : Int64 := (if v3 = (0) then fX2_wide_72 v1 v3 v4 else fX2_wide_72 v1 v3 (v4 ||| (8388608 : Int64)))
def okX2_wide_57 (v1 : Int64) (v3 : Int32) (v4 : Int64) : Prop := ((v3 = (0) → okX2_wide_72 v1 v3 v4) ∧ (¬ v3 = (0) → okX2_wide_72 v1 v3 (v4 ||| (8388608 : Int64))))
def fX2_wide_28 (v1 : Int64) (v3 : Int32) (v4 : Int64) : Int64 := (if v3 = (255 : Int32) then ((v1 ||| (9218868437227405312 : Int64)) ||| v4) else (if v3 = (0) then (if v4 = (0 : Int64) then v1 else fX2_wide_57 v1 v3 v4) else fX2_wide_57 v1 v3 v4))
def okX2_wide_28 (v1 : Int64) (v3 : Int32) (v4 : Int64) : Prop := ((v3 = (255 : Int32) → True) ∧ (¬ v3 = (255 : Int32) → ((v3 = (0) → ((v4 = (0 : Int64) → True) ∧ (¬ v4 = (0 : Int64) → okX2_wide_57 v1 v3 v4))) ∧ (¬ v3 = (0) → okX2_wide_57 v1 v3 v4))))
def fX2_wide_21 (v0 : Int32) (v1 : Int64) (v3 : Int32) : Int64 := fX2_wide_28 v1 v3 ((v0 &&& (8388607 : Int32)).toInt64)
def okX2_wide_21 (v0 : Int32) (v1 : Int64) (v3 : Int32) : Prop := okX2_wide_28 v1 v3 ((v0 &&& (8388607 : Int32)).toInt64)
def fX2_wide_11 (v0 : Int32) (s0 : Int64) : Int64 := fX2_wide_21 v0 s0 ((ishr v0 (23 : Int32)) &&& (255 : Int32))
def okX2_wide_11 (v0 : Int32) (s0 : Int64) : Prop := okX2_wide_21 v0 s0 ((ishr v0 (23 : Int32)) &&& (255 : Int32))
def fX2_wide_0 (v0 : Int32) : Int64 := (if v0 < (0) then fX2_wide_11 v0 (-9223372036854775808 : Int64) else fX2_wide_11 v0 (0 : Int64))
def okX2_wide_0 (v0 : Int32) : Prop := ((v0 < (0) → okX2_wide_11 v0 (-9223372036854775808 : Int64)) ∧ (¬ v0 < (0) → okX2_wide_11 v0 (0 : Int64)))
def fX2_wide (v0 : Int32) : Int64 := fX2_wide_0 v0
def okX2_wide (v0 : Int32) : Prop := okX2_wide_0 v0
def fX2_floatOf_126 (s0 : Int32) (s1 : Int32) : Int64 := (fX2_wide (s0 ||| s1))
def okX2_floatOf_126 (s0 : Int32) (s1 : Int32) : Prop := (okX2_wide (s0 ||| s1)) ∧ True
def fX2_floatOf_113 (v3 : Int32) (v7 : Int64) : Int64 := (if v3 = (0) then fX2_floatOf_126 (v7.toInt32) (0 : Int32) else fX2_floatOf_126 (v7.toInt32) (-2147483648 : Int32))
def okX2_floatOf_113 (v3 : Int32) (v7 : Int64) : Prop := ((v3 = (0) → okX2_floatOf_126 (v7.toInt32) (0 : Int32)) ∧ (¬ v3 = (0) → okX2_floatOf_126 (v7.toInt32) (-2147483648 : Int32)))
def fX2_floatOf_104 (v3 : Int32) (s0 : Int64) (s1 : Int32) (s2 : Int32) : Int64 := fX2_floatOf_113 v3 (fX2_rounded s0 s1 s2 (24 : Int32) (127 : Int32))
def okX2_floatOf_104 (v3 : Int32) (s0 : Int64) (s1 : Int32) (s2 : Int32) : Prop := (okX2_rounded s0 s1 s2 (24 : Int32) (127 : Int32)) ∧ okX2_floatOf_113 v3 (fX2_rounded s0 s1 s2 (24 : Int32) (127 : Int32))
def fX2_floatOf_103 (v3 : Int32) (s0 : Int64) (s1 : Int32) : Int64 := fX2_floatOf_104 v3 s0 s1 (0 : Int32)
def okX2_floatOf_103 (v3 : Int32) (s0 : Int64) (s1 : Int32) : Prop := okX2_floatOf_104 v3 s0 s1 (0 : Int32)
def fX2_floatOf_83 (v3 : Int32) (v4 : Int64) (v6 : Int32) (s0 : Int64) (s1 : Int32) : Int64 := (if v6 = (0) then (if (v4 &&& (3 : Int64)) = (0 : Int64) then fX2_floatOf_103 v3 s0 s1 else fX2_floatOf_104 v3 s0 s1 (1 : Int32)) else fX2_floatOf_103 v3 s0 s1)
def okX2_floatOf_83 (v3 : Int32) (v4 : Int64) (v6 : Int32) (s0 : Int64) (s1 : Int32) : Prop := ((v6 = (0) → (((v4 &&& (3 : Int64)) = (0 : Int64) → okX2_floatOf_103 v3 s0 s1) ∧ (¬ (v4 &&& (3 : Int64)) = (0 : Int64) → okX2_floatOf_104 v3 s0 s1 (1 : Int32)))) ∧ (¬ v6 = (0) → okX2_floatOf_103 v3 s0 s1))
def fX2_floatOf_73 (v3 : Int32) (v4 : Int64) (v6 : Int32) (s0 : Int64) : Int64 := (if v6 = (0) then fX2_floatOf_83 v3 v4 v6 s0 (2 : Int32) else fX2_floatOf_83 v3 v4 v6 s0 (0 : Int32))
def okX2_floatOf_73 (v3 : Int32) (v4 : Int64) (v6 : Int32) (s0 : Int64) : Prop := ((v6 = (0) → okX2_floatOf_83 v3 v4 v6 s0 (2 : Int32)) ∧ (¬ v6 = (0) → okX2_floatOf_83 v3 v4 v6 s0 (0 : Int32)))
def fX2_floatOf_57 (v3 : Int32) (v4 : Int64) (s0 : Int32) : Int64 := (if s0 = (0) then fX2_floatOf_73 v3 v4 s0 (jushr v4 (2 : Int32)) else fX2_floatOf_73 v3 v4 s0 v4)
def okX2_floatOf_57 (v3 : Int32) (v4 : Int64) (s0 : Int32) : Prop := ((s0 = (0) → okX2_floatOf_73 v3 v4 s0 (jushr v4 (2 : Int32))) ∧ (¬ s0 = (0) → okX2_floatOf_73 v3 v4 s0 v4))
def fX2_floatOf_56 (v3 : Int32) (v4 : Int64) : Int64 := fX2_floatOf_57 v3 v4 (0 : Int32)
def okX2_floatOf_56 (v3 : Int32) (v4 : Int64) : Prop := okX2_floatOf_57 v3 v4 (0 : Int32)
def fX2_floatOf_34 (v3 : Int32) (s0 : Int64) : Int64 := (if (0 : Int64) < s0 then (if s0 < (4611686018427387904 : Int64) then fX2_floatOf_57 v3 s0 (1 : Int32) else fX2_floatOf_56 v3 s0) else fX2_floatOf_56 v3 s0)
def okX2_floatOf_34 (v3 : Int32) (s0 : Int64) : Prop := (((0 : Int64) < s0 → ((s0 < (4611686018427387904 : Int64) → okX2_floatOf_57 v3 s0 (1 : Int32)) ∧ (¬ s0 < (4611686018427387904 : Int64) → okX2_floatOf_56 v3 s0))) ∧ (¬ (0 : Int64) < s0 → okX2_floatOf_56 v3 s0))
def fX2_floatOf_23 (v0 : Int64) (s0 : Int32) : Int64 := (if s0 = (0) then fX2_floatOf_34 s0 v0 else fX2_floatOf_34 s0 (-v0))
def okX2_floatOf_23 (v0 : Int64) (s0 : Int32) : Prop := ((s0 = (0) → okX2_floatOf_34 s0 v0) ∧ (¬ s0 = (0) → okX2_floatOf_34 s0 (-v0)))
def fX2_floatOf_22 (v0 : Int64) : Int64 := fX2_floatOf_23 v0 (0 : Int32)
def okX2_floatOf_22 (v0 : Int64) : Prop := okX2_floatOf_23 v0 (0 : Int32)
def fX2_floatOf_0 (v0 : Int64) (v2 : Int32) : Int64 := (if v0 = (0 : Int64) then (0 : Int64) else (if v0 < (0 : Int64) then (if v2 = (0) then fX2_floatOf_23 v0 (1 : Int32) else fX2_floatOf_22 v0) else fX2_floatOf_22 v0))
def okX2_floatOf_0 (v0 : Int64) (v2 : Int32) : Prop := ((v0 = (0 : Int64) → True) ∧ (¬ v0 = (0 : Int64) → ((v0 < (0 : Int64) → ((v2 = (0) → okX2_floatOf_23 v0 (1 : Int32)) ∧ (¬ v2 = (0) → okX2_floatOf_22 v0))) ∧ (¬ v0 < (0 : Int64) → okX2_floatOf_22 v0))))
def fX2_floatOf (v0 : Int64) (v2 : Int32) : Int64 := fX2_floatOf_0 v0 v2
def okX2_floatOf (v0 : Int64) (v2 : Int32) : Prop := okX2_floatOf_0 v0 v2
def fX2_narrow_12 (v0 : Int64) (s0 : Int32) : Int32 := (if (fX2_isInfinite v0) = (0) then (if (fX2_isZero v0) = (0) then (((fX2_rounded (fX2_significand v0) (fX2_exponent v0) (0 : Int32) (24 : Int32) (127 : Int32)).toInt32) ||| s0) else s0) else (s0 ||| (2139095040 : Int32)))
def okX2_narrow_12 (v0 : Int64) (s0 : Int32) : Prop := (((fX2_isInfinite v0) = (0) → (((fX2_isZero v0) = (0) → (okX2_significand v0) ∧ (okX2_exponent v0) ∧ (okX2_rounded (fX2_significand v0) (fX2_exponent v0) (0 : Int32) (24 : Int32) (127 : Int32)) ∧ True) ∧ (¬ (fX2_isZero v0) = (0) → True))) ∧ (¬ (fX2_isInfinite v0) = (0) → True))
def fX2_narrow_0 (v0 : Int64) : Int32 := (if v0 < (0 : Int64) then fX2_narrow_12 v0 (-2147483648 : Int32) else fX2_narrow_12 v0 (0 : Int32))
def okX2_narrow_0 (v0 : Int64) : Prop := ((v0 < (0 : Int64) → okX2_narrow_12 v0 (-2147483648 : Int32)) ∧ (¬ v0 < (0 : Int64) → okX2_narrow_12 v0 (0 : Int32)))
def fX2_narrow (v0 : Int64) : Int32 := fX2_narrow_0 v0
def okX2_narrow (v0 : Int64) : Prop := okX2_narrow_0 v0
def fX2_cut_19 (v2 : Int32) (v3 : Int64) : Int64 := (if v2 < (0) then (if v2 < (-52 : Int32) then (0 : Int64) else (jushr v3 (-v2))) else (jshl v3 v2))
def fX2_cut_14 (v0 : Int64) (v2 : Int32) : Int64 := fX2_cut_19 v2 (fX2_significand v0)
def okX2_cut_14 (v0 : Int64) (v2 : Int32) : Prop := (okX2_significand v0) ∧ True
def fX2_cut_0 (v0 : Int64) : Int64 := (if (fX2_isZero v0) = (0) then fX2_cut_14 v0 (fX2_exponent v0) else (0 : Int64))
def okX2_cut_0 (v0 : Int64) : Prop := (((fX2_isZero v0) = (0) → (okX2_exponent v0) ∧ okX2_cut_14 v0 (fX2_exponent v0)) ∧ (¬ (fX2_isZero v0) = (0) → True))
def fX2_cut (v0 : Int64) : Int64 := fX2_cut_0 v0
def okX2_cut (v0 : Int64) : Prop := okX2_cut_0 v0
def fX2_isGreat_0 (v0 : Int64) : Int32 := (if (fX2_isInfinite v0) = (0) then (if (fX2_isZero v0) = (0) then (if (11 : Int32) < (fX2_exponent v0) then (1 : Int32) else (0 : Int32)) else (0 : Int32)) else (1 : Int32))
def okX2_isGreat_0 (v0 : Int64) : Prop := (((fX2_isInfinite v0) = (0) → (((fX2_isZero v0) = (0) → (okX2_exponent v0) ∧ (((11 : Int32) < (fX2_exponent v0) → True) ∧ (¬ (11 : Int32) < (fX2_exponent v0) → True))) ∧ (¬ (fX2_isZero v0) = (0) → True))) ∧ (¬ (fX2_isInfinite v0) = (0) → True))
def fX2_isGreat (v0 : Int64) : Int32 := fX2_isGreat_0 v0
def okX2_isGreat (v0 : Int64) : Prop := okX2_isGreat_0 v0
def fX3_init_0 (fld : Int32) : Int32 := fld
def fX3_init  (fld : Int32) : Int32 := fX3_init_0 fld
def fX3_failed_0 (fld : Int32) : Int32 × Int32 := (fld, fld)
def fX3_failed  (fld : Int32) : Int32 × Int32 := fX3_failed_0 fld
def fX3_isNumber_0 (v0 : Int32) : Int32 := (if v0 < (1 : Int32) then (0 : Int32) else (if (7 : Int32) < v0 then (0 : Int32) else (1 : Int32)))
def fX3_isNumber (v0 : Int32) : Int32 := fX3_isNumber_0 v0
def fX3_hasBits_0 (v0 : Int32) (v1 : Int64) : Int32 := (if v0 = (0 : Int32) then (if v1 = (0 : Int64) then (1 : Int32) else (if v1 = (1 : Int64) then (1 : Int32) else (0 : Int32))) else (if v0 = (1 : Int32) then (if v1 < (-128 : Int64) then (0 : Int32) else (if (127 : Int64) < v1 then (0 : Int32) else (1 : Int32))) else (if v0 = (2 : Int32) then (if v1 < (-32768 : Int64) then (0 : Int32) else (if (32767 : Int64) < v1 then (0 : Int32) else (1 : Int32))) else (if v0 = (3 : Int32) then (if v1 < (0 : Int64) then (0 : Int32) else (if (65535 : Int64) < v1 then (0 : Int32) else (1 : Int32))) else (if v0 = (4 : Int32) then (if v1 < (-2147483648 : Int64) then (0 : Int32) else (if (2147483647 : Int64) < v1 then (0 : Int32) else (1 : Int32))) else (if v0 = (5 : Int32) then (1 : Int32) else (if v0 = (6 : Int32) then (if v1 < (0 : Int64) then (0 : Int32) else (if (4294967295 : Int64) < v1 then (0 : Int32) else (if (fX2_isNone (fX2_wide (v1.toInt32))) = (0) then (1 : Int32) else (0 : Int32)))) else (if v0 = (7 : Int32) then (if (fX2_isNone v1) = (0) then (1 : Int32) else (0 : Int32)) else (0 : Int32)))))))))
def okX3_hasBits_0 (v0 : Int32) (v1 : Int64) : Prop := ((v0 = (0 : Int32) → ((v1 = (0 : Int64) → True) ∧ (¬ v1 = (0 : Int64) → ((v1 = (1 : Int64) → True) ∧ (¬ v1 = (1 : Int64) → True))))) ∧ (¬ v0 = (0 : Int32) → ((v0 = (1 : Int32) → ((v1 < (-128 : Int64) → True) ∧ (¬ v1 < (-128 : Int64) → (((127 : Int64) < v1 → True) ∧ (¬ (127 : Int64) < v1 → True))))) ∧ (¬ v0 = (1 : Int32) → ((v0 = (2 : Int32) → ((v1 < (-32768 : Int64) → True) ∧ (¬ v1 < (-32768 : Int64) → (((32767 : Int64) < v1 → True) ∧ (¬ (32767 : Int64) < v1 → True))))) ∧ (¬ v0 = (2 : Int32) → ((v0 = (3 : Int32) → ((v1 < (0 : Int64) → True) ∧ (¬ v1 < (0 : Int64) → (((65535 : Int64) < v1 → True) ∧ (¬ (65535 : Int64) < v1 → True))))) ∧ (¬ v0 = (3 : Int32) → ((v0 = (4 : Int32) → ((v1 < (-2147483648 : Int64) → True) ∧ (¬ v1 < (-2147483648 : Int64) → (((2147483647 : Int64) < v1 → True) ∧ (¬ (2147483647 : Int64) < v1 → True))))) ∧ (¬ v0 = (4 : Int32) → ((v0 = (5 : Int32) → True) ∧ (¬ v0 = (5 : Int32) → ((v0 = (6 : Int32) → ((v1 < (0 : Int64) → True) ∧ (¬ v1 < (0 : Int64) → (((4294967295 : Int64) < v1 → True) ∧ (¬ (4294967295 : Int64) < v1 → (okX2_wide (v1.toInt32)) ∧ (((fX2_isNone (fX2_wide (v1.toInt32))) = (0) → True) ∧ (¬ (fX2_isNone (fX2_wide (v1.toInt32))) = (0) → True))))))) ∧ (¬ v0 = (6 : Int32) → ((v0 = (7 : Int32) → (((fX2_isNone v1) = (0) → True) ∧ (¬ (fX2_isNone v1) = (0) → True))) ∧ (¬ v0 = (7 : Int32) → True))))))))))))))))
def fX3_hasBits (v0 : Int32) (v1 : Int64) : Int32 := fX3_hasBits_0 v0 v1
def okX3_hasBits (v0 : Int32) (v1 : Int64) : Prop := okX3_hasBits_0 v0 v1
def fX3_isWider_62 (v1 : Int32) : Int32 := (if v1 < (4 : Int32) then (0 : Int32) else (if (7 : Int32) < v1 then (0 : Int32) else (1 : Int32)))
def fX3_isWider_0 (v0 : Int32) (v1 : Int32) : Int32 := (if v0 = (1 : Int32) then (if v1 = (2 : Int32) then (1 : Int32) else (if v1 < (4 : Int32) then (0 : Int32) else (if (7 : Int32) < v1 then (0 : Int32) else (1 : Int32)))) else (if v0 = (2 : Int32) then fX3_isWider_62 v1 else (if v0 = (3 : Int32) then fX3_isWider_62 v1 else (if v0 = (4 : Int32) then (if v1 < (5 : Int32) then (0 : Int32) else (if (7 : Int32) < v1 then (0 : Int32) else (1 : Int32))) else (if v0 = (5 : Int32) then (if v1 = (6 : Int32) then (1 : Int32) else (if v1 = (7 : Int32) then (1 : Int32) else (0 : Int32))) else (if v0 = (6 : Int32) then (if v1 = (7 : Int32) then (1 : Int32) else (0 : Int32)) else (0 : Int32)))))))
def fX3_isWider (v0 : Int32) (v1 : Int32) : Int32 := fX3_isWider_0 v0 v1
def fX3_widened_0 (v0 : Int64) (v2 : Int32) (v3 : Int32) : Int64 := (if v2 = v3 then v0 else (if v2 < (1 : Int32) then v0 else (if (7 : Int32) < v2 then v0 else (if v3 = (7 : Int32) then (if v2 = (6 : Int32) then (fX2_wide (v0.toInt32)) else (fX2_of v0 (0 : Int32))) else (if v3 = (6 : Int32) then (((fX2_narrow (fX2_floatOf v0 (0 : Int32))).toInt64) &&& (4294967295 : Int64)) else v0)))))
def okX3_widened_0 (v0 : Int64) (v2 : Int32) (v3 : Int32) : Prop := ((v2 = v3 → True) ∧ (¬ v2 = v3 → ((v2 < (1 : Int32) → True) ∧ (¬ v2 < (1 : Int32) → (((7 : Int32) < v2 → True) ∧ (¬ (7 : Int32) < v2 → ((v3 = (7 : Int32) → ((v2 = (6 : Int32) → (okX2_wide (v0.toInt32)) ∧ True) ∧ (¬ v2 = (6 : Int32) → (okX2_of v0 (0 : Int32)) ∧ True))) ∧ (¬ v3 = (7 : Int32) → ((v3 = (6 : Int32) → (okX2_floatOf v0 (0 : Int32)) ∧ (okX2_narrow (fX2_floatOf v0 (0 : Int32))) ∧ True) ∧ (¬ v3 = (6 : Int32) → True))))))))))
def fX3_widened (v0 : Int64) (v2 : Int32) (v3 : Int32) : Int64 := fX3_widened_0 v0 v2 v3
def okX3_widened (v0 : Int64) (v2 : Int32) (v3 : Int32) : Prop := okX3_widened_0 v0 v2 v3
def fX3_cut_72 (v3 : Int64) (v5 : Int32) (v7 : Int64) (s0 : Int32) : Int64 := (if s0 = (0) then (if v5 = (0) then v7 else (-v7)) else (if v5 = (0) then v3 else ((-v3) - (1 : Int64))))
def fX3_cut_67 (v3 : Int64) (v5 : Int32) (v7 : Int64) : Int64 := fX3_cut_72 v3 v5 v7 (1 : Int32)
def fX3_cut_46 (v3 : Int64) (v5 : Int32) (v6 : Int32) (s0 : Int64) : Int64 := (if v6 = (0) then (if s0 < (0 : Int64) then fX3_cut_67 v3 v5 s0 else (if v3 < s0 then fX3_cut_67 v3 v5 s0 else fX3_cut_72 v3 v5 s0 (0 : Int32))) else fX3_cut_67 v3 v5 s0)
def fX3_cut_33 (v0 : Int64) (v3 : Int64) (v5 : Int32) (v6 : Int32) : Int64 := (if v6 = (0) then fX3_cut_46 v3 v5 v6 (fX2_cut v0) else fX3_cut_46 v3 v5 v6 (0 : Int64))
def okX3_cut_33 (v0 : Int64) (v3 : Int64) (v5 : Int32) (v6 : Int32) : Prop := ((v6 = (0) → (okX2_cut v0) ∧ True) ∧ (¬ v6 = (0) → True))
def fX3_cut_25 (v0 : Int64) (v3 : Int64) (s0 : Int32) : Int64 := fX3_cut_33 v0 v3 s0 (fX2_isGreat v0)
def okX3_cut_25 (v0 : Int64) (v3 : Int64) (s0 : Int32) : Prop := (okX2_isGreat v0) ∧ okX3_cut_33 v0 v3 s0 (fX2_isGreat v0)
def fX3_cut_13 (v0 : Int64) (s0 : Int64) : Int64 := (if v0 < (0 : Int64) then fX3_cut_25 v0 s0 (1 : Int32) else fX3_cut_25 v0 s0 (0 : Int32))
def okX3_cut_13 (v0 : Int64) (s0 : Int64) : Prop := ((v0 < (0 : Int64) → okX3_cut_25 v0 s0 (1 : Int32)) ∧ (¬ v0 < (0 : Int64) → okX3_cut_25 v0 s0 (0 : Int32)))
def fX3_cut_0 (v0 : Int64) (v2 : Int32) : Int64 := (if v2 = (0) then fX3_cut_13 v0 (2147483647 : Int64) else fX3_cut_13 v0 (9223372036854775807 : Int64))
def okX3_cut_0 (v0 : Int64) (v2 : Int32) : Prop := ((v2 = (0) → okX3_cut_13 v0 (2147483647 : Int64)) ∧ (¬ v2 = (0) → okX3_cut_13 v0 (9223372036854775807 : Int64)))
def fX3_cut (v0 : Int64) (v2 : Int32) : Int64 := fX3_cut_0 v0 v2
def okX3_cut (v0 : Int64) (v2 : Int32) : Prop := okX3_cut_0 v0 v2
def fX3_casted_25 (v0 : Int64) (v2 : Int32) (v3 : Int32) : Int64 := (fX3_widened v0 v2 v3)
def okX3_casted_25 (v0 : Int64) (v2 : Int32) (v3 : Int32) : Prop := (okX3_widened v0 v2 v3) ∧ True
def fX3_casted_93 (v3 : Int32) (v4 : Int64) : Int64 := (if v3 = (1 : Int32) then (jbyte (v4.toInt32)).toInt64 else (if v3 = (2 : Int32) then (jshort (v4.toInt32)).toInt64 else (if v3 = (3 : Int32) then (jchar (v4.toInt32)).toInt64 else (if v3 = (4 : Int32) then (v4.toInt32).toInt64 else v4))))
def fX3_casted_88 (v3 : Int32) (s0 : Int64) (s1 : Int32) : Int64 := fX3_casted_93 v3 (fX3_cut s0 s1)
def okX3_casted_88 (v3 : Int32) (s0 : Int64) (s1 : Int32) : Prop := (okX3_cut s0 s1) ∧ True
def fX3_casted_78 (v3 : Int32) (s0 : Int64) : Int64 := (if v3 = (5 : Int32) then fX3_casted_88 v3 s0 (1 : Int32) else fX3_casted_88 v3 s0 (0 : Int32))
def okX3_casted_78 (v3 : Int32) (s0 : Int64) : Prop := ((v3 = (5 : Int32) → okX3_casted_88 v3 s0 (1 : Int32)) ∧ (¬ v3 = (5 : Int32) → okX3_casted_88 v3 s0 (0 : Int32)))
def fX3_casted_63 (v0 : Int64) (v2 : Int32) (v3 : Int32) : Int64 := (if v2 = (6 : Int32) then fX3_casted_78 v3 (fX2_wide (v0.toInt32)) else fX3_casted_78 v3 v0)
def okX3_casted_63 (v0 : Int64) (v2 : Int32) (v3 : Int32) : Prop := ((v2 = (6 : Int32) → (okX2_wide (v0.toInt32)) ∧ okX3_casted_78 v3 (fX2_wide (v0.toInt32))) ∧ (¬ v2 = (6 : Int32) → okX3_casted_78 v3 v0))
def fX3_casted_32 (v0 : Int64) (v2 : Int32) (v3 : Int32) : Int64 := (if v3 = (6 : Int32) then (((fX2_narrow v0).toInt64) &&& (4294967295 : Int64)) else (if v2 = (6 : Int32) then fX3_casted_63 v0 v2 v3 else (if v2 = (7 : Int32) then fX3_casted_63 v0 v2 v3 else fX3_casted_93 v3 v0)))
def okX3_casted_32 (v0 : Int64) (v2 : Int32) (v3 : Int32) : Prop := ((v3 = (6 : Int32) → (okX2_narrow v0) ∧ True) ∧ (¬ v3 = (6 : Int32) → ((v2 = (6 : Int32) → okX3_casted_63 v0 v2 v3) ∧ (¬ v2 = (6 : Int32) → ((v2 = (7 : Int32) → okX3_casted_63 v0 v2 v3) ∧ (¬ v2 = (7 : Int32) → True))))))
def fX3_casted_0 (v0 : Int64) (v2 : Int32) (v3 : Int32) : Int64 := (if v2 = v3 then v0 else (if v3 = (7 : Int32) then fX3_casted_25 v0 v2 v3 else (if v3 = (6 : Int32) then (if v2 < (6 : Int32) then fX3_casted_25 v0 v2 v3 else fX3_casted_32 v0 v2 v3) else fX3_casted_32 v0 v2 v3)))
def okX3_casted_0 (v0 : Int64) (v2 : Int32) (v3 : Int32) : Prop := ((v2 = v3 → True) ∧ (¬ v2 = v3 → ((v3 = (7 : Int32) → okX3_casted_25 v0 v2 v3) ∧ (¬ v3 = (7 : Int32) → ((v3 = (6 : Int32) → ((v2 < (6 : Int32) → okX3_casted_25 v0 v2 v3) ∧ (¬ v2 < (6 : Int32) → okX3_casted_32 v0 v2 v3))) ∧ (¬ v3 = (6 : Int32) → okX3_casted_32 v0 v2 v3))))))
def fX3_casted (v0 : Int64) (v2 : Int32) (v3 : Int32) : Int64 := fX3_casted_0 v0 v2 v3
def okX3_casted (v0 : Int64) (v2 : Int32) (v3 : Int32) : Prop := okX3_casted_0 v0 v2 v3
def fX3_rest_89 (v9 : Int32) (v10 : Int64) (v12 : Int64) : Int64 := (if v12 = (0 : Int64) then v10 else (v10 ||| (fX2_made (0 : Int32) v12 v9 (0 : Int32))))
def okX3_rest_89 (v9 : Int32) (v10 : Int64) (v12 : Int64) : Prop := ((v12 = (0 : Int64) → True) ∧ (¬ v12 = (0 : Int64) → (okX2_made (0 : Int32) v12 v9 (0 : Int32)) ∧ True))
def fX3_rest_67 : Nat → Int64 → Int32 → Int64 → Int64 → Int32 → Int64
  | 0, _, _, _, _, _ => 0
  | fuel + 1, v6, v9, v10, v12, v14 => (if v9 < v14 then fX3_rest_67 fuel v6 v9 v10 (jrem (jshl v12 (1 : Int32)) v6) (v14 + (-1 : Int32)) else fX3_rest_89 v9 v10 v12)
def okX3_rest_67 : Nat → Int64 → Int32 → Int64 → Int64 → Int32 → Prop
  | 0, _, _, _, _, _ => False
  | fuel + 1, v6, v9, v10, v12, v14 => ((v9 < v14 → ¬ v6 = 0 ∧ okX3_rest_67 fuel v6 v9 v10 (jrem (jshl v12 (1 : Int32)) v6) (v14 + (-1 : Int32))) ∧ (¬ v9 < v14 → okX3_rest_89 v9 v10 v12))
def fX3_rest_63 (v6 : Int64) (v8 : Int32) (v9 : Int32) (v10 : Int64) (v12 : Int64) : Int64 := fX3_rest_67 ((v8.toInt - v9.toInt).toNat + 1) v6 v9 v10 v12 v8
def okX3_rest_63 (v6 : Int64) (v8 : Int32) (v9 : Int32) (v10 : Int64) (v12 : Int64) : Prop := okX3_rest_67 ((v8.toInt - v9.toInt).toNat + 1) v6 v9 v10 v12 v8
def fX3_rest_47 (v0 : Int64) (v4 : Int64) (v6 : Int64) (v8 : Int32) (v9 : Int32) (v10 : Int64) : Int64 := (if v8 < v9 then v0 else fX3_rest_63 v6 v8 v9 v10 (jrem v4 v6))
def okX3_rest_47 (v0 : Int64) (v4 : Int64) (v6 : Int64) (v8 : Int32) (v9 : Int32) (v10 : Int64) : Prop := ((v8 < v9 → True) ∧ (¬ v8 < v9 → ¬ v6 = 0 ∧ okX3_rest_63 v6 v8 v9 v10 (jrem v4 v6)))
def fX3_rest_40 (v0 : Int64) (v4 : Int64) (v6 : Int64) (v8 : Int32) (v9 : Int32) : Int64 := fX3_rest_47 v0 v4 v6 v8 v9 (v0 &&& (-9223372036854775808 : Int64))
def okX3_rest_40 (v0 : Int64) (v4 : Int64) (v6 : Int64) (v8 : Int32) (v9 : Int32) : Prop := okX3_rest_47 v0 v4 v6 v8 v9 (v0 &&& (-9223372036854775808 : Int64))
def fX3_rest_34 (v0 : Int64) (v2 : Int64) (v4 : Int64) (v6 : Int64) (v8 : Int32) : Int64 := fX3_rest_40 v0 v4 v6 v8 (fX2_exponent v2)
def okX3_rest_34 (v0 : Int64) (v2 : Int64) (v4 : Int64) (v6 : Int64) (v8 : Int32) : Prop := (okX2_exponent v2) ∧ okX3_rest_40 v0 v4 v6 v8 (fX2_exponent v2)
def fX3_rest_28 (v0 : Int64) (v2 : Int64) (v4 : Int64) (v6 : Int64) : Int64 := fX3_rest_34 v0 v2 v4 v6 (fX2_exponent v0)
def okX3_rest_28 (v0 : Int64) (v2 : Int64) (v4 : Int64) (v6 : Int64) : Prop := (okX2_exponent v0) ∧ okX3_rest_34 v0 v2 v4 v6 (fX2_exponent v0)
def fX3_rest_22 (v0 : Int64) (v2 : Int64) (v4 : Int64) : Int64 := fX3_rest_28 v0 v2 v4 (fX2_significand v2)
def okX3_rest_22 (v0 : Int64) (v2 : Int64) (v4 : Int64) : Prop := (okX2_significand v2) ∧ okX3_rest_28 v0 v2 v4 (fX2_significand v2)
def fX3_rest_0 (v0 : Int64) (v2 : Int64) : Int64 := (if (fX2_isInfinite v2) = (0) then (if (fX2_isZero v0) = (0) then fX3_rest_22 v0 v2 (fX2_significand v0) else v0) else v0)
def okX3_rest_0 (v0 : Int64) (v2 : Int64) : Prop := (((fX2_isInfinite v2) = (0) → (((fX2_isZero v0) = (0) → (okX2_significand v0) ∧ okX3_rest_22 v0 v2 (fX2_significand v0)) ∧ (¬ (fX2_isZero v0) = (0) → True))) ∧ (¬ (fX2_isInfinite v2) = (0) → True))
def fX3_rest (v0 : Int64) (v2 : Int64) : Int64 := fX3_rest_0 v0 v2
def okX3_rest (v0 : Int64) (v2 : Int64) : Prop := okX3_rest_0 v0 v2
def fX3_has_0 (v1 : Int32) (v2 : Int64) (fld : Int32) : Int32 × Int32 := ((fX3_hasBits v1 v2), fld)
def okX3_has_0 (v1 : Int32) (v2 : Int64) (fld : Int32) : Prop := (okX3_hasBits v1 v2) ∧ True
def fX3_has (v1 : Int32) (v2 : Int64) (fld : Int32) : Int32 × Int32 := fX3_has_0 v1 v2 fld
def okX3_has (v1 : Int32) (v2 : Int64) (fld : Int32) : Prop := okX3_has_0 v1 v2 fld
def fX3_widens_0 (v1 : Int32) (v2 : Int32) (fld : Int32) : Int32 × Int32 := (if v1 < (0) then ((0 : Int32), fld) else (if (7 : Int32) < v1 then ((0 : Int32), fld) else (if v1 = v2 then ((1 : Int32), fld) else (if v2 < (0) then ((0 : Int32), fld) else (if (7 : Int32) < v2 then ((0 : Int32), fld) else (if (fX3_isWider v1 v2) = (0) then ((0 : Int32), fld) else ((1 : Int32), fld)))))))
def fX3_widens (v1 : Int32) (v2 : Int32) (fld : Int32) : Int32 × Int32 := fX3_widens_0 v1 v2 fld
def fX3_cast_45 (v1 : Int32) (v2 : Int32) (v3 : Int64) (v5 : Int32) (s1 : Int32) (fld : Int32) : Int64 × Int32 := (if v5 = (0) then ((0 : Int64), s1) else ((fX3_casted v3 v1 v2), s1))
def okX3_cast_45 (v1 : Int32) (v2 : Int32) (v3 : Int64) (v5 : Int32) (s1 : Int32) (fld : Int32) : Prop := ((v5 = (0) → True) ∧ (¬ v5 = (0) → (okX3_casted v3 v1 v2) ∧ True))
def fX3_cast_32 (v1 : Int32) (v2 : Int32) (v3 : Int64) (s0 : Int32) (fld : Int32) : Int64 × Int32 := (if s0 = (0) then fX3_cast_45 v1 v2 v3 s0 (1 : Int32) fld else fX3_cast_45 v1 v2 v3 s0 (0 : Int32) fld)
def okX3_cast_32 (v1 : Int32) (v2 : Int32) (v3 : Int64) (s0 : Int32) (fld : Int32) : Prop := ((s0 = (0) → okX3_cast_45 v1 v2 v3 s0 (1 : Int32) fld) ∧ (¬ s0 = (0) → okX3_cast_45 v1 v2 v3 s0 (0 : Int32) fld))
def fX3_cast_31 (v1 : Int32) (v2 : Int32) (v3 : Int64) (fld : Int32) : Int64 × Int32 := fX3_cast_32 v1 v2 v3 (0 : Int32) fld
def okX3_cast_31 (v1 : Int32) (v2 : Int32) (v3 : Int64) (fld : Int32) : Prop := okX3_cast_32 v1 v2 v3 (0 : Int32) fld
def fX3_cast_19 (v1 : Int32) (v2 : Int32) (v3 : Int64) (fld : Int32) : Int64 × Int32 := (if (fX3_hasBits v1 v3) = (0) then fX3_cast_31 v1 v2 v3 fld else fX3_cast_32 v1 v2 v3 (1 : Int32) fld)
def okX3_cast_19 (v1 : Int32) (v2 : Int32) (v3 : Int64) (fld : Int32) : Prop := (okX3_hasBits v1 v3) ∧ (((fX3_hasBits v1 v3) = (0) → okX3_cast_31 v1 v2 v3 fld) ∧ (¬ (fX3_hasBits v1 v3) = (0) → okX3_cast_32 v1 v2 v3 (1 : Int32) fld))
def fX3_cast_0 (v1 : Int32) (v2 : Int32) (v3 : Int64) (fld : Int32) : Int64 × Int32 := (if v1 = v2 then fX3_cast_19 v1 v2 v3 fld else (if (fX3_isNumber v1) = (0) then fX3_cast_31 v1 v2 v3 fld else (if (fX3_isNumber v2) = (0) then fX3_cast_31 v1 v2 v3 fld else fX3_cast_19 v1 v2 v3 fld)))
def okX3_cast_0 (v1 : Int32) (v2 : Int32) (v3 : Int64) (fld : Int32) : Prop := ((v1 = v2 → okX3_cast_19 v1 v2 v3 fld) ∧ (¬ v1 = v2 → (((fX3_isNumber v1) = (0) → okX3_cast_31 v1 v2 v3 fld) ∧ (¬ (fX3_isNumber v1) = (0) → (((fX3_isNumber v2) = (0) → okX3_cast_31 v1 v2 v3 fld) ∧ (¬ (fX3_isNumber v2) = (0) → okX3_cast_19 v1 v2 v3 fld))))))
def fX3_cast (v1 : Int32) (v2 : Int32) (v3 : Int64) (fld : Int32) : Int64 × Int32 := fX3_cast_0 v1 v2 v3 fld
def okX3_cast (v1 : Int32) (v2 : Int32) (v3 : Int64) (fld : Int32) : Prop := okX3_cast_0 v1 v2 v3 fld
def fX3_areNumbers_0 (v1 : Int32) (v2 : Int64) (v4 : Int32) (v5 : Int64) (fld : Int32) : Int32 × Int32 := (if (fX3_isNumber v1) = (0) then ((0 : Int32), fld) else (if (fX3_isNumber v4) = (0) then ((0 : Int32), fld) else (if (fX3_hasBits v1 v2) = (0) then ((0 : Int32), fld) else (if (fX3_hasBits v4 v5) = (0) then ((0 : Int32), fld) else ((1 : Int32), fld)))))
def okX3_areNumbers_0 (v1 : Int32) (v2 : Int64) (v4 : Int32) (v5 : Int64) (fld : Int32) : Prop := (((fX3_isNumber v1) = (0) → True) ∧ (¬ (fX3_isNumber v1) = (0) → (((fX3_isNumber v4) = (0) → True) ∧ (¬ (fX3_isNumber v4) = (0) → (okX3_hasBits v1 v2) ∧ (((fX3_hasBits v1 v2) = (0) → True) ∧ (¬ (fX3_hasBits v1 v2) = (0) → (okX3_hasBits v4 v5) ∧ (((fX3_hasBits v4 v5) = (0) → True) ∧ (¬ (fX3_hasBits v4 v5) = (0) → True))))))))
def fX3_areNumbers (v1 : Int32) (v2 : Int64) (v4 : Int32) (v5 : Int64) (fld : Int32) : Int32 × Int32 := fX3_areNumbers_0 v1 v2 v4 v5 fld
def okX3_areNumbers (v1 : Int32) (v2 : Int64) (v4 : Int32) (v5 : Int64) (fld : Int32) : Prop := okX3_areNumbers_0 v1 v2 v4 v5 fld
def fX3_whole_109 (v2 : Int32) (v7 : Int64) (fld : Int32) : Int64 × Int32 := (if v2 = (4 : Int32) then ((v7.toInt32).toInt64, fld) else (v7, fld))
def fX3_whole_31 (v2 : Int32) (v7 : Int64) (fld : Int32) : Int64 × Int32 := fX3_whole_109 v2 v7 fld
def fX3_whole_45 (v2 : Int32) (v7 : Int64) (fld : Int32) : Int64 × Int32 := fX3_whole_109 v2 v7 fld
def fX3_whole_59 (v2 : Int32) (v7 : Int64) (fld : Int32) : Int64 × Int32 := fX3_whole_109 v2 v7 fld
def fX3_whole_85 (v2 : Int32) (s0 : Int64) (fld : Int32) : Int64 × Int32 := fX3_whole_109 v2 s0 fld
def fX3_whole_107 (v2 : Int32) (s0 : Int64) (fld : Int32) : Int64 × Int32 := fX3_whole_109 v2 s0 fld
def fX3_whole_20 (v1 : Int32) (v2 : Int32) (v3 : Int64) (v5 : Int64) (fld : Int32) : Int64 × Int32 := (if v1 = (1 : Int32) then fX3_whole_31 v2 (v3 + v5) fld else (if v1 = (2 : Int32) then fX3_whole_45 v2 (v3 - v5) fld else (if v1 = (3 : Int32) then fX3_whole_59 v2 (v3 * v5) fld else (if v1 = (4 : Int32) then (if v5 = (-1 : Int64) then fX3_whole_85 v2 (-v3) fld else fX3_whole_85 v2 (v3 / v5) fld) else (if v5 = (-1 : Int64) then fX3_whole_107 v2 (0 : Int64) fld else fX3_whole_107 v2 (jrem v3 v5) fld)))))
def okX3_whole_20 (v1 : Int32) (v2 : Int32) (v3 : Int64) (v5 : Int64) (fld : Int32) : Prop := ((v1 = (1 : Int32) → True) ∧ (¬ v1 = (1 : Int32) → ((v1 = (2 : Int32) → True) ∧ (¬ v1 = (2 : Int32) → ((v1 = (3 : Int32) → True) ∧ (¬ v1 = (3 : Int32) → ((v1 = (4 : Int32) → ((v5 = (-1 : Int64) → True) ∧ (¬ v5 = (-1 : Int64) → ¬ v5 = 0 ∧ True))) ∧ (¬ v1 = (4 : Int32) → ((v5 = (-1 : Int64) → True) ∧ (¬ v5 = (-1 : Int64) → ¬ v5 = 0 ∧ True))))))))))
def fX3_whole_0 (v1 : Int32) (v2 : Int32) (v3 : Int64) (v5 : Int64) (fld : Int32) : Int64 × Int32 := (if (3 : Int32) < v1 then (if v5 = (0 : Int64) then ((0 : Int64), (8 : Int32)) else fX3_whole_20 v1 v2 v3 v5 fld) else fX3_whole_20 v1 v2 v3 v5 fld)
def okX3_whole_0 (v1 : Int32) (v2 : Int32) (v3 : Int64) (v5 : Int64) (fld : Int32) : Prop := (((3 : Int32) < v1 → ((v5 = (0 : Int64) → True) ∧ (¬ v5 = (0 : Int64) → okX3_whole_20 v1 v2 v3 v5 fld))) ∧ (¬ (3 : Int32) < v1 → okX3_whole_20 v1 v2 v3 v5 fld))
def fX3_whole (v1 : Int32) (v2 : Int32) (v3 : Int64) (v5 : Int64) (fld : Int32) : Int64 × Int32 := fX3_whole_0 v1 v2 v3 v5 fld
def okX3_whole (v1 : Int32) (v2 : Int32) (v3 : Int64) (v5 : Int64) (fld : Int32) : Prop := okX3_whole_0 v1 v2 v3 v5 fld
def fX3_floating_162 (v1 : Int32) (v2 : Int64) (v4 : Int64) (v8 : Int64) (v10 : Int32) (fld : Int32) : Int64 × Int32 := (if v10 = (0) then (if v1 < (3 : Int32) then ((fX2_add v2 v8), fld) else (if v1 = (3 : Int32) then ((fX2_multiply v2 v4), fld) else (if v1 = (4 : Int32) then ((fX2_divide v2 v4), fld) else ((fX3_rest v2 v4), fld)))) else ((0 : Int64), (8 : Int32)))
def okX3_floating_162 (v1 : Int32) (v2 : Int64) (v4 : Int64) (v8 : Int64) (v10 : Int32) (fld : Int32) : Prop := ((v10 = (0) → ((v1 < (3 : Int32) → (okX2_add v2 v8) ∧ True) ∧ (¬ v1 < (3 : Int32) → ((v1 = (3 : Int32) → (okX2_multiply v2 v4) ∧ True) ∧ (¬ v1 = (3 : Int32) → ((v1 = (4 : Int32) → (okX2_divide v2 v4) ∧ True) ∧ (¬ v1 = (4 : Int32) → (okX3_rest v2 v4) ∧ True))))))) ∧ (¬ v10 = (0) → True))
def fX3_floating_57 (v1 : Int32) (v2 : Int64) (v4 : Int64) (v8 : Int64) (s0 : Int32) (fld : Int32) : Int64 × Int32 := fX3_floating_162 v1 v2 v4 v8 s0 fld
def okX3_floating_57 (v1 : Int32) (v2 : Int64) (v4 : Int64) (v8 : Int64) (s0 : Int32) (fld : Int32) : Prop := okX3_floating_162 v1 v2 v4 v8 s0 fld
def fX3_floating_56 (v1 : Int32) (v2 : Int64) (v4 : Int64) (v8 : Int64) (fld : Int32) : Int64 × Int32 := fX3_floating_57 v1 v2 v4 v8 (0 : Int32) fld
def okX3_floating_56 (v1 : Int32) (v2 : Int64) (v4 : Int64) (v8 : Int64) (fld : Int32) : Prop := okX3_floating_57 v1 v2 v4 v8 (0 : Int32) fld
def fX3_floating_97 (v1 : Int32) (v2 : Int64) (v4 : Int64) (v8 : Int64) (s0 : Int32) (fld : Int32) : Int64 × Int32 := fX3_floating_162 v1 v2 v4 v8 s0 fld
def okX3_floating_97 (v1 : Int32) (v2 : Int64) (v4 : Int64) (v8 : Int64) (s0 : Int32) (fld : Int32) : Prop := okX3_floating_162 v1 v2 v4 v8 s0 fld
def fX3_floating_92 (v1 : Int32) (v2 : Int64) (v4 : Int64) (v8 : Int64) (fld : Int32) : Int64 × Int32 := fX3_floating_97 v1 v2 v4 v8 (1 : Int32) fld
def okX3_floating_92 (v1 : Int32) (v2 : Int64) (v4 : Int64) (v8 : Int64) (fld : Int32) : Prop := okX3_floating_97 v1 v2 v4 v8 (1 : Int32) fld
def fX3_floating_96 (v1 : Int32) (v2 : Int64) (v4 : Int64) (v8 : Int64) (fld : Int32) : Int64 × Int32 := fX3_floating_97 v1 v2 v4 v8 (0 : Int32) fld
def okX3_floating_96 (v1 : Int32) (v2 : Int64) (v4 : Int64) (v8 : Int64) (fld : Int32) : Prop := okX3_floating_97 v1 v2 v4 v8 (0 : Int32) fld
def fX3_floating_80 (v1 : Int32) (v2 : Int64) (v4 : Int64) (v7 : Int32) (v8 : Int64) (fld : Int32) : Int64 × Int32 := (if v7 = (0) then fX3_floating_96 v1 v2 v4 v8 fld else (if (fX2_isZero v2) = (0) then fX3_floating_96 v1 v2 v4 v8 fld else fX3_floating_92 v1 v2 v4 v8 fld))
def okX3_floating_80 (v1 : Int32) (v2 : Int64) (v4 : Int64) (v7 : Int32) (v8 : Int64) (fld : Int32) : Prop := ((v7 = (0) → okX3_floating_96 v1 v2 v4 v8 fld) ∧ (¬ v7 = (0) → (((fX2_isZero v2) = (0) → okX3_floating_96 v1 v2 v4 v8 fld) ∧ (¬ (fX2_isZero v2) = (0) → okX3_floating_92 v1 v2 v4 v8 fld))))
def fX3_floating_137 (v1 : Int32) (v2 : Int64) (v4 : Int64) (v8 : Int64) (s0 : Int32) (fld : Int32) : Int64 × Int32 := fX3_floating_162 v1 v2 v4 v8 s0 fld
def okX3_floating_137 (v1 : Int32) (v2 : Int64) (v4 : Int64) (v8 : Int64) (s0 : Int32) (fld : Int32) : Prop := okX3_floating_162 v1 v2 v4 v8 s0 fld
def fX3_floating_132 (v1 : Int32) (v2 : Int64) (v4 : Int64) (v8 : Int64) (fld : Int32) : Int64 × Int32 := fX3_floating_137 v1 v2 v4 v8 (1 : Int32) fld
def okX3_floating_132 (v1 : Int32) (v2 : Int64) (v4 : Int64) (v8 : Int64) (fld : Int32) : Prop := okX3_floating_137 v1 v2 v4 v8 (1 : Int32) fld
def fX3_floating_136 (v1 : Int32) (v2 : Int64) (v4 : Int64) (v8 : Int64) (fld : Int32) : Int64 × Int32 := fX3_floating_137 v1 v2 v4 v8 (0 : Int32) fld
def okX3_floating_136 (v1 : Int32) (v2 : Int64) (v4 : Int64) (v8 : Int64) (fld : Int32) : Prop := okX3_floating_137 v1 v2 v4 v8 (0 : Int32) fld
def fX3_floating_117 (v1 : Int32) (v2 : Int64) (v4 : Int64) (v8 : Int64) (fld : Int32) : Int64 × Int32 := (if (fX2_isZero v2) = (0) then fX3_floating_136 v1 v2 v4 v8 fld else (if (fX2_isZero v4) = (0) then fX3_floating_136 v1 v2 v4 v8 fld else fX3_floating_132 v1 v2 v4 v8 fld))
def okX3_floating_117 (v1 : Int32) (v2 : Int64) (v4 : Int64) (v8 : Int64) (fld : Int32) : Prop := (((fX2_isZero v2) = (0) → okX3_floating_136 v1 v2 v4 v8 fld) ∧ (¬ (fX2_isZero v2) = (0) → (((fX2_isZero v4) = (0) → okX3_floating_136 v1 v2 v4 v8 fld) ∧ (¬ (fX2_isZero v4) = (0) → okX3_floating_132 v1 v2 v4 v8 fld))))
def fX3_floating_160 (v1 : Int32) (v2 : Int64) (v4 : Int64) (v8 : Int64) (s0 : Int32) (fld : Int32) : Int64 × Int32 := fX3_floating_162 v1 v2 v4 v8 s0 fld
def okX3_floating_160 (v1 : Int32) (v2 : Int64) (v4 : Int64) (v8 : Int64) (s0 : Int32) (fld : Int32) : Prop := okX3_floating_162 v1 v2 v4 v8 s0 fld
def fX3_floating_155 (v1 : Int32) (v2 : Int64) (v4 : Int64) (v8 : Int64) (fld : Int32) : Int64 × Int32 := fX3_floating_160 v1 v2 v4 v8 (1 : Int32) fld
def okX3_floating_155 (v1 : Int32) (v2 : Int64) (v4 : Int64) (v8 : Int64) (fld : Int32) : Prop := okX3_floating_160 v1 v2 v4 v8 (1 : Int32) fld
def fX3_floating_28 (v1 : Int32) (v2 : Int64) (v4 : Int64) (v6 : Int32) (v7 : Int32) (s0 : Int64) (fld : Int32) : Int64 × Int32 := (if v1 < (3 : Int32) then (if v6 = (0) then fX3_floating_56 v1 v2 v4 s0 fld else (if v7 = (0) then fX3_floating_56 v1 v2 v4 s0 fld else (if v2 = s0 then fX3_floating_56 v1 v2 v4 s0 fld else fX3_floating_57 v1 v2 v4 s0 (1 : Int32) fld))) else (if v1 = (3 : Int32) then (if v6 = (0) then fX3_floating_80 v1 v2 v4 v7 s0 fld else (if (fX2_isZero v4) = (0) then fX3_floating_80 v1 v2 v4 v7 s0 fld else fX3_floating_92 v1 v2 v4 s0 fld)) else (if v1 = (4 : Int32) then (if v6 = (0) then fX3_floating_117 v1 v2 v4 s0 fld else (if v7 = (0) then fX3_floating_117 v1 v2 v4 s0 fld else fX3_floating_132 v1 v2 v4 s0 fld)) else (if v6 = (0) then (if (fX2_isZero v4) = (0) then fX3_floating_160 v1 v2 v4 s0 (0 : Int32) fld else fX3_floating_155 v1 v2 v4 s0 fld) else fX3_floating_155 v1 v2 v4 s0 fld))))
def okX3_floating_28 (v1 : Int32) (v2 : Int64) (v4 : Int64) (v6 : Int32) (v7 : Int32) (s0 : Int64) (fld : Int32) : Prop := ((v1 < (3 : Int32) → ((v6 = (0) → okX3_floating_56 v1 v2 v4 s0 fld) ∧ (¬ v6 = (0) → ((v7 = (0) → okX3_floating_56 v1 v2 v4 s0 fld) ∧ (¬ v7 = (0) → ((v2 = s0 → okX3_floating_56 v1 v2 v4 s0 fld) ∧ (¬ v2 = s0 → okX3_floating_57 v1 v2 v4 s0 (1 : Int32) fld))))))) ∧ (¬ v1 < (3 : Int32) → ((v1 = (3 : Int32) → ((v6 = (0) → okX3_floating_80 v1 v2 v4 v7 s0 fld) ∧ (¬ v6 = (0) → (((fX2_isZero v4) = (0) → okX3_floating_80 v1 v2 v4 v7 s0 fld) ∧ (¬ (fX2_isZero v4) = (0) → okX3_floating_92 v1 v2 v4 s0 fld))))) ∧ (¬ v1 = (3 : Int32) → ((v1 = (4 : Int32) → ((v6 = (0) → okX3_floating_117 v1 v2 v4 s0 fld) ∧ (¬ v6 = (0) → ((v7 = (0) → okX3_floating_117 v1 v2 v4 s0 fld) ∧ (¬ v7 = (0) → okX3_floating_132 v1 v2 v4 s0 fld))))) ∧ (¬ v1 = (4 : Int32) → ((v6 = (0) → (((fX2_isZero v4) = (0) → okX3_floating_160 v1 v2 v4 s0 (0 : Int32) fld) ∧ (¬ (fX2_isZero v4) = (0) → okX3_floating_155 v1 v2 v4 s0 fld))) ∧ (¬ v6 = (0) → okX3_floating_155 v1 v2 v4 s0 fld))))))))
def fX3_floating_13 (v1 : Int32) (v2 : Int64) (v4 : Int64) (v6 : Int32) (v7 : Int32) (fld : Int32) : Int64 × Int32 := (if v1 = (2 : Int32) then fX3_floating_28 v1 v2 v4 v6 v7 (fX2_negative v4) fld else fX3_floating_28 v1 v2 v4 v6 v7 v4 fld)
def okX3_floating_13 (v1 : Int32) (v2 : Int64) (v4 : Int64) (v6 : Int32) (v7 : Int32) (fld : Int32) : Prop := ((v1 = (2 : Int32) → okX3_floating_28 v1 v2 v4 v6 v7 (fX2_negative v4) fld) ∧ (¬ v1 = (2 : Int32) → okX3_floating_28 v1 v2 v4 v6 v7 v4 fld))
def fX3_floating_6 (v1 : Int32) (v2 : Int64) (v4 : Int64) (v6 : Int32) (fld : Int32) : Int64 × Int32 := fX3_floating_13 v1 v2 v4 v6 (fX2_isInfinite v4) fld
def okX3_floating_6 (v1 : Int32) (v2 : Int64) (v4 : Int64) (v6 : Int32) (fld : Int32) : Prop := okX3_floating_13 v1 v2 v4 v6 (fX2_isInfinite v4) fld
def fX3_floating_0 (v1 : Int32) (v2 : Int64) (v4 : Int64) (fld : Int32) : Int64 × Int32 := fX3_floating_6 v1 v2 v4 (fX2_isInfinite v2) fld
def okX3_floating_0 (v1 : Int32) (v2 : Int64) (v4 : Int64) (fld : Int32) : Prop := okX3_floating_6 v1 v2 v4 (fX2_isInfinite v2) fld
def fX3_floating (v1 : Int32) (v2 : Int64) (v4 : Int64) (fld : Int32) : Int64 × Int32 := fX3_floating_0 v1 v2 v4 fld
def okX3_floating (v1 : Int32) (v2 : Int64) (v4 : Int64) (fld : Int32) : Prop := okX3_floating_0 v1 v2 v4 fld
def fX3_work_128 (v8 : Int32) (s0 : Int64) (fld : Int32) : Int64 × Int32 := (if (0) < fld then ((0 : Int64), fld) else (if v8 = (6 : Int32) then ((((fX2_narrow s0).toInt64) &&& (4294967295 : Int64)), fld) else (s0, fld)))
def okX3_work_128 (v8 : Int32) (s0 : Int64) (fld : Int32) : Prop := (((0) < fld → True) ∧ (¬ (0) < fld → ((v8 = (6 : Int32) → (okX2_narrow s0) ∧ True) ∧ (¬ v8 = (6 : Int32) → True))))
def fX3_work_73 (v1 : Int32) (v8 : Int32) (v9 : Int64) (v11 : Int64) (fld : Int32) : Int64 × Int32 := (if v8 < (6 : Int32) then ((fX3_whole v1 v8 v9 v11 fld).1, (fX3_whole v1 v8 v9 v11 fld).2) else (if v8 = (6 : Int32) then fX3_work_128 v8 ((fX3_floating v1 (fX2_wide (v9.toInt32)) (fX2_wide (v11.toInt32)) fld).1) ((fX3_floating v1 (fX2_wide (v9.toInt32)) (fX2_wide (v11.toInt32)) fld).2) else fX3_work_128 v8 ((fX3_floating v1 v9 v11 fld).1) ((fX3_floating v1 v9 v11 fld).2)))
def okX3_work_73 (v1 : Int32) (v8 : Int32) (v9 : Int64) (v11 : Int64) (fld : Int32) : Prop := ((v8 < (6 : Int32) → (okX3_whole v1 v8 v9 v11 fld) ∧ True) ∧ (¬ v8 < (6 : Int32) → ((v8 = (6 : Int32) → (okX2_wide (v9.toInt32)) ∧ (okX2_wide (v11.toInt32)) ∧ (okX3_floating v1 (fX2_wide (v9.toInt32)) (fX2_wide (v11.toInt32)) fld) ∧ okX3_work_128 v8 ((fX3_floating v1 (fX2_wide (v9.toInt32)) (fX2_wide (v11.toInt32)) fld).1) ((fX3_floating v1 (fX2_wide (v9.toInt32)) (fX2_wide (v11.toInt32)) fld).2)) ∧ (¬ v8 = (6 : Int32) → (okX3_floating v1 v9 v11 fld) ∧ okX3_work_128 v8 ((fX3_floating v1 v9 v11 fld).1) ((fX3_floating v1 v9 v11 fld).2)))))
def fX3_work_62 (v1 : Int32) (v5 : Int32) (v6 : Int64) (v8 : Int32) (v9 : Int64) (fld : Int32) : Int64 × Int32 := fX3_work_73 v1 v8 v9 (fX3_widened v6 v5 v8) fld
def okX3_work_62 (v1 : Int32) (v5 : Int32) (v6 : Int64) (v8 : Int32) (v9 : Int64) (fld : Int32) : Prop := (okX3_widened v6 v5 v8) ∧ okX3_work_73 v1 v8 v9 (fX3_widened v6 v5 v8) fld
def fX3_work_53 (v1 : Int32) (v2 : Int32) (v3 : Int64) (v5 : Int32) (v6 : Int64) (v8 : Int32) (fld : Int32) : Int64 × Int32 := fX3_work_62 v1 v5 v6 v8 (fX3_widened v3 v2 v8) fld
def okX3_work_53 (v1 : Int32) (v2 : Int32) (v3 : Int64) (v5 : Int32) (v6 : Int64) (v8 : Int32) (fld : Int32) : Prop := (okX3_widened v3 v2 v8) ∧ okX3_work_62 v1 v5 v6 v8 (fX3_widened v3 v2 v8) fld
def fX3_work_29 (v1 : Int32) (v2 : Int32) (v3 : Int64) (v5 : Int32) (v6 : Int64) (s1 : Int32) (fld : Int32) : Int64 × Int32 := (if (0) < s1 then ((0 : Int64), s1) else fX3_work_53 v1 v2 v3 v5 v6 (imax (4 : Int32) (imax v2 v5)) s1)
def okX3_work_29 (v1 : Int32) (v2 : Int32) (v3 : Int64) (v5 : Int32) (v6 : Int64) (s1 : Int32) (fld : Int32) : Prop := (((0) < s1 → True) ∧ (¬ (0) < s1 → okX3_work_53 v1 v2 v3 v5 v6 (imax (4 : Int32) (imax v2 v5)) s1))
def fX3_work_28 (v1 : Int32) (v2 : Int32) (v3 : Int64) (v5 : Int32) (v6 : Int64) (fld : Int32) : Int64 × Int32 := fX3_work_29 v1 v2 v3 v5 v6 (1 : Int32) fld
def okX3_work_28 (v1 : Int32) (v2 : Int32) (v3 : Int64) (v5 : Int32) (v6 : Int64) (fld : Int32) : Prop := okX3_work_29 v1 v2 v3 v5 v6 (1 : Int32) fld
def fX3_work_0 (v1 : Int32) (v2 : Int32) (v3 : Int64) (v5 : Int32) (v6 : Int64) (fld : Int32) : Int64 × Int32 := (if v1 < (1 : Int32) then fX3_work_28 v1 v2 v3 v5 v6 fld else (if (5 : Int32) < v1 then fX3_work_28 v1 v2 v3 v5 v6 fld else (if ((fX3_areNumbers v2 v3 v5 v6 fld).1) = (0) then fX3_work_28 v1 v2 v3 v5 v6 ((fX3_areNumbers v2 v3 v5 v6 fld).2) else fX3_work_29 v1 v2 v3 v5 v6 (0 : Int32) ((fX3_areNumbers v2 v3 v5 v6 fld).2))))
def okX3_work_0 (v1 : Int32) (v2 : Int32) (v3 : Int64) (v5 : Int32) (v6 : Int64) (fld : Int32) : Prop := ((v1 < (1 : Int32) → okX3_work_28 v1 v2 v3 v5 v6 fld) ∧ (¬ v1 < (1 : Int32) → (((5 : Int32) < v1 → okX3_work_28 v1 v2 v3 v5 v6 fld) ∧ (¬ (5 : Int32) < v1 → (okX3_areNumbers v2 v3 v5 v6 fld) ∧ ((((fX3_areNumbers v2 v3 v5 v6 fld).1) = (0) → okX3_work_28 v1 v2 v3 v5 v6 ((fX3_areNumbers v2 v3 v5 v6 fld).2)) ∧ (¬ ((fX3_areNumbers v2 v3 v5 v6 fld).1) = (0) → okX3_work_29 v1 v2 v3 v5 v6 (0 : Int32) ((fX3_areNumbers v2 v3 v5 v6 fld).2)))))))
def fX3_work (v1 : Int32) (v2 : Int32) (v3 : Int64) (v5 : Int32) (v6 : Int64) (fld : Int32) : Int64 × Int32 := fX3_work_0 v1 v2 v3 v5 v6 fld
def okX3_work (v1 : Int32) (v2 : Int32) (v3 : Int64) (v5 : Int32) (v6 : Int64) (fld : Int32) : Prop := okX3_work_0 v1 v2 v3 v5 v6 fld
def fX3_shift_106 (v1 : Int32) (v7 : Int32) (v8 : Int32) (fld : Int32) : Int64 × Int32 := (if v1 = (6 : Int32) then ((ishl v8 v7).toInt64, fld) else (if v1 = (7 : Int32) then ((ishr v8 v7).toInt64, fld) else ((iushr v8 v7).toInt64, fld)))
def fX3_shift_66 (v1 : Int32) (v2 : Int32) (v3 : Int64) (v7 : Int32) (fld : Int32) : Int64 × Int32 := (if v2 = (5 : Int32) then (if v1 = (6 : Int32) then ((jshl v3 v7), fld) else (if v1 = (7 : Int32) then ((jshr v3 v7), fld) else ((jushr v3 v7), fld))) else fX3_shift_106 v1 v7 (v3.toInt32) fld)
def fX3_shift_63 (v1 : Int32) (v2 : Int32) (v3 : Int64) (s0 : Int32) (s1 : Int32) (fld : Int32) : Int64 × Int32 := fX3_shift_66 v1 v2 v3 (s0 &&& s1) fld
def fX3_shift_36 (v1 : Int32) (v2 : Int32) (v3 : Int64) (v5 : Int64) (s1 : Int32) (fld : Int32) : Int64 × Int32 := (if (0) < s1 then ((0 : Int64), s1) else (if v2 = (5 : Int32) then fX3_shift_63 v1 v2 v3 (v5.toInt32) (63 : Int32) s1 else fX3_shift_63 v1 v2 v3 (v5.toInt32) (31 : Int32) s1))
def fX3_shift_35 (v1 : Int32) (v2 : Int32) (v3 : Int64) (v5 : Int64) (fld : Int32) : Int64 × Int32 := fX3_shift_36 v1 v2 v3 v5 (1 : Int32) fld
def fX3_shift_0 (v1 : Int32) (v2 : Int32) (v3 : Int64) (v5 : Int64) (fld : Int32) : Int64 × Int32 := (if v1 < (6 : Int32) then fX3_shift_35 v1 v2 v3 v5 fld else (if (8 : Int32) < v1 then fX3_shift_35 v1 v2 v3 v5 fld else (if v2 < (1 : Int32) then fX3_shift_35 v1 v2 v3 v5 fld else (if (5 : Int32) < v2 then fX3_shift_35 v1 v2 v3 v5 fld else (if (fX3_hasBits v2 v3) = (0) then fX3_shift_35 v1 v2 v3 v5 fld else fX3_shift_36 v1 v2 v3 v5 (0 : Int32) fld)))))
def okX3_shift_0 (v1 : Int32) (v2 : Int32) (v3 : Int64) (v5 : Int64) (fld : Int32) : Prop := ((v1 < (6 : Int32) → True) ∧ (¬ v1 < (6 : Int32) → (((8 : Int32) < v1 → True) ∧ (¬ (8 : Int32) < v1 → ((v2 < (1 : Int32) → True) ∧ (¬ v2 < (1 : Int32) → (((5 : Int32) < v2 → True) ∧ (¬ (5 : Int32) < v2 → (okX3_hasBits v2 v3) ∧ (((fX3_hasBits v2 v3) = (0) → True) ∧ (¬ (fX3_hasBits v2 v3) = (0) → True))))))))))
def fX3_shift (v1 : Int32) (v2 : Int32) (v3 : Int64) (v5 : Int64) (fld : Int32) : Int64 × Int32 := fX3_shift_0 v1 v2 v3 v5 fld
def okX3_shift (v1 : Int32) (v2 : Int32) (v3 : Int64) (v5 : Int64) (fld : Int32) : Prop := okX3_shift_0 v1 v2 v3 v5 fld
def fJ13_compare_74951_0 (v0 : Int64) (v2 : Int64) : Int32 := (if v0 < v2 then (-1 : Int32) else (if v0 = v2 then (0 : Int32) else (1 : Int32)))
def fJ13_compare_74951 (v0 : Int64) (v2 : Int64) : Int32 := fJ13_compare_74951_0 v0 v2
def fX3_compare_63 (v7 : Int32) (v8 : Int64) (v10 : Int64) (fld : Int32) : Int32 × Int32 := (if v7 < (6 : Int32) then ((fJ13_compare_74951 v8 v10), fld) else (if v7 = (6 : Int32) then ((fX2_compare (fX2_wide (v8.toInt32)) (fX2_wide (v10.toInt32))), fld) else ((fX2_compare v8 v10), fld)))
def okX3_compare_63 (v7 : Int32) (v8 : Int64) (v10 : Int64) (fld : Int32) : Prop := ((v7 < (6 : Int32) → True) ∧ (¬ v7 < (6 : Int32) → ((v7 = (6 : Int32) → (okX2_wide (v8.toInt32)) ∧ (okX2_wide (v10.toInt32)) ∧ True) ∧ (¬ v7 = (6 : Int32) → True))))
def fX3_compare_52 (v4 : Int32) (v5 : Int64) (v7 : Int32) (v8 : Int64) (fld : Int32) : Int32 × Int32 := fX3_compare_63 v7 v8 (fX3_widened v5 v4 v7) fld
def okX3_compare_52 (v4 : Int32) (v5 : Int64) (v7 : Int32) (v8 : Int64) (fld : Int32) : Prop := (okX3_widened v5 v4 v7) ∧ okX3_compare_63 v7 v8 (fX3_widened v5 v4 v7) fld
def fX3_compare_43 (v1 : Int32) (v2 : Int64) (v4 : Int32) (v5 : Int64) (v7 : Int32) (fld : Int32) : Int32 × Int32 := fX3_compare_52 v4 v5 v7 (fX3_widened v2 v1 v7) fld
def okX3_compare_43 (v1 : Int32) (v2 : Int64) (v4 : Int32) (v5 : Int64) (v7 : Int32) (fld : Int32) : Prop := (okX3_widened v2 v1 v7) ∧ okX3_compare_52 v4 v5 v7 (fX3_widened v2 v1 v7) fld
def fX3_compare_19 (v1 : Int32) (v2 : Int64) (v4 : Int32) (v5 : Int64) (s1 : Int32) (fld : Int32) : Int32 × Int32 := (if (0) < s1 then ((2 : Int32), s1) else fX3_compare_43 v1 v2 v4 v5 (imax (4 : Int32) (imax v1 v4)) s1)
def okX3_compare_19 (v1 : Int32) (v2 : Int64) (v4 : Int32) (v5 : Int64) (s1 : Int32) (fld : Int32) : Prop := (((0) < s1 → True) ∧ (¬ (0) < s1 → okX3_compare_43 v1 v2 v4 v5 (imax (4 : Int32) (imax v1 v4)) s1))
def fX3_compare_0 (v1 : Int32) (v2 : Int64) (v4 : Int32) (v5 : Int64) (fld : Int32) : Int32 × Int32 := (if ((fX3_areNumbers v1 v2 v4 v5 fld).1) = (0) then fX3_compare_19 v1 v2 v4 v5 (1 : Int32) ((fX3_areNumbers v1 v2 v4 v5 fld).2) else fX3_compare_19 v1 v2 v4 v5 (0 : Int32) ((fX3_areNumbers v1 v2 v4 v5 fld).2))
def okX3_compare_0 (v1 : Int32) (v2 : Int64) (v4 : Int32) (v5 : Int64) (fld : Int32) : Prop := (okX3_areNumbers v1 v2 v4 v5 fld) ∧ ((((fX3_areNumbers v1 v2 v4 v5 fld).1) = (0) → okX3_compare_19 v1 v2 v4 v5 (1 : Int32) ((fX3_areNumbers v1 v2 v4 v5 fld).2)) ∧ (¬ ((fX3_areNumbers v1 v2 v4 v5 fld).1) = (0) → okX3_compare_19 v1 v2 v4 v5 (0 : Int32) ((fX3_areNumbers v1 v2 v4 v5 fld).2)))
def fX3_compare (v1 : Int32) (v2 : Int64) (v4 : Int32) (v5 : Int64) (fld : Int32) : Int32 × Int32 := fX3_compare_0 v1 v2 v4 v5 fld
def okX3_compare (v1 : Int32) (v2 : Int64) (v4 : Int32) (v5 : Int64) (fld : Int32) : Prop := okX3_compare_0 v1 v2 v4 v5 fld
def fX3_ranked_23 (s0 : Int64) : Int64 := (if s0 < (0 : Int64) then (s0 ^^^ (9223372036854775807 : Int64)) else s0)
def fX3_ranked_0 (v0 : Int32) (v1 : Int64) : Int64 := (if v0 < (6 : Int32) then v1 else (if v0 = (6 : Int32) then fX3_ranked_23 (fX2_wide (v1.toInt32)) else fX3_ranked_23 v1))
def okX3_ranked_0 (v0 : Int32) (v1 : Int64) : Prop := ((v0 < (6 : Int32) → True) ∧ (¬ v0 < (6 : Int32) → ((v0 = (6 : Int32) → (okX2_wide (v1.toInt32)) ∧ True) ∧ (¬ v0 = (6 : Int32) → True))))
def fX3_ranked (v0 : Int32) (v1 : Int64) : Int64 := fX3_ranked_0 v0 v1
def okX3_ranked (v0 : Int32) (v1 : Int64) : Prop := okX3_ranked_0 v0 v1
def fX3_order_33 (v1 : Int32) (v2 : Int64) (v4 : Int64) (s1 : Int32) (fld : Int32) : Int32 × Int32 := (if (0) < s1 then ((2 : Int32), s1) else ((fJ13_compare_74951 (fX3_ranked v1 v2) (fX3_ranked v1 v4)), s1))
def okX3_order_33 (v1 : Int32) (v2 : Int64) (v4 : Int64) (s1 : Int32) (fld : Int32) : Prop := (((0) < s1 → True) ∧ (¬ (0) < s1 → (okX3_ranked v1 v2) ∧ (okX3_ranked v1 v4) ∧ True))
def fX3_order_32 (v1 : Int32) (v2 : Int64) (v4 : Int64) (fld : Int32) : Int32 × Int32 := fX3_order_33 v1 v2 v4 (1 : Int32) fld
def okX3_order_32 (v1 : Int32) (v2 : Int64) (v4 : Int64) (fld : Int32) : Prop := okX3_order_33 v1 v2 v4 (1 : Int32) fld
def fX3_order_0 (v1 : Int32) (v2 : Int64) (v4 : Int64) (fld : Int32) : Int32 × Int32 := (if v1 < (0) then fX3_order_32 v1 v2 v4 fld else (if (7 : Int32) < v1 then fX3_order_32 v1 v2 v4 fld else (if (fX3_hasBits v1 v2) = (0) then fX3_order_32 v1 v2 v4 fld else (if (fX3_hasBits v1 v4) = (0) then fX3_order_32 v1 v2 v4 fld else fX3_order_33 v1 v2 v4 (0 : Int32) fld))))
def okX3_order_0 (v1 : Int32) (v2 : Int64) (v4 : Int64) (fld : Int32) : Prop := ((v1 < (0) → okX3_order_32 v1 v2 v4 fld) ∧ (¬ v1 < (0) → (((7 : Int32) < v1 → okX3_order_32 v1 v2 v4 fld) ∧ (¬ (7 : Int32) < v1 → (okX3_hasBits v1 v2) ∧ (((fX3_hasBits v1 v2) = (0) → okX3_order_32 v1 v2 v4 fld) ∧ (¬ (fX3_hasBits v1 v2) = (0) → (okX3_hasBits v1 v4) ∧ (((fX3_hasBits v1 v4) = (0) → okX3_order_32 v1 v2 v4 fld) ∧ (¬ (fX3_hasBits v1 v4) = (0) → okX3_order_33 v1 v2 v4 (0 : Int32) fld))))))))
def fX3_order (v1 : Int32) (v2 : Int64) (v4 : Int64) (fld : Int32) : Int32 × Int32 := fX3_order_0 v1 v2 v4 fld
def okX3_order (v1 : Int32) (v2 : Int64) (v4 : Int64) (fld : Int32) : Prop := okX3_order_0 v1 v2 v4 fld
end
section
theorem okX0_roomBelow_n (v0 : Int32) (v1 : Int64) : ∀ (n : Nat) (v3 : Int32), 0 < n → v0.toInt - v3.toInt < (n : Int) → okX0_roomBelow_2 n v0 v1 v3 := by
  intro n
  induction n with
  | zero => intro v3 h0 _; omega
  | succ n ih =>
    intro v3 h0 h
    rw [okX0_roomBelow_2]
    refine ⟨fun hc => ⟨fun _ => ?_, fun _ => trivial⟩, fun _ => trivial⟩
    have hc' := Int32.lt_iff_toInt_lt.mp hc
    have h1 := fb_rng v0
    have h2 := fb_rng v3
    have e1 : (1 : Int32).toInt = 1 := by decide
    have e : (v3 + 1).toInt = v3.toInt + 1 := by rw [fb_addI (by rw [e1]; omega) (by rw [e1]; omega), e1]
    exact ih _ (by omega) (by rw [e]; omega)
theorem okX0_roomBelow_all (v0 : Int32) (v1 : Int64) : okX0_roomBelow v0 v1 := by
  rw [okX0_roomBelow, okX0_roomBelow_0]
  refine okX0_roomBelow_n _ _ _ _ (by omega) ?_
  have e0 : (0 : Int32).toInt = 0 := by decide
  have : v0.toInt ≤ (v0.toNatClampNeg : Int) := by
    rw [show v0.toNatClampNeg = v0.toInt.toNat from rfl]; omega
  rw [e0]; omega
theorem okX0_topOfQuotient_n (v2 : Int64) (h2 : ¬ v2 = 0) : ∀ (n : Nat) (v4 v6 : Int64) (v8 : Int32), 0 < n → 6 - v8.toInt < (n : Int) → okX0_topOfQuotient_21 n v2 v4 v6 v8 := by
  intro n
  induction n with
  | zero => intro v4 v6 v8 h0 _; omega
  | succ n ih =>
    intro v4 v6 v8 h0 h
    rw [okX0_topOfQuotient_21]
    refine ⟨fun hc => ⟨h2, h2, ?_⟩, fun _ => trivial⟩
    have hc' := Int32.lt_iff_toInt_lt.mp hc
    have e6 : (6 : Int32).toInt = 6 := by decide
    have h3 := fb_rng v8
    have e1 : (1 : Int32).toInt = 1 := by decide
    rw [e6] at hc'
    have e : (v8 + 1).toInt = v8.toInt + 1 := by rw [fb_addI (by rw [e1]; omega) (by rw [e1]; omega), e1]
    exact ih _ _ _ (by omega) (by rw [e]; omega)
theorem okX0_topOfQuotient_all (v0 v2 : Int64) : okX0_topOfQuotient v0 v2 := by
  rw [okX0_topOfQuotient, okX0_topOfQuotient_0]
  refine ⟨fun _ => trivial, fun h => ⟨h, ?_⟩⟩
  rw [okX0_topOfQuotient_13]
  refine ⟨h, ?_⟩
  rw [okX0_topOfQuotient_18]
  exact okX0_topOfQuotient_n v2 h _ _ _ _ (by omega) (by decide)
theorem okX0_restAbove_n (v3 : Int64) (h3 : ¬ v3 = 0) : ∀ (n : Nat) (v5 : Int64) (v7 : Int32), 0 < n → v7.toInt < (n : Int) → okX0_restAbove_16 n v3 v5 v7 := by
  intro n
  induction n with
  | zero => intro v5 v7 h0 _; omega
  | succ n ih =>
    intro v5 v7 h0 h
    rw [okX0_restAbove_16]
    refine ⟨fun hc => ⟨h3, ?_⟩, fun _ => trivial⟩
    have hc' := Int32.lt_iff_toInt_lt.mp hc
    have e0 : (0 : Int32).toInt = 0 := by decide
    have h4 := fb_rng v7
    have e1 : (-10 : Int32).toInt = -10 := by decide
    rw [e0] at hc'
    have e : (v7 + (-10)).toInt = v7.toInt + (-10) := by rw [fb_addI (by rw [e1]; omega) (by rw [e1]; omega), e1]
    exact ih _ _ (by omega) (by rw [e]; omega)
theorem okX0_restAbove_all (v0 : Int64) (v2 : Int32) (v3 : Int64) : okX0_restAbove v0 v2 v3 := by
  rw [okX0_restAbove, okX0_restAbove_0]
  refine ⟨fun _ => trivial, fun h => ⟨h, ?_⟩⟩
  rw [okX0_restAbove_13]
  refine okX0_restAbove_n v3 h _ _ _ (by omega) ?_
  have : v2.toInt ≤ (v2.toNatClampNeg : Int) := by
    rw [show v2.toNatClampNeg = v2.toInt.toNat from rfl]; omega
  omega
end
section
theorem px_z {v : Int32} (h : v = 0 ∨ v = 1) : narrow .boolean (.int v) = .int v := by
  rcases h with rfl | rfl <;> decide
/-- the links to a nest mate's private methods -/
def nx_N (U : State) : Prop := va_Nw (.methodLinkNest RX3 75 yX2_significand RX3) U ∧ va_Nw (.methodLinkNest RX3 78 yX2_exponent RX3) U ∧ va_Nw (.methodLinkNest RX3 83 yX2_made RX3) U
theorem nx_N.warm {s U : State} (hW : s.WarmedH U.vm) (h : nx_N s) : nx_N U := ⟨va_Nw.warmM hW h.1, va_Nw.warmM hW h.2.1, va_Nw.warmM hW h.2.2⟩
theorem nx_N.same {u U : State} (e : u.vm = U.vm) (h : nx_N u) : nx_N U := ⟨va_Nw.same rfl e h.1, va_Nw.same rfl e h.2.1, va_Nw.same rfl e h.2.2⟩
def px_PN (av : List Value) : Array Value → State → Prop := fun v U => v = av.toArray ∧ nx_N U
theorem px_blindN (av : List Value) : FrameBlind (px_PN av) := fun _ _ _ _ h => ⟨h.1, nx_N.same rfl h.2⟩
abbrev px_MN (l : Launch) (y : MethodName) (ws : List Cond) (rm : Room) (av : List Value) (r : Value) : Prop := Met l y ws rm (px_PN av) (px_Q r) 0 0 (fun _ => False)
/-- an object of one int field: a method's start, and its end -/
def ob_P (D : va_G) (ci : Nat) (this : Nat) (f : Int32) (av : List Value) : Array Value → State → Prop := fun v U => v = av.toArray ∧ va_P D vwCl [(this, .inr (ci, [.int f]))] U.heap ∧ va_K D vwCl [] U
def ob_PN (D : va_G) (ci : Nat) (this : Nat) (f : Int32) (av : List Value) : Array Value → State → Prop := fun v U => v = av.toArray ∧ va_P D vwCl [(this, .inr (ci, [.int f]))] U.heap ∧ va_K D vwCl [] U ∧ nx_N U
theorem ob_blind (D : va_G) (ci this : Nat) (f : Int32) (av : List Value) : FrameBlind (ob_P D ci this f av) := fun a U g mk h => ⟨h.1, h.2.1, va_K.moved (u := U) (U := U.calling g mk a) (Vm.Alike.refl U.vm) h.2.2⟩
theorem ob_blindN (D : va_G) (ci this : Nat) (f : Int32) (av : List Value) : FrameBlind (ob_PN D ci this f av) := fun a U g mk h => ⟨h.1, h.2.1, va_K.moved (u := U) (U := U.calling g mk a) (Vm.Alike.refl U.vm) h.2.2.1, nx_N.same rfl h.2.2.2⟩
def ob_QL (D : va_G) (ci this : Nat) (r : Int64 × Int32) : Array Value → State → Outcome → State → Prop := fun _ st o t => o = .returned (some (.long r.1)) ∧ va_P D vwCl [(this, .inr (ci, [.int r.2]))] t.heap ∧ va_F (fun q => q = this) st t
def ob_QI (D : va_G) (ci this : Nat) (r : Int32 × Int32) : Array Value → State → Outcome → State → Prop := fun _ st o t => o = .returned (some (.int r.1)) ∧ va_P D vwCl [(this, .inr (ci, [.int r.2]))] t.heap ∧ va_F (fun q => q = this) st t
def ob_QU (D : va_G) (ci this : Nat) (r : Int32) : Array Value → State → Outcome → State → Prop := fun _ st o t => o = .returned none ∧ va_P D vwCl [(this, .inr (ci, [.int r]))] t.heap ∧ va_F (fun q => q = this) st t
theorem ob_D (this : Nat) (x : va_E) : va_D (fun q => q = this) [(this, x)] := by
  refine ⟨fun i j p q hi hj _ => ?_, fun k q hk => ?_⟩
  · match i, j, hi, hj with
    | 0, 0, _, _ => rfl
    | 0, j + 1, _, hj => simp at hj
    | i + 1, _, hi, _ => simp at hi
  · match k, hk with
    | 0, hk => simp at hk; rw [← hk]
    | k + 1, hk => simp at hk
section OBC
variable {p : Program} {l : Launch} {e : Env} {R : Room} {s : State} {m : MethodId} {args : Array Value} {below : List Frame} {meth : Method} {c : Code} {H : Heap} {locs : List Loc} {cells slots : Nat} {Q : State → Prop}
variable {pc : Nat} {ls : Array Slot} {rest st0 : List Value} {a : Array Value} {D : va_G} {ci this : Nat} {A0 : Nat → Prop} {H0 : Heap}
theorem ob_gol {r : Int64 × Int32} (hr : va_Run p l e R s m args below meth c H locs cells slots 0 0 (F0 m pc ls st0) rest (ob_QL D ci this r a) (fun q => q = this)) (hA : ∀ q, q = this → A0 q) (hS : va_S A0 H0 H locs)
    (kk : ∀ (H1 : Heap) (locs1 : List Loc), va_P D vwCl [(this, .inr (ci, [.int r.2]))] H1 → va_S A0 H0 H1 locs1 → H.size ≤ H1.size → (∀ q : Nat, q < H.size → ¬ q = this → H1[q]? = H[q]?) → W p l e R s m args below meth c H1 locs1 cells slots Q (F0 m (pc + 3) ls (.long r.1 :: rest))) : W p l e R s m args below meth c H locs cells slots Q (F0 m pc ls st0) := by
  intro T hT X
  obtain ⟨v, st₀, t, T', L, h0, X', hL, e1, e2, ⟨hv, hp, hz, hk⟩, st⟩ := hr T hT X
  cases hv
  rw [h0] at hz hk
  obtain ⟨t2, a1, b1⟩ := kk T'.heap (locs ++ L) (by rw [e1]; exact hp) ⟨Nat.le_trans hS.1 (by rw [e1]; exact hz), fun q h1 h2 => by rw [e1, hk q (Nat.lt_of_lt_of_le h1 hS.1) (fun z => h2 (hA q z))]; exact hS.2.1 q h1 h2, fun q hq => by
      rcases List.mem_append.mp hq with h | h
      · exact hS.2.2 q h
      · exact hA _ (hL q h)⟩ (by rw [e1]; exact hz) (fun q h1 h2 => by rw [e1]; exact hk q h1 h2) T' rfl X'
  exact ⟨t2, st t2 a1, b1⟩
theorem ob_goi {r : Int32 × Int32} (hr : va_Run p l e R s m args below meth c H locs cells slots 0 0 (F0 m pc ls st0) rest (ob_QI D ci this r a) (fun q => q = this)) (hA : ∀ q, q = this → A0 q) (hS : va_S A0 H0 H locs)
    (kk : ∀ (H1 : Heap) (locs1 : List Loc), va_P D vwCl [(this, .inr (ci, [.int r.2]))] H1 → va_S A0 H0 H1 locs1 → H.size ≤ H1.size → (∀ q : Nat, q < H.size → ¬ q = this → H1[q]? = H[q]?) → W p l e R s m args below meth c H1 locs1 cells slots Q (F0 m (pc + 3) ls (.int r.1 :: rest))) : W p l e R s m args below meth c H locs cells slots Q (F0 m pc ls st0) := by
  intro T hT X
  obtain ⟨v, st₀, t, T', L, h0, X', hL, e1, e2, ⟨hv, hp, hz, hk⟩, st⟩ := hr T hT X
  cases hv
  rw [h0] at hz hk
  obtain ⟨t2, a1, b1⟩ := kk T'.heap (locs ++ L) (by rw [e1]; exact hp) ⟨Nat.le_trans hS.1 (by rw [e1]; exact hz), fun q h1 h2 => by rw [e1, hk q (Nat.lt_of_lt_of_le h1 hS.1) (fun z => h2 (hA q z))]; exact hS.2.1 q h1 h2, fun q hq => by
      rcases List.mem_append.mp hq with h | h
      · exact hS.2.2 q h
      · exact hA _ (hL q h)⟩ (by rw [e1]; exact hz) (fun q h1 h2 => by rw [e1]; exact hk q h1 h2) T' rfl X'
  exact ⟨t2, st t2 a1, b1⟩
theorem ob_gou {r : Int32} (hr : va_Run p l e R s m args below meth c H locs cells slots 0 0 (F0 m pc ls st0) rest (ob_QU D ci this r a) (fun q => q = this)) (hA : ∀ q, q = this → A0 q) (hS : va_S A0 H0 H locs)
    (kk : ∀ (H1 : Heap) (locs1 : List Loc), va_P D vwCl [(this, .inr (ci, [.int r]))] H1 → va_S A0 H0 H1 locs1 → H.size ≤ H1.size → (∀ q : Nat, q < H.size → ¬ q = this → H1[q]? = H[q]?) → W p l e R s m args below meth c H1 locs1 cells slots Q (F0 m (pc + 3) ls rest)) : W p l e R s m args below meth c H locs cells slots Q (F0 m pc ls st0) := by
  intro T hT X
  obtain ⟨v, st₀, t, T', L, h0, X', hL, e1, e2, ⟨hv, hp, hz, hk⟩, st⟩ := hr T hT X
  cases hv
  rw [h0] at hz hk
  obtain ⟨t2, a1, b1⟩ := kk T'.heap (locs ++ L) (by rw [e1]; exact hp) ⟨Nat.le_trans hS.1 (by rw [e1]; exact hz), fun q h1 h2 => by rw [e1, hk q (Nat.lt_of_lt_of_le h1 hS.1) (fun z => h2 (hA q z))]; exact hS.2.1 q h1 h2, fun q hq => by
      rcases List.mem_append.mp hq with h | h
      · exact hS.2.2 q h
      · exact hA _ (hL q h)⟩ (by rw [e1]; exact hz) (fun q h1 h2 => by rw [e1]; exact hk q h1 h2) T' rfl X'
  exact ⟨t2, st t2 a1, b1⟩
variable {y : MethodName} {bytes cc : ByteArray} {maxL nL n index : Nat} {ret : Option FieldType} {ws : List Cond} {rm : Room} {Ts : List Cond} {own C : String} {As : List Value} {r : Value} {f : Int32} {T : u_T} {N : Nat}
theorem px_SN (S : CallFix p m c cc nL s args Ts own) (hM : px_MN l y ws rm As r) (hN : nx_N s) (cw : CallB R s args own index y bytes maxL ret ws rm 0 0 n ∧ (Cond.static y).before args s = true)
    (hn : As.length = n) (hsize : ls.size = nL) (hstack : st0 = As.reverse ++ rest) (hW : (rest.map fun v => v.category).sum ≤ 8) (hdg : decode cc pc = .ok (.invokestatic index, 3)) (hc : cells ≤ R.cells) (hs : slots ≤ R.slots)
    (kk : W p l e R s m args below meth c H locs cells slots Q (F0 m (pc + 3) ls (r :: rest))) : W p l e R s m args below meth c H locs cells slots Q (F0 m pc ls st0) :=
  px_go (va_runS (g := F0 m pc ls st0) S hM cw ⟨px_blindN As, fun _ _ hw => ⟨rfl, hN.warm hw⟩⟩ rfl hn hsize hstack (lv_room hW) hdg ⟨hc, hs⟩) kk
theorem ob_Vl {r : Int64 × Int32} (S : CallFix p m c cc nL s args Ts own) (hM : Met l y ws rm (ob_P D ci this f (.ref this :: As)) (ob_QL D ci this r) 0 0 (fun q => q = this)) (hK : va_K D vwCl [] s) (hP : va_P D vwCl [(this, .inr (ci, [.int f]))] H) (hS : va_S (fun q => q = this) H0 H locs) (hci : vwCl[ci]? = some (C, T, N)) (cw : CallW R s args own C index y bytes maxL ret ws rm 0 0 n)
    (hn : As.length = n) (hsize : ls.size = nL) (hstack : st0 = As.reverse ++ .ref this :: rest) (hW : (rest.map fun v => v.category).sum ≤ 8) (hdg : decode cc pc = .ok (.invokevirtual index, 3)) (hc : cells ≤ R.cells) (hs : slots ≤ R.slots)
    (kk : ∀ (H1 : Heap) (locs1 : List Loc), va_P D vwCl [(this, .inr (ci, [.int r.2]))] H1 → va_S (fun q => q = this) H0 H1 locs1 → W p l e R s m args below meth c H1 locs1 cells slots Q (F0 m (pc + 3) ls (.long r.1 :: rest))) : W p l e R s m args below meth c H locs cells slots Q (F0 m pc ls st0) :=
  ob_gol (va_runV (g := F0 m pc ls st0) S hM cw ⟨ob_blind D ci this f _, va_recv hK hP hci (q0 := 0) rfl, fun U hU hw => ⟨rfl, by rw [hU]; exact hP, va_K.moved hw.alike hK⟩⟩ rfl hn hsize hstack (lv_room hW) hdg ⟨hc, hs⟩) (fun _ h => h) hS (fun H1 locs1 h1 h2 _ _ => kk H1 locs1 h1 h2)
theorem ob_Vi {r : Int32 × Int32} (S : CallFix p m c cc nL s args Ts own) (hM : Met l y ws rm (ob_P D ci this f (.ref this :: As)) (ob_QI D ci this r) 0 0 (fun q => q = this)) (hK : va_K D vwCl [] s) (hP : va_P D vwCl [(this, .inr (ci, [.int f]))] H) (hS : va_S (fun q => q = this) H0 H locs) (hci : vwCl[ci]? = some (C, T, N)) (cw : CallW R s args own C index y bytes maxL ret ws rm 0 0 n)
    (hn : As.length = n) (hsize : ls.size = nL) (hstack : st0 = As.reverse ++ .ref this :: rest) (hW : (rest.map fun v => v.category).sum ≤ 8) (hdg : decode cc pc = .ok (.invokevirtual index, 3)) (hc : cells ≤ R.cells) (hs : slots ≤ R.slots)
    (kk : ∀ (H1 : Heap) (locs1 : List Loc), va_P D vwCl [(this, .inr (ci, [.int r.2]))] H1 → va_S (fun q => q = this) H0 H1 locs1 → W p l e R s m args below meth c H1 locs1 cells slots Q (F0 m (pc + 3) ls (.int r.1 :: rest))) : W p l e R s m args below meth c H locs cells slots Q (F0 m pc ls st0) :=
  ob_goi (va_runV (g := F0 m pc ls st0) S hM cw ⟨ob_blind D ci this f _, va_recv hK hP hci (q0 := 0) rfl, fun U hU hw => ⟨rfl, by rw [hU]; exact hP, va_K.moved hw.alike hK⟩⟩ rfl hn hsize hstack (lv_room hW) hdg ⟨hc, hs⟩) (fun _ h => h) hS (fun H1 locs1 h1 h2 _ _ => kk H1 locs1 h1 h2)
theorem ob_VNl {r : Int64 × Int32} (S : CallFix p m c cc nL s args Ts own) (hM : Met l y ws rm (ob_PN D ci this f (.ref this :: As)) (ob_QL D ci this r) 0 0 (fun q => q = this)) (hN : nx_N s) (hK : va_K D vwCl [] s) (hP : va_P D vwCl [(this, .inr (ci, [.int f]))] H) (hS : va_S (fun q => q = this) H0 H locs) (hci : vwCl[ci]? = some (C, T, N)) (cw : CallW R s args own C index y bytes maxL ret ws rm 0 0 n)
    (hn : As.length = n) (hsize : ls.size = nL) (hstack : st0 = As.reverse ++ .ref this :: rest) (hW : (rest.map fun v => v.category).sum ≤ 8) (hdg : decode cc pc = .ok (.invokevirtual index, 3)) (hc : cells ≤ R.cells) (hs : slots ≤ R.slots)
    (kk : ∀ (H1 : Heap) (locs1 : List Loc), va_P D vwCl [(this, .inr (ci, [.int r.2]))] H1 → va_S (fun q => q = this) H0 H1 locs1 → W p l e R s m args below meth c H1 locs1 cells slots Q (F0 m (pc + 3) ls (.long r.1 :: rest))) : W p l e R s m args below meth c H locs cells slots Q (F0 m pc ls st0) :=
  ob_gol (va_runV (g := F0 m pc ls st0) S hM cw ⟨ob_blindN D ci this f _, va_recv hK hP hci (q0 := 0) rfl, fun U hU hw => ⟨rfl, by rw [hU]; exact hP, va_K.moved hw.alike hK, hN.warm hw⟩⟩ rfl hn hsize hstack (lv_room hW) hdg ⟨hc, hs⟩) (fun _ h => h) hS (fun H1 locs1 h1 h2 _ _ => kk H1 locs1 h1 h2)
end OBC
end
section
theorem dX0_fractionBits_0 : decode cX0_fractionBits 0 = .ok (.iload_n 0, 1) := by decide +kernel
theorem dX0_fractionBits_1 : decode cX0_fractionBits 1 = .ok (.bipush 6, 2) := by decide +kernel
theorem dX0_fractionBits_3 : decode cX0_fractionBits 3 = .ok (.if_icmp .ne 8, 3) := by decide +kernel
theorem dX0_fractionBits_6 : decode cX0_fractionBits 6 = .ok (.bipush 23, 2) := by decide +kernel
theorem dX0_fractionBits_8 : decode cX0_fractionBits 8 = .ok (.goto 5, 3) := by decide +kernel
theorem dX0_fractionBits_11 : decode cX0_fractionBits 11 = .ok (.bipush 52, 2) := by decide +kernel
theorem dX0_fractionBits_13 : decode cX0_fractionBits 13 = .ok (.ireturn, 1) := by decide +kernel
theorem dX0_leastExponent_0 : decode cX0_leastExponent 0 = .ok (.iload_n 0, 1) := by decide +kernel
theorem dX0_leastExponent_1 : decode cX0_leastExponent 1 = .ok (.bipush 6, 2) := by decide +kernel
theorem dX0_leastExponent_3 : decode cX0_leastExponent 3 = .ok (.if_icmp .ne 9, 3) := by decide +kernel
theorem dX0_leastExponent_6 : decode cX0_leastExponent 6 = .ok (.sipush (-149), 3) := by decide +kernel
theorem dX0_leastExponent_9 : decode cX0_leastExponent 9 = .ok (.goto 6, 3) := by decide +kernel
theorem dX0_leastExponent_12 : decode cX0_leastExponent 12 = .ok (.sipush (-1074), 3) := by decide +kernel
theorem dX0_leastExponent_15 : decode cX0_leastExponent 15 = .ok (.ireturn, 1) := by decide +kernel
theorem dX0_greatestAbove_0 : decode cX0_greatestAbove 0 = .ok (.iload_n 0, 1) := by decide +kernel
theorem dX0_greatestAbove_1 : decode cX0_greatestAbove 1 = .ok (.bipush 6, 2) := by decide +kernel
theorem dX0_greatestAbove_3 : decode cX0_greatestAbove 3 = .ok (.if_icmp .ne 9, 3) := by decide +kernel
theorem dX0_greatestAbove_6 : decode cX0_greatestAbove 6 = .ok (.sipush 253, 3) := by decide +kernel
theorem dX0_greatestAbove_9 : decode cX0_greatestAbove 9 = .ok (.goto 6, 3) := by decide +kernel
theorem dX0_greatestAbove_12 : decode cX0_greatestAbove 12 = .ok (.sipush 2045, 3) := by decide +kernel
theorem dX0_greatestAbove_15 : decode cX0_greatestAbove 15 = .ok (.ireturn, 1) := by decide +kernel
theorem dX0_infinity_0 : decode cX0_infinity 0 = .ok (.iload_n 0, 1) := by decide +kernel
theorem dX0_infinity_1 : decode cX0_infinity 1 = .ok (.bipush 6, 2) := by decide +kernel
theorem dX0_infinity_3 : decode cX0_infinity 3 = .ok (.if_icmp .ne 9, 3) := by decide +kernel
theorem dX0_infinity_6 : decode cX0_infinity 6 = .ok (.ldc2_w 9, 3) := by decide +kernel
theorem dX0_infinity_9 : decode cX0_infinity 9 = .ok (.goto 6, 3) := by decide +kernel
theorem dX0_infinity_12 : decode cX0_infinity 12 = .ok (.ldc2_w 11, 3) := by decide +kernel
theorem dX0_infinity_15 : decode cX0_infinity 15 = .ok (.lreturn, 1) := by decide +kernel
set_option maxRecDepth 20000 in
theorem ggX0_notANumber_X0_infinity : GoodIn wsX0_notANumber wsX0_infinity := goodIn_r _ [4, 5, 6] (by decide +kernel) (by decide +kernel)
set_option maxRecDepth 20000 in
theorem gX0_notANumber_X0_infinity : GoodIn wsX0_notANumber (va_wsS RX0 13 yX0_infinity wsX0_infinity) := goodIn_app (goodIn_of _ (by decide +kernel)) ggX0_notANumber_X0_infinity
theorem dX0_notANumber_0 : decode cX0_notANumber 0 = .ok (.iload_n 0, 1) := by decide +kernel
theorem dX0_notANumber_1 : decode cX0_notANumber 1 = .ok (.invokestatic 13, 3) := by decide +kernel
theorem dX0_notANumber_4 : decode cX0_notANumber 4 = .ok (.lconst 1, 1) := by decide +kernel
theorem dX0_notANumber_5 : decode cX0_notANumber 5 = .ok (.ladd, 1) := by decide +kernel
theorem dX0_notANumber_6 : decode cX0_notANumber 6 = .ok (.lreturn, 1) := by decide +kernel
theorem dX0_signBit_0 : decode cX0_signBit 0 = .ok (.iload_n 0, 1) := by decide +kernel
theorem dX0_signBit_1 : decode cX0_signBit 1 = .ok (.bipush 6, 2) := by decide +kernel
theorem dX0_signBit_3 : decode cX0_signBit 3 = .ok (.if_icmp .ne 9, 3) := by decide +kernel
theorem dX0_signBit_6 : decode cX0_signBit 6 = .ok (.ldc2_w 19, 3) := by decide +kernel
theorem dX0_signBit_9 : decode cX0_signBit 9 = .ok (.goto 6, 3) := by decide +kernel
theorem dX0_signBit_12 : decode cX0_signBit 12 = .ok (.ldc2_w 23, 3) := by decide +kernel
theorem dX0_signBit_15 : decode cX0_signBit 15 = .ok (.lreturn, 1) := by decide +kernel
set_option maxRecDepth 20000 in
theorem ggX0_size_X0_signBit : GoodIn wsX0_size wsX0_signBit := goodIn_r _ [5, 6, 7] (by decide +kernel) (by decide +kernel)
set_option maxRecDepth 20000 in
theorem gX0_size_X0_signBit : GoodIn wsX0_size (va_wsS RX0 25 yX0_signBit wsX0_signBit) := goodIn_app (goodIn_of _ (by decide +kernel)) ggX0_size_X0_signBit
theorem dX0_size_0 : decode cX0_size 0 = .ok (.lload_n 1, 1) := by decide +kernel
theorem dX0_size_1 : decode cX0_size 1 = .ok (.iload_n 0, 1) := by decide +kernel
theorem dX0_size_2 : decode cX0_size 2 = .ok (.invokestatic 25, 3) := by decide +kernel
theorem dX0_size_5 : decode cX0_size 5 = .ok (.ldc2_w 28, 3) := by decide +kernel
theorem dX0_size_8 : decode cX0_size 8 = .ok (.lxor, 1) := by decide +kernel
theorem dX0_size_9 : decode cX0_size 9 = .ok (.land, 1) := by decide +kernel
theorem dX0_size_10 : decode cX0_size 10 = .ok (.lreturn, 1) := by decide +kernel
set_option maxRecDepth 20000 in
theorem ggX0_isNumber_X0_size : GoodIn wsX0_isNumber wsX0_size := goodIn_r _ [4, 5, 6, 7, 3, 8, 9, 10] (by decide +kernel) (by decide +kernel)
set_option maxRecDepth 20000 in
theorem gX0_isNumber_X0_size : GoodIn wsX0_isNumber (va_wsS RX0 30 yX0_size wsX0_size) := goodIn_app (goodIn_of _ (by decide +kernel)) ggX0_isNumber_X0_size
set_option maxRecDepth 20000 in
theorem ggX0_isNumber_X0_infinity : GoodIn wsX0_isNumber wsX0_infinity := goodIn_r _ [13, 14, 15] (by decide +kernel) (by decide +kernel)
set_option maxRecDepth 20000 in
theorem gX0_isNumber_X0_infinity : GoodIn wsX0_isNumber (va_wsS RX0 13 yX0_infinity wsX0_infinity) := goodIn_app (goodIn_of _ (by decide +kernel)) ggX0_isNumber_X0_infinity
theorem dX0_isNumber_0 : decode cX0_isNumber 0 = .ok (.iload_n 0, 1) := by decide +kernel
theorem dX0_isNumber_1 : decode cX0_isNumber 1 = .ok (.lload_n 1, 1) := by decide +kernel
theorem dX0_isNumber_2 : decode cX0_isNumber 2 = .ok (.invokestatic 30, 3) := by decide +kernel
theorem dX0_isNumber_5 : decode cX0_isNumber 5 = .ok (.lstore_n 3, 1) := by decide +kernel
theorem dX0_isNumber_6 : decode cX0_isNumber 6 = .ok (.lload_n 3, 1) := by decide +kernel
theorem dX0_isNumber_7 : decode cX0_isNumber 7 = .ok (.lconst 0, 1) := by decide +kernel
theorem dX0_isNumber_8 : decode cX0_isNumber 8 = .ok (.lcmp, 1) := by decide +kernel
theorem dX0_isNumber_9 : decode cX0_isNumber 9 = .ok (.ifCond .lt 16, 3) := by decide +kernel
theorem dX0_isNumber_12 : decode cX0_isNumber 12 = .ok (.lload_n 3, 1) := by decide +kernel
theorem dX0_isNumber_13 : decode cX0_isNumber 13 = .ok (.iload_n 0, 1) := by decide +kernel
theorem dX0_isNumber_14 : decode cX0_isNumber 14 = .ok (.invokestatic 13, 3) := by decide +kernel
theorem dX0_isNumber_17 : decode cX0_isNumber 17 = .ok (.lcmp, 1) := by decide +kernel
theorem dX0_isNumber_18 : decode cX0_isNumber 18 = .ok (.ifCond .gt 7, 3) := by decide +kernel
theorem dX0_isNumber_21 : decode cX0_isNumber 21 = .ok (.iconst 1, 1) := by decide +kernel
theorem dX0_isNumber_22 : decode cX0_isNumber 22 = .ok (.goto 4, 3) := by decide +kernel
theorem dX0_isNumber_25 : decode cX0_isNumber 25 = .ok (.iconst 0, 1) := by decide +kernel
theorem dX0_isNumber_26 : decode cX0_isNumber 26 = .ok (.ireturn, 1) := by decide +kernel
set_option maxRecDepth 20000 in
theorem ggX0_isNegative_X0_signBit : GoodIn wsX0_isNegative wsX0_signBit := goodIn_r _ [4, 5, 6] (by decide +kernel) (by decide +kernel)
set_option maxRecDepth 20000 in
theorem gX0_isNegative_X0_signBit : GoodIn wsX0_isNegative (va_wsS RX0 25 yX0_signBit wsX0_signBit) := goodIn_app (goodIn_of _ (by decide +kernel)) ggX0_isNegative_X0_signBit
theorem dX0_isNegative_0 : decode cX0_isNegative 0 = .ok (.lload_n 1, 1) := by decide +kernel
theorem dX0_isNegative_1 : decode cX0_isNegative 1 = .ok (.iload_n 0, 1) := by decide +kernel
theorem dX0_isNegative_2 : decode cX0_isNegative 2 = .ok (.invokestatic 25, 3) := by decide +kernel
theorem dX0_isNegative_5 : decode cX0_isNegative 5 = .ok (.land, 1) := by decide +kernel
theorem dX0_isNegative_6 : decode cX0_isNegative 6 = .ok (.lconst 0, 1) := by decide +kernel
theorem dX0_isNegative_7 : decode cX0_isNegative 7 = .ok (.lcmp, 1) := by decide +kernel
theorem dX0_isNegative_8 : decode cX0_isNegative 8 = .ok (.ifCond .eq 7, 3) := by decide +kernel
theorem dX0_isNegative_11 : decode cX0_isNegative 11 = .ok (.iconst 1, 1) := by decide +kernel
theorem dX0_isNegative_12 : decode cX0_isNegative 12 = .ok (.goto 4, 3) := by decide +kernel
theorem dX0_isNegative_15 : decode cX0_isNegative 15 = .ok (.iconst 0, 1) := by decide +kernel
theorem dX0_isNegative_16 : decode cX0_isNegative 16 = .ok (.ireturn, 1) := by decide +kernel
set_option maxRecDepth 20000 in
theorem ggX0_isInfinite_X0_size : GoodIn wsX0_isInfinite wsX0_size := goodIn_r _ [4, 5, 6, 7, 3, 8, 9, 10] (by decide +kernel) (by decide +kernel)
set_option maxRecDepth 20000 in
theorem gX0_isInfinite_X0_size : GoodIn wsX0_isInfinite (va_wsS RX0 30 yX0_size wsX0_size) := goodIn_app (goodIn_of _ (by decide +kernel)) ggX0_isInfinite_X0_size
set_option maxRecDepth 20000 in
theorem ggX0_isInfinite_X0_infinity : GoodIn wsX0_isInfinite wsX0_infinity := goodIn_r _ [13, 14, 15] (by decide +kernel) (by decide +kernel)
set_option maxRecDepth 20000 in
theorem gX0_isInfinite_X0_infinity : GoodIn wsX0_isInfinite (va_wsS RX0 13 yX0_infinity wsX0_infinity) := goodIn_app (goodIn_of _ (by decide +kernel)) ggX0_isInfinite_X0_infinity
theorem dX0_isInfinite_0 : decode cX0_isInfinite 0 = .ok (.iload_n 0, 1) := by decide +kernel
theorem dX0_isInfinite_1 : decode cX0_isInfinite 1 = .ok (.lload_n 1, 1) := by decide +kernel
theorem dX0_isInfinite_2 : decode cX0_isInfinite 2 = .ok (.invokestatic 30, 3) := by decide +kernel
theorem dX0_isInfinite_5 : decode cX0_isInfinite 5 = .ok (.iload_n 0, 1) := by decide +kernel
theorem dX0_isInfinite_6 : decode cX0_isInfinite 6 = .ok (.invokestatic 13, 3) := by decide +kernel
theorem dX0_isInfinite_9 : decode cX0_isInfinite 9 = .ok (.lcmp, 1) := by decide +kernel
theorem dX0_isInfinite_10 : decode cX0_isInfinite 10 = .ok (.ifCond .ne 7, 3) := by decide +kernel
theorem dX0_isInfinite_13 : decode cX0_isInfinite 13 = .ok (.iconst 1, 1) := by decide +kernel
theorem dX0_isInfinite_14 : decode cX0_isInfinite 14 = .ok (.goto 4, 3) := by decide +kernel
theorem dX0_isInfinite_17 : decode cX0_isInfinite 17 = .ok (.iconst 0, 1) := by decide +kernel
theorem dX0_isInfinite_18 : decode cX0_isInfinite 18 = .ok (.ireturn, 1) := by decide +kernel
set_option maxRecDepth 20000 in
theorem ggX0_isZero_X0_size : GoodIn wsX0_isZero wsX0_size := goodIn_r _ [4, 5, 6, 7, 3, 8, 9, 10] (by decide +kernel) (by decide +kernel)
set_option maxRecDepth 20000 in
theorem gX0_isZero_X0_size : GoodIn wsX0_isZero (va_wsS RX0 30 yX0_size wsX0_size) := goodIn_app (goodIn_of _ (by decide +kernel)) ggX0_isZero_X0_size
theorem dX0_isZero_0 : decode cX0_isZero 0 = .ok (.iload_n 0, 1) := by decide +kernel
theorem dX0_isZero_1 : decode cX0_isZero 1 = .ok (.lload_n 1, 1) := by decide +kernel
theorem dX0_isZero_2 : decode cX0_isZero 2 = .ok (.invokestatic 30, 3) := by decide +kernel
theorem dX0_isZero_5 : decode cX0_isZero 5 = .ok (.lconst 0, 1) := by decide +kernel
theorem dX0_isZero_6 : decode cX0_isZero 6 = .ok (.lcmp, 1) := by decide +kernel
theorem dX0_isZero_7 : decode cX0_isZero 7 = .ok (.ifCond .ne 7, 3) := by decide +kernel
theorem dX0_isZero_10 : decode cX0_isZero 10 = .ok (.iconst 1, 1) := by decide +kernel
theorem dX0_isZero_11 : decode cX0_isZero 11 = .ok (.goto 4, 3) := by decide +kernel
theorem dX0_isZero_14 : decode cX0_isZero 14 = .ok (.iconst 0, 1) := by decide +kernel
theorem dX0_isZero_15 : decode cX0_isZero 15 = .ok (.ireturn, 1) := by decide +kernel
set_option maxRecDepth 20000 in
theorem ggX0_negated_X0_signBit : GoodIn wsX0_negated wsX0_signBit := goodIn_r _ [4, 5, 6] (by decide +kernel) (by decide +kernel)
set_option maxRecDepth 20000 in
theorem gX0_negated_X0_signBit : GoodIn wsX0_negated (va_wsS RX0 25 yX0_signBit wsX0_signBit) := goodIn_app (goodIn_of _ (by decide +kernel)) ggX0_negated_X0_signBit
theorem dX0_negated_0 : decode cX0_negated 0 = .ok (.lload_n 1, 1) := by decide +kernel
theorem dX0_negated_1 : decode cX0_negated 1 = .ok (.iload_n 0, 1) := by decide +kernel
theorem dX0_negated_2 : decode cX0_negated 2 = .ok (.invokestatic 25, 3) := by decide +kernel
theorem dX0_negated_5 : decode cX0_negated 5 = .ok (.lxor, 1) := by decide +kernel
theorem dX0_negated_6 : decode cX0_negated 6 = .ok (.lreturn, 1) := by decide +kernel
set_option maxRecDepth 20000 in
theorem ggX0_signed_X0_signBit : GoodIn wsX0_signed wsX0_signBit := goodIn_r _ [4, 5, 6] (by decide +kernel) (by decide +kernel)
set_option maxRecDepth 20000 in
theorem gX0_signed_X0_signBit : GoodIn wsX0_signed (va_wsS RX0 25 yX0_signBit wsX0_signBit) := goodIn_app (goodIn_of _ (by decide +kernel)) ggX0_signed_X0_signBit
theorem dX0_signed_0 : decode cX0_signed 0 = .ok (.iload_n 1, 1) := by decide +kernel
theorem dX0_signed_1 : decode cX0_signed 1 = .ok (.ifCond .eq 12, 3) := by decide +kernel
theorem dX0_signed_4 : decode cX0_signed 4 = .ok (.lload_n 2, 1) := by decide +kernel
theorem dX0_signed_5 : decode cX0_signed 5 = .ok (.iload_n 0, 1) := by decide +kernel
theorem dX0_signed_6 : decode cX0_signed 6 = .ok (.invokestatic 25, 3) := by decide +kernel
theorem dX0_signed_9 : decode cX0_signed 9 = .ok (.lor, 1) := by decide +kernel
theorem dX0_signed_10 : decode cX0_signed 10 = .ok (.goto 4, 3) := by decide +kernel
theorem dX0_signed_13 : decode cX0_signed 13 = .ok (.lload_n 2, 1) := by decide +kernel
theorem dX0_signed_14 : decode cX0_signed 14 = .ok (.lreturn, 1) := by decide +kernel
set_option maxRecDepth 20000 in
theorem ggX0_place_X0_size : GoodIn wsX0_place wsX0_size := goodIn_r _ [4, 5, 6, 7, 3, 8, 9, 10] (by decide +kernel) (by decide +kernel)
set_option maxRecDepth 20000 in
theorem gX0_place_X0_size : GoodIn wsX0_place (va_wsS RX0 30 yX0_size wsX0_size) := goodIn_app (goodIn_of _ (by decide +kernel)) ggX0_place_X0_size
set_option maxRecDepth 20000 in
theorem ggX0_place_X0_isNegative : GoodIn wsX0_place wsX0_isNegative := goodIn_r _ [13, 6, 7, 3, 8, 9, 10] (by decide +kernel) (by decide +kernel)
set_option maxRecDepth 20000 in
theorem gX0_place_X0_isNegative : GoodIn wsX0_place (va_wsS RX0 34 yX0_isNegative wsX0_isNegative) := goodIn_app (goodIn_of _ (by decide +kernel)) ggX0_place_X0_isNegative
theorem dX0_place_0 : decode cX0_place 0 = .ok (.iload_n 0, 1) := by decide +kernel
theorem dX0_place_1 : decode cX0_place 1 = .ok (.lload_n 1, 1) := by decide +kernel
theorem dX0_place_2 : decode cX0_place 2 = .ok (.invokestatic 30, 3) := by decide +kernel
theorem dX0_place_5 : decode cX0_place 5 = .ok (.lstore_n 3, 1) := by decide +kernel
theorem dX0_place_6 : decode cX0_place 6 = .ok (.iload_n 0, 1) := by decide +kernel
theorem dX0_place_7 : decode cX0_place 7 = .ok (.lload_n 1, 1) := by decide +kernel
theorem dX0_place_8 : decode cX0_place 8 = .ok (.invokestatic 34, 3) := by decide +kernel
theorem dX0_place_11 : decode cX0_place 11 = .ok (.ifCond .eq 8, 3) := by decide +kernel
theorem dX0_place_14 : decode cX0_place 14 = .ok (.lload_n 3, 1) := by decide +kernel
theorem dX0_place_15 : decode cX0_place 15 = .ok (.lneg, 1) := by decide +kernel
theorem dX0_place_16 : decode cX0_place 16 = .ok (.goto 4, 3) := by decide +kernel
theorem dX0_place_19 : decode cX0_place 19 = .ok (.lload_n 3, 1) := by decide +kernel
theorem dX0_place_20 : decode cX0_place 20 = .ok (.lreturn, 1) := by decide +kernel
set_option maxRecDepth 20000 in
theorem ggX0_placeWithZerosApart_X0_size : GoodIn wsX0_placeWithZerosApart wsX0_size := goodIn_r _ [4, 5, 6, 7, 3, 8, 9, 10] (by decide +kernel) (by decide +kernel)
set_option maxRecDepth 20000 in
theorem gX0_placeWithZerosApart_X0_size : GoodIn wsX0_placeWithZerosApart (va_wsS RX0 30 yX0_size wsX0_size) := goodIn_app (goodIn_of _ (by decide +kernel)) ggX0_placeWithZerosApart_X0_size
set_option maxRecDepth 20000 in
theorem ggX0_placeWithZerosApart_X0_isNegative : GoodIn wsX0_placeWithZerosApart wsX0_isNegative := goodIn_r _ [13, 6, 7, 3, 8, 9, 10] (by decide +kernel) (by decide +kernel)
set_option maxRecDepth 20000 in
theorem gX0_placeWithZerosApart_X0_isNegative : GoodIn wsX0_placeWithZerosApart (va_wsS RX0 34 yX0_isNegative wsX0_isNegative) := goodIn_app (goodIn_of _ (by decide +kernel)) ggX0_placeWithZerosApart_X0_isNegative
theorem dX0_placeWithZerosApart_0 : decode cX0_placeWithZerosApart 0 = .ok (.iload_n 0, 1) := by decide +kernel
theorem dX0_placeWithZerosApart_1 : decode cX0_placeWithZerosApart 1 = .ok (.lload_n 1, 1) := by decide +kernel
theorem dX0_placeWithZerosApart_2 : decode cX0_placeWithZerosApart 2 = .ok (.invokestatic 30, 3) := by decide +kernel
theorem dX0_placeWithZerosApart_5 : decode cX0_placeWithZerosApart 5 = .ok (.lstore_n 3, 1) := by decide +kernel
theorem dX0_placeWithZerosApart_6 : decode cX0_placeWithZerosApart 6 = .ok (.iload_n 0, 1) := by decide +kernel
theorem dX0_placeWithZerosApart_7 : decode cX0_placeWithZerosApart 7 = .ok (.lload_n 1, 1) := by decide +kernel
theorem dX0_placeWithZerosApart_8 : decode cX0_placeWithZerosApart 8 = .ok (.invokestatic 34, 3) := by decide +kernel
theorem dX0_placeWithZerosApart_11 : decode cX0_placeWithZerosApart 11 = .ok (.ifCond .eq 10, 3) := by decide +kernel
theorem dX0_placeWithZerosApart_14 : decode cX0_placeWithZerosApart 14 = .ok (.lload_n 3, 1) := by decide +kernel
theorem dX0_placeWithZerosApart_15 : decode cX0_placeWithZerosApart 15 = .ok (.lneg, 1) := by decide +kernel
theorem dX0_placeWithZerosApart_16 : decode cX0_placeWithZerosApart 16 = .ok (.lconst 1, 1) := by decide +kernel
theorem dX0_placeWithZerosApart_17 : decode cX0_placeWithZerosApart 17 = .ok (.lsub, 1) := by decide +kernel
theorem dX0_placeWithZerosApart_18 : decode cX0_placeWithZerosApart 18 = .ok (.goto 4, 3) := by decide +kernel
theorem dX0_placeWithZerosApart_21 : decode cX0_placeWithZerosApart 21 = .ok (.lload_n 3, 1) := by decide +kernel
theorem dX0_placeWithZerosApart_22 : decode cX0_placeWithZerosApart 22 = .ok (.lreturn, 1) := by decide +kernel
set_option maxRecDepth 20000 in
theorem ggX0_magnitude_X0_fractionBits : GoodIn wsX0_magnitude wsX0_fractionBits := goodIn_r _ [4] (by decide +kernel) (by decide +kernel)
set_option maxRecDepth 20000 in
theorem gX0_magnitude_X0_fractionBits : GoodIn wsX0_magnitude (va_wsS RX0 38 yX0_fractionBits wsX0_fractionBits) := goodIn_app (goodIn_of _ (by decide +kernel)) ggX0_magnitude_X0_fractionBits
set_option maxRecDepth 20000 in
theorem ggX0_magnitude_X0_size : GoodIn wsX0_magnitude wsX0_size := goodIn_r _ [7, 8, 9, 10, 3, 11, 12, 13] (by decide +kernel) (by decide +kernel)
set_option maxRecDepth 20000 in
theorem gX0_magnitude_X0_size : GoodIn wsX0_magnitude (va_wsS RX0 30 yX0_size wsX0_size) := goodIn_app (goodIn_of _ (by decide +kernel)) ggX0_magnitude_X0_size
theorem dX0_magnitude_0 : decode cX0_magnitude 0 = .ok (.lconst 1, 1) := by decide +kernel
theorem dX0_magnitude_1 : decode cX0_magnitude 1 = .ok (.iload_n 0, 1) := by decide +kernel
theorem dX0_magnitude_2 : decode cX0_magnitude 2 = .ok (.invokestatic 38, 3) := by decide +kernel
theorem dX0_magnitude_5 : decode cX0_magnitude 5 = .ok (.lshl, 1) := by decide +kernel
theorem dX0_magnitude_6 : decode cX0_magnitude 6 = .ok (.lstore_n 3, 1) := by decide +kernel
theorem dX0_magnitude_7 : decode cX0_magnitude 7 = .ok (.lload_n 1, 1) := by decide +kernel
theorem dX0_magnitude_8 : decode cX0_magnitude 8 = .ok (.lload_n 3, 1) := by decide +kernel
theorem dX0_magnitude_9 : decode cX0_magnitude 9 = .ok (.lconst 1, 1) := by decide +kernel
theorem dX0_magnitude_10 : decode cX0_magnitude 10 = .ok (.lsub, 1) := by decide +kernel
theorem dX0_magnitude_11 : decode cX0_magnitude 11 = .ok (.land, 1) := by decide +kernel
theorem dX0_magnitude_12 : decode cX0_magnitude 12 = .ok (.lstore 5, 2) := by decide +kernel
theorem dX0_magnitude_14 : decode cX0_magnitude 14 = .ok (.iload_n 0, 1) := by decide +kernel
theorem dX0_magnitude_15 : decode cX0_magnitude 15 = .ok (.lload_n 1, 1) := by decide +kernel
theorem dX0_magnitude_16 : decode cX0_magnitude 16 = .ok (.invokestatic 30, 3) := by decide +kernel
theorem dX0_magnitude_19 : decode cX0_magnitude 19 = .ok (.lload_n 3, 1) := by decide +kernel
theorem dX0_magnitude_20 : decode cX0_magnitude 20 = .ok (.lcmp, 1) := by decide +kernel
theorem dX0_magnitude_21 : decode cX0_magnitude 21 = .ok (.ifCond .ge 8, 3) := by decide +kernel
theorem dX0_magnitude_24 : decode cX0_magnitude 24 = .ok (.lload 5, 2) := by decide +kernel
theorem dX0_magnitude_26 : decode cX0_magnitude 26 = .ok (.goto 7, 3) := by decide +kernel
theorem dX0_magnitude_29 : decode cX0_magnitude 29 = .ok (.lload 5, 2) := by decide +kernel
theorem dX0_magnitude_31 : decode cX0_magnitude 31 = .ok (.lload_n 3, 1) := by decide +kernel
theorem dX0_magnitude_32 : decode cX0_magnitude 32 = .ok (.ladd, 1) := by decide +kernel
theorem dX0_magnitude_33 : decode cX0_magnitude 33 = .ok (.lreturn, 1) := by decide +kernel
set_option maxRecDepth 20000 in
theorem ggX0_exponent_X0_size : GoodIn wsX0_exponent wsX0_size := goodIn_r _ [8, 9, 10, 11, 7, 12, 13, 14] (by decide +kernel) (by decide +kernel)
set_option maxRecDepth 20000 in
theorem gX0_exponent_X0_size : GoodIn wsX0_exponent (va_wsS RX0 30 yX0_size wsX0_size) := goodIn_app (goodIn_of _ (by decide +kernel)) ggX0_exponent_X0_size
set_option maxRecDepth 20000 in
theorem ggX0_exponent_X0_fractionBits : GoodIn wsX0_exponent wsX0_fractionBits := goodIn_r _ [17] (by decide +kernel) (by decide +kernel)
set_option maxRecDepth 20000 in
theorem gX0_exponent_X0_fractionBits : GoodIn wsX0_exponent (va_wsS RX0 38 yX0_fractionBits wsX0_fractionBits) := goodIn_app (goodIn_of _ (by decide +kernel)) ggX0_exponent_X0_fractionBits
set_option maxRecDepth 20000 in
theorem ggX0_exponent_X0_leastExponent : GoodIn wsX0_exponent wsX0_leastExponent := goodIn_r _ [20] (by decide +kernel) (by decide +kernel)
set_option maxRecDepth 20000 in
theorem gX0_exponent_X0_leastExponent : GoodIn wsX0_exponent (va_wsS RX0 42 yX0_leastExponent wsX0_leastExponent) := goodIn_app (goodIn_of _ (by decide +kernel)) ggX0_exponent_X0_leastExponent
theorem dX0_exponent_0 : decode cX0_exponent 0 = .ok (.iload_n 0, 1) := by decide +kernel
theorem dX0_exponent_1 : decode cX0_exponent 1 = .ok (.lload_n 1, 1) := by decide +kernel
theorem dX0_exponent_2 : decode cX0_exponent 2 = .ok (.invokestatic 30, 3) := by decide +kernel
theorem dX0_exponent_5 : decode cX0_exponent 5 = .ok (.iload_n 0, 1) := by decide +kernel
theorem dX0_exponent_6 : decode cX0_exponent 6 = .ok (.invokestatic 38, 3) := by decide +kernel
theorem dX0_exponent_9 : decode cX0_exponent 9 = .ok (.lushr, 1) := by decide +kernel
theorem dX0_exponent_10 : decode cX0_exponent 10 = .ok (.l2i, 1) := by decide +kernel
theorem dX0_exponent_11 : decode cX0_exponent 11 = .ok (.istore_n 3, 1) := by decide +kernel
theorem dX0_exponent_12 : decode cX0_exponent 12 = .ok (.iload_n 0, 1) := by decide +kernel
theorem dX0_exponent_13 : decode cX0_exponent 13 = .ok (.invokestatic 42, 3) := by decide +kernel
theorem dX0_exponent_16 : decode cX0_exponent 16 = .ok (.iload_n 3, 1) := by decide +kernel
theorem dX0_exponent_17 : decode cX0_exponent 17 = .ok (.iconst 1, 1) := by decide +kernel
theorem dX0_exponent_18 : decode cX0_exponent 18 = .ok (.invokestatic 45, 3) := by decide +kernel
theorem dX0_exponent_21 : decode cX0_exponent 21 = .ok (.iadd, 1) := by decide +kernel
theorem dX0_exponent_22 : decode cX0_exponent 22 = .ok (.iconst 1, 1) := by decide +kernel
theorem dX0_exponent_23 : decode cX0_exponent 23 = .ok (.isub, 1) := by decide +kernel
theorem dX0_exponent_24 : decode cX0_exponent 24 = .ok (.ireturn, 1) := by decide +kernel
theorem dX0_roomBelow_0 : decode cX0_roomBelow 0 = .ok (.iconst 0, 1) := by decide +kernel
theorem dX0_roomBelow_1 : decode cX0_roomBelow 1 = .ok (.istore_n 3, 1) := by decide +kernel
theorem dX0_roomBelow_2 : decode cX0_roomBelow 2 = .ok (.iload_n 3, 1) := by decide +kernel
theorem dX0_roomBelow_3 : decode cX0_roomBelow 3 = .ok (.iload_n 0, 1) := by decide +kernel
theorem dX0_roomBelow_4 : decode cX0_roomBelow 4 = .ok (.if_icmp .ge 19, 3) := by decide +kernel
theorem dX0_roomBelow_7 : decode cX0_roomBelow 7 = .ok (.lload_n 1, 1) := by decide +kernel
theorem dX0_roomBelow_8 : decode cX0_roomBelow 8 = .ok (.iload_n 3, 1) := by decide +kernel
theorem dX0_roomBelow_9 : decode cX0_roomBelow 9 = .ok (.lshl, 1) := by decide +kernel
theorem dX0_roomBelow_10 : decode cX0_roomBelow 10 = .ok (.lconst 1, 1) := by decide +kernel
theorem dX0_roomBelow_11 : decode cX0_roomBelow 11 = .ok (.iload_n 0, 1) := by decide +kernel
theorem dX0_roomBelow_12 : decode cX0_roomBelow 12 = .ok (.lshl, 1) := by decide +kernel
theorem dX0_roomBelow_13 : decode cX0_roomBelow 13 = .ok (.lcmp, 1) := by decide +kernel
theorem dX0_roomBelow_14 : decode cX0_roomBelow 14 = .ok (.ifCond .ge 9, 3) := by decide +kernel
theorem dX0_roomBelow_17 : decode cX0_roomBelow 17 = .ok (.iinc 3 1, 3) := by decide +kernel
theorem dX0_roomBelow_20 : decode cX0_roomBelow 20 = .ok (.goto (-18), 3) := by decide +kernel
theorem dX0_roomBelow_23 : decode cX0_roomBelow 23 = .ok (.iload_n 3, 1) := by decide +kernel
theorem dX0_roomBelow_24 : decode cX0_roomBelow 24 = .ok (.ireturn, 1) := by decide +kernel
theorem dX0_movedDown_0 : decode cX0_movedDown 0 = .ok (.iload_n 2, 1) := by decide +kernel
theorem dX0_movedDown_1 : decode cX0_movedDown 1 = .ok (.bipush 63, 2) := by decide +kernel
theorem dX0_movedDown_3 : decode cX0_movedDown 3 = .ok (.if_icmp .le 15, 3) := by decide +kernel
theorem dX0_movedDown_6 : decode cX0_movedDown 6 = .ok (.lload_n 0, 1) := by decide +kernel
theorem dX0_movedDown_7 : decode cX0_movedDown 7 = .ok (.lconst 0, 1) := by decide +kernel
theorem dX0_movedDown_8 : decode cX0_movedDown 8 = .ok (.lcmp, 1) := by decide +kernel
theorem dX0_movedDown_9 : decode cX0_movedDown 9 = .ok (.ifCond .ne 7, 3) := by decide +kernel
theorem dX0_movedDown_12 : decode cX0_movedDown 12 = .ok (.lconst 0, 1) := by decide +kernel
theorem dX0_movedDown_13 : decode cX0_movedDown 13 = .ok (.goto 4, 3) := by decide +kernel
theorem dX0_movedDown_16 : decode cX0_movedDown 16 = .ok (.lconst 1, 1) := by decide +kernel
theorem dX0_movedDown_17 : decode cX0_movedDown 17 = .ok (.lreturn, 1) := by decide +kernel
theorem dX0_movedDown_18 : decode cX0_movedDown 18 = .ok (.lload_n 0, 1) := by decide +kernel
theorem dX0_movedDown_19 : decode cX0_movedDown 19 = .ok (.iload_n 2, 1) := by decide +kernel
theorem dX0_movedDown_20 : decode cX0_movedDown 20 = .ok (.lushr, 1) := by decide +kernel
theorem dX0_movedDown_21 : decode cX0_movedDown 21 = .ok (.lstore_n 3, 1) := by decide +kernel
theorem dX0_movedDown_22 : decode cX0_movedDown 22 = .ok (.lload_n 3, 1) := by decide +kernel
theorem dX0_movedDown_23 : decode cX0_movedDown 23 = .ok (.iload_n 2, 1) := by decide +kernel
theorem dX0_movedDown_24 : decode cX0_movedDown 24 = .ok (.lshl, 1) := by decide +kernel
theorem dX0_movedDown_25 : decode cX0_movedDown 25 = .ok (.lload_n 0, 1) := by decide +kernel
theorem dX0_movedDown_26 : decode cX0_movedDown 26 = .ok (.lcmp, 1) := by decide +kernel
theorem dX0_movedDown_27 : decode cX0_movedDown 27 = .ok (.ifCond .ne 7, 3) := by decide +kernel
theorem dX0_movedDown_30 : decode cX0_movedDown 30 = .ok (.lload_n 3, 1) := by decide +kernel
theorem dX0_movedDown_31 : decode cX0_movedDown 31 = .ok (.goto 6, 3) := by decide +kernel
theorem dX0_movedDown_34 : decode cX0_movedDown 34 = .ok (.lload_n 3, 1) := by decide +kernel
theorem dX0_movedDown_35 : decode cX0_movedDown 35 = .ok (.lconst 1, 1) := by decide +kernel
theorem dX0_movedDown_36 : decode cX0_movedDown 36 = .ok (.lor, 1) := by decide +kernel
theorem dX0_movedDown_37 : decode cX0_movedDown 37 = .ok (.lreturn, 1) := by decide +kernel
set_option maxRecDepth 20000 in
theorem ggX0_ofWhole_X0_nearest : GoodIn wsX0_ofWhole wsX0_nearest := goodIn_r _ [10, 11, 12, 9, 13, 14, 15, 16, 17, 1, 18, 19, 20, 21, 22, 23, 24, 25, 26, 27, 28, 29, 30, 31, 32, 33, 34, 35, 36, 37] (by decide +kernel) (by decide +kernel)
set_option maxRecDepth 20000 in
theorem gX0_ofWhole_X0_nearest : GoodIn wsX0_ofWhole (va_wsS RX0 53 yX0_nearest wsX0_nearest) := goodIn_app (goodIn_of _ (by decide +kernel)) ggX0_ofWhole_X0_nearest
theorem dX0_ofWhole_0 : decode cX0_ofWhole 0 = .ok (.lload_n 1, 1) := by decide +kernel
theorem dX0_ofWhole_1 : decode cX0_ofWhole 1 = .ok (.ldc2_w 23, 3) := by decide +kernel
theorem dX0_ofWhole_4 : decode cX0_ofWhole 4 = .ok (.lcmp, 1) := by decide +kernel
theorem dX0_ofWhole_5 : decode cX0_ofWhole 5 = .ok (.ifCond .ne 13, 3) := by decide +kernel
theorem dX0_ofWhole_8 : decode cX0_ofWhole 8 = .ok (.iload_n 0, 1) := by decide +kernel
theorem dX0_ofWhole_9 : decode cX0_ofWhole 9 = .ok (.iconst 1, 1) := by decide +kernel
theorem dX0_ofWhole_10 : decode cX0_ofWhole 10 = .ok (.ldc2_w 51, 3) := by decide +kernel
theorem dX0_ofWhole_13 : decode cX0_ofWhole 13 = .ok (.iconst 1, 1) := by decide +kernel
theorem dX0_ofWhole_14 : decode cX0_ofWhole 14 = .ok (.invokestatic 53, 3) := by decide +kernel
theorem dX0_ofWhole_17 : decode cX0_ofWhole 17 = .ok (.lreturn, 1) := by decide +kernel
theorem dX0_ofWhole_18 : decode cX0_ofWhole 18 = .ok (.iload_n 0, 1) := by decide +kernel
theorem dX0_ofWhole_19 : decode cX0_ofWhole 19 = .ok (.lload_n 1, 1) := by decide +kernel
theorem dX0_ofWhole_20 : decode cX0_ofWhole 20 = .ok (.lconst 0, 1) := by decide +kernel
theorem dX0_ofWhole_21 : decode cX0_ofWhole 21 = .ok (.lcmp, 1) := by decide +kernel
theorem dX0_ofWhole_22 : decode cX0_ofWhole 22 = .ok (.ifCond .ge 7, 3) := by decide +kernel
theorem dX0_ofWhole_25 : decode cX0_ofWhole 25 = .ok (.iconst 1, 1) := by decide +kernel
theorem dX0_ofWhole_26 : decode cX0_ofWhole 26 = .ok (.goto 4, 3) := by decide +kernel
theorem dX0_ofWhole_29 : decode cX0_ofWhole 29 = .ok (.iconst 0, 1) := by decide +kernel
theorem dX0_ofWhole_30 : decode cX0_ofWhole 30 = .ok (.lload_n 1, 1) := by decide +kernel
theorem dX0_ofWhole_31 : decode cX0_ofWhole 31 = .ok (.invokestatic 57, 3) := by decide +kernel
theorem dX0_ofWhole_34 : decode cX0_ofWhole 34 = .ok (.iconst 0, 1) := by decide +kernel
theorem dX0_ofWhole_35 : decode cX0_ofWhole 35 = .ok (.invokestatic 53, 3) := by decide +kernel
theorem dX0_ofWhole_38 : decode cX0_ofWhole 38 = .ok (.lreturn, 1) := by decide +kernel
set_option maxRecDepth 20000 in
theorem ggX0_ofReal_X0_isNegative : GoodIn wsX0_ofReal wsX0_isNegative := goodIn_r _ [4, 5, 6, 3, 7, 8, 9] (by decide +kernel) (by decide +kernel)
set_option maxRecDepth 20000 in
theorem gX0_ofReal_X0_isNegative : GoodIn wsX0_ofReal (va_wsS RX0 34 yX0_isNegative wsX0_isNegative) := goodIn_app (goodIn_of _ (by decide +kernel)) ggX0_ofReal_X0_isNegative
set_option maxRecDepth 20000 in
theorem ggX0_ofReal_X0_isInfinite : GoodIn wsX0_ofReal wsX0_isInfinite := goodIn_r _ [12, 13, 14, 3, 15, 16, 5, 6, 7, 8, 9, 17, 18, 19, 20, 21] (by decide +kernel) (by decide +kernel)
set_option maxRecDepth 20000 in
theorem gX0_ofReal_X0_isInfinite : GoodIn wsX0_ofReal (va_wsS RX0 61 yX0_isInfinite wsX0_isInfinite) := goodIn_app (goodIn_of _ (by decide +kernel)) ggX0_ofReal_X0_isInfinite
set_option maxRecDepth 20000 in
theorem ggX0_ofReal_X0_infinity : GoodIn wsX0_ofReal wsX0_infinity := goodIn_r _ [19, 20, 21] (by decide +kernel) (by decide +kernel)
set_option maxRecDepth 20000 in
theorem gX0_ofReal_X0_infinity : GoodIn wsX0_ofReal (va_wsS RX0 13 yX0_infinity wsX0_infinity) := goodIn_app (goodIn_of _ (by decide +kernel)) ggX0_ofReal_X0_infinity
set_option maxRecDepth 20000 in
theorem ggX0_ofReal_X0_signed : GoodIn wsX0_ofReal wsX0_signed := goodIn_r _ [24, 5, 6, 3, 7, 8, 9] (by decide +kernel) (by decide +kernel)
set_option maxRecDepth 20000 in
theorem gX0_ofReal_X0_signed : GoodIn wsX0_ofReal (va_wsS RX0 64 yX0_signed wsX0_signed) := goodIn_app (goodIn_of _ (by decide +kernel)) ggX0_ofReal_X0_signed
set_option maxRecDepth 20000 in
theorem ggX0_ofReal_X0_magnitude : GoodIn wsX0_ofReal wsX0_magnitude := goodIn_r _ [27, 28, 29, 3, 30, 13, 14, 15, 16, 5, 6, 7, 8, 9] (by decide +kernel) (by decide +kernel)
set_option maxRecDepth 20000 in
theorem gX0_ofReal_X0_magnitude : GoodIn wsX0_ofReal (va_wsS RX0 68 yX0_magnitude wsX0_magnitude) := goodIn_app (goodIn_of _ (by decide +kernel)) ggX0_ofReal_X0_magnitude
set_option maxRecDepth 20000 in
theorem ggX0_ofReal_X0_exponent : GoodIn wsX0_ofReal wsX0_exponent := goodIn_r _ [33, 34, 35, 36, 37, 13, 14, 3, 15, 16, 5, 6, 7, 8, 9, 28, 29, 30, 38, 39, 40] (by decide +kernel) (by decide +kernel)
set_option maxRecDepth 20000 in
theorem gX0_ofReal_X0_exponent : GoodIn wsX0_ofReal (va_wsS RX0 71 yX0_exponent wsX0_exponent) := goodIn_app (goodIn_of _ (by decide +kernel)) ggX0_ofReal_X0_exponent
set_option maxRecDepth 20000 in
theorem ggX0_ofReal_X0_nearest : GoodIn wsX0_ofReal wsX0_nearest := goodIn_r _ [43, 22, 23, 3, 24, 5, 6, 7, 8, 9, 44, 45, 46, 28, 29, 30, 38, 39, 40, 47, 48, 49, 17, 18, 19, 20, 21, 50, 51, 52] (by decide +kernel) (by decide +kernel)
set_option maxRecDepth 20000 in
theorem gX0_ofReal_X0_nearest : GoodIn wsX0_ofReal (va_wsS RX0 53 yX0_nearest wsX0_nearest) := goodIn_app (goodIn_of _ (by decide +kernel)) ggX0_ofReal_X0_nearest
theorem dX0_ofReal_0 : decode cX0_ofReal 0 = .ok (.iload_n 1, 1) := by decide +kernel
theorem dX0_ofReal_1 : decode cX0_ofReal 1 = .ok (.lload_n 2, 1) := by decide +kernel
theorem dX0_ofReal_2 : decode cX0_ofReal 2 = .ok (.invokestatic 34, 3) := by decide +kernel
theorem dX0_ofReal_5 : decode cX0_ofReal 5 = .ok (.istore 4, 2) := by decide +kernel
theorem dX0_ofReal_7 : decode cX0_ofReal 7 = .ok (.iload_n 1, 1) := by decide +kernel
theorem dX0_ofReal_8 : decode cX0_ofReal 8 = .ok (.lload_n 2, 1) := by decide +kernel
theorem dX0_ofReal_9 : decode cX0_ofReal 9 = .ok (.invokestatic 61, 3) := by decide +kernel
theorem dX0_ofReal_12 : decode cX0_ofReal 12 = .ok (.ifCond .eq 14, 3) := by decide +kernel
theorem dX0_ofReal_15 : decode cX0_ofReal 15 = .ok (.iload_n 0, 1) := by decide +kernel
theorem dX0_ofReal_16 : decode cX0_ofReal 16 = .ok (.iload 4, 2) := by decide +kernel
theorem dX0_ofReal_18 : decode cX0_ofReal 18 = .ok (.iload_n 0, 1) := by decide +kernel
theorem dX0_ofReal_19 : decode cX0_ofReal 19 = .ok (.invokestatic 13, 3) := by decide +kernel
theorem dX0_ofReal_22 : decode cX0_ofReal 22 = .ok (.invokestatic 64, 3) := by decide +kernel
theorem dX0_ofReal_25 : decode cX0_ofReal 25 = .ok (.lreturn, 1) := by decide +kernel
theorem dX0_ofReal_26 : decode cX0_ofReal 26 = .ok (.iload_n 0, 1) := by decide +kernel
theorem dX0_ofReal_27 : decode cX0_ofReal 27 = .ok (.iload 4, 2) := by decide +kernel
theorem dX0_ofReal_29 : decode cX0_ofReal 29 = .ok (.iload_n 1, 1) := by decide +kernel
theorem dX0_ofReal_30 : decode cX0_ofReal 30 = .ok (.lload_n 2, 1) := by decide +kernel
theorem dX0_ofReal_31 : decode cX0_ofReal 31 = .ok (.invokestatic 68, 3) := by decide +kernel
theorem dX0_ofReal_34 : decode cX0_ofReal 34 = .ok (.iload_n 1, 1) := by decide +kernel
theorem dX0_ofReal_35 : decode cX0_ofReal 35 = .ok (.lload_n 2, 1) := by decide +kernel
theorem dX0_ofReal_36 : decode cX0_ofReal 36 = .ok (.invokestatic 71, 3) := by decide +kernel
theorem dX0_ofReal_39 : decode cX0_ofReal 39 = .ok (.invokestatic 53, 3) := by decide +kernel
theorem dX0_ofReal_42 : decode cX0_ofReal 42 = .ok (.lreturn, 1) := by decide +kernel
set_option maxRecDepth 20000 in
theorem ggX0_wholePart_X0_isNegative : GoodIn wsX0_wholePart wsX0_isNegative := goodIn_r _ [6, 7, 8, 5, 9, 10, 2] (by decide +kernel) (by decide +kernel)
set_option maxRecDepth 20000 in
theorem gX0_wholePart_X0_isNegative : GoodIn wsX0_wholePart (va_wsS RX0 34 yX0_isNegative wsX0_isNegative) := goodIn_app (goodIn_of _ (by decide +kernel)) ggX0_wholePart_X0_isNegative
set_option maxRecDepth 20000 in
theorem ggX0_wholePart_X0_magnitude : GoodIn wsX0_wholePart wsX0_magnitude := goodIn_r _ [13, 14, 15, 5, 16, 17, 18, 19, 20, 7, 8, 9, 10, 2] (by decide +kernel) (by decide +kernel)
set_option maxRecDepth 20000 in
theorem gX0_wholePart_X0_magnitude : GoodIn wsX0_wholePart (va_wsS RX0 68 yX0_magnitude wsX0_magnitude) := goodIn_app (goodIn_of _ (by decide +kernel)) ggX0_wholePart_X0_magnitude
set_option maxRecDepth 20000 in
theorem ggX0_wholePart_X0_exponent : GoodIn wsX0_wholePart wsX0_exponent := goodIn_r _ [23, 24, 25, 26, 27, 17, 18, 5, 19, 20, 7, 8, 9, 10, 2, 14, 15, 16, 28, 29, 30] (by decide +kernel) (by decide +kernel)
set_option maxRecDepth 20000 in
theorem gX0_wholePart_X0_exponent : GoodIn wsX0_wholePart (va_wsS RX0 71 yX0_exponent wsX0_exponent) := goodIn_app (goodIn_of _ (by decide +kernel)) ggX0_wholePart_X0_exponent
theorem dX0_wholePart_0 : decode cX0_wholePart 0 = .ok (.iload_n 0, 1) := by decide +kernel
theorem dX0_wholePart_1 : decode cX0_wholePart 1 = .ok (.lload_n 1, 1) := by decide +kernel
theorem dX0_wholePart_2 : decode cX0_wholePart 2 = .ok (.invokestatic 34, 3) := by decide +kernel
theorem dX0_wholePart_5 : decode cX0_wholePart 5 = .ok (.istore_n 3, 1) := by decide +kernel
theorem dX0_wholePart_6 : decode cX0_wholePart 6 = .ok (.iload_n 0, 1) := by decide +kernel
theorem dX0_wholePart_7 : decode cX0_wholePart 7 = .ok (.lload_n 1, 1) := by decide +kernel
theorem dX0_wholePart_8 : decode cX0_wholePart 8 = .ok (.invokestatic 68, 3) := by decide +kernel
theorem dX0_wholePart_11 : decode cX0_wholePart 11 = .ok (.lstore 4, 2) := by decide +kernel
theorem dX0_wholePart_13 : decode cX0_wholePart 13 = .ok (.iload_n 0, 1) := by decide +kernel
theorem dX0_wholePart_14 : decode cX0_wholePart 14 = .ok (.lload_n 1, 1) := by decide +kernel
theorem dX0_wholePart_15 : decode cX0_wholePart 15 = .ok (.invokestatic 71, 3) := by decide +kernel
theorem dX0_wholePart_18 : decode cX0_wholePart 18 = .ok (.istore 6, 2) := by decide +kernel
theorem dX0_wholePart_20 : decode cX0_wholePart 20 = .ok (.iload 6, 2) := by decide +kernel
theorem dX0_wholePart_22 : decode cX0_wholePart 22 = .ok (.ifCond .gt 35, 3) := by decide +kernel
theorem dX0_wholePart_25 : decode cX0_wholePart 25 = .ok (.iload 6, 2) := by decide +kernel
theorem dX0_wholePart_27 : decode cX0_wholePart 27 = .ok (.bipush (-63), 2) := by decide +kernel
theorem dX0_wholePart_29 : decode cX0_wholePart 29 = .ok (.if_icmp .ge 7, 3) := by decide +kernel
theorem dX0_wholePart_32 : decode cX0_wholePart 32 = .ok (.lconst 0, 1) := by decide +kernel
theorem dX0_wholePart_33 : decode cX0_wholePart 33 = .ok (.goto 9, 3) := by decide +kernel
theorem dX0_wholePart_36 : decode cX0_wholePart 36 = .ok (.lload 4, 2) := by decide +kernel
theorem dX0_wholePart_38 : decode cX0_wholePart 38 = .ok (.iload 6, 2) := by decide +kernel
theorem dX0_wholePart_40 : decode cX0_wholePart 40 = .ok (.ineg, 1) := by decide +kernel
theorem dX0_wholePart_41 : decode cX0_wholePart 41 = .ok (.lushr, 1) := by decide +kernel
theorem dX0_wholePart_42 : decode cX0_wholePart 42 = .ok (.lstore 7, 2) := by decide +kernel
theorem dX0_wholePart_44 : decode cX0_wholePart 44 = .ok (.iload_n 3, 1) := by decide +kernel
theorem dX0_wholePart_45 : decode cX0_wholePart 45 = .ok (.ifCond .eq 9, 3) := by decide +kernel
theorem dX0_wholePart_48 : decode cX0_wholePart 48 = .ok (.lload 7, 2) := by decide +kernel
theorem dX0_wholePart_50 : decode cX0_wholePart 50 = .ok (.lneg, 1) := by decide +kernel
theorem dX0_wholePart_51 : decode cX0_wholePart 51 = .ok (.goto 5, 3) := by decide +kernel
theorem dX0_wholePart_54 : decode cX0_wholePart 54 = .ok (.lload 7, 2) := by decide +kernel
theorem dX0_wholePart_56 : decode cX0_wholePart 56 = .ok (.lreturn, 1) := by decide +kernel
theorem dX0_wholePart_57 : decode cX0_wholePart 57 = .ok (.iload 6, 2) := by decide +kernel
theorem dX0_wholePart_59 : decode cX0_wholePart 59 = .ok (.bipush 63, 2) := by decide +kernel
theorem dX0_wholePart_61 : decode cX0_wholePart 61 = .ok (.if_icmp .gt 15, 3) := by decide +kernel
theorem dX0_wholePart_64 : decode cX0_wholePart 64 = .ok (.lload 4, 2) := by decide +kernel
theorem dX0_wholePart_66 : decode cX0_wholePart 66 = .ok (.ldc2_w 75, 3) := by decide +kernel
theorem dX0_wholePart_69 : decode cX0_wholePart 69 = .ok (.iload 6, 2) := by decide +kernel
theorem dX0_wholePart_71 : decode cX0_wholePart 71 = .ok (.lushr, 1) := by decide +kernel
theorem dX0_wholePart_72 : decode cX0_wholePart 72 = .ok (.lcmp, 1) := by decide +kernel
theorem dX0_wholePart_73 : decode cX0_wholePart 73 = .ok (.ifCond .le 17, 3) := by decide +kernel
theorem dX0_wholePart_76 : decode cX0_wholePart 76 = .ok (.iload_n 3, 1) := by decide +kernel
theorem dX0_wholePart_77 : decode cX0_wholePart 77 = .ok (.ifCond .eq 9, 3) := by decide +kernel
theorem dX0_wholePart_80 : decode cX0_wholePart 80 = .ok (.ldc2_w 23, 3) := by decide +kernel
theorem dX0_wholePart_83 : decode cX0_wholePart 83 = .ok (.goto 6, 3) := by decide +kernel
theorem dX0_wholePart_86 : decode cX0_wholePart 86 = .ok (.ldc2_w 75, 3) := by decide +kernel
theorem dX0_wholePart_89 : decode cX0_wholePart 89 = .ok (.lreturn, 1) := by decide +kernel
theorem dX0_wholePart_90 : decode cX0_wholePart 90 = .ok (.iload_n 3, 1) := by decide +kernel
theorem dX0_wholePart_91 : decode cX0_wholePart 91 = .ok (.ifCond .eq 12, 3) := by decide +kernel
theorem dX0_wholePart_94 : decode cX0_wholePart 94 = .ok (.lload 4, 2) := by decide +kernel
theorem dX0_wholePart_96 : decode cX0_wholePart 96 = .ok (.iload 6, 2) := by decide +kernel
theorem dX0_wholePart_98 : decode cX0_wholePart 98 = .ok (.lshl, 1) := by decide +kernel
theorem dX0_wholePart_99 : decode cX0_wholePart 99 = .ok (.lneg, 1) := by decide +kernel
theorem dX0_wholePart_100 : decode cX0_wholePart 100 = .ok (.goto 8, 3) := by decide +kernel
theorem dX0_wholePart_103 : decode cX0_wholePart 103 = .ok (.lload 4, 2) := by decide +kernel
theorem dX0_wholePart_105 : decode cX0_wholePart 105 = .ok (.iload 6, 2) := by decide +kernel
theorem dX0_wholePart_107 : decode cX0_wholePart 107 = .ok (.lshl, 1) := by decide +kernel
theorem dX0_wholePart_108 : decode cX0_wholePart 108 = .ok (.lreturn, 1) := by decide +kernel
set_option maxRecDepth 20000 in
theorem ggX0_nearest_X0_signed : GoodIn wsX0_nearest wsX0_signed := goodIn_r _ [4, 5, 6, 3, 7, 8, 9] (by decide +kernel) (by decide +kernel)
set_option maxRecDepth 20000 in
theorem gX0_nearest_X0_signed : GoodIn wsX0_nearest (va_wsS RX0 64 yX0_signed wsX0_signed) := goodIn_app (goodIn_of _ (by decide +kernel)) ggX0_nearest_X0_signed
set_option maxRecDepth 20000 in
theorem ggX0_nearest_X0_roomBelow : GoodIn wsX0_nearest wsX0_roomBelow := goodIn_r _ [12] (by decide +kernel) (by decide +kernel)
set_option maxRecDepth 20000 in
theorem gX0_nearest_X0_roomBelow : GoodIn wsX0_nearest (va_wsS RX0 77 yX0_roomBelow wsX0_roomBelow) := goodIn_app (goodIn_of _ (by decide +kernel)) ggX0_nearest_X0_roomBelow
set_option maxRecDepth 20000 in
theorem ggX0_nearest_X0_fractionBits : GoodIn wsX0_nearest wsX0_fractionBits := goodIn_r _ [15] (by decide +kernel) (by decide +kernel)
set_option maxRecDepth 20000 in
theorem gX0_nearest_X0_fractionBits : GoodIn wsX0_nearest (va_wsS RX0 38 yX0_fractionBits wsX0_fractionBits) := goodIn_app (goodIn_of _ (by decide +kernel)) ggX0_nearest_X0_fractionBits
set_option maxRecDepth 20000 in
theorem ggX0_nearest_X0_leastExponent : GoodIn wsX0_nearest wsX0_leastExponent := goodIn_r _ [18] (by decide +kernel) (by decide +kernel)
set_option maxRecDepth 20000 in
theorem gX0_nearest_X0_leastExponent : GoodIn wsX0_nearest (va_wsS RX0 42 yX0_leastExponent wsX0_leastExponent) := goodIn_app (goodIn_of _ (by decide +kernel)) ggX0_nearest_X0_leastExponent
set_option maxRecDepth 20000 in
theorem ggX0_nearest_X0_greatestAbove : GoodIn wsX0_nearest wsX0_greatestAbove := goodIn_r _ [21] (by decide +kernel) (by decide +kernel)
set_option maxRecDepth 20000 in
theorem gX0_nearest_X0_greatestAbove : GoodIn wsX0_nearest (va_wsS RX0 80 yX0_greatestAbove wsX0_greatestAbove) := goodIn_app (goodIn_of _ (by decide +kernel)) ggX0_nearest_X0_greatestAbove
set_option maxRecDepth 20000 in
theorem ggX0_nearest_X0_infinity : GoodIn wsX0_nearest wsX0_infinity := goodIn_r _ [24, 25, 26] (by decide +kernel) (by decide +kernel)
set_option maxRecDepth 20000 in
theorem gX0_nearest_X0_infinity : GoodIn wsX0_nearest (va_wsS RX0 13 yX0_infinity wsX0_infinity) := goodIn_app (goodIn_of _ (by decide +kernel)) ggX0_nearest_X0_infinity
set_option maxRecDepth 20000 in
theorem ggX0_nearest_X0_roundedDown : GoodIn wsX0_nearest wsX0_roundedDown := goodIn_r _ [29] (by decide +kernel) (by decide +kernel)
set_option maxRecDepth 20000 in
theorem gX0_nearest_X0_roundedDown : GoodIn wsX0_nearest (va_wsS RX0 83 yX0_roundedDown wsX0_roundedDown) := goodIn_app (goodIn_of _ (by decide +kernel)) ggX0_nearest_X0_roundedDown
theorem dX0_nearest_0 : decode cX0_nearest 0 = .ok (.lload_n 2, 1) := by decide +kernel
theorem dX0_nearest_1 : decode cX0_nearest 1 = .ok (.lconst 0, 1) := by decide +kernel
theorem dX0_nearest_2 : decode cX0_nearest 2 = .ok (.lcmp, 1) := by decide +kernel
theorem dX0_nearest_3 : decode cX0_nearest 3 = .ok (.ifCond .ne 10, 3) := by decide +kernel
theorem dX0_nearest_6 : decode cX0_nearest 6 = .ok (.iload_n 0, 1) := by decide +kernel
theorem dX0_nearest_7 : decode cX0_nearest 7 = .ok (.iload_n 1, 1) := by decide +kernel
theorem dX0_nearest_8 : decode cX0_nearest 8 = .ok (.lconst 0, 1) := by decide +kernel
theorem dX0_nearest_9 : decode cX0_nearest 9 = .ok (.invokestatic 64, 3) := by decide +kernel
theorem dX0_nearest_12 : decode cX0_nearest 12 = .ok (.lreturn, 1) := by decide +kernel
theorem dX0_nearest_13 : decode cX0_nearest 13 = .ok (.bipush 62, 2) := by decide +kernel
theorem dX0_nearest_15 : decode cX0_nearest 15 = .ok (.lload_n 2, 1) := by decide +kernel
theorem dX0_nearest_16 : decode cX0_nearest 16 = .ok (.invokestatic 77, 3) := by decide +kernel
theorem dX0_nearest_19 : decode cX0_nearest 19 = .ok (.istore 5, 2) := by decide +kernel
theorem dX0_nearest_21 : decode cX0_nearest 21 = .ok (.bipush 62, 2) := by decide +kernel
theorem dX0_nearest_23 : decode cX0_nearest 23 = .ok (.iload_n 0, 1) := by decide +kernel
theorem dX0_nearest_24 : decode cX0_nearest 24 = .ok (.invokestatic 38, 3) := by decide +kernel
theorem dX0_nearest_27 : decode cX0_nearest 27 = .ok (.isub, 1) := by decide +kernel
theorem dX0_nearest_28 : decode cX0_nearest 28 = .ok (.istore 6, 2) := by decide +kernel
theorem dX0_nearest_30 : decode cX0_nearest 30 = .ok (.iload 4, 2) := by decide +kernel
theorem dX0_nearest_32 : decode cX0_nearest 32 = .ok (.iload 5, 2) := by decide +kernel
theorem dX0_nearest_34 : decode cX0_nearest 34 = .ok (.isub, 1) := by decide +kernel
theorem dX0_nearest_35 : decode cX0_nearest 35 = .ok (.iload 6, 2) := by decide +kernel
theorem dX0_nearest_37 : decode cX0_nearest 37 = .ok (.iadd, 1) := by decide +kernel
theorem dX0_nearest_38 : decode cX0_nearest 38 = .ok (.iload_n 0, 1) := by decide +kernel
theorem dX0_nearest_39 : decode cX0_nearest 39 = .ok (.invokestatic 42, 3) := by decide +kernel
theorem dX0_nearest_42 : decode cX0_nearest 42 = .ok (.isub, 1) := by decide +kernel
theorem dX0_nearest_43 : decode cX0_nearest 43 = .ok (.istore 7, 2) := by decide +kernel
theorem dX0_nearest_45 : decode cX0_nearest 45 = .ok (.iload 7, 2) := by decide +kernel
theorem dX0_nearest_47 : decode cX0_nearest 47 = .ok (.iload_n 0, 1) := by decide +kernel
theorem dX0_nearest_48 : decode cX0_nearest 48 = .ok (.invokestatic 80, 3) := by decide +kernel
theorem dX0_nearest_51 : decode cX0_nearest 51 = .ok (.if_icmp .le 13, 3) := by decide +kernel
theorem dX0_nearest_54 : decode cX0_nearest 54 = .ok (.iload_n 0, 1) := by decide +kernel
theorem dX0_nearest_55 : decode cX0_nearest 55 = .ok (.iload_n 1, 1) := by decide +kernel
theorem dX0_nearest_56 : decode cX0_nearest 56 = .ok (.iload_n 0, 1) := by decide +kernel
theorem dX0_nearest_57 : decode cX0_nearest 57 = .ok (.invokestatic 13, 3) := by decide +kernel
theorem dX0_nearest_60 : decode cX0_nearest 60 = .ok (.invokestatic 64, 3) := by decide +kernel
theorem dX0_nearest_63 : decode cX0_nearest 63 = .ok (.lreturn, 1) := by decide +kernel
theorem dX0_nearest_64 : decode cX0_nearest 64 = .ok (.iload 7, 2) := by decide +kernel
theorem dX0_nearest_66 : decode cX0_nearest 66 = .ok (.ifCond .ge 13, 3) := by decide +kernel
theorem dX0_nearest_69 : decode cX0_nearest 69 = .ok (.iload 6, 2) := by decide +kernel
theorem dX0_nearest_71 : decode cX0_nearest 71 = .ok (.iload 7, 2) := by decide +kernel
theorem dX0_nearest_73 : decode cX0_nearest 73 = .ok (.isub, 1) := by decide +kernel
theorem dX0_nearest_74 : decode cX0_nearest 74 = .ok (.istore 6, 2) := by decide +kernel
theorem dX0_nearest_76 : decode cX0_nearest 76 = .ok (.iconst 0, 1) := by decide +kernel
theorem dX0_nearest_77 : decode cX0_nearest 77 = .ok (.istore 7, 2) := by decide +kernel
theorem dX0_nearest_79 : decode cX0_nearest 79 = .ok (.lload_n 2, 1) := by decide +kernel
theorem dX0_nearest_80 : decode cX0_nearest 80 = .ok (.iload 5, 2) := by decide +kernel
theorem dX0_nearest_82 : decode cX0_nearest 82 = .ok (.lshl, 1) := by decide +kernel
theorem dX0_nearest_83 : decode cX0_nearest 83 = .ok (.iload 6, 2) := by decide +kernel
theorem dX0_nearest_85 : decode cX0_nearest 85 = .ok (.invokestatic 83, 3) := by decide +kernel
theorem dX0_nearest_88 : decode cX0_nearest 88 = .ok (.lstore 8, 2) := by decide +kernel
theorem dX0_nearest_90 : decode cX0_nearest 90 = .ok (.iload_n 0, 1) := by decide +kernel
theorem dX0_nearest_91 : decode cX0_nearest 91 = .ok (.iload_n 1, 1) := by decide +kernel
theorem dX0_nearest_92 : decode cX0_nearest 92 = .ok (.iload 7, 2) := by decide +kernel
theorem dX0_nearest_94 : decode cX0_nearest 94 = .ok (.i2l, 1) := by decide +kernel
theorem dX0_nearest_95 : decode cX0_nearest 95 = .ok (.iload_n 0, 1) := by decide +kernel
theorem dX0_nearest_96 : decode cX0_nearest 96 = .ok (.invokestatic 38, 3) := by decide +kernel
theorem dX0_nearest_99 : decode cX0_nearest 99 = .ok (.lshl, 1) := by decide +kernel
theorem dX0_nearest_100 : decode cX0_nearest 100 = .ok (.lload 8, 2) := by decide +kernel
theorem dX0_nearest_102 : decode cX0_nearest 102 = .ok (.ladd, 1) := by decide +kernel
theorem dX0_nearest_103 : decode cX0_nearest 103 = .ok (.invokestatic 64, 3) := by decide +kernel
theorem dX0_nearest_106 : decode cX0_nearest 106 = .ok (.lreturn, 1) := by decide +kernel
theorem dX0_roundedDown_0 : decode cX0_roundedDown 0 = .ok (.iload_n 2, 1) := by decide +kernel
theorem dX0_roundedDown_1 : decode cX0_roundedDown 1 = .ok (.bipush 63, 2) := by decide +kernel
theorem dX0_roundedDown_3 : decode cX0_roundedDown 3 = .ok (.if_icmp .le 5, 3) := by decide +kernel
theorem dX0_roundedDown_6 : decode cX0_roundedDown 6 = .ok (.lconst 0, 1) := by decide +kernel
theorem dX0_roundedDown_7 : decode cX0_roundedDown 7 = .ok (.lreturn, 1) := by decide +kernel
theorem dX0_roundedDown_8 : decode cX0_roundedDown 8 = .ok (.lload_n 0, 1) := by decide +kernel
theorem dX0_roundedDown_9 : decode cX0_roundedDown 9 = .ok (.iload_n 2, 1) := by decide +kernel
theorem dX0_roundedDown_10 : decode cX0_roundedDown 10 = .ok (.lushr, 1) := by decide +kernel
theorem dX0_roundedDown_11 : decode cX0_roundedDown 11 = .ok (.lstore_n 3, 1) := by decide +kernel
theorem dX0_roundedDown_12 : decode cX0_roundedDown 12 = .ok (.lload_n 0, 1) := by decide +kernel
theorem dX0_roundedDown_13 : decode cX0_roundedDown 13 = .ok (.lconst 1, 1) := by decide +kernel
theorem dX0_roundedDown_14 : decode cX0_roundedDown 14 = .ok (.iload_n 2, 1) := by decide +kernel
theorem dX0_roundedDown_15 : decode cX0_roundedDown 15 = .ok (.lshl, 1) := by decide +kernel
theorem dX0_roundedDown_16 : decode cX0_roundedDown 16 = .ok (.lconst 1, 1) := by decide +kernel
theorem dX0_roundedDown_17 : decode cX0_roundedDown 17 = .ok (.lsub, 1) := by decide +kernel
theorem dX0_roundedDown_18 : decode cX0_roundedDown 18 = .ok (.land, 1) := by decide +kernel
theorem dX0_roundedDown_19 : decode cX0_roundedDown 19 = .ok (.lstore 5, 2) := by decide +kernel
theorem dX0_roundedDown_21 : decode cX0_roundedDown 21 = .ok (.lconst 1, 1) := by decide +kernel
theorem dX0_roundedDown_22 : decode cX0_roundedDown 22 = .ok (.iload_n 2, 1) := by decide +kernel
theorem dX0_roundedDown_23 : decode cX0_roundedDown 23 = .ok (.iconst 1, 1) := by decide +kernel
theorem dX0_roundedDown_24 : decode cX0_roundedDown 24 = .ok (.isub, 1) := by decide +kernel
theorem dX0_roundedDown_25 : decode cX0_roundedDown 25 = .ok (.lshl, 1) := by decide +kernel
theorem dX0_roundedDown_26 : decode cX0_roundedDown 26 = .ok (.lstore 7, 2) := by decide +kernel
theorem dX0_roundedDown_28 : decode cX0_roundedDown 28 = .ok (.lload 5, 2) := by decide +kernel
theorem dX0_roundedDown_30 : decode cX0_roundedDown 30 = .ok (.lload 7, 2) := by decide +kernel
theorem dX0_roundedDown_32 : decode cX0_roundedDown 32 = .ok (.lcmp, 1) := by decide +kernel
theorem dX0_roundedDown_33 : decode cX0_roundedDown 33 = .ok (.ifCond .gt 19, 3) := by decide +kernel
theorem dX0_roundedDown_36 : decode cX0_roundedDown 36 = .ok (.lload 5, 2) := by decide +kernel
theorem dX0_roundedDown_38 : decode cX0_roundedDown 38 = .ok (.lload 7, 2) := by decide +kernel
theorem dX0_roundedDown_40 : decode cX0_roundedDown 40 = .ok (.lcmp, 1) := by decide +kernel
theorem dX0_roundedDown_41 : decode cX0_roundedDown 41 = .ok (.ifCond .ne 15, 3) := by decide +kernel
theorem dX0_roundedDown_44 : decode cX0_roundedDown 44 = .ok (.lload_n 3, 1) := by decide +kernel
theorem dX0_roundedDown_45 : decode cX0_roundedDown 45 = .ok (.lconst 1, 1) := by decide +kernel
theorem dX0_roundedDown_46 : decode cX0_roundedDown 46 = .ok (.land, 1) := by decide +kernel
theorem dX0_roundedDown_47 : decode cX0_roundedDown 47 = .ok (.lconst 1, 1) := by decide +kernel
theorem dX0_roundedDown_48 : decode cX0_roundedDown 48 = .ok (.lcmp, 1) := by decide +kernel
theorem dX0_roundedDown_49 : decode cX0_roundedDown 49 = .ok (.ifCond .ne 7, 3) := by decide +kernel
theorem dX0_roundedDown_52 : decode cX0_roundedDown 52 = .ok (.iconst 1, 1) := by decide +kernel
theorem dX0_roundedDown_53 : decode cX0_roundedDown 53 = .ok (.goto 4, 3) := by decide +kernel
theorem dX0_roundedDown_56 : decode cX0_roundedDown 56 = .ok (.iconst 0, 1) := by decide +kernel
theorem dX0_roundedDown_57 : decode cX0_roundedDown 57 = .ok (.istore 9, 2) := by decide +kernel
theorem dX0_roundedDown_59 : decode cX0_roundedDown 59 = .ok (.iload 9, 2) := by decide +kernel
theorem dX0_roundedDown_61 : decode cX0_roundedDown 61 = .ok (.ifCond .eq 9, 3) := by decide +kernel
theorem dX0_roundedDown_64 : decode cX0_roundedDown 64 = .ok (.lload_n 3, 1) := by decide +kernel
theorem dX0_roundedDown_65 : decode cX0_roundedDown 65 = .ok (.lconst 1, 1) := by decide +kernel
theorem dX0_roundedDown_66 : decode cX0_roundedDown 66 = .ok (.ladd, 1) := by decide +kernel
theorem dX0_roundedDown_67 : decode cX0_roundedDown 67 = .ok (.goto 4, 3) := by decide +kernel
theorem dX0_roundedDown_70 : decode cX0_roundedDown 70 = .ok (.lload_n 3, 1) := by decide +kernel
theorem dX0_roundedDown_71 : decode cX0_roundedDown 71 = .ok (.lreturn, 1) := by decide +kernel
set_option maxRecDepth 20000 in
theorem ggX0_sum_X0_isInfinite : GoodIn wsX0_sum wsX0_isInfinite := goodIn_r _ [4, 5, 6, 3, 7, 8, 9, 10, 11, 12, 13, 14, 15, 16, 17, 18] (by decide +kernel) (by decide +kernel)
set_option maxRecDepth 20000 in
theorem gX0_sum_X0_isInfinite : GoodIn wsX0_sum (va_wsS RX0 61 yX0_isInfinite wsX0_isInfinite) := goodIn_app (goodIn_of _ (by decide +kernel)) ggX0_sum_X0_isInfinite
set_option maxRecDepth 20000 in
theorem ggX0_sum_X0_notANumber : GoodIn wsX0_sum wsX0_notANumber := goodIn_r _ [21, 14, 15, 3, 16, 17, 18] (by decide +kernel) (by decide +kernel)
set_option maxRecDepth 20000 in
theorem gX0_sum_X0_notANumber : GoodIn wsX0_sum (va_wsS RX0 87 yX0_notANumber wsX0_notANumber) := goodIn_app (goodIn_of _ (by decide +kernel)) ggX0_sum_X0_notANumber
set_option maxRecDepth 20000 in
theorem ggX0_sum_X0_isZero : GoodIn wsX0_sum wsX0_isZero := goodIn_r _ [24, 5, 6, 3, 7, 8, 9, 10, 11, 12, 13] (by decide +kernel) (by decide +kernel)
set_option maxRecDepth 20000 in
theorem gX0_sum_X0_isZero : GoodIn wsX0_sum (va_wsS RX0 90 yX0_isZero wsX0_isZero) := goodIn_app (goodIn_of _ (by decide +kernel)) ggX0_sum_X0_isZero
set_option maxRecDepth 20000 in
theorem ggX0_sum_X0_size : GoodIn wsX0_sum wsX0_size := goodIn_r _ [7, 8, 9, 10, 3, 11, 12, 13] (by decide +kernel) (by decide +kernel)
set_option maxRecDepth 20000 in
theorem gX0_sum_X0_size : GoodIn wsX0_sum (va_wsS RX0 30 yX0_size wsX0_size) := goodIn_app (goodIn_of _ (by decide +kernel)) ggX0_sum_X0_size
set_option maxRecDepth 20000 in
theorem ggX0_sum_X0_sumByGreater : GoodIn wsX0_sum wsX0_sumByGreater := goodIn_r _ [27, 28, 29, 3, 30, 31, 32, 33, 5, 6, 7, 8, 9, 10, 11, 12, 13, 34, 35, 36, 37, 38, 39, 40, 41, 42, 43, 44, 45, 46, 47, 48, 49, 50, 51, 52, 53, 54, 55, 56, 57, 58, 59, 60, 61, 14, 15, 16, 17, 18, 62, 63, 64] (by decide +kernel) (by decide +kernel)
set_option maxRecDepth 20000 in
theorem gX0_sum_X0_sumByGreater : GoodIn wsX0_sum (va_wsS RX0 93 yX0_sumByGreater wsX0_sumByGreater) := goodIn_app (goodIn_of _ (by decide +kernel)) ggX0_sum_X0_sumByGreater
theorem dX0_sum_0 : decode cX0_sum 0 = .ok (.iload_n 0, 1) := by decide +kernel
theorem dX0_sum_1 : decode cX0_sum 1 = .ok (.lload_n 1, 1) := by decide +kernel
theorem dX0_sum_2 : decode cX0_sum 2 = .ok (.invokestatic 61, 3) := by decide +kernel
theorem dX0_sum_5 : decode cX0_sum 5 = .ok (.ifCond .eq 26, 3) := by decide +kernel
theorem dX0_sum_8 : decode cX0_sum 8 = .ok (.iload_n 0, 1) := by decide +kernel
theorem dX0_sum_9 : decode cX0_sum 9 = .ok (.lload_n 3, 1) := by decide +kernel
theorem dX0_sum_10 : decode cX0_sum 10 = .ok (.invokestatic 61, 3) := by decide +kernel
theorem dX0_sum_13 : decode cX0_sum 13 = .ok (.ifCond .eq 16, 3) := by decide +kernel
theorem dX0_sum_16 : decode cX0_sum 16 = .ok (.lload_n 1, 1) := by decide +kernel
theorem dX0_sum_17 : decode cX0_sum 17 = .ok (.lload_n 3, 1) := by decide +kernel
theorem dX0_sum_18 : decode cX0_sum 18 = .ok (.lcmp, 1) := by decide +kernel
theorem dX0_sum_19 : decode cX0_sum 19 = .ok (.ifCond .eq 10, 3) := by decide +kernel
theorem dX0_sum_22 : decode cX0_sum 22 = .ok (.iload_n 0, 1) := by decide +kernel
theorem dX0_sum_23 : decode cX0_sum 23 = .ok (.invokestatic 87, 3) := by decide +kernel
theorem dX0_sum_26 : decode cX0_sum 26 = .ok (.goto 4, 3) := by decide +kernel
theorem dX0_sum_29 : decode cX0_sum 29 = .ok (.lload_n 1, 1) := by decide +kernel
theorem dX0_sum_30 : decode cX0_sum 30 = .ok (.lreturn, 1) := by decide +kernel
theorem dX0_sum_31 : decode cX0_sum 31 = .ok (.iload_n 0, 1) := by decide +kernel
theorem dX0_sum_32 : decode cX0_sum 32 = .ok (.lload_n 3, 1) := by decide +kernel
theorem dX0_sum_33 : decode cX0_sum 33 = .ok (.invokestatic 61, 3) := by decide +kernel
theorem dX0_sum_36 : decode cX0_sum 36 = .ok (.ifCond .eq 5, 3) := by decide +kernel
theorem dX0_sum_39 : decode cX0_sum 39 = .ok (.lload_n 3, 1) := by decide +kernel
theorem dX0_sum_40 : decode cX0_sum 40 = .ok (.lreturn, 1) := by decide +kernel
theorem dX0_sum_41 : decode cX0_sum 41 = .ok (.iload_n 0, 1) := by decide +kernel
theorem dX0_sum_42 : decode cX0_sum 42 = .ok (.lload_n 1, 1) := by decide +kernel
theorem dX0_sum_43 : decode cX0_sum 43 = .ok (.invokestatic 90, 3) := by decide +kernel
theorem dX0_sum_46 : decode cX0_sum 46 = .ok (.ifCond .eq 15, 3) := by decide +kernel
theorem dX0_sum_49 : decode cX0_sum 49 = .ok (.iload_n 0, 1) := by decide +kernel
theorem dX0_sum_50 : decode cX0_sum 50 = .ok (.lload_n 3, 1) := by decide +kernel
theorem dX0_sum_51 : decode cX0_sum 51 = .ok (.invokestatic 90, 3) := by decide +kernel
theorem dX0_sum_54 : decode cX0_sum 54 = .ok (.ifCond .eq 7, 3) := by decide +kernel
theorem dX0_sum_57 : decode cX0_sum 57 = .ok (.lload_n 1, 1) := by decide +kernel
theorem dX0_sum_58 : decode cX0_sum 58 = .ok (.lload_n 3, 1) := by decide +kernel
theorem dX0_sum_59 : decode cX0_sum 59 = .ok (.land, 1) := by decide +kernel
theorem dX0_sum_60 : decode cX0_sum 60 = .ok (.lreturn, 1) := by decide +kernel
theorem dX0_sum_61 : decode cX0_sum 61 = .ok (.iload_n 0, 1) := by decide +kernel
theorem dX0_sum_62 : decode cX0_sum 62 = .ok (.lload_n 1, 1) := by decide +kernel
theorem dX0_sum_63 : decode cX0_sum 63 = .ok (.invokestatic 30, 3) := by decide +kernel
theorem dX0_sum_66 : decode cX0_sum 66 = .ok (.iload_n 0, 1) := by decide +kernel
theorem dX0_sum_67 : decode cX0_sum 67 = .ok (.lload_n 3, 1) := by decide +kernel
theorem dX0_sum_68 : decode cX0_sum 68 = .ok (.invokestatic 30, 3) := by decide +kernel
theorem dX0_sum_71 : decode cX0_sum 71 = .ok (.lcmp, 1) := by decide +kernel
theorem dX0_sum_72 : decode cX0_sum 72 = .ok (.ifCond .lt 7, 3) := by decide +kernel
theorem dX0_sum_75 : decode cX0_sum 75 = .ok (.iconst 1, 1) := by decide +kernel
theorem dX0_sum_76 : decode cX0_sum 76 = .ok (.goto 4, 3) := by decide +kernel
theorem dX0_sum_79 : decode cX0_sum 79 = .ok (.iconst 0, 1) := by decide +kernel
theorem dX0_sum_80 : decode cX0_sum 80 = .ok (.istore 5, 2) := by decide +kernel
theorem dX0_sum_82 : decode cX0_sum 82 = .ok (.iload 5, 2) := by decide +kernel
theorem dX0_sum_84 : decode cX0_sum 84 = .ok (.ifCond .eq 12, 3) := by decide +kernel
theorem dX0_sum_87 : decode cX0_sum 87 = .ok (.iload_n 0, 1) := by decide +kernel
theorem dX0_sum_88 : decode cX0_sum 88 = .ok (.lload_n 1, 1) := by decide +kernel
theorem dX0_sum_89 : decode cX0_sum 89 = .ok (.lload_n 3, 1) := by decide +kernel
theorem dX0_sum_90 : decode cX0_sum 90 = .ok (.invokestatic 93, 3) := by decide +kernel
theorem dX0_sum_93 : decode cX0_sum 93 = .ok (.goto 9, 3) := by decide +kernel
theorem dX0_sum_96 : decode cX0_sum 96 = .ok (.iload_n 0, 1) := by decide +kernel
theorem dX0_sum_97 : decode cX0_sum 97 = .ok (.lload_n 3, 1) := by decide +kernel
theorem dX0_sum_98 : decode cX0_sum 98 = .ok (.lload_n 1, 1) := by decide +kernel
theorem dX0_sum_99 : decode cX0_sum 99 = .ok (.invokestatic 93, 3) := by decide +kernel
theorem dX0_sum_102 : decode cX0_sum 102 = .ok (.lreturn, 1) := by decide +kernel
set_option maxRecDepth 20000 in
theorem ggX0_sumByGreater_X0_magnitude : GoodIn wsX0_sumByGreater wsX0_magnitude := goodIn_r _ [4, 5, 6, 3, 7, 8, 9, 10, 11, 12, 13, 14, 15, 16] (by decide +kernel) (by decide +kernel)
set_option maxRecDepth 20000 in
theorem gX0_sumByGreater_X0_magnitude : GoodIn wsX0_sumByGreater (va_wsS RX0 68 yX0_magnitude wsX0_magnitude) := goodIn_app (goodIn_of _ (by decide +kernel)) ggX0_sumByGreater_X0_magnitude
set_option maxRecDepth 20000 in
theorem ggX0_sumByGreater_X0_roomBelow : GoodIn wsX0_sumByGreater wsX0_roomBelow := goodIn_r _ [19] (by decide +kernel) (by decide +kernel)
set_option maxRecDepth 20000 in
theorem gX0_sumByGreater_X0_roomBelow : GoodIn wsX0_sumByGreater (va_wsS RX0 77 yX0_roomBelow wsX0_roomBelow) := goodIn_app (goodIn_of _ (by decide +kernel)) ggX0_sumByGreater_X0_roomBelow
set_option maxRecDepth 20000 in
theorem ggX0_sumByGreater_X0_exponent : GoodIn wsX0_sumByGreater wsX0_exponent := goodIn_r _ [22, 23, 24, 25, 26, 8, 9, 3, 10, 11, 12, 13, 14, 15, 16, 5, 6, 7, 27, 28, 29] (by decide +kernel) (by decide +kernel)
set_option maxRecDepth 20000 in
theorem gX0_sumByGreater_X0_exponent : GoodIn wsX0_sumByGreater (va_wsS RX0 71 yX0_exponent wsX0_exponent) := goodIn_app (goodIn_of _ (by decide +kernel)) ggX0_sumByGreater_X0_exponent
set_option maxRecDepth 20000 in
theorem ggX0_sumByGreater_X0_movedDown : GoodIn wsX0_sumByGreater wsX0_movedDown := goodIn_r _ [32] (by decide +kernel) (by decide +kernel)
set_option maxRecDepth 20000 in
theorem gX0_sumByGreater_X0_movedDown : GoodIn wsX0_sumByGreater (va_wsS RX0 97 yX0_movedDown wsX0_movedDown) := goodIn_app (goodIn_of _ (by decide +kernel)) ggX0_sumByGreater_X0_movedDown
set_option maxRecDepth 20000 in
theorem ggX0_sumByGreater_X0_isNegative : GoodIn wsX0_sumByGreater wsX0_isNegative := goodIn_r _ [35, 12, 13, 3, 14, 15, 16] (by decide +kernel) (by decide +kernel)
set_option maxRecDepth 20000 in
theorem gX0_sumByGreater_X0_isNegative : GoodIn wsX0_sumByGreater (va_wsS RX0 34 yX0_isNegative wsX0_isNegative) := goodIn_app (goodIn_of _ (by decide +kernel)) ggX0_sumByGreater_X0_isNegative
set_option maxRecDepth 20000 in
theorem ggX0_sumByGreater_X0_nearest : GoodIn wsX0_sumByGreater wsX0_nearest := goodIn_r _ [38, 39, 40, 3, 41, 12, 13, 14, 15, 16, 17, 18, 19, 5, 6, 7, 27, 28, 29, 42, 43, 44, 45, 46, 47, 48, 49, 50, 51, 52] (by decide +kernel) (by decide +kernel)
set_option maxRecDepth 20000 in
theorem gX0_sumByGreater_X0_nearest : GoodIn wsX0_sumByGreater (va_wsS RX0 53 yX0_nearest wsX0_nearest) := goodIn_app (goodIn_of _ (by decide +kernel)) ggX0_sumByGreater_X0_nearest
theorem dX0_sumByGreater_0 : decode cX0_sumByGreater 0 = .ok (.bipush 61, 2) := by decide +kernel
theorem dX0_sumByGreater_2 : decode cX0_sumByGreater 2 = .ok (.iload_n 0, 1) := by decide +kernel
theorem dX0_sumByGreater_3 : decode cX0_sumByGreater 3 = .ok (.lload_n 1, 1) := by decide +kernel
theorem dX0_sumByGreater_4 : decode cX0_sumByGreater 4 = .ok (.invokestatic 68, 3) := by decide +kernel
theorem dX0_sumByGreater_7 : decode cX0_sumByGreater 7 = .ok (.invokestatic 77, 3) := by decide +kernel
theorem dX0_sumByGreater_10 : decode cX0_sumByGreater 10 = .ok (.istore 5, 2) := by decide +kernel
theorem dX0_sumByGreater_12 : decode cX0_sumByGreater 12 = .ok (.iload_n 0, 1) := by decide +kernel
theorem dX0_sumByGreater_13 : decode cX0_sumByGreater 13 = .ok (.lload_n 1, 1) := by decide +kernel
theorem dX0_sumByGreater_14 : decode cX0_sumByGreater 14 = .ok (.invokestatic 68, 3) := by decide +kernel
theorem dX0_sumByGreater_17 : decode cX0_sumByGreater 17 = .ok (.iload 5, 2) := by decide +kernel
theorem dX0_sumByGreater_19 : decode cX0_sumByGreater 19 = .ok (.lshl, 1) := by decide +kernel
theorem dX0_sumByGreater_20 : decode cX0_sumByGreater 20 = .ok (.lstore 6, 2) := by decide +kernel
theorem dX0_sumByGreater_22 : decode cX0_sumByGreater 22 = .ok (.iload_n 0, 1) := by decide +kernel
theorem dX0_sumByGreater_23 : decode cX0_sumByGreater 23 = .ok (.lload_n 1, 1) := by decide +kernel
theorem dX0_sumByGreater_24 : decode cX0_sumByGreater 24 = .ok (.invokestatic 71, 3) := by decide +kernel
theorem dX0_sumByGreater_27 : decode cX0_sumByGreater 27 = .ok (.iload 5, 2) := by decide +kernel
theorem dX0_sumByGreater_29 : decode cX0_sumByGreater 29 = .ok (.isub, 1) := by decide +kernel
theorem dX0_sumByGreater_30 : decode cX0_sumByGreater 30 = .ok (.istore 8, 2) := by decide +kernel
theorem dX0_sumByGreater_32 : decode cX0_sumByGreater 32 = .ok (.iload_n 0, 1) := by decide +kernel
theorem dX0_sumByGreater_33 : decode cX0_sumByGreater 33 = .ok (.lload_n 3, 1) := by decide +kernel
theorem dX0_sumByGreater_34 : decode cX0_sumByGreater 34 = .ok (.invokestatic 68, 3) := by decide +kernel
theorem dX0_sumByGreater_37 : decode cX0_sumByGreater 37 = .ok (.lstore 9, 2) := by decide +kernel
theorem dX0_sumByGreater_39 : decode cX0_sumByGreater 39 = .ok (.iload_n 0, 1) := by decide +kernel
theorem dX0_sumByGreater_40 : decode cX0_sumByGreater 40 = .ok (.lload_n 3, 1) := by decide +kernel
theorem dX0_sumByGreater_41 : decode cX0_sumByGreater 41 = .ok (.invokestatic 71, 3) := by decide +kernel
theorem dX0_sumByGreater_44 : decode cX0_sumByGreater 44 = .ok (.iload 8, 2) := by decide +kernel
theorem dX0_sumByGreater_46 : decode cX0_sumByGreater 46 = .ok (.isub, 1) := by decide +kernel
theorem dX0_sumByGreater_47 : decode cX0_sumByGreater 47 = .ok (.istore 11, 2) := by decide +kernel
theorem dX0_sumByGreater_49 : decode cX0_sumByGreater 49 = .ok (.iload 11, 2) := by decide +kernel
theorem dX0_sumByGreater_51 : decode cX0_sumByGreater 51 = .ok (.ifCond .lt 11, 3) := by decide +kernel
theorem dX0_sumByGreater_54 : decode cX0_sumByGreater 54 = .ok (.lload 9, 2) := by decide +kernel
theorem dX0_sumByGreater_56 : decode cX0_sumByGreater 56 = .ok (.iload 11, 2) := by decide +kernel
theorem dX0_sumByGreater_58 : decode cX0_sumByGreater 58 = .ok (.lshl, 1) := by decide +kernel
theorem dX0_sumByGreater_59 : decode cX0_sumByGreater 59 = .ok (.goto 11, 3) := by decide +kernel
theorem dX0_sumByGreater_62 : decode cX0_sumByGreater 62 = .ok (.lload 9, 2) := by decide +kernel
theorem dX0_sumByGreater_64 : decode cX0_sumByGreater 64 = .ok (.iload 11, 2) := by decide +kernel
theorem dX0_sumByGreater_66 : decode cX0_sumByGreater 66 = .ok (.ineg, 1) := by decide +kernel
theorem dX0_sumByGreater_67 : decode cX0_sumByGreater 67 = .ok (.invokestatic 97, 3) := by decide +kernel
theorem dX0_sumByGreater_70 : decode cX0_sumByGreater 70 = .ok (.lstore 9, 2) := by decide +kernel
theorem dX0_sumByGreater_72 : decode cX0_sumByGreater 72 = .ok (.iload_n 0, 1) := by decide +kernel
theorem dX0_sumByGreater_73 : decode cX0_sumByGreater 73 = .ok (.lload_n 1, 1) := by decide +kernel
theorem dX0_sumByGreater_74 : decode cX0_sumByGreater 74 = .ok (.invokestatic 34, 3) := by decide +kernel
theorem dX0_sumByGreater_77 : decode cX0_sumByGreater 77 = .ok (.istore 12, 2) := by decide +kernel
theorem dX0_sumByGreater_79 : decode cX0_sumByGreater 79 = .ok (.iload 12, 2) := by decide +kernel
theorem dX0_sumByGreater_81 : decode cX0_sumByGreater 81 = .ok (.iload_n 0, 1) := by decide +kernel
theorem dX0_sumByGreater_82 : decode cX0_sumByGreater 82 = .ok (.lload_n 3, 1) := by decide +kernel
theorem dX0_sumByGreater_83 : decode cX0_sumByGreater 83 = .ok (.invokestatic 34, 3) := by decide +kernel
theorem dX0_sumByGreater_86 : decode cX0_sumByGreater 86 = .ok (.if_icmp .ne 17, 3) := by decide +kernel
theorem dX0_sumByGreater_89 : decode cX0_sumByGreater 89 = .ok (.iload_n 0, 1) := by decide +kernel
theorem dX0_sumByGreater_90 : decode cX0_sumByGreater 90 = .ok (.iload 12, 2) := by decide +kernel
theorem dX0_sumByGreater_92 : decode cX0_sumByGreater 92 = .ok (.lload 6, 2) := by decide +kernel
theorem dX0_sumByGreater_94 : decode cX0_sumByGreater 94 = .ok (.lload 9, 2) := by decide +kernel
theorem dX0_sumByGreater_96 : decode cX0_sumByGreater 96 = .ok (.ladd, 1) := by decide +kernel
theorem dX0_sumByGreater_97 : decode cX0_sumByGreater 97 = .ok (.iload 8, 2) := by decide +kernel
theorem dX0_sumByGreater_99 : decode cX0_sumByGreater 99 = .ok (.invokestatic 53, 3) := by decide +kernel
theorem dX0_sumByGreater_102 : decode cX0_sumByGreater 102 = .ok (.lreturn, 1) := by decide +kernel
theorem dX0_sumByGreater_103 : decode cX0_sumByGreater 103 = .ok (.lload 6, 2) := by decide +kernel
theorem dX0_sumByGreater_105 : decode cX0_sumByGreater 105 = .ok (.lload 9, 2) := by decide +kernel
theorem dX0_sumByGreater_107 : decode cX0_sumByGreater 107 = .ok (.lcmp, 1) := by decide +kernel
theorem dX0_sumByGreater_108 : decode cX0_sumByGreater 108 = .ok (.ifCond .ne 7, 3) := by decide +kernel
theorem dX0_sumByGreater_111 : decode cX0_sumByGreater 111 = .ok (.lconst 0, 1) := by decide +kernel
theorem dX0_sumByGreater_112 : decode cX0_sumByGreater 112 = .ok (.goto 16, 3) := by decide +kernel
theorem dX0_sumByGreater_115 : decode cX0_sumByGreater 115 = .ok (.iload_n 0, 1) := by decide +kernel
theorem dX0_sumByGreater_116 : decode cX0_sumByGreater 116 = .ok (.iload 12, 2) := by decide +kernel
theorem dX0_sumByGreater_118 : decode cX0_sumByGreater 118 = .ok (.lload 6, 2) := by decide +kernel
theorem dX0_sumByGreater_120 : decode cX0_sumByGreater 120 = .ok (.lload 9, 2) := by decide +kernel
theorem dX0_sumByGreater_122 : decode cX0_sumByGreater 122 = .ok (.lsub, 1) := by decide +kernel
theorem dX0_sumByGreater_123 : decode cX0_sumByGreater 123 = .ok (.iload 8, 2) := by decide +kernel
theorem dX0_sumByGreater_125 : decode cX0_sumByGreater 125 = .ok (.invokestatic 53, 3) := by decide +kernel
theorem dX0_sumByGreater_128 : decode cX0_sumByGreater 128 = .ok (.lreturn, 1) := by decide +kernel
set_option maxRecDepth 20000 in
theorem ggX0_product_X0_isNegative : GoodIn wsX0_product wsX0_isNegative := goodIn_r _ [4, 5, 6, 3, 7, 8, 9] (by decide +kernel) (by decide +kernel)
set_option maxRecDepth 20000 in
theorem gX0_product_X0_isNegative : GoodIn wsX0_product (va_wsS RX0 34 yX0_isNegative wsX0_isNegative) := goodIn_app (goodIn_of _ (by decide +kernel)) ggX0_product_X0_isNegative
set_option maxRecDepth 20000 in
theorem ggX0_product_X0_isInfinite : GoodIn wsX0_product wsX0_isInfinite := goodIn_r _ [12, 13, 14, 3, 15, 16, 5, 6, 7, 8, 9, 17, 18, 19, 20, 21] (by decide +kernel) (by decide +kernel)
set_option maxRecDepth 20000 in
theorem gX0_product_X0_isInfinite : GoodIn wsX0_product (va_wsS RX0 61 yX0_isInfinite wsX0_isInfinite) := goodIn_app (goodIn_of _ (by decide +kernel)) ggX0_product_X0_isInfinite
set_option maxRecDepth 20000 in
theorem ggX0_product_X0_isZero : GoodIn wsX0_product wsX0_isZero := goodIn_r _ [24, 13, 14, 3, 15, 16, 5, 6, 7, 8, 9] (by decide +kernel) (by decide +kernel)
set_option maxRecDepth 20000 in
theorem gX0_product_X0_isZero : GoodIn wsX0_product (va_wsS RX0 90 yX0_isZero wsX0_isZero) := goodIn_app (goodIn_of _ (by decide +kernel)) ggX0_product_X0_isZero
set_option maxRecDepth 20000 in
theorem ggX0_product_X0_notANumber : GoodIn wsX0_product wsX0_notANumber := goodIn_r _ [27, 17, 18, 3, 19, 20, 21] (by decide +kernel) (by decide +kernel)
set_option maxRecDepth 20000 in
theorem gX0_product_X0_notANumber : GoodIn wsX0_product (va_wsS RX0 87 yX0_notANumber wsX0_notANumber) := goodIn_app (goodIn_of _ (by decide +kernel)) ggX0_product_X0_notANumber
set_option maxRecDepth 20000 in
theorem ggX0_product_X0_infinity : GoodIn wsX0_product wsX0_infinity := goodIn_r _ [19, 20, 21] (by decide +kernel) (by decide +kernel)
set_option maxRecDepth 20000 in
theorem gX0_product_X0_infinity : GoodIn wsX0_product (va_wsS RX0 13 yX0_infinity wsX0_infinity) := goodIn_app (goodIn_of _ (by decide +kernel)) ggX0_product_X0_infinity
set_option maxRecDepth 20000 in
theorem ggX0_product_X0_signed : GoodIn wsX0_product wsX0_signed := goodIn_r _ [30, 5, 6, 3, 7, 8, 9] (by decide +kernel) (by decide +kernel)
set_option maxRecDepth 20000 in
theorem gX0_product_X0_signed : GoodIn wsX0_product (va_wsS RX0 64 yX0_signed wsX0_signed) := goodIn_app (goodIn_of _ (by decide +kernel)) ggX0_product_X0_signed
set_option maxRecDepth 20000 in
theorem ggX0_product_X0_magnitude : GoodIn wsX0_product wsX0_magnitude := goodIn_r _ [33, 34, 35, 3, 36, 13, 14, 15, 16, 5, 6, 7, 8, 9] (by decide +kernel) (by decide +kernel)
set_option maxRecDepth 20000 in
theorem gX0_product_X0_magnitude : GoodIn wsX0_product (va_wsS RX0 68 yX0_magnitude wsX0_magnitude) := goodIn_app (goodIn_of _ (by decide +kernel)) ggX0_product_X0_magnitude
set_option maxRecDepth 20000 in
theorem ggX0_product_X0_roomBelow : GoodIn wsX0_product wsX0_roomBelow := goodIn_r _ [39] (by decide +kernel) (by decide +kernel)
set_option maxRecDepth 20000 in
theorem gX0_product_X0_roomBelow : GoodIn wsX0_product (va_wsS RX0 77 yX0_roomBelow wsX0_roomBelow) := goodIn_app (goodIn_of _ (by decide +kernel)) ggX0_product_X0_roomBelow
set_option maxRecDepth 20000 in
theorem ggX0_product_X0_topOfProduct : GoodIn wsX0_product wsX0_topOfProduct := goodIn_r _ [42, 43, 44, 45, 3, 46] (by decide +kernel) (by decide +kernel)
set_option maxRecDepth 20000 in
theorem gX0_product_X0_topOfProduct : GoodIn wsX0_product (va_wsS RX0 100 yX0_topOfProduct wsX0_topOfProduct) := goodIn_app (goodIn_of _ (by decide +kernel)) ggX0_product_X0_topOfProduct
set_option maxRecDepth 20000 in
theorem ggX0_product_X0_exponent : GoodIn wsX0_product wsX0_exponent := goodIn_r _ [49, 50, 51, 52, 53, 13, 14, 3, 15, 16, 5, 6, 7, 8, 9, 34, 35, 36, 54, 55, 56] (by decide +kernel) (by decide +kernel)
set_option maxRecDepth 20000 in
theorem gX0_product_X0_exponent : GoodIn wsX0_product (va_wsS RX0 71 yX0_exponent wsX0_exponent) := goodIn_app (goodIn_of _ (by decide +kernel)) ggX0_product_X0_exponent
set_option maxRecDepth 20000 in
theorem ggX0_product_X0_nearest : GoodIn wsX0_product wsX0_nearest := goodIn_r _ [59, 28, 29, 3, 30, 5, 6, 7, 8, 9, 37, 38, 39, 34, 35, 36, 54, 55, 56, 60, 61, 62, 17, 18, 19, 20, 21, 63, 64, 65] (by decide +kernel) (by decide +kernel)
set_option maxRecDepth 20000 in
theorem gX0_product_X0_nearest : GoodIn wsX0_product (va_wsS RX0 53 yX0_nearest wsX0_nearest) := goodIn_app (goodIn_of _ (by decide +kernel)) ggX0_product_X0_nearest
theorem dX0_product_0 : decode cX0_product 0 = .ok (.iload_n 0, 1) := by decide +kernel
theorem dX0_product_1 : decode cX0_product 1 = .ok (.lload_n 1, 1) := by decide +kernel
theorem dX0_product_2 : decode cX0_product 2 = .ok (.invokestatic 34, 3) := by decide +kernel
theorem dX0_product_5 : decode cX0_product 5 = .ok (.iload_n 0, 1) := by decide +kernel
theorem dX0_product_6 : decode cX0_product 6 = .ok (.lload_n 3, 1) := by decide +kernel
theorem dX0_product_7 : decode cX0_product 7 = .ok (.invokestatic 34, 3) := by decide +kernel
theorem dX0_product_10 : decode cX0_product 10 = .ok (.if_icmp .eq 7, 3) := by decide +kernel
theorem dX0_product_13 : decode cX0_product 13 = .ok (.iconst 1, 1) := by decide +kernel
theorem dX0_product_14 : decode cX0_product 14 = .ok (.goto 4, 3) := by decide +kernel
theorem dX0_product_17 : decode cX0_product 17 = .ok (.iconst 0, 1) := by decide +kernel
theorem dX0_product_18 : decode cX0_product 18 = .ok (.istore 5, 2) := by decide +kernel
theorem dX0_product_20 : decode cX0_product 20 = .ok (.iload_n 0, 1) := by decide +kernel
theorem dX0_product_21 : decode cX0_product 21 = .ok (.lload_n 1, 1) := by decide +kernel
theorem dX0_product_22 : decode cX0_product 22 = .ok (.invokestatic 61, 3) := by decide +kernel
theorem dX0_product_25 : decode cX0_product 25 = .ok (.ifCond .ne 11, 3) := by decide +kernel
theorem dX0_product_28 : decode cX0_product 28 = .ok (.iload_n 0, 1) := by decide +kernel
theorem dX0_product_29 : decode cX0_product 29 = .ok (.lload_n 3, 1) := by decide +kernel
theorem dX0_product_30 : decode cX0_product 30 = .ok (.invokestatic 61, 3) := by decide +kernel
theorem dX0_product_33 : decode cX0_product 33 = .ok (.ifCond .eq 49, 3) := by decide +kernel
theorem dX0_product_36 : decode cX0_product 36 = .ok (.iload_n 0, 1) := by decide +kernel
theorem dX0_product_37 : decode cX0_product 37 = .ok (.lload_n 1, 1) := by decide +kernel
theorem dX0_product_38 : decode cX0_product 38 = .ok (.invokestatic 90, 3) := by decide +kernel
theorem dX0_product_41 : decode cX0_product 41 = .ok (.ifCond .ne 11, 3) := by decide +kernel
theorem dX0_product_44 : decode cX0_product 44 = .ok (.iload_n 0, 1) := by decide +kernel
theorem dX0_product_45 : decode cX0_product 45 = .ok (.lload_n 3, 1) := by decide +kernel
theorem dX0_product_46 : decode cX0_product 46 = .ok (.invokestatic 90, 3) := by decide +kernel
theorem dX0_product_49 : decode cX0_product 49 = .ok (.ifCond .eq 7, 3) := by decide +kernel
theorem dX0_product_52 : decode cX0_product 52 = .ok (.iconst 1, 1) := by decide +kernel
theorem dX0_product_53 : decode cX0_product 53 = .ok (.goto 4, 3) := by decide +kernel
theorem dX0_product_56 : decode cX0_product 56 = .ok (.iconst 0, 1) := by decide +kernel
theorem dX0_product_57 : decode cX0_product 57 = .ok (.istore 6, 2) := by decide +kernel
theorem dX0_product_59 : decode cX0_product 59 = .ok (.iload 6, 2) := by decide +kernel
theorem dX0_product_61 : decode cX0_product 61 = .ok (.ifCond .eq 10, 3) := by decide +kernel
theorem dX0_product_64 : decode cX0_product 64 = .ok (.iload_n 0, 1) := by decide +kernel
theorem dX0_product_65 : decode cX0_product 65 = .ok (.invokestatic 87, 3) := by decide +kernel
theorem dX0_product_68 : decode cX0_product 68 = .ok (.goto 13, 3) := by decide +kernel
theorem dX0_product_71 : decode cX0_product 71 = .ok (.iload_n 0, 1) := by decide +kernel
theorem dX0_product_72 : decode cX0_product 72 = .ok (.iload 5, 2) := by decide +kernel
theorem dX0_product_74 : decode cX0_product 74 = .ok (.iload_n 0, 1) := by decide +kernel
theorem dX0_product_75 : decode cX0_product 75 = .ok (.invokestatic 13, 3) := by decide +kernel
theorem dX0_product_78 : decode cX0_product 78 = .ok (.invokestatic 64, 3) := by decide +kernel
theorem dX0_product_81 : decode cX0_product 81 = .ok (.lreturn, 1) := by decide +kernel
theorem dX0_product_82 : decode cX0_product 82 = .ok (.bipush 52, 2) := by decide +kernel
theorem dX0_product_84 : decode cX0_product 84 = .ok (.iload_n 0, 1) := by decide +kernel
theorem dX0_product_85 : decode cX0_product 85 = .ok (.lload_n 1, 1) := by decide +kernel
theorem dX0_product_86 : decode cX0_product 86 = .ok (.invokestatic 68, 3) := by decide +kernel
theorem dX0_product_89 : decode cX0_product 89 = .ok (.invokestatic 77, 3) := by decide +kernel
theorem dX0_product_92 : decode cX0_product 92 = .ok (.istore 6, 2) := by decide +kernel
theorem dX0_product_94 : decode cX0_product 94 = .ok (.bipush 52, 2) := by decide +kernel
theorem dX0_product_96 : decode cX0_product 96 = .ok (.iload_n 0, 1) := by decide +kernel
theorem dX0_product_97 : decode cX0_product 97 = .ok (.lload_n 3, 1) := by decide +kernel
theorem dX0_product_98 : decode cX0_product 98 = .ok (.invokestatic 68, 3) := by decide +kernel
theorem dX0_product_101 : decode cX0_product 101 = .ok (.invokestatic 77, 3) := by decide +kernel
theorem dX0_product_104 : decode cX0_product 104 = .ok (.istore 7, 2) := by decide +kernel
theorem dX0_product_106 : decode cX0_product 106 = .ok (.iload_n 0, 1) := by decide +kernel
theorem dX0_product_107 : decode cX0_product 107 = .ok (.lload_n 1, 1) := by decide +kernel
theorem dX0_product_108 : decode cX0_product 108 = .ok (.invokestatic 68, 3) := by decide +kernel
theorem dX0_product_111 : decode cX0_product 111 = .ok (.iload 6, 2) := by decide +kernel
theorem dX0_product_113 : decode cX0_product 113 = .ok (.lshl, 1) := by decide +kernel
theorem dX0_product_114 : decode cX0_product 114 = .ok (.iload_n 0, 1) := by decide +kernel
theorem dX0_product_115 : decode cX0_product 115 = .ok (.lload_n 3, 1) := by decide +kernel
theorem dX0_product_116 : decode cX0_product 116 = .ok (.invokestatic 68, 3) := by decide +kernel
theorem dX0_product_119 : decode cX0_product 119 = .ok (.iload 7, 2) := by decide +kernel
theorem dX0_product_121 : decode cX0_product 121 = .ok (.lshl, 1) := by decide +kernel
theorem dX0_product_122 : decode cX0_product 122 = .ok (.invokestatic 100, 3) := by decide +kernel
theorem dX0_product_125 : decode cX0_product 125 = .ok (.lstore 8, 2) := by decide +kernel
theorem dX0_product_127 : decode cX0_product 127 = .ok (.iload_n 0, 1) := by decide +kernel
theorem dX0_product_128 : decode cX0_product 128 = .ok (.lload_n 1, 1) := by decide +kernel
theorem dX0_product_129 : decode cX0_product 129 = .ok (.invokestatic 71, 3) := by decide +kernel
theorem dX0_product_132 : decode cX0_product 132 = .ok (.iload 6, 2) := by decide +kernel
theorem dX0_product_134 : decode cX0_product 134 = .ok (.isub, 1) := by decide +kernel
theorem dX0_product_135 : decode cX0_product 135 = .ok (.iload_n 0, 1) := by decide +kernel
theorem dX0_product_136 : decode cX0_product 136 = .ok (.lload_n 3, 1) := by decide +kernel
theorem dX0_product_137 : decode cX0_product 137 = .ok (.invokestatic 71, 3) := by decide +kernel
theorem dX0_product_140 : decode cX0_product 140 = .ok (.iadd, 1) := by decide +kernel
theorem dX0_product_141 : decode cX0_product 141 = .ok (.iload 7, 2) := by decide +kernel
theorem dX0_product_143 : decode cX0_product 143 = .ok (.isub, 1) := by decide +kernel
theorem dX0_product_144 : decode cX0_product 144 = .ok (.istore 10, 2) := by decide +kernel
theorem dX0_product_146 : decode cX0_product 146 = .ok (.iload_n 0, 1) := by decide +kernel
theorem dX0_product_147 : decode cX0_product 147 = .ok (.iload 5, 2) := by decide +kernel
theorem dX0_product_149 : decode cX0_product 149 = .ok (.lload 8, 2) := by decide +kernel
theorem dX0_product_151 : decode cX0_product 151 = .ok (.iload 10, 2) := by decide +kernel
theorem dX0_product_153 : decode cX0_product 153 = .ok (.bipush 54, 2) := by decide +kernel
theorem dX0_product_155 : decode cX0_product 155 = .ok (.iadd, 1) := by decide +kernel
theorem dX0_product_156 : decode cX0_product 156 = .ok (.bipush 10, 2) := by decide +kernel
theorem dX0_product_158 : decode cX0_product 158 = .ok (.isub, 1) := by decide +kernel
theorem dX0_product_159 : decode cX0_product 159 = .ok (.invokestatic 53, 3) := by decide +kernel
theorem dX0_product_162 : decode cX0_product 162 = .ok (.lreturn, 1) := by decide +kernel
set_option maxRecDepth 20000 in
theorem ggX0_topOfProduct_X0_movedDown : GoodIn wsX0_topOfProduct wsX0_movedDown := goodIn_r _ [5] (by decide +kernel) (by decide +kernel)
set_option maxRecDepth 20000 in
theorem gX0_topOfProduct_X0_movedDown : GoodIn wsX0_topOfProduct (va_wsS RX0 97 yX0_movedDown wsX0_movedDown) := goodIn_app (goodIn_of _ (by decide +kernel)) ggX0_topOfProduct_X0_movedDown
theorem dX0_topOfProduct_0 : decode cX0_topOfProduct 0 = .ok (.ldc2_w 104, 3) := by decide +kernel
theorem dX0_topOfProduct_3 : decode cX0_topOfProduct 3 = .ok (.lstore 4, 2) := by decide +kernel
theorem dX0_topOfProduct_5 : decode cX0_topOfProduct 5 = .ok (.lload_n 0, 1) := by decide +kernel
theorem dX0_topOfProduct_6 : decode cX0_topOfProduct 6 = .ok (.bipush 27, 2) := by decide +kernel
theorem dX0_topOfProduct_8 : decode cX0_topOfProduct 8 = .ok (.lushr, 1) := by decide +kernel
theorem dX0_topOfProduct_9 : decode cX0_topOfProduct 9 = .ok (.lstore 6, 2) := by decide +kernel
theorem dX0_topOfProduct_11 : decode cX0_topOfProduct 11 = .ok (.lload_n 0, 1) := by decide +kernel
theorem dX0_topOfProduct_12 : decode cX0_topOfProduct 12 = .ok (.lload 4, 2) := by decide +kernel
theorem dX0_topOfProduct_14 : decode cX0_topOfProduct 14 = .ok (.land, 1) := by decide +kernel
theorem dX0_topOfProduct_15 : decode cX0_topOfProduct 15 = .ok (.lstore 8, 2) := by decide +kernel
theorem dX0_topOfProduct_17 : decode cX0_topOfProduct 17 = .ok (.lload_n 2, 1) := by decide +kernel
theorem dX0_topOfProduct_18 : decode cX0_topOfProduct 18 = .ok (.bipush 27, 2) := by decide +kernel
theorem dX0_topOfProduct_20 : decode cX0_topOfProduct 20 = .ok (.lushr, 1) := by decide +kernel
theorem dX0_topOfProduct_21 : decode cX0_topOfProduct 21 = .ok (.lstore 10, 2) := by decide +kernel
theorem dX0_topOfProduct_23 : decode cX0_topOfProduct 23 = .ok (.lload_n 2, 1) := by decide +kernel
theorem dX0_topOfProduct_24 : decode cX0_topOfProduct 24 = .ok (.lload 4, 2) := by decide +kernel
theorem dX0_topOfProduct_26 : decode cX0_topOfProduct 26 = .ok (.land, 1) := by decide +kernel
theorem dX0_topOfProduct_27 : decode cX0_topOfProduct 27 = .ok (.lstore 12, 2) := by decide +kernel
theorem dX0_topOfProduct_29 : decode cX0_topOfProduct 29 = .ok (.lload 8, 2) := by decide +kernel
theorem dX0_topOfProduct_31 : decode cX0_topOfProduct 31 = .ok (.lload 12, 2) := by decide +kernel
theorem dX0_topOfProduct_33 : decode cX0_topOfProduct 33 = .ok (.lmul, 1) := by decide +kernel
theorem dX0_topOfProduct_34 : decode cX0_topOfProduct 34 = .ok (.lstore 14, 2) := by decide +kernel
theorem dX0_topOfProduct_36 : decode cX0_topOfProduct 36 = .ok (.lload 6, 2) := by decide +kernel
theorem dX0_topOfProduct_38 : decode cX0_topOfProduct 38 = .ok (.lload 12, 2) := by decide +kernel
theorem dX0_topOfProduct_40 : decode cX0_topOfProduct 40 = .ok (.lmul, 1) := by decide +kernel
theorem dX0_topOfProduct_41 : decode cX0_topOfProduct 41 = .ok (.lload 8, 2) := by decide +kernel
theorem dX0_topOfProduct_43 : decode cX0_topOfProduct 43 = .ok (.lload 10, 2) := by decide +kernel
theorem dX0_topOfProduct_45 : decode cX0_topOfProduct 45 = .ok (.lmul, 1) := by decide +kernel
theorem dX0_topOfProduct_46 : decode cX0_topOfProduct 46 = .ok (.ladd, 1) := by decide +kernel
theorem dX0_topOfProduct_47 : decode cX0_topOfProduct 47 = .ok (.lload 14, 2) := by decide +kernel
theorem dX0_topOfProduct_49 : decode cX0_topOfProduct 49 = .ok (.bipush 27, 2) := by decide +kernel
theorem dX0_topOfProduct_51 : decode cX0_topOfProduct 51 = .ok (.lushr, 1) := by decide +kernel
theorem dX0_topOfProduct_52 : decode cX0_topOfProduct 52 = .ok (.ladd, 1) := by decide +kernel
theorem dX0_topOfProduct_53 : decode cX0_topOfProduct 53 = .ok (.lstore 16, 2) := by decide +kernel
theorem dX0_topOfProduct_55 : decode cX0_topOfProduct 55 = .ok (.lload 6, 2) := by decide +kernel
theorem dX0_topOfProduct_57 : decode cX0_topOfProduct 57 = .ok (.lload 10, 2) := by decide +kernel
theorem dX0_topOfProduct_59 : decode cX0_topOfProduct 59 = .ok (.lmul, 1) := by decide +kernel
theorem dX0_topOfProduct_60 : decode cX0_topOfProduct 60 = .ok (.lload 16, 2) := by decide +kernel
theorem dX0_topOfProduct_62 : decode cX0_topOfProduct 62 = .ok (.bipush 27, 2) := by decide +kernel
theorem dX0_topOfProduct_64 : decode cX0_topOfProduct 64 = .ok (.lushr, 1) := by decide +kernel
theorem dX0_topOfProduct_65 : decode cX0_topOfProduct 65 = .ok (.ladd, 1) := by decide +kernel
theorem dX0_topOfProduct_66 : decode cX0_topOfProduct 66 = .ok (.lstore 18, 2) := by decide +kernel
theorem dX0_topOfProduct_68 : decode cX0_topOfProduct 68 = .ok (.lload 16, 2) := by decide +kernel
theorem dX0_topOfProduct_70 : decode cX0_topOfProduct 70 = .ok (.lload 4, 2) := by decide +kernel
theorem dX0_topOfProduct_72 : decode cX0_topOfProduct 72 = .ok (.land, 1) := by decide +kernel
theorem dX0_topOfProduct_73 : decode cX0_topOfProduct 73 = .ok (.bipush 27, 2) := by decide +kernel
theorem dX0_topOfProduct_75 : decode cX0_topOfProduct 75 = .ok (.lshl, 1) := by decide +kernel
theorem dX0_topOfProduct_76 : decode cX0_topOfProduct 76 = .ok (.lload 14, 2) := by decide +kernel
theorem dX0_topOfProduct_78 : decode cX0_topOfProduct 78 = .ok (.lload 4, 2) := by decide +kernel
theorem dX0_topOfProduct_80 : decode cX0_topOfProduct 80 = .ok (.land, 1) := by decide +kernel
theorem dX0_topOfProduct_81 : decode cX0_topOfProduct 81 = .ok (.lor, 1) := by decide +kernel
theorem dX0_topOfProduct_82 : decode cX0_topOfProduct 82 = .ok (.lstore 20, 2) := by decide +kernel
theorem dX0_topOfProduct_84 : decode cX0_topOfProduct 84 = .ok (.lload 18, 2) := by decide +kernel
theorem dX0_topOfProduct_86 : decode cX0_topOfProduct 86 = .ok (.bipush 10, 2) := by decide +kernel
theorem dX0_topOfProduct_88 : decode cX0_topOfProduct 88 = .ok (.lshl, 1) := by decide +kernel
theorem dX0_topOfProduct_89 : decode cX0_topOfProduct 89 = .ok (.lload 20, 2) := by decide +kernel
theorem dX0_topOfProduct_91 : decode cX0_topOfProduct 91 = .ok (.bipush 44, 2) := by decide +kernel
theorem dX0_topOfProduct_93 : decode cX0_topOfProduct 93 = .ok (.invokestatic 97, 3) := by decide +kernel
theorem dX0_topOfProduct_96 : decode cX0_topOfProduct 96 = .ok (.lor, 1) := by decide +kernel
theorem dX0_topOfProduct_97 : decode cX0_topOfProduct 97 = .ok (.lreturn, 1) := by decide +kernel
set_option maxRecDepth 20000 in
theorem ggX0_quotient_X0_isInfinite : GoodIn wsX0_quotient wsX0_isInfinite := goodIn_r _ [4, 5, 6, 3, 7, 8, 9, 10, 11, 12, 13, 14, 15, 16, 17, 18] (by decide +kernel) (by decide +kernel)
set_option maxRecDepth 20000 in
theorem gX0_quotient_X0_isInfinite : GoodIn wsX0_quotient (va_wsS RX0 61 yX0_isInfinite wsX0_isInfinite) := goodIn_app (goodIn_of _ (by decide +kernel)) ggX0_quotient_X0_isInfinite
set_option maxRecDepth 20000 in
theorem ggX0_quotient_X0_isZero : GoodIn wsX0_quotient wsX0_isZero := goodIn_r _ [21, 5, 6, 3, 7, 8, 9, 10, 11, 12, 13] (by decide +kernel) (by decide +kernel)
set_option maxRecDepth 20000 in
theorem gX0_quotient_X0_isZero : GoodIn wsX0_quotient (va_wsS RX0 90 yX0_isZero wsX0_isZero) := goodIn_app (goodIn_of _ (by decide +kernel)) ggX0_quotient_X0_isZero
set_option maxRecDepth 20000 in
theorem ggX0_quotient_X0_notANumber : GoodIn wsX0_quotient wsX0_notANumber := goodIn_r _ [24, 14, 15, 3, 16, 17, 18] (by decide +kernel) (by decide +kernel)
set_option maxRecDepth 20000 in
theorem gX0_quotient_X0_notANumber : GoodIn wsX0_quotient (va_wsS RX0 87 yX0_notANumber wsX0_notANumber) := goodIn_app (goodIn_of _ (by decide +kernel)) ggX0_quotient_X0_notANumber
set_option maxRecDepth 20000 in
theorem ggX0_quotient_X0_isNegative : GoodIn wsX0_quotient wsX0_isNegative := goodIn_r _ [27, 9, 10, 3, 11, 12, 13] (by decide +kernel) (by decide +kernel)
set_option maxRecDepth 20000 in
theorem gX0_quotient_X0_isNegative : GoodIn wsX0_quotient (va_wsS RX0 34 yX0_isNegative wsX0_isNegative) := goodIn_app (goodIn_of _ (by decide +kernel)) ggX0_quotient_X0_isNegative
set_option maxRecDepth 20000 in
theorem ggX0_quotient_X0_infinity : GoodIn wsX0_quotient wsX0_infinity := goodIn_r _ [16, 17, 18] (by decide +kernel) (by decide +kernel)
set_option maxRecDepth 20000 in
theorem gX0_quotient_X0_infinity : GoodIn wsX0_quotient (va_wsS RX0 13 yX0_infinity wsX0_infinity) := goodIn_app (goodIn_of _ (by decide +kernel)) ggX0_quotient_X0_infinity
set_option maxRecDepth 20000 in
theorem ggX0_quotient_X0_signed : GoodIn wsX0_quotient wsX0_signed := goodIn_r _ [30, 9, 10, 3, 11, 12, 13] (by decide +kernel) (by decide +kernel)
set_option maxRecDepth 20000 in
theorem gX0_quotient_X0_signed : GoodIn wsX0_quotient (va_wsS RX0 64 yX0_signed wsX0_signed) := goodIn_app (goodIn_of _ (by decide +kernel)) ggX0_quotient_X0_signed
set_option maxRecDepth 20000 in
theorem ggX0_quotient_X0_magnitude : GoodIn wsX0_quotient wsX0_magnitude := goodIn_r _ [33, 34, 35, 3, 36, 5, 6, 7, 8, 9, 10, 11, 12, 13] (by decide +kernel) (by decide +kernel)
set_option maxRecDepth 20000 in
theorem gX0_quotient_X0_magnitude : GoodIn wsX0_quotient (va_wsS RX0 68 yX0_magnitude wsX0_magnitude) := goodIn_app (goodIn_of _ (by decide +kernel)) ggX0_quotient_X0_magnitude
set_option maxRecDepth 20000 in
theorem ggX0_quotient_X0_roomBelow : GoodIn wsX0_quotient wsX0_roomBelow := goodIn_r _ [39] (by decide +kernel) (by decide +kernel)
set_option maxRecDepth 20000 in
theorem gX0_quotient_X0_roomBelow : GoodIn wsX0_quotient (va_wsS RX0 77 yX0_roomBelow wsX0_roomBelow) := goodIn_app (goodIn_of _ (by decide +kernel)) ggX0_quotient_X0_roomBelow
set_option maxRecDepth 20000 in
theorem ggX0_quotient_X0_topOfQuotient : GoodIn wsX0_quotient wsX0_topOfQuotient := goodIn_r _ [42] (by decide +kernel) (by decide +kernel)
set_option maxRecDepth 20000 in
theorem gX0_quotient_X0_topOfQuotient : GoodIn wsX0_quotient (va_wsS RX0 106 yX0_topOfQuotient wsX0_topOfQuotient) := goodIn_app (goodIn_of _ (by decide +kernel)) ggX0_quotient_X0_topOfQuotient
set_option maxRecDepth 20000 in
theorem ggX0_quotient_X0_exponent : GoodIn wsX0_quotient wsX0_exponent := goodIn_r _ [45, 46, 47, 48, 49, 5, 6, 3, 7, 8, 9, 10, 11, 12, 13, 34, 35, 36, 50, 51, 52] (by decide +kernel) (by decide +kernel)
set_option maxRecDepth 20000 in
theorem gX0_quotient_X0_exponent : GoodIn wsX0_quotient (va_wsS RX0 71 yX0_exponent wsX0_exponent) := goodIn_app (goodIn_of _ (by decide +kernel)) ggX0_quotient_X0_exponent
set_option maxRecDepth 20000 in
theorem ggX0_quotient_X0_nearest : GoodIn wsX0_quotient wsX0_nearest := goodIn_r _ [55, 28, 29, 3, 30, 9, 10, 11, 12, 13, 37, 38, 39, 34, 35, 36, 50, 51, 52, 56, 57, 58, 14, 15, 16, 17, 18, 59, 60, 61] (by decide +kernel) (by decide +kernel)
set_option maxRecDepth 20000 in
theorem gX0_quotient_X0_nearest : GoodIn wsX0_quotient (va_wsS RX0 53 yX0_nearest wsX0_nearest) := goodIn_app (goodIn_of _ (by decide +kernel)) ggX0_quotient_X0_nearest
theorem dX0_quotient_0 : decode cX0_quotient 0 = .ok (.iload_n 0, 1) := by decide +kernel
theorem dX0_quotient_1 : decode cX0_quotient 1 = .ok (.lload_n 1, 1) := by decide +kernel
theorem dX0_quotient_2 : decode cX0_quotient 2 = .ok (.invokestatic 61, 3) := by decide +kernel
theorem dX0_quotient_5 : decode cX0_quotient 5 = .ok (.ifCond .eq 15, 3) := by decide +kernel
theorem dX0_quotient_8 : decode cX0_quotient 8 = .ok (.iload_n 0, 1) := by decide +kernel
theorem dX0_quotient_9 : decode cX0_quotient 9 = .ok (.lload_n 3, 1) := by decide +kernel
theorem dX0_quotient_10 : decode cX0_quotient 10 = .ok (.invokestatic 61, 3) := by decide +kernel
theorem dX0_quotient_13 : decode cX0_quotient 13 = .ok (.ifCond .eq 7, 3) := by decide +kernel
theorem dX0_quotient_16 : decode cX0_quotient 16 = .ok (.iconst 1, 1) := by decide +kernel
theorem dX0_quotient_17 : decode cX0_quotient 17 = .ok (.goto 4, 3) := by decide +kernel
theorem dX0_quotient_20 : decode cX0_quotient 20 = .ok (.iconst 0, 1) := by decide +kernel
theorem dX0_quotient_21 : decode cX0_quotient 21 = .ok (.istore 5, 2) := by decide +kernel
theorem dX0_quotient_23 : decode cX0_quotient 23 = .ok (.iload 5, 2) := by decide +kernel
theorem dX0_quotient_25 : decode cX0_quotient 25 = .ok (.ifCond .ne 19, 3) := by decide +kernel
theorem dX0_quotient_28 : decode cX0_quotient 28 = .ok (.iload_n 0, 1) := by decide +kernel
theorem dX0_quotient_29 : decode cX0_quotient 29 = .ok (.lload_n 1, 1) := by decide +kernel
theorem dX0_quotient_30 : decode cX0_quotient 30 = .ok (.invokestatic 90, 3) := by decide +kernel
theorem dX0_quotient_33 : decode cX0_quotient 33 = .ok (.ifCond .eq 16, 3) := by decide +kernel
theorem dX0_quotient_36 : decode cX0_quotient 36 = .ok (.iload_n 0, 1) := by decide +kernel
theorem dX0_quotient_37 : decode cX0_quotient 37 = .ok (.lload_n 3, 1) := by decide +kernel
theorem dX0_quotient_38 : decode cX0_quotient 38 = .ok (.invokestatic 90, 3) := by decide +kernel
theorem dX0_quotient_41 : decode cX0_quotient 41 = .ok (.ifCond .eq 8, 3) := by decide +kernel
theorem dX0_quotient_44 : decode cX0_quotient 44 = .ok (.iload_n 0, 1) := by decide +kernel
theorem dX0_quotient_45 : decode cX0_quotient 45 = .ok (.invokestatic 87, 3) := by decide +kernel
theorem dX0_quotient_48 : decode cX0_quotient 48 = .ok (.lreturn, 1) := by decide +kernel
theorem dX0_quotient_49 : decode cX0_quotient 49 = .ok (.iload_n 0, 1) := by decide +kernel
theorem dX0_quotient_50 : decode cX0_quotient 50 = .ok (.lload_n 1, 1) := by decide +kernel
theorem dX0_quotient_51 : decode cX0_quotient 51 = .ok (.invokestatic 34, 3) := by decide +kernel
theorem dX0_quotient_54 : decode cX0_quotient 54 = .ok (.iload_n 0, 1) := by decide +kernel
theorem dX0_quotient_55 : decode cX0_quotient 55 = .ok (.lload_n 3, 1) := by decide +kernel
theorem dX0_quotient_56 : decode cX0_quotient 56 = .ok (.invokestatic 34, 3) := by decide +kernel
theorem dX0_quotient_59 : decode cX0_quotient 59 = .ok (.if_icmp .eq 7, 3) := by decide +kernel
theorem dX0_quotient_62 : decode cX0_quotient 62 = .ok (.iconst 1, 1) := by decide +kernel
theorem dX0_quotient_63 : decode cX0_quotient 63 = .ok (.goto 4, 3) := by decide +kernel
theorem dX0_quotient_66 : decode cX0_quotient 66 = .ok (.iconst 0, 1) := by decide +kernel
theorem dX0_quotient_67 : decode cX0_quotient 67 = .ok (.istore 6, 2) := by decide +kernel
theorem dX0_quotient_69 : decode cX0_quotient 69 = .ok (.iload_n 0, 1) := by decide +kernel
theorem dX0_quotient_70 : decode cX0_quotient 70 = .ok (.lload_n 1, 1) := by decide +kernel
theorem dX0_quotient_71 : decode cX0_quotient 71 = .ok (.invokestatic 61, 3) := by decide +kernel
theorem dX0_quotient_74 : decode cX0_quotient 74 = .ok (.ifCond .ne 11, 3) := by decide +kernel
theorem dX0_quotient_77 : decode cX0_quotient 77 = .ok (.iload_n 0, 1) := by decide +kernel
theorem dX0_quotient_78 : decode cX0_quotient 78 = .ok (.lload_n 3, 1) := by decide +kernel
theorem dX0_quotient_79 : decode cX0_quotient 79 = .ok (.invokestatic 90, 3) := by decide +kernel
theorem dX0_quotient_82 : decode cX0_quotient 82 = .ok (.ifCond .eq 14, 3) := by decide +kernel
theorem dX0_quotient_85 : decode cX0_quotient 85 = .ok (.iload_n 0, 1) := by decide +kernel
theorem dX0_quotient_86 : decode cX0_quotient 86 = .ok (.iload 6, 2) := by decide +kernel
theorem dX0_quotient_88 : decode cX0_quotient 88 = .ok (.iload_n 0, 1) := by decide +kernel
theorem dX0_quotient_89 : decode cX0_quotient 89 = .ok (.invokestatic 13, 3) := by decide +kernel
theorem dX0_quotient_92 : decode cX0_quotient 92 = .ok (.invokestatic 64, 3) := by decide +kernel
theorem dX0_quotient_95 : decode cX0_quotient 95 = .ok (.lreturn, 1) := by decide +kernel
theorem dX0_quotient_96 : decode cX0_quotient 96 = .ok (.iload_n 0, 1) := by decide +kernel
theorem dX0_quotient_97 : decode cX0_quotient 97 = .ok (.lload_n 3, 1) := by decide +kernel
theorem dX0_quotient_98 : decode cX0_quotient 98 = .ok (.invokestatic 61, 3) := by decide +kernel
theorem dX0_quotient_101 : decode cX0_quotient 101 = .ok (.ifCond .eq 11, 3) := by decide +kernel
theorem dX0_quotient_104 : decode cX0_quotient 104 = .ok (.iload_n 0, 1) := by decide +kernel
theorem dX0_quotient_105 : decode cX0_quotient 105 = .ok (.iload 6, 2) := by decide +kernel
theorem dX0_quotient_107 : decode cX0_quotient 107 = .ok (.lconst 0, 1) := by decide +kernel
theorem dX0_quotient_108 : decode cX0_quotient 108 = .ok (.invokestatic 64, 3) := by decide +kernel
theorem dX0_quotient_111 : decode cX0_quotient 111 = .ok (.lreturn, 1) := by decide +kernel
theorem dX0_quotient_112 : decode cX0_quotient 112 = .ok (.bipush 52, 2) := by decide +kernel
theorem dX0_quotient_114 : decode cX0_quotient 114 = .ok (.iload_n 0, 1) := by decide +kernel
theorem dX0_quotient_115 : decode cX0_quotient 115 = .ok (.lload_n 1, 1) := by decide +kernel
theorem dX0_quotient_116 : decode cX0_quotient 116 = .ok (.invokestatic 68, 3) := by decide +kernel
theorem dX0_quotient_119 : decode cX0_quotient 119 = .ok (.invokestatic 77, 3) := by decide +kernel
theorem dX0_quotient_122 : decode cX0_quotient 122 = .ok (.istore 7, 2) := by decide +kernel
theorem dX0_quotient_124 : decode cX0_quotient 124 = .ok (.bipush 52, 2) := by decide +kernel
theorem dX0_quotient_126 : decode cX0_quotient 126 = .ok (.iload_n 0, 1) := by decide +kernel
theorem dX0_quotient_127 : decode cX0_quotient 127 = .ok (.lload_n 3, 1) := by decide +kernel
theorem dX0_quotient_128 : decode cX0_quotient 128 = .ok (.invokestatic 68, 3) := by decide +kernel
theorem dX0_quotient_131 : decode cX0_quotient 131 = .ok (.invokestatic 77, 3) := by decide +kernel
theorem dX0_quotient_134 : decode cX0_quotient 134 = .ok (.istore 8, 2) := by decide +kernel
theorem dX0_quotient_136 : decode cX0_quotient 136 = .ok (.iload_n 0, 1) := by decide +kernel
theorem dX0_quotient_137 : decode cX0_quotient 137 = .ok (.lload_n 3, 1) := by decide +kernel
theorem dX0_quotient_138 : decode cX0_quotient 138 = .ok (.invokestatic 68, 3) := by decide +kernel
theorem dX0_quotient_141 : decode cX0_quotient 141 = .ok (.iload 8, 2) := by decide +kernel
theorem dX0_quotient_143 : decode cX0_quotient 143 = .ok (.lshl, 1) := by decide +kernel
theorem dX0_quotient_144 : decode cX0_quotient 144 = .ok (.lstore 9, 2) := by decide +kernel
theorem dX0_quotient_146 : decode cX0_quotient 146 = .ok (.iload_n 0, 1) := by decide +kernel
theorem dX0_quotient_147 : decode cX0_quotient 147 = .ok (.lload_n 1, 1) := by decide +kernel
theorem dX0_quotient_148 : decode cX0_quotient 148 = .ok (.invokestatic 68, 3) := by decide +kernel
theorem dX0_quotient_151 : decode cX0_quotient 151 = .ok (.iload 7, 2) := by decide +kernel
theorem dX0_quotient_153 : decode cX0_quotient 153 = .ok (.lshl, 1) := by decide +kernel
theorem dX0_quotient_154 : decode cX0_quotient 154 = .ok (.lload 9, 2) := by decide +kernel
theorem dX0_quotient_156 : decode cX0_quotient 156 = .ok (.invokestatic 106, 3) := by decide +kernel
theorem dX0_quotient_159 : decode cX0_quotient 159 = .ok (.lstore 11, 2) := by decide +kernel
theorem dX0_quotient_161 : decode cX0_quotient 161 = .ok (.iload_n 0, 1) := by decide +kernel
theorem dX0_quotient_162 : decode cX0_quotient 162 = .ok (.lload_n 1, 1) := by decide +kernel
theorem dX0_quotient_163 : decode cX0_quotient 163 = .ok (.invokestatic 71, 3) := by decide +kernel
theorem dX0_quotient_166 : decode cX0_quotient 166 = .ok (.iload 7, 2) := by decide +kernel
theorem dX0_quotient_168 : decode cX0_quotient 168 = .ok (.isub, 1) := by decide +kernel
theorem dX0_quotient_169 : decode cX0_quotient 169 = .ok (.iload_n 0, 1) := by decide +kernel
theorem dX0_quotient_170 : decode cX0_quotient 170 = .ok (.lload_n 3, 1) := by decide +kernel
theorem dX0_quotient_171 : decode cX0_quotient 171 = .ok (.invokestatic 71, 3) := by decide +kernel
theorem dX0_quotient_174 : decode cX0_quotient 174 = .ok (.isub, 1) := by decide +kernel
theorem dX0_quotient_175 : decode cX0_quotient 175 = .ok (.iload 8, 2) := by decide +kernel
theorem dX0_quotient_177 : decode cX0_quotient 177 = .ok (.iadd, 1) := by decide +kernel
theorem dX0_quotient_178 : decode cX0_quotient 178 = .ok (.istore 13, 2) := by decide +kernel
theorem dX0_quotient_180 : decode cX0_quotient 180 = .ok (.iload_n 0, 1) := by decide +kernel
theorem dX0_quotient_181 : decode cX0_quotient 181 = .ok (.iload 6, 2) := by decide +kernel
theorem dX0_quotient_183 : decode cX0_quotient 183 = .ok (.lload 11, 2) := by decide +kernel
theorem dX0_quotient_185 : decode cX0_quotient 185 = .ok (.iload 13, 2) := by decide +kernel
theorem dX0_quotient_187 : decode cX0_quotient 187 = .ok (.bipush 60, 2) := by decide +kernel
theorem dX0_quotient_189 : decode cX0_quotient 189 = .ok (.isub, 1) := by decide +kernel
theorem dX0_quotient_190 : decode cX0_quotient 190 = .ok (.invokestatic 53, 3) := by decide +kernel
theorem dX0_quotient_193 : decode cX0_quotient 193 = .ok (.lreturn, 1) := by decide +kernel
theorem dX0_topOfQuotient_0 : decode cX0_topOfQuotient 0 = .ok (.lload_n 2, 1) := by decide +kernel
theorem dX0_topOfQuotient_1 : decode cX0_topOfQuotient 1 = .ok (.lconst 0, 1) := by decide +kernel
theorem dX0_topOfQuotient_2 : decode cX0_topOfQuotient 2 = .ok (.lcmp, 1) := by decide +kernel
theorem dX0_topOfQuotient_3 : decode cX0_topOfQuotient 3 = .ok (.ifCond .ne 5, 3) := by decide +kernel
theorem dX0_topOfQuotient_6 : decode cX0_topOfQuotient 6 = .ok (.lconst 0, 1) := by decide +kernel
theorem dX0_topOfQuotient_7 : decode cX0_topOfQuotient 7 = .ok (.lreturn, 1) := by decide +kernel
theorem dX0_topOfQuotient_8 : decode cX0_topOfQuotient 8 = .ok (.lload_n 0, 1) := by decide +kernel
theorem dX0_topOfQuotient_9 : decode cX0_topOfQuotient 9 = .ok (.lload_n 2, 1) := by decide +kernel
theorem dX0_topOfQuotient_10 : decode cX0_topOfQuotient 10 = .ok (.ldiv, 1) := by decide +kernel
theorem dX0_topOfQuotient_11 : decode cX0_topOfQuotient 11 = .ok (.lstore 4, 2) := by decide +kernel
theorem dX0_topOfQuotient_13 : decode cX0_topOfQuotient 13 = .ok (.lload_n 0, 1) := by decide +kernel
theorem dX0_topOfQuotient_14 : decode cX0_topOfQuotient 14 = .ok (.lload_n 2, 1) := by decide +kernel
theorem dX0_topOfQuotient_15 : decode cX0_topOfQuotient 15 = .ok (.lrem, 1) := by decide +kernel
theorem dX0_topOfQuotient_16 : decode cX0_topOfQuotient 16 = .ok (.lstore 6, 2) := by decide +kernel
theorem dX0_topOfQuotient_18 : decode cX0_topOfQuotient 18 = .ok (.iconst 0, 1) := by decide +kernel
theorem dX0_topOfQuotient_19 : decode cX0_topOfQuotient 19 = .ok (.istore 8, 2) := by decide +kernel
theorem dX0_topOfQuotient_21 : decode cX0_topOfQuotient 21 = .ok (.iload 8, 2) := by decide +kernel
theorem dX0_topOfQuotient_23 : decode cX0_topOfQuotient 23 = .ok (.bipush 6, 2) := by decide +kernel
theorem dX0_topOfQuotient_25 : decode cX0_topOfQuotient 25 = .ok (.if_icmp .ge 34, 3) := by decide +kernel
theorem dX0_topOfQuotient_28 : decode cX0_topOfQuotient 28 = .ok (.lload 6, 2) := by decide +kernel
theorem dX0_topOfQuotient_30 : decode cX0_topOfQuotient 30 = .ok (.bipush 10, 2) := by decide +kernel
theorem dX0_topOfQuotient_32 : decode cX0_topOfQuotient 32 = .ok (.lshl, 1) := by decide +kernel
theorem dX0_topOfQuotient_33 : decode cX0_topOfQuotient 33 = .ok (.lstore 6, 2) := by decide +kernel
theorem dX0_topOfQuotient_35 : decode cX0_topOfQuotient 35 = .ok (.lload 4, 2) := by decide +kernel
theorem dX0_topOfQuotient_37 : decode cX0_topOfQuotient 37 = .ok (.bipush 10, 2) := by decide +kernel
theorem dX0_topOfQuotient_39 : decode cX0_topOfQuotient 39 = .ok (.lshl, 1) := by decide +kernel
theorem dX0_topOfQuotient_40 : decode cX0_topOfQuotient 40 = .ok (.lload 6, 2) := by decide +kernel
theorem dX0_topOfQuotient_42 : decode cX0_topOfQuotient 42 = .ok (.lload_n 2, 1) := by decide +kernel
theorem dX0_topOfQuotient_43 : decode cX0_topOfQuotient 43 = .ok (.ldiv, 1) := by decide +kernel
theorem dX0_topOfQuotient_44 : decode cX0_topOfQuotient 44 = .ok (.ladd, 1) := by decide +kernel
theorem dX0_topOfQuotient_45 : decode cX0_topOfQuotient 45 = .ok (.lstore 4, 2) := by decide +kernel
theorem dX0_topOfQuotient_47 : decode cX0_topOfQuotient 47 = .ok (.lload 6, 2) := by decide +kernel
theorem dX0_topOfQuotient_49 : decode cX0_topOfQuotient 49 = .ok (.lload_n 2, 1) := by decide +kernel
theorem dX0_topOfQuotient_50 : decode cX0_topOfQuotient 50 = .ok (.lrem, 1) := by decide +kernel
theorem dX0_topOfQuotient_51 : decode cX0_topOfQuotient 51 = .ok (.lstore 6, 2) := by decide +kernel
theorem dX0_topOfQuotient_53 : decode cX0_topOfQuotient 53 = .ok (.iinc 8 1, 3) := by decide +kernel
theorem dX0_topOfQuotient_56 : decode cX0_topOfQuotient 56 = .ok (.goto (-35), 3) := by decide +kernel
theorem dX0_topOfQuotient_59 : decode cX0_topOfQuotient 59 = .ok (.lload 6, 2) := by decide +kernel
theorem dX0_topOfQuotient_61 : decode cX0_topOfQuotient 61 = .ok (.lconst 0, 1) := by decide +kernel
theorem dX0_topOfQuotient_62 : decode cX0_topOfQuotient 62 = .ok (.lcmp, 1) := by decide +kernel
theorem dX0_topOfQuotient_63 : decode cX0_topOfQuotient 63 = .ok (.ifCond .ne 8, 3) := by decide +kernel
theorem dX0_topOfQuotient_66 : decode cX0_topOfQuotient 66 = .ok (.lload 4, 2) := by decide +kernel
theorem dX0_topOfQuotient_68 : decode cX0_topOfQuotient 68 = .ok (.goto 7, 3) := by decide +kernel
theorem dX0_topOfQuotient_71 : decode cX0_topOfQuotient 71 = .ok (.lload 4, 2) := by decide +kernel
theorem dX0_topOfQuotient_73 : decode cX0_topOfQuotient 73 = .ok (.lconst 1, 1) := by decide +kernel
theorem dX0_topOfQuotient_74 : decode cX0_topOfQuotient 74 = .ok (.lor, 1) := by decide +kernel
theorem dX0_topOfQuotient_75 : decode cX0_topOfQuotient 75 = .ok (.lreturn, 1) := by decide +kernel
set_option maxRecDepth 20000 in
theorem ggX0_rest_X0_isInfinite : GoodIn wsX0_rest wsX0_isInfinite := goodIn_r _ [4, 5, 6, 3, 7, 8, 9, 10, 11, 12, 13, 14, 15, 16, 17, 18] (by decide +kernel) (by decide +kernel)
set_option maxRecDepth 20000 in
theorem gX0_rest_X0_isInfinite : GoodIn wsX0_rest (va_wsS RX0 61 yX0_isInfinite wsX0_isInfinite) := goodIn_app (goodIn_of _ (by decide +kernel)) ggX0_rest_X0_isInfinite
set_option maxRecDepth 20000 in
theorem ggX0_rest_X0_isZero : GoodIn wsX0_rest wsX0_isZero := goodIn_r _ [21, 5, 6, 3, 7, 8, 9, 10, 11, 12, 13] (by decide +kernel) (by decide +kernel)
set_option maxRecDepth 20000 in
theorem gX0_rest_X0_isZero : GoodIn wsX0_rest (va_wsS RX0 90 yX0_isZero wsX0_isZero) := goodIn_app (goodIn_of _ (by decide +kernel)) ggX0_rest_X0_isZero
set_option maxRecDepth 20000 in
theorem ggX0_rest_X0_notANumber : GoodIn wsX0_rest wsX0_notANumber := goodIn_r _ [24, 14, 15, 3, 16, 17, 18] (by decide +kernel) (by decide +kernel)
set_option maxRecDepth 20000 in
theorem gX0_rest_X0_notANumber : GoodIn wsX0_rest (va_wsS RX0 87 yX0_notANumber wsX0_notANumber) := goodIn_app (goodIn_of _ (by decide +kernel)) ggX0_rest_X0_notANumber
set_option maxRecDepth 20000 in
theorem ggX0_rest_X0_size : GoodIn wsX0_rest wsX0_size := goodIn_r _ [7, 8, 9, 10, 3, 11, 12, 13] (by decide +kernel) (by decide +kernel)
set_option maxRecDepth 20000 in
theorem gX0_rest_X0_size : GoodIn wsX0_rest (va_wsS RX0 30 yX0_size wsX0_size) := goodIn_app (goodIn_of _ (by decide +kernel)) ggX0_rest_X0_size
set_option maxRecDepth 20000 in
theorem ggX0_rest_X0_magnitude : GoodIn wsX0_rest wsX0_magnitude := goodIn_r _ [27, 28, 29, 3, 30, 5, 6, 7, 8, 9, 10, 11, 12, 13] (by decide +kernel) (by decide +kernel)
set_option maxRecDepth 20000 in
theorem gX0_rest_X0_magnitude : GoodIn wsX0_rest (va_wsS RX0 68 yX0_magnitude wsX0_magnitude) := goodIn_app (goodIn_of _ (by decide +kernel)) ggX0_rest_X0_magnitude
set_option maxRecDepth 20000 in
theorem ggX0_rest_X0_roomBelow : GoodIn wsX0_rest wsX0_roomBelow := goodIn_r _ [33] (by decide +kernel) (by decide +kernel)
set_option maxRecDepth 20000 in
theorem gX0_rest_X0_roomBelow : GoodIn wsX0_rest (va_wsS RX0 77 yX0_roomBelow wsX0_roomBelow) := goodIn_app (goodIn_of _ (by decide +kernel)) ggX0_rest_X0_roomBelow
set_option maxRecDepth 20000 in
theorem ggX0_rest_X0_exponent : GoodIn wsX0_rest wsX0_exponent := goodIn_r _ [36, 37, 38, 39, 40, 5, 6, 3, 7, 8, 9, 10, 11, 12, 13, 28, 29, 30, 41, 42, 43] (by decide +kernel) (by decide +kernel)
set_option maxRecDepth 20000 in
theorem gX0_rest_X0_exponent : GoodIn wsX0_rest (va_wsS RX0 71 yX0_exponent wsX0_exponent) := goodIn_app (goodIn_of _ (by decide +kernel)) ggX0_rest_X0_exponent
set_option maxRecDepth 20000 in
theorem ggX0_rest_X0_restAbove : GoodIn wsX0_rest wsX0_restAbove := goodIn_r _ [46, 47, 48, 39, 49] (by decide +kernel) (by decide +kernel)
set_option maxRecDepth 20000 in
theorem gX0_rest_X0_restAbove : GoodIn wsX0_rest (va_wsS RX0 109 yX0_restAbove wsX0_restAbove) := goodIn_app (goodIn_of _ (by decide +kernel)) ggX0_rest_X0_restAbove
set_option maxRecDepth 20000 in
theorem ggX0_rest_X0_isNegative : GoodIn wsX0_rest wsX0_isNegative := goodIn_r _ [52, 9, 10, 3, 11, 12, 13] (by decide +kernel) (by decide +kernel)
set_option maxRecDepth 20000 in
theorem gX0_rest_X0_isNegative : GoodIn wsX0_rest (va_wsS RX0 34 yX0_isNegative wsX0_isNegative) := goodIn_app (goodIn_of _ (by decide +kernel)) ggX0_rest_X0_isNegative
set_option maxRecDepth 20000 in
theorem ggX0_rest_X0_nearest : GoodIn wsX0_rest wsX0_nearest := goodIn_r _ [55, 56, 57, 3, 58, 9, 10, 11, 12, 13, 31, 32, 33, 28, 29, 30, 41, 42, 43, 59, 60, 61, 14, 15, 16, 17, 18, 62, 63, 64] (by decide +kernel) (by decide +kernel)
set_option maxRecDepth 20000 in
theorem gX0_rest_X0_nearest : GoodIn wsX0_rest (va_wsS RX0 53 yX0_nearest wsX0_nearest) := goodIn_app (goodIn_of _ (by decide +kernel)) ggX0_rest_X0_nearest
theorem dX0_rest_0 : decode cX0_rest 0 = .ok (.iload_n 0, 1) := by decide +kernel
theorem dX0_rest_1 : decode cX0_rest 1 = .ok (.lload_n 1, 1) := by decide +kernel
theorem dX0_rest_2 : decode cX0_rest 2 = .ok (.invokestatic 61, 3) := by decide +kernel
theorem dX0_rest_5 : decode cX0_rest 5 = .ok (.ifCond .ne 11, 3) := by decide +kernel
theorem dX0_rest_8 : decode cX0_rest 8 = .ok (.iload_n 0, 1) := by decide +kernel
theorem dX0_rest_9 : decode cX0_rest 9 = .ok (.lload_n 3, 1) := by decide +kernel
theorem dX0_rest_10 : decode cX0_rest 10 = .ok (.invokestatic 90, 3) := by decide +kernel
theorem dX0_rest_13 : decode cX0_rest 13 = .ok (.ifCond .eq 8, 3) := by decide +kernel
theorem dX0_rest_16 : decode cX0_rest 16 = .ok (.iload_n 0, 1) := by decide +kernel
theorem dX0_rest_17 : decode cX0_rest 17 = .ok (.invokestatic 87, 3) := by decide +kernel
theorem dX0_rest_20 : decode cX0_rest 20 = .ok (.lreturn, 1) := by decide +kernel
theorem dX0_rest_21 : decode cX0_rest 21 = .ok (.iload_n 0, 1) := by decide +kernel
theorem dX0_rest_22 : decode cX0_rest 22 = .ok (.lload_n 1, 1) := by decide +kernel
theorem dX0_rest_23 : decode cX0_rest 23 = .ok (.invokestatic 30, 3) := by decide +kernel
theorem dX0_rest_26 : decode cX0_rest 26 = .ok (.iload_n 0, 1) := by decide +kernel
theorem dX0_rest_27 : decode cX0_rest 27 = .ok (.lload_n 3, 1) := by decide +kernel
theorem dX0_rest_28 : decode cX0_rest 28 = .ok (.invokestatic 30, 3) := by decide +kernel
theorem dX0_rest_31 : decode cX0_rest 31 = .ok (.lcmp, 1) := by decide +kernel
theorem dX0_rest_32 : decode cX0_rest 32 = .ok (.ifCond .ge 5, 3) := by decide +kernel
theorem dX0_rest_35 : decode cX0_rest 35 = .ok (.lload_n 1, 1) := by decide +kernel
theorem dX0_rest_36 : decode cX0_rest 36 = .ok (.lreturn, 1) := by decide +kernel
theorem dX0_rest_37 : decode cX0_rest 37 = .ok (.bipush 52, 2) := by decide +kernel
theorem dX0_rest_39 : decode cX0_rest 39 = .ok (.iload_n 0, 1) := by decide +kernel
theorem dX0_rest_40 : decode cX0_rest 40 = .ok (.lload_n 1, 1) := by decide +kernel
theorem dX0_rest_41 : decode cX0_rest 41 = .ok (.invokestatic 68, 3) := by decide +kernel
theorem dX0_rest_44 : decode cX0_rest 44 = .ok (.invokestatic 77, 3) := by decide +kernel
theorem dX0_rest_47 : decode cX0_rest 47 = .ok (.istore 5, 2) := by decide +kernel
theorem dX0_rest_49 : decode cX0_rest 49 = .ok (.bipush 52, 2) := by decide +kernel
theorem dX0_rest_51 : decode cX0_rest 51 = .ok (.iload_n 0, 1) := by decide +kernel
theorem dX0_rest_52 : decode cX0_rest 52 = .ok (.lload_n 3, 1) := by decide +kernel
theorem dX0_rest_53 : decode cX0_rest 53 = .ok (.invokestatic 68, 3) := by decide +kernel
theorem dX0_rest_56 : decode cX0_rest 56 = .ok (.invokestatic 77, 3) := by decide +kernel
theorem dX0_rest_59 : decode cX0_rest 59 = .ok (.istore 6, 2) := by decide +kernel
theorem dX0_rest_61 : decode cX0_rest 61 = .ok (.iload_n 0, 1) := by decide +kernel
theorem dX0_rest_62 : decode cX0_rest 62 = .ok (.lload_n 3, 1) := by decide +kernel
theorem dX0_rest_63 : decode cX0_rest 63 = .ok (.invokestatic 71, 3) := by decide +kernel
theorem dX0_rest_66 : decode cX0_rest 66 = .ok (.iload 6, 2) := by decide +kernel
theorem dX0_rest_68 : decode cX0_rest 68 = .ok (.isub, 1) := by decide +kernel
theorem dX0_rest_69 : decode cX0_rest 69 = .ok (.istore 7, 2) := by decide +kernel
theorem dX0_rest_71 : decode cX0_rest 71 = .ok (.iload_n 0, 1) := by decide +kernel
theorem dX0_rest_72 : decode cX0_rest 72 = .ok (.lload_n 1, 1) := by decide +kernel
theorem dX0_rest_73 : decode cX0_rest 73 = .ok (.invokestatic 71, 3) := by decide +kernel
theorem dX0_rest_76 : decode cX0_rest 76 = .ok (.iload 5, 2) := by decide +kernel
theorem dX0_rest_78 : decode cX0_rest 78 = .ok (.isub, 1) := by decide +kernel
theorem dX0_rest_79 : decode cX0_rest 79 = .ok (.iload 7, 2) := by decide +kernel
theorem dX0_rest_81 : decode cX0_rest 81 = .ok (.isub, 1) := by decide +kernel
theorem dX0_rest_82 : decode cX0_rest 82 = .ok (.istore 8, 2) := by decide +kernel
theorem dX0_rest_84 : decode cX0_rest 84 = .ok (.iload_n 0, 1) := by decide +kernel
theorem dX0_rest_85 : decode cX0_rest 85 = .ok (.lload_n 1, 1) := by decide +kernel
theorem dX0_rest_86 : decode cX0_rest 86 = .ok (.invokestatic 68, 3) := by decide +kernel
theorem dX0_rest_89 : decode cX0_rest 89 = .ok (.iload 5, 2) := by decide +kernel
theorem dX0_rest_91 : decode cX0_rest 91 = .ok (.lshl, 1) := by decide +kernel
theorem dX0_rest_92 : decode cX0_rest 92 = .ok (.iload 8, 2) := by decide +kernel
theorem dX0_rest_94 : decode cX0_rest 94 = .ok (.iload_n 0, 1) := by decide +kernel
theorem dX0_rest_95 : decode cX0_rest 95 = .ok (.lload_n 3, 1) := by decide +kernel
theorem dX0_rest_96 : decode cX0_rest 96 = .ok (.invokestatic 68, 3) := by decide +kernel
theorem dX0_rest_99 : decode cX0_rest 99 = .ok (.iload 6, 2) := by decide +kernel
theorem dX0_rest_101 : decode cX0_rest 101 = .ok (.lshl, 1) := by decide +kernel
theorem dX0_rest_102 : decode cX0_rest 102 = .ok (.invokestatic 109, 3) := by decide +kernel
theorem dX0_rest_105 : decode cX0_rest 105 = .ok (.lstore 9, 2) := by decide +kernel
theorem dX0_rest_107 : decode cX0_rest 107 = .ok (.iload_n 0, 1) := by decide +kernel
theorem dX0_rest_108 : decode cX0_rest 108 = .ok (.iload_n 0, 1) := by decide +kernel
theorem dX0_rest_109 : decode cX0_rest 109 = .ok (.lload_n 1, 1) := by decide +kernel
theorem dX0_rest_110 : decode cX0_rest 110 = .ok (.invokestatic 34, 3) := by decide +kernel
theorem dX0_rest_113 : decode cX0_rest 113 = .ok (.lload 9, 2) := by decide +kernel
theorem dX0_rest_115 : decode cX0_rest 115 = .ok (.iload 7, 2) := by decide +kernel
theorem dX0_rest_117 : decode cX0_rest 117 = .ok (.invokestatic 53, 3) := by decide +kernel
theorem dX0_rest_120 : decode cX0_rest 120 = .ok (.lreturn, 1) := by decide +kernel
theorem dX0_restAbove_0 : decode cX0_restAbove 0 = .ok (.lload_n 3, 1) := by decide +kernel
theorem dX0_restAbove_1 : decode cX0_restAbove 1 = .ok (.lconst 0, 1) := by decide +kernel
theorem dX0_restAbove_2 : decode cX0_restAbove 2 = .ok (.lcmp, 1) := by decide +kernel
theorem dX0_restAbove_3 : decode cX0_restAbove 3 = .ok (.ifCond .ne 5, 3) := by decide +kernel
theorem dX0_restAbove_6 : decode cX0_restAbove 6 = .ok (.lconst 0, 1) := by decide +kernel
theorem dX0_restAbove_7 : decode cX0_restAbove 7 = .ok (.lreturn, 1) := by decide +kernel
theorem dX0_restAbove_8 : decode cX0_restAbove 8 = .ok (.lload_n 0, 1) := by decide +kernel
theorem dX0_restAbove_9 : decode cX0_restAbove 9 = .ok (.lload_n 3, 1) := by decide +kernel
theorem dX0_restAbove_10 : decode cX0_restAbove 10 = .ok (.lrem, 1) := by decide +kernel
theorem dX0_restAbove_11 : decode cX0_restAbove 11 = .ok (.lstore 5, 2) := by decide +kernel
theorem dX0_restAbove_13 : decode cX0_restAbove 13 = .ok (.iload_n 2, 1) := by decide +kernel
theorem dX0_restAbove_14 : decode cX0_restAbove 14 = .ok (.istore 7, 2) := by decide +kernel
theorem dX0_restAbove_16 : decode cX0_restAbove 16 = .ok (.iload 7, 2) := by decide +kernel
theorem dX0_restAbove_18 : decode cX0_restAbove 18 = .ok (.ifCond .le 23, 3) := by decide +kernel
theorem dX0_restAbove_21 : decode cX0_restAbove 21 = .ok (.lload 5, 2) := by decide +kernel
theorem dX0_restAbove_23 : decode cX0_restAbove 23 = .ok (.iload 7, 2) := by decide +kernel
theorem dX0_restAbove_25 : decode cX0_restAbove 25 = .ok (.bipush 10, 2) := by decide +kernel
theorem dX0_restAbove_27 : decode cX0_restAbove 27 = .ok (.invokestatic 113, 3) := by decide +kernel
theorem dX0_restAbove_30 : decode cX0_restAbove 30 = .ok (.lshl, 1) := by decide +kernel
theorem dX0_restAbove_31 : decode cX0_restAbove 31 = .ok (.lload_n 3, 1) := by decide +kernel
theorem dX0_restAbove_32 : decode cX0_restAbove 32 = .ok (.lrem, 1) := by decide +kernel
theorem dX0_restAbove_33 : decode cX0_restAbove 33 = .ok (.lstore 5, 2) := by decide +kernel
theorem dX0_restAbove_35 : decode cX0_restAbove 35 = .ok (.iinc 7 (-10), 3) := by decide +kernel
theorem dX0_restAbove_38 : decode cX0_restAbove 38 = .ok (.goto (-22), 3) := by decide +kernel
theorem dX0_restAbove_41 : decode cX0_restAbove 41 = .ok (.lload 5, 2) := by decide +kernel
theorem dX0_restAbove_43 : decode cX0_restAbove 43 = .ok (.lreturn, 1) := by decide +kernel
end
section
set_option maxHeartbeats 4000000 in
set_option maxRecDepth 100000 in
theorem wX0_fractionBits_0 {p : Program} {l : Launch} {e : Env} {s : State} {m : MethodId} {args : Array Value} {below : List Frame} {meth : Method} {c : Code} (C : px_C p s m args meth c cX0_fractionBits 1 (some .int) RX0 wsX0_fractionBits) (v0 : Int32) {ls : Array Slot} (hl : lv_has ls 1 [(0, .int v0)]) : W p l e { frames := 0, cells := 0, slots := 0, locals := 0 } s m args below meth c s.heap [] 0 0 (MQ below (px_Q (.int (fX0_fractionBits_0 v0))) args s 0 0 (fun _ => False)) (F0 m 0 ls []) := by
  obtain ⟨hx, hb, hml, hown, hts, hr, hlocks⟩ := id C
  rw [fX0_fractionBits_0]
  refine lv_iload_n hx hb dX0_fractionBits_0 rfl (lv_at hl 0 rfl) ?_
  refine lv_bipush (v := 6) hx hb dX0_fractionBits_1 (by decide) ?_
  refine px_icmp_ne (tgt := 11) hx hb dX0_fractionBits_3 (by decide) (fun hc3 => ?_) (fun hc3 => ?_)
  · rw [if_pos hc3]
    refine lv_bipush (v := 23) hx hb dX0_fractionBits_6 (by decide) ?_
    refine lv_goto (tgt := 13) hx hb dX0_fractionBits_8 (by decide) ?_
    exact W.iret hx hb hr (fun t ht _ => ⟨rfl, ht⟩) (fun q h => by cases h) dX0_fractionBits_13
  · rw [if_neg hc3]
    refine lv_bipush (v := 52) hx hb dX0_fractionBits_11 (by decide) ?_
    exact W.iret hx hb hr (fun t ht _ => ⟨rfl, ht⟩) (fun q h => by cases h) dX0_fractionBits_13
set_option maxHeartbeats 4000000 in
set_option maxRecDepth 100000 in
theorem kX0_fractionBits (l : Launch) (v0 : Int32) : px_M l yX0_fractionBits wsX0_fractionBits ({ frames := 0, cells := 0, slots := 0, locals := 0 }) [.int v0] (.int (fX0_fractionBits v0)) := by
  refine Met.ofW (cc := cX0_fractionBits) (maxL := 1) (ret := (some .int)) (by decide) rfl ?_
  intro p e s m args below meth c s₁ B hml hv
  cases hv
  have C : px_C p s m _ meth c cX0_fractionBits 1 (some .int) RX0 wsX0_fractionBits := ⟨B.exec, B.bytes, hml, findClass_of_methodNamed B.named, atoms_spec (ws := wsX0_fractionBits) B.pre, B.returns, B.notSynchronized⟩
  have hl := lv_entry ([.int v0]) (n := 1) (Nat.le_of_ble_eq_true rfl)
  rw [lg_entry_eq]
  generalize (lg_sl ([.int v0]) ++ List.replicate (1 - (lg_sl ([.int v0])).length) Slot.unset).toArray = ls at hl ⊢
  have hl : lv_has ls 1 [(0, .int v0)] := hl
  rw [fX0_fractionBits]
  exact wX0_fractionBits_0 C v0 (lv_sub hl [0] rfl)
set_option maxHeartbeats 4000000 in
set_option maxRecDepth 100000 in
theorem wX0_leastExponent_0 {p : Program} {l : Launch} {e : Env} {s : State} {m : MethodId} {args : Array Value} {below : List Frame} {meth : Method} {c : Code} (C : px_C p s m args meth c cX0_leastExponent 1 (some .int) RX0 wsX0_leastExponent) (v0 : Int32) {ls : Array Slot} (hl : lv_has ls 1 [(0, .int v0)]) : W p l e { frames := 0, cells := 0, slots := 0, locals := 0 } s m args below meth c s.heap [] 0 0 (MQ below (px_Q (.int (fX0_leastExponent_0 v0))) args s 0 0 (fun _ => False)) (F0 m 0 ls []) := by
  obtain ⟨hx, hb, hml, hown, hts, hr, hlocks⟩ := id C
  rw [fX0_leastExponent_0]
  refine lv_iload_n hx hb dX0_leastExponent_0 rfl (lv_at hl 0 rfl) ?_
  refine lv_bipush (v := 6) hx hb dX0_leastExponent_1 (by decide) ?_
  refine px_icmp_ne (tgt := 12) hx hb dX0_leastExponent_3 (by decide) (fun hc3 => ?_) (fun hc3 => ?_)
  · rw [if_pos hc3]
    refine lv_sipush (v := -149) hx hb dX0_leastExponent_6 (by decide) ?_
    refine lv_goto (tgt := 15) hx hb dX0_leastExponent_9 (by decide) ?_
    exact W.iret hx hb hr (fun t ht _ => ⟨rfl, ht⟩) (fun q h => by cases h) dX0_leastExponent_15
  · rw [if_neg hc3]
    refine lv_sipush (v := -1074) hx hb dX0_leastExponent_12 (by decide) ?_
    exact W.iret hx hb hr (fun t ht _ => ⟨rfl, ht⟩) (fun q h => by cases h) dX0_leastExponent_15
set_option maxHeartbeats 4000000 in
set_option maxRecDepth 100000 in
theorem kX0_leastExponent (l : Launch) (v0 : Int32) : px_M l yX0_leastExponent wsX0_leastExponent ({ frames := 0, cells := 0, slots := 0, locals := 0 }) [.int v0] (.int (fX0_leastExponent v0)) := by
  refine Met.ofW (cc := cX0_leastExponent) (maxL := 1) (ret := (some .int)) (by decide) rfl ?_
  intro p e s m args below meth c s₁ B hml hv
  cases hv
  have C : px_C p s m _ meth c cX0_leastExponent 1 (some .int) RX0 wsX0_leastExponent := ⟨B.exec, B.bytes, hml, findClass_of_methodNamed B.named, atoms_spec (ws := wsX0_leastExponent) B.pre, B.returns, B.notSynchronized⟩
  have hl := lv_entry ([.int v0]) (n := 1) (Nat.le_of_ble_eq_true rfl)
  rw [lg_entry_eq]
  generalize (lg_sl ([.int v0]) ++ List.replicate (1 - (lg_sl ([.int v0])).length) Slot.unset).toArray = ls at hl ⊢
  have hl : lv_has ls 1 [(0, .int v0)] := hl
  rw [fX0_leastExponent]
  exact wX0_leastExponent_0 C v0 (lv_sub hl [0] rfl)
set_option maxHeartbeats 4000000 in
set_option maxRecDepth 100000 in
theorem wX0_greatestAbove_0 {p : Program} {l : Launch} {e : Env} {s : State} {m : MethodId} {args : Array Value} {below : List Frame} {meth : Method} {c : Code} (C : px_C p s m args meth c cX0_greatestAbove 1 (some .int) RX0 wsX0_greatestAbove) (v0 : Int32) {ls : Array Slot} (hl : lv_has ls 1 [(0, .int v0)]) : W p l e { frames := 0, cells := 0, slots := 0, locals := 0 } s m args below meth c s.heap [] 0 0 (MQ below (px_Q (.int (fX0_greatestAbove_0 v0))) args s 0 0 (fun _ => False)) (F0 m 0 ls []) := by
  obtain ⟨hx, hb, hml, hown, hts, hr, hlocks⟩ := id C
  rw [fX0_greatestAbove_0]
  refine lv_iload_n hx hb dX0_greatestAbove_0 rfl (lv_at hl 0 rfl) ?_
  refine lv_bipush (v := 6) hx hb dX0_greatestAbove_1 (by decide) ?_
  refine px_icmp_ne (tgt := 12) hx hb dX0_greatestAbove_3 (by decide) (fun hc3 => ?_) (fun hc3 => ?_)
  · rw [if_pos hc3]
    refine lv_sipush (v := 253) hx hb dX0_greatestAbove_6 (by decide) ?_
    refine lv_goto (tgt := 15) hx hb dX0_greatestAbove_9 (by decide) ?_
    exact W.iret hx hb hr (fun t ht _ => ⟨rfl, ht⟩) (fun q h => by cases h) dX0_greatestAbove_15
  · rw [if_neg hc3]
    refine lv_sipush (v := 2045) hx hb dX0_greatestAbove_12 (by decide) ?_
    exact W.iret hx hb hr (fun t ht _ => ⟨rfl, ht⟩) (fun q h => by cases h) dX0_greatestAbove_15
set_option maxHeartbeats 4000000 in
set_option maxRecDepth 100000 in
theorem kX0_greatestAbove (l : Launch) (v0 : Int32) : px_M l yX0_greatestAbove wsX0_greatestAbove ({ frames := 0, cells := 0, slots := 0, locals := 0 }) [.int v0] (.int (fX0_greatestAbove v0)) := by
  refine Met.ofW (cc := cX0_greatestAbove) (maxL := 1) (ret := (some .int)) (by decide) rfl ?_
  intro p e s m args below meth c s₁ B hml hv
  cases hv
  have C : px_C p s m _ meth c cX0_greatestAbove 1 (some .int) RX0 wsX0_greatestAbove := ⟨B.exec, B.bytes, hml, findClass_of_methodNamed B.named, atoms_spec (ws := wsX0_greatestAbove) B.pre, B.returns, B.notSynchronized⟩
  have hl := lv_entry ([.int v0]) (n := 1) (Nat.le_of_ble_eq_true rfl)
  rw [lg_entry_eq]
  generalize (lg_sl ([.int v0]) ++ List.replicate (1 - (lg_sl ([.int v0])).length) Slot.unset).toArray = ls at hl ⊢
  have hl : lv_has ls 1 [(0, .int v0)] := hl
  rw [fX0_greatestAbove]
  exact wX0_greatestAbove_0 C v0 (lv_sub hl [0] rfl)
set_option maxHeartbeats 4000000 in
set_option maxRecDepth 100000 in
theorem wX0_infinity_0 {p : Program} {l : Launch} {e : Env} {s : State} {m : MethodId} {args : Array Value} {below : List Frame} {meth : Method} {c : Code} (C : px_C p s m args meth c cX0_infinity 1 (some .long) RX0 wsX0_infinity) (v0 : Int32) {ls : Array Slot} (hl : lv_has ls 1 [(0, .int v0)]) : W p l e { frames := 0, cells := 0, slots := 0, locals := 0 } s m args below meth c s.heap [] 0 0 (MQ below (px_Q (.long (fX0_infinity_0 v0))) args s 0 0 (fun _ => False)) (F0 m 0 ls []) := by
  obtain ⟨hx, hb, hml, hown, hts, hr, hlocks⟩ := id C
  rw [fX0_infinity_0]
  refine lv_iload_n hx hb dX0_infinity_0 rfl (lv_at hl 0 rfl) ?_
  refine lv_bipush (v := 6) hx hb dX0_infinity_1 (by decide) ?_
  refine px_icmp_ne (tgt := 12) hx hb dX0_infinity_3 (by decide) (fun hc3 => ?_) (fun hc3 => ?_)
  · rw [if_pos hc3]
    refine lv_ldc2 hx hb hown (hts (.constantLong RX0 9 (2139095040)) (by decide +kernel)) dX0_infinity_6 ?_
    refine lv_goto (tgt := 15) hx hb dX0_infinity_9 (by decide) ?_
    exact W.lret hx hb hr (fun t ht _ => ⟨rfl, ht⟩) (fun q h => by cases h) dX0_infinity_15
  · rw [if_neg hc3]
    refine lv_ldc2 hx hb hown (hts (.constantLong RX0 11 (9218868437227405312)) (by decide +kernel)) dX0_infinity_12 ?_
    exact W.lret hx hb hr (fun t ht _ => ⟨rfl, ht⟩) (fun q h => by cases h) dX0_infinity_15
set_option maxHeartbeats 4000000 in
set_option maxRecDepth 100000 in
theorem kX0_infinity (l : Launch) (v0 : Int32) : px_M l yX0_infinity wsX0_infinity ({ frames := 0, cells := 0, slots := 0, locals := 0 }) [.int v0] (.long (fX0_infinity v0)) := by
  refine Met.ofW (cc := cX0_infinity) (maxL := 1) (ret := (some .long)) (by decide) rfl ?_
  intro p e s m args below meth c s₁ B hml hv
  cases hv
  have C : px_C p s m _ meth c cX0_infinity 1 (some .long) RX0 wsX0_infinity := ⟨B.exec, B.bytes, hml, findClass_of_methodNamed B.named, atoms_spec (ws := wsX0_infinity) B.pre, B.returns, B.notSynchronized⟩
  have hl := lv_entry ([.int v0]) (n := 1) (Nat.le_of_ble_eq_true rfl)
  rw [lg_entry_eq]
  generalize (lg_sl ([.int v0]) ++ List.replicate (1 - (lg_sl ([.int v0])).length) Slot.unset).toArray = ls at hl ⊢
  have hl : lv_has ls 1 [(0, .int v0)] := hl
  rw [fX0_infinity]
  exact wX0_infinity_0 C v0 (lv_sub hl [0] rfl)
set_option maxHeartbeats 4000000 in
set_option maxRecDepth 100000 in
theorem wX0_notANumber_0 {p : Program} {l : Launch} {e : Env} {s : State} {m : MethodId} {args : Array Value} {below : List Frame} {meth : Method} {c : Code} (C : px_C p s m args meth c cX0_notANumber 1 (some .long) RX0 wsX0_notANumber) (v0 : Int32) {ls : Array Slot} (hl : lv_has ls 1 [(0, .int v0)]) : W p l e { frames := 1, cells := 0, slots := 0, locals := 20 } s m args below meth c s.heap [] 0 0 (MQ below (px_Q (.long (fX0_notANumber_0 v0))) args s 0 0 (fun _ => False)) (F0 m 0 ls []) := by
  obtain ⟨hx, hb, hml, hown, hts, hr, hlocks⟩ := id C
  rw [fX0_notANumber_0]
  refine lv_iload_n hx hb dX0_notANumber_0 rfl (lv_at hl 0 rfl) ?_
  refine px_S (As := [.int v0]) (rest := []) ⟨hx, hb, hml, hown, hts⟩ (kX0_infinity l v0) (va_cwS 1 hts gX0_notANumber_X0_infinity rfl rfl rfl (by decide +kernel) ⟨Nat.le_of_ble_eq_true rfl, Nat.le_of_ble_eq_true rfl⟩) rfl hl.1 rfl (Nat.le_of_ble_eq_true rfl) dX0_notANumber_1 (Nat.zero_le _) (Nat.zero_le _) ?_
  refine lv_lconst (v := 1) hx hb dX0_notANumber_4 (by decide) ?_
  refine lv_ladd hx hb dX0_notANumber_5 ?_
  exact W.lret hx hb hr (fun t ht _ => ⟨rfl, ht⟩) (fun q h => by cases h) dX0_notANumber_6
set_option maxHeartbeats 4000000 in
set_option maxRecDepth 100000 in
theorem kX0_notANumber (l : Launch) (v0 : Int32) : px_M l yX0_notANumber wsX0_notANumber ({ frames := 1, cells := 0, slots := 0, locals := 20 }) [.int v0] (.long (fX0_notANumber v0)) := by
  refine Met.ofW (cc := cX0_notANumber) (maxL := 1) (ret := (some .long)) (by decide) rfl ?_
  intro p e s m args below meth c s₁ B hml hv
  cases hv
  have C : px_C p s m _ meth c cX0_notANumber 1 (some .long) RX0 wsX0_notANumber := ⟨B.exec, B.bytes, hml, findClass_of_methodNamed B.named, atoms_spec (ws := wsX0_notANumber) B.pre, B.returns, B.notSynchronized⟩
  have hl := lv_entry ([.int v0]) (n := 1) (Nat.le_of_ble_eq_true rfl)
  rw [lg_entry_eq]
  generalize (lg_sl ([.int v0]) ++ List.replicate (1 - (lg_sl ([.int v0])).length) Slot.unset).toArray = ls at hl ⊢
  have hl : lv_has ls 1 [(0, .int v0)] := hl
  rw [fX0_notANumber]
  exact wX0_notANumber_0 C v0 (lv_sub hl [0] rfl)
set_option maxHeartbeats 4000000 in
set_option maxRecDepth 100000 in
theorem wX0_signBit_0 {p : Program} {l : Launch} {e : Env} {s : State} {m : MethodId} {args : Array Value} {below : List Frame} {meth : Method} {c : Code} (C : px_C p s m args meth c cX0_signBit 1 (some .long) RX0 wsX0_signBit) (v0 : Int32) {ls : Array Slot} (hl : lv_has ls 1 [(0, .int v0)]) : W p l e { frames := 0, cells := 0, slots := 0, locals := 0 } s m args below meth c s.heap [] 0 0 (MQ below (px_Q (.long (fX0_signBit_0 v0))) args s 0 0 (fun _ => False)) (F0 m 0 ls []) := by
  obtain ⟨hx, hb, hml, hown, hts, hr, hlocks⟩ := id C
  rw [fX0_signBit_0]
  refine lv_iload_n hx hb dX0_signBit_0 rfl (lv_at hl 0 rfl) ?_
  refine lv_bipush (v := 6) hx hb dX0_signBit_1 (by decide) ?_
  refine px_icmp_ne (tgt := 12) hx hb dX0_signBit_3 (by decide) (fun hc3 => ?_) (fun hc3 => ?_)
  · rw [if_pos hc3]
    refine lv_ldc2 hx hb hown (hts (.constantLong RX0 19 (2147483648)) (by decide +kernel)) dX0_signBit_6 ?_
    refine lv_goto (tgt := 15) hx hb dX0_signBit_9 (by decide) ?_
    exact W.lret hx hb hr (fun t ht _ => ⟨rfl, ht⟩) (fun q h => by cases h) dX0_signBit_15
  · rw [if_neg hc3]
    refine lv_ldc2 hx hb hown (hts (.constantLong RX0 23 (-9223372036854775808)) (by decide +kernel)) dX0_signBit_12 ?_
    exact W.lret hx hb hr (fun t ht _ => ⟨rfl, ht⟩) (fun q h => by cases h) dX0_signBit_15
set_option maxHeartbeats 4000000 in
set_option maxRecDepth 100000 in
theorem kX0_signBit (l : Launch) (v0 : Int32) : px_M l yX0_signBit wsX0_signBit ({ frames := 0, cells := 0, slots := 0, locals := 0 }) [.int v0] (.long (fX0_signBit v0)) := by
  refine Met.ofW (cc := cX0_signBit) (maxL := 1) (ret := (some .long)) (by decide) rfl ?_
  intro p e s m args below meth c s₁ B hml hv
  cases hv
  have C : px_C p s m _ meth c cX0_signBit 1 (some .long) RX0 wsX0_signBit := ⟨B.exec, B.bytes, hml, findClass_of_methodNamed B.named, atoms_spec (ws := wsX0_signBit) B.pre, B.returns, B.notSynchronized⟩
  have hl := lv_entry ([.int v0]) (n := 1) (Nat.le_of_ble_eq_true rfl)
  rw [lg_entry_eq]
  generalize (lg_sl ([.int v0]) ++ List.replicate (1 - (lg_sl ([.int v0])).length) Slot.unset).toArray = ls at hl ⊢
  have hl : lv_has ls 1 [(0, .int v0)] := hl
  rw [fX0_signBit]
  exact wX0_signBit_0 C v0 (lv_sub hl [0] rfl)
set_option maxHeartbeats 4000000 in
set_option maxRecDepth 100000 in
theorem wX0_size_0 {p : Program} {l : Launch} {e : Env} {s : State} {m : MethodId} {args : Array Value} {below : List Frame} {meth : Method} {c : Code} (C : px_C p s m args meth c cX0_size 3 (some .long) RX0 wsX0_size) (v0 : Int32) (v1 : Int64) {ls : Array Slot} (hl : lv_has ls 3 [(0, .int v0), (1, .long v1)]) : W p l e { frames := 1, cells := 0, slots := 0, locals := 20 } s m args below meth c s.heap [] 0 0 (MQ below (px_Q (.long (fX0_size_0 v0 v1))) args s 0 0 (fun _ => False)) (F0 m 0 ls []) := by
  obtain ⟨hx, hb, hml, hown, hts, hr, hlocks⟩ := id C
  rw [fX0_size_0]
  refine lv_lload_n hx hb dX0_size_0 rfl (lv_at hl 1 rfl) ?_
  refine lv_iload_n hx hb dX0_size_1 rfl (lv_at hl 0 rfl) ?_
  refine px_S (As := [.int v0]) (rest := [.long v1]) ⟨hx, hb, hml, hown, hts⟩ (kX0_signBit l v0) (va_cwS 1 hts gX0_size_X0_signBit rfl rfl rfl (by decide +kernel) ⟨Nat.le_of_ble_eq_true rfl, Nat.le_of_ble_eq_true rfl⟩) rfl hl.1 rfl (Nat.le_of_ble_eq_true rfl) dX0_size_2 (Nat.zero_le _) (Nat.zero_le _) ?_
  refine lv_ldc2 hx hb hown (hts (.constantLong RX0 28 (-1)) (by decide +kernel)) dX0_size_5 ?_
  refine lv_lxor hx hb dX0_size_8 ?_
  refine lv_land hx hb dX0_size_9 ?_
  exact W.lret hx hb hr (fun t ht _ => ⟨rfl, ht⟩) (fun q h => by cases h) dX0_size_10
set_option maxHeartbeats 4000000 in
set_option maxRecDepth 100000 in
theorem kX0_size (l : Launch) (v0 : Int32) (v1 : Int64) : px_M l yX0_size wsX0_size ({ frames := 1, cells := 0, slots := 0, locals := 20 }) [.int v0, .long v1] (.long (fX0_size v0 v1)) := by
  refine Met.ofW (cc := cX0_size) (maxL := 3) (ret := (some .long)) (by decide) rfl ?_
  intro p e s m args below meth c s₁ B hml hv
  cases hv
  have C : px_C p s m _ meth c cX0_size 3 (some .long) RX0 wsX0_size := ⟨B.exec, B.bytes, hml, findClass_of_methodNamed B.named, atoms_spec (ws := wsX0_size) B.pre, B.returns, B.notSynchronized⟩
  have hl := lv_entry ([.int v0, .long v1]) (n := 3) (Nat.le_of_ble_eq_true rfl)
  rw [lg_entry_eq]
  generalize (lg_sl ([.int v0, .long v1]) ++ List.replicate (3 - (lg_sl ([.int v0, .long v1])).length) Slot.unset).toArray = ls at hl ⊢
  have hl : lv_has ls 3 [(0, .int v0), (1, .long v1)] := hl
  rw [fX0_size]
  exact wX0_size_0 C v0 v1 (lv_sub hl [0, 1] rfl)
set_option maxHeartbeats 4000000 in
set_option maxRecDepth 100000 in
theorem wX0_isNumber_0 {p : Program} {l : Launch} {e : Env} {s : State} {m : MethodId} {args : Array Value} {below : List Frame} {meth : Method} {c : Code} (C : px_C p s m args meth c cX0_isNumber 5 (some .boolean) RX0 wsX0_isNumber) (v0 : Int32) (v1 : Int64) {ls : Array Slot} (hl : lv_has ls 5 [(0, .int v0), (1, .long v1)]) : W p l e { frames := 2, cells := 0, slots := 0, locals := 42 } s m args below meth c s.heap [] 0 0 (MQ below (px_Q (.int (fX0_isNumber_0 v0 v1))) args s 0 0 (fun _ => False)) (F0 m 0 ls []) := by
  obtain ⟨hx, hb, hml, hown, hts, hr, hlocks⟩ := id C
  rw [fX0_isNumber_0]
  refine lv_iload_n hx hb dX0_isNumber_0 rfl (lv_at hl 0 rfl) ?_
  refine lv_lload_n hx hb dX0_isNumber_1 rfl (lv_at hl 1 rfl) ?_
  refine px_S (As := [.int v0, .long v1]) (rest := []) ⟨hx, hb, hml, hown, hts⟩ (kX0_size l v0 v1) (va_cwS 2 hts gX0_isNumber_X0_size rfl rfl rfl (by decide +kernel) ⟨Nat.le_of_ble_eq_true rfl, Nat.le_of_ble_eq_true rfl⟩) rfl hl.1 rfl (Nat.le_of_ble_eq_true rfl) dX0_isNumber_2 (Nat.zero_le _) (Nat.zero_le _) ?_
  refine lv_topl (fun v3_5 ev3_5 => ?_)
  rw [← ev3_5]
  refine lv_lstore_n (lv' := [(3, .long v3_5), (0, .int v0), (1, .long v1)]) hx hb dX0_isNumber_5 rfl hl (by decide) rfl (fun ls hl => ?_)
  rw [fX0_isNumber_6]
  refine lv_lload_n hx hb dX0_isNumber_6 rfl (lv_at hl 0 rfl) ?_
  refine lv_lconst (v := 0) hx hb dX0_isNumber_7 (by decide) ?_
  refine px_lcmp_lt (tgt := 25) hx hb dX0_isNumber_8 dX0_isNumber_9 (by decide) (fun hc8 => ?_) (fun hc8 => ?_)
  · rw [if_pos hc8]
    refine lv_iconst (v := 0) hx hb dX0_isNumber_25 (by decide) ?_
    exact W.zret hx hb hr (by decide) (fun t ht _ => ⟨rfl, ht⟩) (fun q h => by cases h) dX0_isNumber_26
  · rw [if_neg hc8]
    refine lv_lload_n hx hb dX0_isNumber_12 rfl (lv_at hl 0 rfl) ?_
    refine lv_iload_n hx hb dX0_isNumber_13 rfl (lv_at hl 1 rfl) ?_
    refine px_S (As := [.int v0]) (rest := [.long v3_5]) ⟨hx, hb, hml, hown, hts⟩ (kX0_infinity l v0) (va_cwS 1 hts gX0_isNumber_X0_infinity rfl rfl rfl (by decide +kernel) ⟨Nat.le_of_ble_eq_true rfl, Nat.le_of_ble_eq_true rfl⟩) rfl hl.1 rfl (Nat.le_of_ble_eq_true rfl) dX0_isNumber_14 (Nat.zero_le _) (Nat.zero_le _) ?_
    refine px_lcmp_gt (tgt := 25) hx hb dX0_isNumber_17 dX0_isNumber_18 (by decide) (fun hc17 => ?_) (fun hc17 => ?_)
    · rw [if_pos hc17]
      refine lv_iconst (v := 0) hx hb dX0_isNumber_25 (by decide) ?_
      exact W.zret hx hb hr (by decide) (fun t ht _ => ⟨rfl, ht⟩) (fun q h => by cases h) dX0_isNumber_26
    · rw [if_neg hc17]
      refine lv_iconst (v := 1) hx hb dX0_isNumber_21 (by decide) ?_
      refine lv_goto (tgt := 26) hx hb dX0_isNumber_22 (by decide) ?_
      exact W.zret hx hb hr (by decide) (fun t ht _ => ⟨rfl, ht⟩) (fun q h => by cases h) dX0_isNumber_26
theorem zX0_isNumber_6 (v0 : Int32) (v3 : Int64) : fX0_isNumber_6 v0 v3 = 0 ∨ fX0_isNumber_6 v0 v3 = 1 := by
  unfold fX0_isNumber_6
  (repeat' split) <;> first | exact Or.inl rfl | exact Or.inr rfl
theorem zX0_isNumber_0 (v0 : Int32) (v1 : Int64) : fX0_isNumber_0 v0 v1 = 0 ∨ fX0_isNumber_0 v0 v1 = 1 := by
  unfold fX0_isNumber_0
  (repeat' split) <;> first | exact Or.inl rfl | exact Or.inr rfl | exact zX0_isNumber_6 _ _
theorem zX0_isNumber (v0 : Int32) (v1 : Int64) : fX0_isNumber v0 v1 = 0 ∨ fX0_isNumber v0 v1 = 1 := zX0_isNumber_0 _ _
set_option maxHeartbeats 4000000 in
set_option maxRecDepth 100000 in
theorem kX0_isNumber (l : Launch) (v0 : Int32) (v1 : Int64) : px_M l yX0_isNumber wsX0_isNumber ({ frames := 2, cells := 0, slots := 0, locals := 42 }) [.int v0, .long v1] (.int (fX0_isNumber v0 v1)) := by
  refine Met.ofW (cc := cX0_isNumber) (maxL := 5) (ret := (some .boolean)) (by decide) rfl ?_
  intro p e s m args below meth c s₁ B hml hv
  cases hv
  have C : px_C p s m _ meth c cX0_isNumber 5 (some .boolean) RX0 wsX0_isNumber := ⟨B.exec, B.bytes, hml, findClass_of_methodNamed B.named, atoms_spec (ws := wsX0_isNumber) B.pre, B.returns, B.notSynchronized⟩
  have hl := lv_entry ([.int v0, .long v1]) (n := 5) (Nat.le_of_ble_eq_true rfl)
  rw [lg_entry_eq]
  generalize (lg_sl ([.int v0, .long v1]) ++ List.replicate (5 - (lg_sl ([.int v0, .long v1])).length) Slot.unset).toArray = ls at hl ⊢
  have hl : lv_has ls 5 [(0, .int v0), (1, .long v1)] := hl
  rw [fX0_isNumber]
  exact wX0_isNumber_0 C v0 v1 (lv_sub hl [0, 1] rfl)
set_option maxHeartbeats 4000000 in
set_option maxRecDepth 100000 in
theorem wX0_isNegative_0 {p : Program} {l : Launch} {e : Env} {s : State} {m : MethodId} {args : Array Value} {below : List Frame} {meth : Method} {c : Code} (C : px_C p s m args meth c cX0_isNegative 3 (some .boolean) RX0 wsX0_isNegative) (v0 : Int32) (v1 : Int64) {ls : Array Slot} (hl : lv_has ls 3 [(0, .int v0), (1, .long v1)]) : W p l e { frames := 1, cells := 0, slots := 0, locals := 20 } s m args below meth c s.heap [] 0 0 (MQ below (px_Q (.int (fX0_isNegative_0 v0 v1))) args s 0 0 (fun _ => False)) (F0 m 0 ls []) := by
  obtain ⟨hx, hb, hml, hown, hts, hr, hlocks⟩ := id C
  rw [fX0_isNegative_0]
  refine lv_lload_n hx hb dX0_isNegative_0 rfl (lv_at hl 1 rfl) ?_
  refine lv_iload_n hx hb dX0_isNegative_1 rfl (lv_at hl 0 rfl) ?_
  refine px_S (As := [.int v0]) (rest := [.long v1]) ⟨hx, hb, hml, hown, hts⟩ (kX0_signBit l v0) (va_cwS 1 hts gX0_isNegative_X0_signBit rfl rfl rfl (by decide +kernel) ⟨Nat.le_of_ble_eq_true rfl, Nat.le_of_ble_eq_true rfl⟩) rfl hl.1 rfl (Nat.le_of_ble_eq_true rfl) dX0_isNegative_2 (Nat.zero_le _) (Nat.zero_le _) ?_
  refine lv_land hx hb dX0_isNegative_5 ?_
  refine lv_lconst (v := 0) hx hb dX0_isNegative_6 (by decide) ?_
  refine px_lcmp_eq (tgt := 15) hx hb dX0_isNegative_7 dX0_isNegative_8 (by decide) (fun hc7 => ?_) (fun hc7 => ?_)
  · rw [if_pos hc7]
    refine lv_iconst (v := 0) hx hb dX0_isNegative_15 (by decide) ?_
    exact W.zret hx hb hr (by decide) (fun t ht _ => ⟨rfl, ht⟩) (fun q h => by cases h) dX0_isNegative_16
  · rw [if_neg hc7]
    refine lv_iconst (v := 1) hx hb dX0_isNegative_11 (by decide) ?_
    refine lv_goto (tgt := 16) hx hb dX0_isNegative_12 (by decide) ?_
    exact W.zret hx hb hr (by decide) (fun t ht _ => ⟨rfl, ht⟩) (fun q h => by cases h) dX0_isNegative_16
theorem zX0_isNegative_0 (v0 : Int32) (v1 : Int64) : fX0_isNegative_0 v0 v1 = 0 ∨ fX0_isNegative_0 v0 v1 = 1 := by
  unfold fX0_isNegative_0
  (repeat' split) <;> first | exact Or.inl rfl | exact Or.inr rfl
theorem zX0_isNegative (v0 : Int32) (v1 : Int64) : fX0_isNegative v0 v1 = 0 ∨ fX0_isNegative v0 v1 = 1 := zX0_isNegative_0 _ _
set_option maxHeartbeats 4000000 in
set_option maxRecDepth 100000 in
theorem kX0_isNegative (l : Launch) (v0 : Int32) (v1 : Int64) : px_M l yX0_isNegative wsX0_isNegative ({ frames := 1, cells := 0, slots := 0, locals := 20 }) [.int v0, .long v1] (.int (fX0_isNegative v0 v1)) := by
  refine Met.ofW (cc := cX0_isNegative) (maxL := 3) (ret := (some .boolean)) (by decide) rfl ?_
  intro p e s m args below meth c s₁ B hml hv
  cases hv
  have C : px_C p s m _ meth c cX0_isNegative 3 (some .boolean) RX0 wsX0_isNegative := ⟨B.exec, B.bytes, hml, findClass_of_methodNamed B.named, atoms_spec (ws := wsX0_isNegative) B.pre, B.returns, B.notSynchronized⟩
  have hl := lv_entry ([.int v0, .long v1]) (n := 3) (Nat.le_of_ble_eq_true rfl)
  rw [lg_entry_eq]
  generalize (lg_sl ([.int v0, .long v1]) ++ List.replicate (3 - (lg_sl ([.int v0, .long v1])).length) Slot.unset).toArray = ls at hl ⊢
  have hl : lv_has ls 3 [(0, .int v0), (1, .long v1)] := hl
  rw [fX0_isNegative]
  exact wX0_isNegative_0 C v0 v1 (lv_sub hl [0, 1] rfl)
set_option maxHeartbeats 4000000 in
set_option maxRecDepth 100000 in
theorem wX0_isInfinite_0 {p : Program} {l : Launch} {e : Env} {s : State} {m : MethodId} {args : Array Value} {below : List Frame} {meth : Method} {c : Code} (C : px_C p s m args meth c cX0_isInfinite 3 (some .boolean) RX0 wsX0_isInfinite) (v0 : Int32) (v1 : Int64) {ls : Array Slot} (hl : lv_has ls 3 [(0, .int v0), (1, .long v1)]) : W p l e { frames := 2, cells := 0, slots := 0, locals := 42 } s m args below meth c s.heap [] 0 0 (MQ below (px_Q (.int (fX0_isInfinite_0 v0 v1))) args s 0 0 (fun _ => False)) (F0 m 0 ls []) := by
  obtain ⟨hx, hb, hml, hown, hts, hr, hlocks⟩ := id C
  rw [fX0_isInfinite_0]
  refine lv_iload_n hx hb dX0_isInfinite_0 rfl (lv_at hl 0 rfl) ?_
  refine lv_lload_n hx hb dX0_isInfinite_1 rfl (lv_at hl 1 rfl) ?_
  refine px_S (As := [.int v0, .long v1]) (rest := []) ⟨hx, hb, hml, hown, hts⟩ (kX0_size l v0 v1) (va_cwS 2 hts gX0_isInfinite_X0_size rfl rfl rfl (by decide +kernel) ⟨Nat.le_of_ble_eq_true rfl, Nat.le_of_ble_eq_true rfl⟩) rfl hl.1 rfl (Nat.le_of_ble_eq_true rfl) dX0_isInfinite_2 (Nat.zero_le _) (Nat.zero_le _) ?_
  refine lv_iload_n hx hb dX0_isInfinite_5 rfl (lv_at hl 0 rfl) ?_
  refine px_S (As := [.int v0]) (rest := [.long (fX0_size v0 v1)]) ⟨hx, hb, hml, hown, hts⟩ (kX0_infinity l v0) (va_cwS 1 hts gX0_isInfinite_X0_infinity rfl rfl rfl (by decide +kernel) ⟨Nat.le_of_ble_eq_true rfl, Nat.le_of_ble_eq_true rfl⟩) rfl hl.1 rfl (Nat.le_of_ble_eq_true rfl) dX0_isInfinite_6 (Nat.zero_le _) (Nat.zero_le _) ?_
  refine px_lcmp_ne (tgt := 17) hx hb dX0_isInfinite_9 dX0_isInfinite_10 (by decide) (fun hc9 => ?_) (fun hc9 => ?_)
  · rw [if_pos hc9]
    refine lv_iconst (v := 1) hx hb dX0_isInfinite_13 (by decide) ?_
    refine lv_goto (tgt := 18) hx hb dX0_isInfinite_14 (by decide) ?_
    exact W.zret hx hb hr (by decide) (fun t ht _ => ⟨rfl, ht⟩) (fun q h => by cases h) dX0_isInfinite_18
  · rw [if_neg hc9]
    refine lv_iconst (v := 0) hx hb dX0_isInfinite_17 (by decide) ?_
    exact W.zret hx hb hr (by decide) (fun t ht _ => ⟨rfl, ht⟩) (fun q h => by cases h) dX0_isInfinite_18
theorem zX0_isInfinite_0 (v0 : Int32) (v1 : Int64) : fX0_isInfinite_0 v0 v1 = 0 ∨ fX0_isInfinite_0 v0 v1 = 1 := by
  unfold fX0_isInfinite_0
  (repeat' split) <;> first | exact Or.inl rfl | exact Or.inr rfl
theorem zX0_isInfinite (v0 : Int32) (v1 : Int64) : fX0_isInfinite v0 v1 = 0 ∨ fX0_isInfinite v0 v1 = 1 := zX0_isInfinite_0 _ _
set_option maxHeartbeats 4000000 in
set_option maxRecDepth 100000 in
theorem kX0_isInfinite (l : Launch) (v0 : Int32) (v1 : Int64) : px_M l yX0_isInfinite wsX0_isInfinite ({ frames := 2, cells := 0, slots := 0, locals := 42 }) [.int v0, .long v1] (.int (fX0_isInfinite v0 v1)) := by
  refine Met.ofW (cc := cX0_isInfinite) (maxL := 3) (ret := (some .boolean)) (by decide) rfl ?_
  intro p e s m args below meth c s₁ B hml hv
  cases hv
  have C : px_C p s m _ meth c cX0_isInfinite 3 (some .boolean) RX0 wsX0_isInfinite := ⟨B.exec, B.bytes, hml, findClass_of_methodNamed B.named, atoms_spec (ws := wsX0_isInfinite) B.pre, B.returns, B.notSynchronized⟩
  have hl := lv_entry ([.int v0, .long v1]) (n := 3) (Nat.le_of_ble_eq_true rfl)
  rw [lg_entry_eq]
  generalize (lg_sl ([.int v0, .long v1]) ++ List.replicate (3 - (lg_sl ([.int v0, .long v1])).length) Slot.unset).toArray = ls at hl ⊢
  have hl : lv_has ls 3 [(0, .int v0), (1, .long v1)] := hl
  rw [fX0_isInfinite]
  exact wX0_isInfinite_0 C v0 v1 (lv_sub hl [0, 1] rfl)
set_option maxHeartbeats 4000000 in
set_option maxRecDepth 100000 in
theorem wX0_isZero_0 {p : Program} {l : Launch} {e : Env} {s : State} {m : MethodId} {args : Array Value} {below : List Frame} {meth : Method} {c : Code} (C : px_C p s m args meth c cX0_isZero 3 (some .boolean) RX0 wsX0_isZero) (v0 : Int32) (v1 : Int64) {ls : Array Slot} (hl : lv_has ls 3 [(0, .int v0), (1, .long v1)]) : W p l e { frames := 2, cells := 0, slots := 0, locals := 42 } s m args below meth c s.heap [] 0 0 (MQ below (px_Q (.int (fX0_isZero_0 v0 v1))) args s 0 0 (fun _ => False)) (F0 m 0 ls []) := by
  obtain ⟨hx, hb, hml, hown, hts, hr, hlocks⟩ := id C
  rw [fX0_isZero_0]
  refine lv_iload_n hx hb dX0_isZero_0 rfl (lv_at hl 0 rfl) ?_
  refine lv_lload_n hx hb dX0_isZero_1 rfl (lv_at hl 1 rfl) ?_
  refine px_S (As := [.int v0, .long v1]) (rest := []) ⟨hx, hb, hml, hown, hts⟩ (kX0_size l v0 v1) (va_cwS 2 hts gX0_isZero_X0_size rfl rfl rfl (by decide +kernel) ⟨Nat.le_of_ble_eq_true rfl, Nat.le_of_ble_eq_true rfl⟩) rfl hl.1 rfl (Nat.le_of_ble_eq_true rfl) dX0_isZero_2 (Nat.zero_le _) (Nat.zero_le _) ?_
  refine lv_lconst (v := 0) hx hb dX0_isZero_5 (by decide) ?_
  refine px_lcmp_ne (tgt := 14) hx hb dX0_isZero_6 dX0_isZero_7 (by decide) (fun hc6 => ?_) (fun hc6 => ?_)
  · rw [if_pos hc6]
    refine lv_iconst (v := 1) hx hb dX0_isZero_10 (by decide) ?_
    refine lv_goto (tgt := 15) hx hb dX0_isZero_11 (by decide) ?_
    exact W.zret hx hb hr (by decide) (fun t ht _ => ⟨rfl, ht⟩) (fun q h => by cases h) dX0_isZero_15
  · rw [if_neg hc6]
    refine lv_iconst (v := 0) hx hb dX0_isZero_14 (by decide) ?_
    exact W.zret hx hb hr (by decide) (fun t ht _ => ⟨rfl, ht⟩) (fun q h => by cases h) dX0_isZero_15
theorem zX0_isZero_0 (v0 : Int32) (v1 : Int64) : fX0_isZero_0 v0 v1 = 0 ∨ fX0_isZero_0 v0 v1 = 1 := by
  unfold fX0_isZero_0
  (repeat' split) <;> first | exact Or.inl rfl | exact Or.inr rfl
theorem zX0_isZero (v0 : Int32) (v1 : Int64) : fX0_isZero v0 v1 = 0 ∨ fX0_isZero v0 v1 = 1 := zX0_isZero_0 _ _
set_option maxHeartbeats 4000000 in
set_option maxRecDepth 100000 in
theorem kX0_isZero (l : Launch) (v0 : Int32) (v1 : Int64) : px_M l yX0_isZero wsX0_isZero ({ frames := 2, cells := 0, slots := 0, locals := 42 }) [.int v0, .long v1] (.int (fX0_isZero v0 v1)) := by
  refine Met.ofW (cc := cX0_isZero) (maxL := 3) (ret := (some .boolean)) (by decide) rfl ?_
  intro p e s m args below meth c s₁ B hml hv
  cases hv
  have C : px_C p s m _ meth c cX0_isZero 3 (some .boolean) RX0 wsX0_isZero := ⟨B.exec, B.bytes, hml, findClass_of_methodNamed B.named, atoms_spec (ws := wsX0_isZero) B.pre, B.returns, B.notSynchronized⟩
  have hl := lv_entry ([.int v0, .long v1]) (n := 3) (Nat.le_of_ble_eq_true rfl)
  rw [lg_entry_eq]
  generalize (lg_sl ([.int v0, .long v1]) ++ List.replicate (3 - (lg_sl ([.int v0, .long v1])).length) Slot.unset).toArray = ls at hl ⊢
  have hl : lv_has ls 3 [(0, .int v0), (1, .long v1)] := hl
  rw [fX0_isZero]
  exact wX0_isZero_0 C v0 v1 (lv_sub hl [0, 1] rfl)
set_option maxHeartbeats 4000000 in
set_option maxRecDepth 100000 in
theorem wX0_negated_0 {p : Program} {l : Launch} {e : Env} {s : State} {m : MethodId} {args : Array Value} {below : List Frame} {meth : Method} {c : Code} (C : px_C p s m args meth c cX0_negated 3 (some .long) RX0 wsX0_negated) (v0 : Int32) (v1 : Int64) {ls : Array Slot} (hl : lv_has ls 3 [(0, .int v0), (1, .long v1)]) : W p l e { frames := 1, cells := 0, slots := 0, locals := 20 } s m args below meth c s.heap [] 0 0 (MQ below (px_Q (.long (fX0_negated_0 v0 v1))) args s 0 0 (fun _ => False)) (F0 m 0 ls []) := by
  obtain ⟨hx, hb, hml, hown, hts, hr, hlocks⟩ := id C
  rw [fX0_negated_0]
  refine lv_lload_n hx hb dX0_negated_0 rfl (lv_at hl 1 rfl) ?_
  refine lv_iload_n hx hb dX0_negated_1 rfl (lv_at hl 0 rfl) ?_
  refine px_S (As := [.int v0]) (rest := [.long v1]) ⟨hx, hb, hml, hown, hts⟩ (kX0_signBit l v0) (va_cwS 1 hts gX0_negated_X0_signBit rfl rfl rfl (by decide +kernel) ⟨Nat.le_of_ble_eq_true rfl, Nat.le_of_ble_eq_true rfl⟩) rfl hl.1 rfl (Nat.le_of_ble_eq_true rfl) dX0_negated_2 (Nat.zero_le _) (Nat.zero_le _) ?_
  refine lv_lxor hx hb dX0_negated_5 ?_
  exact W.lret hx hb hr (fun t ht _ => ⟨rfl, ht⟩) (fun q h => by cases h) dX0_negated_6
set_option maxHeartbeats 4000000 in
set_option maxRecDepth 100000 in
theorem kX0_negated (l : Launch) (v0 : Int32) (v1 : Int64) : px_M l yX0_negated wsX0_negated ({ frames := 1, cells := 0, slots := 0, locals := 20 }) [.int v0, .long v1] (.long (fX0_negated v0 v1)) := by
  refine Met.ofW (cc := cX0_negated) (maxL := 3) (ret := (some .long)) (by decide) rfl ?_
  intro p e s m args below meth c s₁ B hml hv
  cases hv
  have C : px_C p s m _ meth c cX0_negated 3 (some .long) RX0 wsX0_negated := ⟨B.exec, B.bytes, hml, findClass_of_methodNamed B.named, atoms_spec (ws := wsX0_negated) B.pre, B.returns, B.notSynchronized⟩
  have hl := lv_entry ([.int v0, .long v1]) (n := 3) (Nat.le_of_ble_eq_true rfl)
  rw [lg_entry_eq]
  generalize (lg_sl ([.int v0, .long v1]) ++ List.replicate (3 - (lg_sl ([.int v0, .long v1])).length) Slot.unset).toArray = ls at hl ⊢
  have hl : lv_has ls 3 [(0, .int v0), (1, .long v1)] := hl
  rw [fX0_negated]
  exact wX0_negated_0 C v0 v1 (lv_sub hl [0, 1] rfl)
set_option maxHeartbeats 4000000 in
set_option maxRecDepth 100000 in
theorem wX0_signed_0 {p : Program} {l : Launch} {e : Env} {s : State} {m : MethodId} {args : Array Value} {below : List Frame} {meth : Method} {c : Code} (C : px_C p s m args meth c cX0_signed 4 (some .long) RX0 wsX0_signed) (v0 : Int32) (v1 : Int32) (v2 : Int64) {ls : Array Slot} (hl : lv_has ls 4 [(0, .int v0), (1, .int v1), (2, .long v2)]) : W p l e { frames := 1, cells := 0, slots := 0, locals := 20 } s m args below meth c s.heap [] 0 0 (MQ below (px_Q (.long (fX0_signed_0 v0 v1 v2))) args s 0 0 (fun _ => False)) (F0 m 0 ls []) := by
  obtain ⟨hx, hb, hml, hown, hts, hr, hlocks⟩ := id C
  rw [fX0_signed_0]
  refine lv_iload_n hx hb dX0_signed_0 rfl (lv_at hl 1 rfl) ?_
  refine px_if_eq (tgt := 13) hx hb dX0_signed_1 (by decide) (fun hc1 => ?_) (fun hc1 => ?_)
  · rw [if_pos hc1]
    refine lv_lload_n hx hb dX0_signed_13 rfl (lv_at hl 2 rfl) ?_
    exact W.lret hx hb hr (fun t ht _ => ⟨rfl, ht⟩) (fun q h => by cases h) dX0_signed_14
  · rw [if_neg hc1]
    refine lv_lload_n hx hb dX0_signed_4 rfl (lv_at hl 2 rfl) ?_
    refine lv_iload_n hx hb dX0_signed_5 rfl (lv_at hl 0 rfl) ?_
    refine px_S (As := [.int v0]) (rest := [.long v2]) ⟨hx, hb, hml, hown, hts⟩ (kX0_signBit l v0) (va_cwS 1 hts gX0_signed_X0_signBit rfl rfl rfl (by decide +kernel) ⟨Nat.le_of_ble_eq_true rfl, Nat.le_of_ble_eq_true rfl⟩) rfl hl.1 rfl (Nat.le_of_ble_eq_true rfl) dX0_signed_6 (Nat.zero_le _) (Nat.zero_le _) ?_
    refine lv_lor hx hb dX0_signed_9 ?_
    refine lv_goto (tgt := 14) hx hb dX0_signed_10 (by decide) ?_
    exact W.lret hx hb hr (fun t ht _ => ⟨rfl, ht⟩) (fun q h => by cases h) dX0_signed_14
set_option maxHeartbeats 4000000 in
set_option maxRecDepth 100000 in
theorem kX0_signed (l : Launch) (v0 : Int32) (v1 : Int32) (v2 : Int64) : px_M l yX0_signed wsX0_signed ({ frames := 1, cells := 0, slots := 0, locals := 20 }) [.int v0, .int v1, .long v2] (.long (fX0_signed v0 v1 v2)) := by
  refine Met.ofW (cc := cX0_signed) (maxL := 4) (ret := (some .long)) (by decide) rfl ?_
  intro p e s m args below meth c s₁ B hml hv
  cases hv
  have C : px_C p s m _ meth c cX0_signed 4 (some .long) RX0 wsX0_signed := ⟨B.exec, B.bytes, hml, findClass_of_methodNamed B.named, atoms_spec (ws := wsX0_signed) B.pre, B.returns, B.notSynchronized⟩
  have hl := lv_entry ([.int v0, .int v1, .long v2]) (n := 4) (Nat.le_of_ble_eq_true rfl)
  rw [lg_entry_eq]
  generalize (lg_sl ([.int v0, .int v1, .long v2]) ++ List.replicate (4 - (lg_sl ([.int v0, .int v1, .long v2])).length) Slot.unset).toArray = ls at hl ⊢
  have hl : lv_has ls 4 [(0, .int v0), (1, .int v1), (2, .long v2)] := hl
  rw [fX0_signed]
  exact wX0_signed_0 C v0 v1 v2 (lv_sub hl [0, 1, 2] rfl)
set_option maxHeartbeats 4000000 in
set_option maxRecDepth 100000 in
theorem wX0_place_0 {p : Program} {l : Launch} {e : Env} {s : State} {m : MethodId} {args : Array Value} {below : List Frame} {meth : Method} {c : Code} (C : px_C p s m args meth c cX0_place 5 (some .long) RX0 wsX0_place) (v0 : Int32) (v1 : Int64) {ls : Array Slot} (hl : lv_has ls 5 [(0, .int v0), (1, .long v1)]) : W p l e { frames := 2, cells := 0, slots := 0, locals := 42 } s m args below meth c s.heap [] 0 0 (MQ below (px_Q (.long (fX0_place_0 v0 v1))) args s 0 0 (fun _ => False)) (F0 m 0 ls []) := by
  obtain ⟨hx, hb, hml, hown, hts, hr, hlocks⟩ := id C
  rw [fX0_place_0]
  refine lv_iload_n hx hb dX0_place_0 rfl (lv_at hl 0 rfl) ?_
  refine lv_lload_n hx hb dX0_place_1 rfl (lv_at hl 1 rfl) ?_
  refine px_S (As := [.int v0, .long v1]) (rest := []) ⟨hx, hb, hml, hown, hts⟩ (kX0_size l v0 v1) (va_cwS 2 hts gX0_place_X0_size rfl rfl rfl (by decide +kernel) ⟨Nat.le_of_ble_eq_true rfl, Nat.le_of_ble_eq_true rfl⟩) rfl hl.1 rfl (Nat.le_of_ble_eq_true rfl) dX0_place_2 (Nat.zero_le _) (Nat.zero_le _) ?_
  refine lv_topl (fun v3_5 ev3_5 => ?_)
  rw [← ev3_5]
  refine lv_lstore_n (lv' := [(3, .long v3_5), (0, .int v0), (1, .long v1)]) hx hb dX0_place_5 rfl hl (by decide) rfl (fun ls hl => ?_)
  rw [fX0_place_6]
  refine lv_iload_n hx hb dX0_place_6 rfl (lv_at hl 1 rfl) ?_
  refine lv_lload_n hx hb dX0_place_7 rfl (lv_at hl 2 rfl) ?_
  refine px_S (As := [.int v0, .long v1]) (rest := []) ⟨hx, hb, hml, hown, hts⟩ (kX0_isNegative l v0 v1) (va_cwS 2 hts gX0_place_X0_isNegative rfl rfl rfl (by decide +kernel) ⟨Nat.le_of_ble_eq_true rfl, Nat.le_of_ble_eq_true rfl⟩) rfl hl.1 rfl (Nat.le_of_ble_eq_true rfl) dX0_place_8 (Nat.zero_le _) (Nat.zero_le _) ?_
  refine px_if_eq (tgt := 19) hx hb dX0_place_11 (by decide) (fun hc11 => ?_) (fun hc11 => ?_)
  · rw [if_pos hc11]
    refine lv_lload_n hx hb dX0_place_19 rfl (lv_at hl 0 rfl) ?_
    exact W.lret hx hb hr (fun t ht _ => ⟨rfl, ht⟩) (fun q h => by cases h) dX0_place_20
  · rw [if_neg hc11]
    refine lv_lload_n hx hb dX0_place_14 rfl (lv_at hl 0 rfl) ?_
    refine lv_lneg hx hb dX0_place_15 ?_
    refine lv_goto (tgt := 20) hx hb dX0_place_16 (by decide) ?_
    exact W.lret hx hb hr (fun t ht _ => ⟨rfl, ht⟩) (fun q h => by cases h) dX0_place_20
set_option maxHeartbeats 4000000 in
set_option maxRecDepth 100000 in
theorem kX0_place (l : Launch) (v0 : Int32) (v1 : Int64) : px_M l yX0_place wsX0_place ({ frames := 2, cells := 0, slots := 0, locals := 42 }) [.int v0, .long v1] (.long (fX0_place v0 v1)) := by
  refine Met.ofW (cc := cX0_place) (maxL := 5) (ret := (some .long)) (by decide) rfl ?_
  intro p e s m args below meth c s₁ B hml hv
  cases hv
  have C : px_C p s m _ meth c cX0_place 5 (some .long) RX0 wsX0_place := ⟨B.exec, B.bytes, hml, findClass_of_methodNamed B.named, atoms_spec (ws := wsX0_place) B.pre, B.returns, B.notSynchronized⟩
  have hl := lv_entry ([.int v0, .long v1]) (n := 5) (Nat.le_of_ble_eq_true rfl)
  rw [lg_entry_eq]
  generalize (lg_sl ([.int v0, .long v1]) ++ List.replicate (5 - (lg_sl ([.int v0, .long v1])).length) Slot.unset).toArray = ls at hl ⊢
  have hl : lv_has ls 5 [(0, .int v0), (1, .long v1)] := hl
  rw [fX0_place]
  exact wX0_place_0 C v0 v1 (lv_sub hl [0, 1] rfl)
set_option maxHeartbeats 4000000 in
set_option maxRecDepth 100000 in
theorem wX0_placeWithZerosApart_0 {p : Program} {l : Launch} {e : Env} {s : State} {m : MethodId} {args : Array Value} {below : List Frame} {meth : Method} {c : Code} (C : px_C p s m args meth c cX0_placeWithZerosApart 5 (some .long) RX0 wsX0_placeWithZerosApart) (v0 : Int32) (v1 : Int64) {ls : Array Slot} (hl : lv_has ls 5 [(0, .int v0), (1, .long v1)]) : W p l e { frames := 2, cells := 0, slots := 0, locals := 42 } s m args below meth c s.heap [] 0 0 (MQ below (px_Q (.long (fX0_placeWithZerosApart_0 v0 v1))) args s 0 0 (fun _ => False)) (F0 m 0 ls []) := by
  obtain ⟨hx, hb, hml, hown, hts, hr, hlocks⟩ := id C
  rw [fX0_placeWithZerosApart_0]
  refine lv_iload_n hx hb dX0_placeWithZerosApart_0 rfl (lv_at hl 0 rfl) ?_
  refine lv_lload_n hx hb dX0_placeWithZerosApart_1 rfl (lv_at hl 1 rfl) ?_
  refine px_S (As := [.int v0, .long v1]) (rest := []) ⟨hx, hb, hml, hown, hts⟩ (kX0_size l v0 v1) (va_cwS 2 hts gX0_placeWithZerosApart_X0_size rfl rfl rfl (by decide +kernel) ⟨Nat.le_of_ble_eq_true rfl, Nat.le_of_ble_eq_true rfl⟩) rfl hl.1 rfl (Nat.le_of_ble_eq_true rfl) dX0_placeWithZerosApart_2 (Nat.zero_le _) (Nat.zero_le _) ?_
  refine lv_topl (fun v3_5 ev3_5 => ?_)
  rw [← ev3_5]
  refine lv_lstore_n (lv' := [(3, .long v3_5), (0, .int v0), (1, .long v1)]) hx hb dX0_placeWithZerosApart_5 rfl hl (by decide) rfl (fun ls hl => ?_)
  rw [fX0_placeWithZerosApart_6]
  refine lv_iload_n hx hb dX0_placeWithZerosApart_6 rfl (lv_at hl 1 rfl) ?_
  refine lv_lload_n hx hb dX0_placeWithZerosApart_7 rfl (lv_at hl 2 rfl) ?_
  refine px_S (As := [.int v0, .long v1]) (rest := []) ⟨hx, hb, hml, hown, hts⟩ (kX0_isNegative l v0 v1) (va_cwS 2 hts gX0_placeWithZerosApart_X0_isNegative rfl rfl rfl (by decide +kernel) ⟨Nat.le_of_ble_eq_true rfl, Nat.le_of_ble_eq_true rfl⟩) rfl hl.1 rfl (Nat.le_of_ble_eq_true rfl) dX0_placeWithZerosApart_8 (Nat.zero_le _) (Nat.zero_le _) ?_
  refine px_if_eq (tgt := 21) hx hb dX0_placeWithZerosApart_11 (by decide) (fun hc11 => ?_) (fun hc11 => ?_)
  · rw [if_pos hc11]
    refine lv_lload_n hx hb dX0_placeWithZerosApart_21 rfl (lv_at hl 0 rfl) ?_
    exact W.lret hx hb hr (fun t ht _ => ⟨rfl, ht⟩) (fun q h => by cases h) dX0_placeWithZerosApart_22
  · rw [if_neg hc11]
    refine lv_lload_n hx hb dX0_placeWithZerosApart_14 rfl (lv_at hl 0 rfl) ?_
    refine lv_lneg hx hb dX0_placeWithZerosApart_15 ?_
    refine lv_lconst (v := 1) hx hb dX0_placeWithZerosApart_16 (by decide) ?_
    refine lv_lsub hx hb dX0_placeWithZerosApart_17 ?_
    refine lv_goto (tgt := 22) hx hb dX0_placeWithZerosApart_18 (by decide) ?_
    exact W.lret hx hb hr (fun t ht _ => ⟨rfl, ht⟩) (fun q h => by cases h) dX0_placeWithZerosApart_22
set_option maxHeartbeats 4000000 in
set_option maxRecDepth 100000 in
theorem kX0_placeWithZerosApart (l : Launch) (v0 : Int32) (v1 : Int64) : px_M l yX0_placeWithZerosApart wsX0_placeWithZerosApart ({ frames := 2, cells := 0, slots := 0, locals := 42 }) [.int v0, .long v1] (.long (fX0_placeWithZerosApart v0 v1)) := by
  refine Met.ofW (cc := cX0_placeWithZerosApart) (maxL := 5) (ret := (some .long)) (by decide) rfl ?_
  intro p e s m args below meth c s₁ B hml hv
  cases hv
  have C : px_C p s m _ meth c cX0_placeWithZerosApart 5 (some .long) RX0 wsX0_placeWithZerosApart := ⟨B.exec, B.bytes, hml, findClass_of_methodNamed B.named, atoms_spec (ws := wsX0_placeWithZerosApart) B.pre, B.returns, B.notSynchronized⟩
  have hl := lv_entry ([.int v0, .long v1]) (n := 5) (Nat.le_of_ble_eq_true rfl)
  rw [lg_entry_eq]
  generalize (lg_sl ([.int v0, .long v1]) ++ List.replicate (5 - (lg_sl ([.int v0, .long v1])).length) Slot.unset).toArray = ls at hl ⊢
  have hl : lv_has ls 5 [(0, .int v0), (1, .long v1)] := hl
  rw [fX0_placeWithZerosApart]
  exact wX0_placeWithZerosApart_0 C v0 v1 (lv_sub hl [0, 1] rfl)
set_option maxHeartbeats 4000000 in
set_option maxRecDepth 100000 in
theorem wX0_magnitude_0 {p : Program} {l : Launch} {e : Env} {s : State} {m : MethodId} {args : Array Value} {below : List Frame} {meth : Method} {c : Code} (C : px_C p s m args meth c cX0_magnitude 7 (some .long) RX0 wsX0_magnitude) (v0 : Int32) (v1 : Int64) {ls : Array Slot} (hl : lv_has ls 7 [(0, .int v0), (1, .long v1)]) : W p l e { frames := 2, cells := 0, slots := 0, locals := 42 } s m args below meth c s.heap [] 0 0 (MQ below (px_Q (.long (fX0_magnitude_0 v0 v1))) args s 0 0 (fun _ => False)) (F0 m 0 ls []) := by
  obtain ⟨hx, hb, hml, hown, hts, hr, hlocks⟩ := id C
  rw [fX0_magnitude_0]
  refine lv_lconst (v := 1) hx hb dX0_magnitude_0 (by decide) ?_
  refine lv_iload_n hx hb dX0_magnitude_1 rfl (lv_at hl 0 rfl) ?_
  refine px_S (As := [.int v0]) (rest := [.long (1 : Int64)]) ⟨hx, hb, hml, hown, hts⟩ (kX0_fractionBits l v0) (va_cwS 1 hts gX0_magnitude_X0_fractionBits rfl rfl rfl (by decide +kernel) ⟨Nat.le_of_ble_eq_true rfl, Nat.le_of_ble_eq_true rfl⟩) rfl hl.1 rfl (Nat.le_of_ble_eq_true rfl) dX0_magnitude_2 (Nat.zero_le _) (Nat.zero_le _) ?_
  refine px_lshl hx hb dX0_magnitude_5 ?_
  refine lv_topl (fun v3_6 ev3_6 => ?_)
  rw [← ev3_6]
  refine lv_lstore_n (lv' := [(3, .long v3_6), (0, .int v0), (1, .long v1)]) hx hb dX0_magnitude_6 rfl hl (by decide) rfl (fun ls hl => ?_)
  rw [fX0_magnitude_7]
  refine lv_lload_n hx hb dX0_magnitude_7 rfl (lv_at hl 2 rfl) ?_
  refine lv_lload_n hx hb dX0_magnitude_8 rfl (lv_at hl 0 rfl) ?_
  refine lv_lconst (v := 1) hx hb dX0_magnitude_9 (by decide) ?_
  refine lv_lsub hx hb dX0_magnitude_10 ?_
  refine lv_land hx hb dX0_magnitude_11 ?_
  refine lv_topl (fun v5_12 ev5_12 => ?_)
  rw [← ev5_12]
  refine lv_lstore (lv' := [(5, .long v5_12), (3, .long v3_6), (0, .int v0), (1, .long v1)]) hx hb dX0_magnitude_12 hl (by decide) rfl (fun ls hl => ?_)
  rw [fX0_magnitude_14]
  refine lv_iload_n hx hb dX0_magnitude_14 rfl (lv_at hl 2 rfl) ?_
  refine lv_lload_n hx hb dX0_magnitude_15 rfl (lv_at hl 3 rfl) ?_
  refine px_S (As := [.int v0, .long v1]) (rest := []) ⟨hx, hb, hml, hown, hts⟩ (kX0_size l v0 v1) (va_cwS 2 hts gX0_magnitude_X0_size rfl rfl rfl (by decide +kernel) ⟨Nat.le_of_ble_eq_true rfl, Nat.le_of_ble_eq_true rfl⟩) rfl hl.1 rfl (Nat.le_of_ble_eq_true rfl) dX0_magnitude_16 (Nat.zero_le _) (Nat.zero_le _) ?_
  refine lv_lload_n hx hb dX0_magnitude_19 rfl (lv_at hl 1 rfl) ?_
  refine px_lcmp_ge (tgt := 29) hx hb dX0_magnitude_20 dX0_magnitude_21 (by decide) (fun hc20 => ?_) (fun hc20 => ?_)
  · rw [if_pos hc20]
    refine lv_lload hx hb dX0_magnitude_24 (lv_at hl 0 rfl) ?_
    refine lv_goto (tgt := 33) hx hb dX0_magnitude_26 (by decide) ?_
    exact W.lret hx hb hr (fun t ht _ => ⟨rfl, ht⟩) (fun q h => by cases h) dX0_magnitude_33
  · rw [if_neg hc20]
    refine lv_lload hx hb dX0_magnitude_29 (lv_at hl 0 rfl) ?_
    refine lv_lload_n hx hb dX0_magnitude_31 rfl (lv_at hl 1 rfl) ?_
    refine lv_ladd hx hb dX0_magnitude_32 ?_
    exact W.lret hx hb hr (fun t ht _ => ⟨rfl, ht⟩) (fun q h => by cases h) dX0_magnitude_33
set_option maxHeartbeats 4000000 in
set_option maxRecDepth 100000 in
theorem kX0_magnitude (l : Launch) (v0 : Int32) (v1 : Int64) : px_M l yX0_magnitude wsX0_magnitude ({ frames := 2, cells := 0, slots := 0, locals := 42 }) [.int v0, .long v1] (.long (fX0_magnitude v0 v1)) := by
  refine Met.ofW (cc := cX0_magnitude) (maxL := 7) (ret := (some .long)) (by decide) rfl ?_
  intro p e s m args below meth c s₁ B hml hv
  cases hv
  have C : px_C p s m _ meth c cX0_magnitude 7 (some .long) RX0 wsX0_magnitude := ⟨B.exec, B.bytes, hml, findClass_of_methodNamed B.named, atoms_spec (ws := wsX0_magnitude) B.pre, B.returns, B.notSynchronized⟩
  have hl := lv_entry ([.int v0, .long v1]) (n := 7) (Nat.le_of_ble_eq_true rfl)
  rw [lg_entry_eq]
  generalize (lg_sl ([.int v0, .long v1]) ++ List.replicate (7 - (lg_sl ([.int v0, .long v1])).length) Slot.unset).toArray = ls at hl ⊢
  have hl : lv_has ls 7 [(0, .int v0), (1, .long v1)] := hl
  rw [fX0_magnitude]
  exact wX0_magnitude_0 C v0 v1 (lv_sub hl [0, 1] rfl)
set_option maxHeartbeats 4000000 in
set_option maxRecDepth 100000 in
theorem wX0_exponent_0 {p : Program} {l : Launch} {e : Env} {s : State} {m : MethodId} {args : Array Value} {below : List Frame} {meth : Method} {c : Code} (C : px_C p s m args meth c cX0_exponent 4 (some .int) RX0 wsX0_exponent) (v0 : Int32) (v1 : Int64) {ls : Array Slot} (hl : lv_has ls 4 [(0, .int v0), (1, .long v1)]) : W p l e { frames := 2, cells := 0, slots := 0, locals := 42 } s m args below meth c s.heap [] 0 0 (MQ below (px_Q (.int (fX0_exponent_0 v0 v1))) args s 0 0 (fun _ => False)) (F0 m 0 ls []) := by
  obtain ⟨hx, hb, hml, hown, hts, hr, hlocks⟩ := id C
  rw [fX0_exponent_0]
  refine lv_iload_n hx hb dX0_exponent_0 rfl (lv_at hl 0 rfl) ?_
  refine lv_lload_n hx hb dX0_exponent_1 rfl (lv_at hl 1 rfl) ?_
  refine px_S (As := [.int v0, .long v1]) (rest := []) ⟨hx, hb, hml, hown, hts⟩ (kX0_size l v0 v1) (va_cwS 2 hts gX0_exponent_X0_size rfl rfl rfl (by decide +kernel) ⟨Nat.le_of_ble_eq_true rfl, Nat.le_of_ble_eq_true rfl⟩) rfl hl.1 rfl (Nat.le_of_ble_eq_true rfl) dX0_exponent_2 (Nat.zero_le _) (Nat.zero_le _) ?_
  refine lv_iload_n hx hb dX0_exponent_5 rfl (lv_at hl 0 rfl) ?_
  refine px_S (As := [.int v0]) (rest := [.long (fX0_size v0 v1)]) ⟨hx, hb, hml, hown, hts⟩ (kX0_fractionBits l v0) (va_cwS 1 hts gX0_exponent_X0_fractionBits rfl rfl rfl (by decide +kernel) ⟨Nat.le_of_ble_eq_true rfl, Nat.le_of_ble_eq_true rfl⟩) rfl hl.1 rfl (Nat.le_of_ble_eq_true rfl) dX0_exponent_6 (Nat.zero_le _) (Nat.zero_le _) ?_
  refine px_lushr hx hb dX0_exponent_9 ?_
  refine px_l2i hx hb dX0_exponent_10 ?_
  refine lv_topi (fun v3_11 ev3_11 => ?_)
  rw [← ev3_11]
  refine lv_istore_n (lv' := [(3, .int v3_11), (0, .int v0), (1, .long v1)]) hx hb dX0_exponent_11 rfl hl (by decide) rfl (fun ls hl => ?_)
  rw [fX0_exponent_12]
  refine lv_iload_n hx hb dX0_exponent_12 rfl (lv_at hl 1 rfl) ?_
  refine px_S (As := [.int v0]) (rest := []) ⟨hx, hb, hml, hown, hts⟩ (kX0_leastExponent l v0) (va_cwS 1 hts gX0_exponent_X0_leastExponent rfl rfl rfl (by decide +kernel) ⟨Nat.le_of_ble_eq_true rfl, Nat.le_of_ble_eq_true rfl⟩) rfl hl.1 rfl (Nat.le_of_ble_eq_true rfl) dX0_exponent_13 (Nat.zero_le _) (Nat.zero_le _) ?_
  refine lv_iload_n hx hb dX0_exponent_16 rfl (lv_at hl 0 rfl) ?_
  refine lv_iconst (v := 1) hx hb dX0_exponent_17 (by decide) ?_
  refine px_mmax hx hb (hml.trans hl.1.symm) hown (hts (.methodLink RX0 45 Lib.Math.max.name) (by decide +kernel)) (hts (.static Lib.Math.max.name) (by decide +kernel)) (hts (.initialized "java/lang/Math") (by decide +kernel)) (hts (.code Lib.Math.max.name Lib.Math.max.code 2 (some .int)) (by decide +kernel)) (Nat.le_of_ble_eq_true rfl) (Nat.le_of_ble_eq_true rfl) (Nat.zero_le _) (Nat.zero_le _) dX0_exponent_18 ?_
  refine lv_iadd hx hb dX0_exponent_21 ?_
  refine lv_iconst (v := 1) hx hb dX0_exponent_22 (by decide) ?_
  refine lv_isub hx hb dX0_exponent_23 ?_
  exact W.iret hx hb hr (fun t ht _ => ⟨rfl, ht⟩) (fun q h => by cases h) dX0_exponent_24
set_option maxHeartbeats 4000000 in
set_option maxRecDepth 100000 in
theorem kX0_exponent (l : Launch) (v0 : Int32) (v1 : Int64) : px_M l yX0_exponent wsX0_exponent ({ frames := 2, cells := 0, slots := 0, locals := 42 }) [.int v0, .long v1] (.int (fX0_exponent v0 v1)) := by
  refine Met.ofW (cc := cX0_exponent) (maxL := 4) (ret := (some .int)) (by decide) rfl ?_
  intro p e s m args below meth c s₁ B hml hv
  cases hv
  have C : px_C p s m _ meth c cX0_exponent 4 (some .int) RX0 wsX0_exponent := ⟨B.exec, B.bytes, hml, findClass_of_methodNamed B.named, atoms_spec (ws := wsX0_exponent) B.pre, B.returns, B.notSynchronized⟩
  have hl := lv_entry ([.int v0, .long v1]) (n := 4) (Nat.le_of_ble_eq_true rfl)
  rw [lg_entry_eq]
  generalize (lg_sl ([.int v0, .long v1]) ++ List.replicate (4 - (lg_sl ([.int v0, .long v1])).length) Slot.unset).toArray = ls at hl ⊢
  have hl : lv_has ls 4 [(0, .int v0), (1, .long v1)] := hl
  rw [fX0_exponent]
  exact wX0_exponent_0 C v0 v1 (lv_sub hl [0, 1] rfl)
set_option maxHeartbeats 4000000 in
set_option maxRecDepth 100000 in
theorem wX0_roomBelow_2 {p : Program} {l : Launch} {e : Env} {s : State} {m : MethodId} {args : Array Value} {below : List Frame} {meth : Method} {c : Code} (C : px_C p s m args meth c cX0_roomBelow 4 (some .int) RX0 wsX0_roomBelow) : ∀ (n : Nat) (v0 : Int32) (v1 : Int64) (v3 : Int32) (hok : okX0_roomBelow_2 n v0 v1 v3) (ls : Array Slot) (hl : lv_has ls 4 [(0, .int v0), (1, .long v1), (3, .int v3)]), W p l e { frames := 0, cells := 0, slots := 0, locals := 0 } s m args below meth c s.heap [] 0 0 (MQ below (px_Q (.int (fX0_roomBelow_2 n v0 v1 v3))) args s 0 0 (fun _ => False)) (F0 m 2 ls []) := by
  obtain ⟨hx, hb, hml, hown, hts, hr, hlocks⟩ := id C
  intro n
  induction n with
  | zero => intro v0 v1 v3 hok; exact hok.elim
  | succ n ih =>
    intro v0 v1 v3 hok ls hl
    rw [fX0_roomBelow_2]
    rw [okX0_roomBelow_2] at hok
    refine lv_iload_n hx hb dX0_roomBelow_2 rfl (lv_at hl 2 rfl) ?_
    refine lv_iload_n hx hb dX0_roomBelow_3 rfl (lv_at hl 0 rfl) ?_
    refine px_icmp_ge (tgt := 23) hx hb dX0_roomBelow_4 (by decide) (fun hc4 => ?_) (fun hc4 => ?_)
    · rw [if_pos hc4]
      have hok := hok.1 hc4
      refine lv_lload_n hx hb dX0_roomBelow_7 rfl (lv_at hl 1 rfl) ?_
      refine lv_iload_n hx hb dX0_roomBelow_8 rfl (lv_at hl 2 rfl) ?_
      refine px_lshl hx hb dX0_roomBelow_9 ?_
      refine lv_lconst (v := 1) hx hb dX0_roomBelow_10 (by decide) ?_
      refine lv_iload_n hx hb dX0_roomBelow_11 rfl (lv_at hl 0 rfl) ?_
      refine px_lshl hx hb dX0_roomBelow_12 ?_
      refine px_lcmp_ge (tgt := 23) hx hb dX0_roomBelow_13 dX0_roomBelow_14 (by decide) (fun hc13 => ?_) (fun hc13 => ?_)
      · rw [if_pos hc13]
        have hok := hok.1 hc13
        refine lv_iinc (v := (v3 + (1 : Int32))) (lv' := [(3, .int (v3 + (1 : Int32))), (0, .int v0), (1, .long v1)]) hx hb dX0_roomBelow_17 hl (k := 2) rfl (congrArg (HAdd.hAdd v3) (by decide : Int32.ofInt (1) = (1 : Int32))) (by decide) rfl (fun ls hl => ?_)
        refine lv_goto (tgt := 2) hx hb dX0_roomBelow_20 (by decide) ?_
        exact ih v0 v1 (v3 + (1 : Int32)) hok _ (lv_sub hl [1, 2, 0] rfl)
      · rw [if_neg hc13]
        have hok := hok.2 hc13
        refine lv_iload_n hx hb dX0_roomBelow_23 rfl (lv_at hl 2 rfl) ?_
        exact W.iret hx hb hr (fun t ht _ => ⟨rfl, ht⟩) (fun q h => by cases h) dX0_roomBelow_24
    · rw [if_neg hc4]
      have hok := hok.2 hc4
      refine lv_iload_n hx hb dX0_roomBelow_23 rfl (lv_at hl 2 rfl) ?_
      exact W.iret hx hb hr (fun t ht _ => ⟨rfl, ht⟩) (fun q h => by cases h) dX0_roomBelow_24
set_option maxHeartbeats 4000000 in
set_option maxRecDepth 100000 in
theorem wX0_roomBelow_0 {p : Program} {l : Launch} {e : Env} {s : State} {m : MethodId} {args : Array Value} {below : List Frame} {meth : Method} {c : Code} (C : px_C p s m args meth c cX0_roomBelow 4 (some .int) RX0 wsX0_roomBelow) (v0 : Int32) (v1 : Int64) (hok : okX0_roomBelow_0 v0 v1) {ls : Array Slot} (hl : lv_has ls 4 [(0, .int v0), (1, .long v1)]) : W p l e { frames := 0, cells := 0, slots := 0, locals := 0 } s m args below meth c s.heap [] 0 0 (MQ below (px_Q (.int (fX0_roomBelow_0 v0 v1))) args s 0 0 (fun _ => False)) (F0 m 0 ls []) := by
  obtain ⟨hx, hb, hml, hown, hts, hr, hlocks⟩ := id C
  rw [fX0_roomBelow_0]
  rw [okX0_roomBelow_0] at hok
  refine lv_iconst (v := 0) hx hb dX0_roomBelow_0 (by decide) ?_
  refine lv_istore_n (lv' := [(3, .int (0 : Int32)), (0, .int v0), (1, .long v1)]) hx hb dX0_roomBelow_1 rfl hl (by decide) rfl (fun ls hl => ?_)
  exact wX0_roomBelow_2 C _ v0 v1 (0 : Int32) hok _ (lv_sub hl [1, 2, 0] rfl)
set_option maxHeartbeats 4000000 in
set_option maxRecDepth 100000 in
theorem kX0_roomBelow (l : Launch) (v0 : Int32) (v1 : Int64) (hok : okX0_roomBelow v0 v1) : px_M l yX0_roomBelow wsX0_roomBelow ({ frames := 0, cells := 0, slots := 0, locals := 0 }) [.int v0, .long v1] (.int (fX0_roomBelow v0 v1)) := by
  refine Met.ofW (cc := cX0_roomBelow) (maxL := 4) (ret := (some .int)) (by decide) rfl ?_
  intro p e s m args below meth c s₁ B hml hv
  cases hv
  have C : px_C p s m _ meth c cX0_roomBelow 4 (some .int) RX0 wsX0_roomBelow := ⟨B.exec, B.bytes, hml, findClass_of_methodNamed B.named, atoms_spec (ws := wsX0_roomBelow) B.pre, B.returns, B.notSynchronized⟩
  have hl := lv_entry ([.int v0, .long v1]) (n := 4) (Nat.le_of_ble_eq_true rfl)
  rw [lg_entry_eq]
  generalize (lg_sl ([.int v0, .long v1]) ++ List.replicate (4 - (lg_sl ([.int v0, .long v1])).length) Slot.unset).toArray = ls at hl ⊢
  have hl : lv_has ls 4 [(0, .int v0), (1, .long v1)] := hl
  rw [fX0_roomBelow]
  rw [okX0_roomBelow] at hok
  exact wX0_roomBelow_0 C v0 v1 hok (lv_sub hl [0, 1] rfl)
set_option maxHeartbeats 4000000 in
set_option maxRecDepth 100000 in
theorem wX0_movedDown_0 {p : Program} {l : Launch} {e : Env} {s : State} {m : MethodId} {args : Array Value} {below : List Frame} {meth : Method} {c : Code} (C : px_C p s m args meth c cX0_movedDown 5 (some .long) RX0 wsX0_movedDown) (v0 : Int64) (v2 : Int32) {ls : Array Slot} (hl : lv_has ls 5 [(0, .long v0), (2, .int v2)]) : W p l e { frames := 0, cells := 0, slots := 0, locals := 0 } s m args below meth c s.heap [] 0 0 (MQ below (px_Q (.long (fX0_movedDown_0 v0 v2))) args s 0 0 (fun _ => False)) (F0 m 0 ls []) := by
  obtain ⟨hx, hb, hml, hown, hts, hr, hlocks⟩ := id C
  rw [fX0_movedDown_0]
  refine lv_iload_n hx hb dX0_movedDown_0 rfl (lv_at hl 1 rfl) ?_
  refine lv_bipush (v := 63) hx hb dX0_movedDown_1 (by decide) ?_
  refine px_icmp_le (tgt := 18) hx hb dX0_movedDown_3 (by decide) (fun hc3 => ?_) (fun hc3 => ?_)
  · rw [if_pos hc3]
    refine lv_lload_n hx hb dX0_movedDown_6 rfl (lv_at hl 0 rfl) ?_
    refine lv_lconst (v := 0) hx hb dX0_movedDown_7 (by decide) ?_
    refine px_lcmp_ne (tgt := 16) hx hb dX0_movedDown_8 dX0_movedDown_9 (by decide) (fun hc8 => ?_) (fun hc8 => ?_)
    · rw [if_pos hc8]
      refine lv_lconst (v := 0) hx hb dX0_movedDown_12 (by decide) ?_
      refine lv_goto (tgt := 17) hx hb dX0_movedDown_13 (by decide) ?_
      exact W.lret hx hb hr (fun t ht _ => ⟨rfl, ht⟩) (fun q h => by cases h) dX0_movedDown_17
    · rw [if_neg hc8]
      refine lv_lconst (v := 1) hx hb dX0_movedDown_16 (by decide) ?_
      exact W.lret hx hb hr (fun t ht _ => ⟨rfl, ht⟩) (fun q h => by cases h) dX0_movedDown_17
  · rw [if_neg hc3]
    refine lv_lload_n hx hb dX0_movedDown_18 rfl (lv_at hl 0 rfl) ?_
    refine lv_iload_n hx hb dX0_movedDown_19 rfl (lv_at hl 1 rfl) ?_
    refine px_lushr hx hb dX0_movedDown_20 ?_
    refine lv_topl (fun v3_21 ev3_21 => ?_)
    rw [← ev3_21]
    refine lv_lstore_n (lv' := [(3, .long v3_21), (0, .long v0), (2, .int v2)]) hx hb dX0_movedDown_21 rfl hl (by decide) rfl (fun ls hl => ?_)
    rw [fX0_movedDown_22]
    refine lv_lload_n hx hb dX0_movedDown_22 rfl (lv_at hl 0 rfl) ?_
    refine lv_iload_n hx hb dX0_movedDown_23 rfl (lv_at hl 2 rfl) ?_
    refine px_lshl hx hb dX0_movedDown_24 ?_
    refine lv_lload_n hx hb dX0_movedDown_25 rfl (lv_at hl 1 rfl) ?_
    refine px_lcmp_ne (tgt := 34) hx hb dX0_movedDown_26 dX0_movedDown_27 (by decide) (fun hc26 => ?_) (fun hc26 => ?_)
    · rw [if_pos hc26]
      refine lv_lload_n hx hb dX0_movedDown_30 rfl (lv_at hl 0 rfl) ?_
      refine lv_goto (tgt := 37) hx hb dX0_movedDown_31 (by decide) ?_
      exact W.lret hx hb hr (fun t ht _ => ⟨rfl, ht⟩) (fun q h => by cases h) dX0_movedDown_37
    · rw [if_neg hc26]
      refine lv_lload_n hx hb dX0_movedDown_34 rfl (lv_at hl 0 rfl) ?_
      refine lv_lconst (v := 1) hx hb dX0_movedDown_35 (by decide) ?_
      refine lv_lor hx hb dX0_movedDown_36 ?_
      exact W.lret hx hb hr (fun t ht _ => ⟨rfl, ht⟩) (fun q h => by cases h) dX0_movedDown_37
set_option maxHeartbeats 4000000 in
set_option maxRecDepth 100000 in
theorem kX0_movedDown (l : Launch) (v0 : Int64) (v2 : Int32) : px_M l yX0_movedDown wsX0_movedDown ({ frames := 0, cells := 0, slots := 0, locals := 0 }) [.long v0, .int v2] (.long (fX0_movedDown v0 v2)) := by
  refine Met.ofW (cc := cX0_movedDown) (maxL := 5) (ret := (some .long)) (by decide) rfl ?_
  intro p e s m args below meth c s₁ B hml hv
  cases hv
  have C : px_C p s m _ meth c cX0_movedDown 5 (some .long) RX0 wsX0_movedDown := ⟨B.exec, B.bytes, hml, findClass_of_methodNamed B.named, atoms_spec (ws := wsX0_movedDown) B.pre, B.returns, B.notSynchronized⟩
  have hl := lv_entry ([.long v0, .int v2]) (n := 5) (Nat.le_of_ble_eq_true rfl)
  rw [lg_entry_eq]
  generalize (lg_sl ([.long v0, .int v2]) ++ List.replicate (5 - (lg_sl ([.long v0, .int v2])).length) Slot.unset).toArray = ls at hl ⊢
  have hl : lv_has ls 5 [(0, .long v0), (2, .int v2)] := hl
  rw [fX0_movedDown]
  exact wX0_movedDown_0 C v0 v2 (lv_sub hl [0, 1] rfl)
end
section
set_option maxHeartbeats 4000000 in
set_option maxRecDepth 100000 in
theorem wX0_roundedDown_57 {p : Program} {l : Launch} {e : Env} {s : State} {m : MethodId} {args : Array Value} {below : List Frame} {meth : Method} {c : Code} (C : px_C p s m args meth c cX0_roundedDown 10 (some .long) RX0 wsX0_roundedDown) (v3 : Int64) (s0 : Int32) {ls : Array Slot} (hl : lv_has ls 10 [(3, .long v3)]) : W p l e { frames := 0, cells := 0, slots := 0, locals := 0 } s m args below meth c s.heap [] 0 0 (MQ below (px_Q (.long (fX0_roundedDown_57 v3 s0))) args s 0 0 (fun _ => False)) (F0 m 57 ls [.int s0]) := by
  obtain ⟨hx, hb, hml, hown, hts, hr, hlocks⟩ := id C
  rw [fX0_roundedDown_57]
  refine lv_istore (lv' := [(9, .int s0), (3, .long v3)]) hx hb dX0_roundedDown_57 hl (by decide) rfl (fun ls hl => ?_)
  refine lv_iload hx hb dX0_roundedDown_59 (lv_at hl 0 rfl) ?_
  refine px_if_eq (tgt := 70) hx hb dX0_roundedDown_61 (by decide) (fun hc61 => ?_) (fun hc61 => ?_)
  · rw [if_pos hc61]
    refine lv_lload_n hx hb dX0_roundedDown_70 rfl (lv_at hl 1 rfl) ?_
    exact W.lret hx hb hr (fun t ht _ => ⟨rfl, ht⟩) (fun q h => by cases h) dX0_roundedDown_71
  · rw [if_neg hc61]
    refine lv_lload_n hx hb dX0_roundedDown_64 rfl (lv_at hl 1 rfl) ?_
    refine lv_lconst (v := 1) hx hb dX0_roundedDown_65 (by decide) ?_
    refine lv_ladd hx hb dX0_roundedDown_66 ?_
    refine lv_goto (tgt := 71) hx hb dX0_roundedDown_67 (by decide) ?_
    exact W.lret hx hb hr (fun t ht _ => ⟨rfl, ht⟩) (fun q h => by cases h) dX0_roundedDown_71
set_option maxHeartbeats 4000000 in
set_option maxRecDepth 100000 in
theorem wX0_roundedDown_52 {p : Program} {l : Launch} {e : Env} {s : State} {m : MethodId} {args : Array Value} {below : List Frame} {meth : Method} {c : Code} (C : px_C p s m args meth c cX0_roundedDown 10 (some .long) RX0 wsX0_roundedDown) (v3 : Int64) {ls : Array Slot} (hl : lv_has ls 10 [(3, .long v3)]) : W p l e { frames := 0, cells := 0, slots := 0, locals := 0 } s m args below meth c s.heap [] 0 0 (MQ below (px_Q (.long (fX0_roundedDown_52 v3))) args s 0 0 (fun _ => False)) (F0 m 52 ls []) := by
  obtain ⟨hx, hb, hml, hown, hts, hr, hlocks⟩ := id C
  rw [fX0_roundedDown_52]
  refine lv_iconst (v := 1) hx hb dX0_roundedDown_52 (by decide) ?_
  refine lv_goto (tgt := 57) hx hb dX0_roundedDown_53 (by decide) ?_
  exact wX0_roundedDown_57 C v3 (1 : Int32) (lv_sub hl [0] rfl)
set_option maxHeartbeats 4000000 in
set_option maxRecDepth 100000 in
theorem wX0_roundedDown_56 {p : Program} {l : Launch} {e : Env} {s : State} {m : MethodId} {args : Array Value} {below : List Frame} {meth : Method} {c : Code} (C : px_C p s m args meth c cX0_roundedDown 10 (some .long) RX0 wsX0_roundedDown) (v3 : Int64) {ls : Array Slot} (hl : lv_has ls 10 [(3, .long v3)]) : W p l e { frames := 0, cells := 0, slots := 0, locals := 0 } s m args below meth c s.heap [] 0 0 (MQ below (px_Q (.long (fX0_roundedDown_56 v3))) args s 0 0 (fun _ => False)) (F0 m 56 ls []) := by
  obtain ⟨hx, hb, hml, hown, hts, hr, hlocks⟩ := id C
  rw [fX0_roundedDown_56]
  refine lv_iconst (v := 0) hx hb dX0_roundedDown_56 (by decide) ?_
  exact wX0_roundedDown_57 C v3 (0 : Int32) (lv_sub hl [0] rfl)
set_option maxHeartbeats 4000000 in
set_option maxRecDepth 100000 in
theorem wX0_roundedDown_0 {p : Program} {l : Launch} {e : Env} {s : State} {m : MethodId} {args : Array Value} {below : List Frame} {meth : Method} {c : Code} (C : px_C p s m args meth c cX0_roundedDown 10 (some .long) RX0 wsX0_roundedDown) (v0 : Int64) (v2 : Int32) {ls : Array Slot} (hl : lv_has ls 10 [(0, .long v0), (2, .int v2)]) : W p l e { frames := 0, cells := 0, slots := 0, locals := 0 } s m args below meth c s.heap [] 0 0 (MQ below (px_Q (.long (fX0_roundedDown_0 v0 v2))) args s 0 0 (fun _ => False)) (F0 m 0 ls []) := by
  obtain ⟨hx, hb, hml, hown, hts, hr, hlocks⟩ := id C
  rw [fX0_roundedDown_0]
  refine lv_iload_n hx hb dX0_roundedDown_0 rfl (lv_at hl 1 rfl) ?_
  refine lv_bipush (v := 63) hx hb dX0_roundedDown_1 (by decide) ?_
  refine px_icmp_le (tgt := 8) hx hb dX0_roundedDown_3 (by decide) (fun hc3 => ?_) (fun hc3 => ?_)
  · rw [if_pos hc3]
    refine lv_lconst (v := 0) hx hb dX0_roundedDown_6 (by decide) ?_
    exact W.lret hx hb hr (fun t ht _ => ⟨rfl, ht⟩) (fun q h => by cases h) dX0_roundedDown_7
  · rw [if_neg hc3]
    refine lv_lload_n hx hb dX0_roundedDown_8 rfl (lv_at hl 0 rfl) ?_
    refine lv_iload_n hx hb dX0_roundedDown_9 rfl (lv_at hl 1 rfl) ?_
    refine px_lushr hx hb dX0_roundedDown_10 ?_
    refine lv_topl (fun v3_11 ev3_11 => ?_)
    rw [← ev3_11]
    refine lv_lstore_n (lv' := [(3, .long v3_11), (0, .long v0), (2, .int v2)]) hx hb dX0_roundedDown_11 rfl hl (by decide) rfl (fun ls hl => ?_)
    rw [fX0_roundedDown_12]
    refine lv_lload_n hx hb dX0_roundedDown_12 rfl (lv_at hl 1 rfl) ?_
    refine lv_lconst (v := 1) hx hb dX0_roundedDown_13 (by decide) ?_
    refine lv_iload_n hx hb dX0_roundedDown_14 rfl (lv_at hl 2 rfl) ?_
    refine px_lshl hx hb dX0_roundedDown_15 ?_
    refine lv_lconst (v := 1) hx hb dX0_roundedDown_16 (by decide) ?_
    refine lv_lsub hx hb dX0_roundedDown_17 ?_
    refine lv_land hx hb dX0_roundedDown_18 ?_
    refine lv_topl (fun v5_19 ev5_19 => ?_)
    rw [← ev5_19]
    refine lv_lstore (lv' := [(5, .long v5_19), (3, .long v3_11), (0, .long v0), (2, .int v2)]) hx hb dX0_roundedDown_19 hl (by decide) rfl (fun ls hl => ?_)
    rw [fX0_roundedDown_21]
    refine lv_lconst (v := 1) hx hb dX0_roundedDown_21 (by decide) ?_
    refine lv_iload_n hx hb dX0_roundedDown_22 rfl (lv_at hl 3 rfl) ?_
    refine lv_iconst (v := 1) hx hb dX0_roundedDown_23 (by decide) ?_
    refine lv_isub hx hb dX0_roundedDown_24 ?_
    refine px_lshl hx hb dX0_roundedDown_25 ?_
    refine lv_topl (fun v7_26 ev7_26 => ?_)
    rw [← ev7_26]
    refine lv_lstore (lv' := [(7, .long v7_26), (5, .long v5_19), (3, .long v3_11), (0, .long v0), (2, .int v2)]) hx hb dX0_roundedDown_26 hl (by decide) rfl (fun ls hl => ?_)
    rw [fX0_roundedDown_28]
    refine lv_lload hx hb dX0_roundedDown_28 (lv_at hl 1 rfl) ?_
    refine lv_lload hx hb dX0_roundedDown_30 (lv_at hl 0 rfl) ?_
    refine px_lcmp_gt (tgt := 52) hx hb dX0_roundedDown_32 dX0_roundedDown_33 (by decide) (fun hc32 => ?_) (fun hc32 => ?_)
    · rw [if_pos hc32]
      exact wX0_roundedDown_52 C v3_11 (lv_sub hl [2] rfl)
    · rw [if_neg hc32]
      refine lv_lload hx hb dX0_roundedDown_36 (lv_at hl 1 rfl) ?_
      refine lv_lload hx hb dX0_roundedDown_38 (lv_at hl 0 rfl) ?_
      refine px_lcmp_ne (tgt := 56) hx hb dX0_roundedDown_40 dX0_roundedDown_41 (by decide) (fun hc40 => ?_) (fun hc40 => ?_)
      · rw [if_pos hc40]
        refine lv_lload_n hx hb dX0_roundedDown_44 rfl (lv_at hl 2 rfl) ?_
        refine lv_lconst (v := 1) hx hb dX0_roundedDown_45 (by decide) ?_
        refine lv_land hx hb dX0_roundedDown_46 ?_
        refine lv_lconst (v := 1) hx hb dX0_roundedDown_47 (by decide) ?_
        refine px_lcmp_ne (tgt := 56) hx hb dX0_roundedDown_48 dX0_roundedDown_49 (by decide) (fun hc48 => ?_) (fun hc48 => ?_)
        · rw [if_pos hc48]
          exact wX0_roundedDown_52 C v3_11 (lv_sub hl [2] rfl)
        · rw [if_neg hc48]
          exact wX0_roundedDown_56 C v3_11 (lv_sub hl [2] rfl)
      · rw [if_neg hc40]
        exact wX0_roundedDown_56 C v3_11 (lv_sub hl [2] rfl)
set_option maxHeartbeats 4000000 in
set_option maxRecDepth 100000 in
theorem kX0_roundedDown (l : Launch) (v0 : Int64) (v2 : Int32) : px_M l yX0_roundedDown wsX0_roundedDown ({ frames := 0, cells := 0, slots := 0, locals := 0 }) [.long v0, .int v2] (.long (fX0_roundedDown v0 v2)) := by
  refine Met.ofW (cc := cX0_roundedDown) (maxL := 10) (ret := (some .long)) (by decide) rfl ?_
  intro p e s m args below meth c s₁ B hml hv
  cases hv
  have C : px_C p s m _ meth c cX0_roundedDown 10 (some .long) RX0 wsX0_roundedDown := ⟨B.exec, B.bytes, hml, findClass_of_methodNamed B.named, atoms_spec (ws := wsX0_roundedDown) B.pre, B.returns, B.notSynchronized⟩
  have hl := lv_entry ([.long v0, .int v2]) (n := 10) (Nat.le_of_ble_eq_true rfl)
  rw [lg_entry_eq]
  generalize (lg_sl ([.long v0, .int v2]) ++ List.replicate (10 - (lg_sl ([.long v0, .int v2])).length) Slot.unset).toArray = ls at hl ⊢
  have hl : lv_has ls 10 [(0, .long v0), (2, .int v2)] := hl
  rw [fX0_roundedDown]
  exact wX0_roundedDown_0 C v0 v2 (lv_sub hl [0, 1] rfl)
set_option maxHeartbeats 4000000 in
set_option maxRecDepth 100000 in
theorem wX0_nearest_79 {p : Program} {l : Launch} {e : Env} {s : State} {m : MethodId} {args : Array Value} {below : List Frame} {meth : Method} {c : Code} (C : px_C p s m args meth c cX0_nearest 10 (some .long) RX0 wsX0_nearest) (v0 : Int32) (v1 : Int32) (v2 : Int64) (v5 : Int32) (v6 : Int32) (v7 : Int32) {ls : Array Slot} (hl : lv_has ls 10 [(0, .int v0), (1, .int v1), (2, .long v2), (5, .int v5), (6, .int v6), (7, .int v7)]) : W p l e { frames := 2, cells := 0, slots := 0, locals := 43 } s m args below meth c s.heap [] 0 0 (MQ below (px_Q (.long (fX0_nearest_79 v0 v1 v2 v5 v6 v7))) args s 0 0 (fun _ => False)) (F0 m 79 ls []) := by
  obtain ⟨hx, hb, hml, hown, hts, hr, hlocks⟩ := id C
  rw [fX0_nearest_79]
  refine lv_lload_n hx hb dX0_nearest_79 rfl (lv_at hl 2 rfl) ?_
  refine lv_iload hx hb dX0_nearest_80 (lv_at hl 3 rfl) ?_
  refine px_lshl hx hb dX0_nearest_82 ?_
  refine lv_iload hx hb dX0_nearest_83 (lv_at hl 4 rfl) ?_
  refine px_S (As := [.long (jshl v2 v5), .int v6]) (rest := []) ⟨hx, hb, hml, hown, hts⟩ (kX0_roundedDown l (jshl v2 v5) v6) (va_cwS 2 hts gX0_nearest_X0_roundedDown rfl rfl rfl (by decide +kernel) ⟨Nat.le_of_ble_eq_true rfl, Nat.le_of_ble_eq_true rfl⟩) rfl hl.1 rfl (Nat.le_of_ble_eq_true rfl) dX0_nearest_85 (Nat.zero_le _) (Nat.zero_le _) ?_
  refine lv_topl (fun v8_88 ev8_88 => ?_)
  rw [← ev8_88]
  refine lv_lstore (lv' := [(8, .long v8_88), (0, .int v0), (1, .int v1), (2, .long v2), (5, .int v5), (6, .int v6), (7, .int v7)]) hx hb dX0_nearest_88 hl (by decide) rfl (fun ls hl => ?_)
  rw [fX0_nearest_90]
  refine lv_iload_n hx hb dX0_nearest_90 rfl (lv_at hl 1 rfl) ?_
  refine lv_iload_n hx hb dX0_nearest_91 rfl (lv_at hl 2 rfl) ?_
  refine lv_iload hx hb dX0_nearest_92 (lv_at hl 6 rfl) ?_
  refine px_i2l hx hb dX0_nearest_94 ?_
  refine lv_iload_n hx hb dX0_nearest_95 rfl (lv_at hl 1 rfl) ?_
  refine px_S (As := [.int v0]) (rest := [.long (v7.toInt64), .int v1, .int v0]) ⟨hx, hb, hml, hown, hts⟩ (kX0_fractionBits l v0) (va_cwS 1 hts gX0_nearest_X0_fractionBits rfl rfl rfl (by decide +kernel) ⟨Nat.le_of_ble_eq_true rfl, Nat.le_of_ble_eq_true rfl⟩) rfl hl.1 rfl (Nat.le_of_ble_eq_true rfl) dX0_nearest_96 (Nat.zero_le _) (Nat.zero_le _) ?_
  refine px_lshl hx hb dX0_nearest_99 ?_
  refine lv_lload hx hb dX0_nearest_100 (lv_at hl 0 rfl) ?_
  refine lv_ladd hx hb dX0_nearest_102 ?_
  refine px_S (As := [.int v0, .int v1, .long ((jshl (v7.toInt64) (fX0_fractionBits v0)) + v8_88)]) (rest := []) ⟨hx, hb, hml, hown, hts⟩ (kX0_signed l v0 v1 ((jshl (v7.toInt64) (fX0_fractionBits v0)) + v8_88)) (va_cwS 3 hts gX0_nearest_X0_signed rfl rfl rfl (by decide +kernel) ⟨Nat.le_of_ble_eq_true rfl, Nat.le_of_ble_eq_true rfl⟩) rfl hl.1 rfl (Nat.le_of_ble_eq_true rfl) dX0_nearest_103 (Nat.zero_le _) (Nat.zero_le _) ?_
  exact W.lret hx hb hr (fun t ht _ => ⟨rfl, ht⟩) (fun q h => by cases h) dX0_nearest_106
set_option maxHeartbeats 4000000 in
set_option maxRecDepth 100000 in
theorem wX0_nearest_0 {p : Program} {l : Launch} {e : Env} {s : State} {m : MethodId} {args : Array Value} {below : List Frame} {meth : Method} {c : Code} (C : px_C p s m args meth c cX0_nearest 10 (some .long) RX0 wsX0_nearest) (v0 : Int32) (v1 : Int32) (v2 : Int64) (v4 : Int32) {ls : Array Slot} (hl : lv_has ls 10 [(0, .int v0), (1, .int v1), (2, .long v2), (4, .int v4)]) : W p l e { frames := 2, cells := 0, slots := 0, locals := 43 } s m args below meth c s.heap [] 0 0 (MQ below (px_Q (.long (fX0_nearest_0 v0 v1 v2 v4))) args s 0 0 (fun _ => False)) (F0 m 0 ls []) := by
  obtain ⟨hx, hb, hml, hown, hts, hr, hlocks⟩ := id C
  rw [fX0_nearest_0]
  refine lv_lload_n hx hb dX0_nearest_0 rfl (lv_at hl 2 rfl) ?_
  refine lv_lconst (v := 0) hx hb dX0_nearest_1 (by decide) ?_
  refine px_lcmp_ne (tgt := 13) hx hb dX0_nearest_2 dX0_nearest_3 (by decide) (fun hc2 => ?_) (fun hc2 => ?_)
  · rw [if_pos hc2]
    refine lv_iload_n hx hb dX0_nearest_6 rfl (lv_at hl 0 rfl) ?_
    refine lv_iload_n hx hb dX0_nearest_7 rfl (lv_at hl 1 rfl) ?_
    refine lv_lconst (v := 0) hx hb dX0_nearest_8 (by decide) ?_
    refine px_S (As := [.int v0, .int v1, .long (0 : Int64)]) (rest := []) ⟨hx, hb, hml, hown, hts⟩ (kX0_signed l v0 v1 (0 : Int64)) (va_cwS 3 hts gX0_nearest_X0_signed rfl rfl rfl (by decide +kernel) ⟨Nat.le_of_ble_eq_true rfl, Nat.le_of_ble_eq_true rfl⟩) rfl hl.1 rfl (Nat.le_of_ble_eq_true rfl) dX0_nearest_9 (Nat.zero_le _) (Nat.zero_le _) ?_
    exact W.lret hx hb hr (fun t ht _ => ⟨rfl, ht⟩) (fun q h => by cases h) dX0_nearest_12
  · rw [if_neg hc2]
    refine lv_bipush (v := 62) hx hb dX0_nearest_13 (by decide) ?_
    refine lv_lload_n hx hb dX0_nearest_15 rfl (lv_at hl 2 rfl) ?_
    refine px_S (As := [.int (62 : Int32), .long v2]) (rest := []) ⟨hx, hb, hml, hown, hts⟩ (kX0_roomBelow l (62 : Int32) v2 (okX0_roomBelow_all (62 : Int32) v2)) (va_cwS 2 hts gX0_nearest_X0_roomBelow rfl rfl rfl (by decide +kernel) ⟨Nat.le_of_ble_eq_true rfl, Nat.le_of_ble_eq_true rfl⟩) rfl hl.1 rfl (Nat.le_of_ble_eq_true rfl) dX0_nearest_16 (Nat.zero_le _) (Nat.zero_le _) ?_
    refine lv_topi (fun v5_19 ev5_19 => ?_)
    rw [← ev5_19]
    refine lv_istore (lv' := [(5, .int v5_19), (0, .int v0), (1, .int v1), (2, .long v2), (4, .int v4)]) hx hb dX0_nearest_19 hl (by decide) rfl (fun ls hl => ?_)
    rw [fX0_nearest_21]
    refine lv_bipush (v := 62) hx hb dX0_nearest_21 (by decide) ?_
    refine lv_iload_n hx hb dX0_nearest_23 rfl (lv_at hl 1 rfl) ?_
    refine px_S (As := [.int v0]) (rest := [.int (62 : Int32)]) ⟨hx, hb, hml, hown, hts⟩ (kX0_fractionBits l v0) (va_cwS 1 hts gX0_nearest_X0_fractionBits rfl rfl rfl (by decide +kernel) ⟨Nat.le_of_ble_eq_true rfl, Nat.le_of_ble_eq_true rfl⟩) rfl hl.1 rfl (Nat.le_of_ble_eq_true rfl) dX0_nearest_24 (Nat.zero_le _) (Nat.zero_le _) ?_
    refine lv_isub hx hb dX0_nearest_27 ?_
    refine lv_topi (fun v6_28 ev6_28 => ?_)
    rw [← ev6_28]
    refine lv_istore (lv' := [(6, .int v6_28), (5, .int v5_19), (0, .int v0), (1, .int v1), (2, .long v2), (4, .int v4)]) hx hb dX0_nearest_28 hl (by decide) rfl (fun ls hl => ?_)
    rw [fX0_nearest_30]
    refine lv_iload hx hb dX0_nearest_30 (lv_at hl 5 rfl) ?_
    refine lv_iload hx hb dX0_nearest_32 (lv_at hl 1 rfl) ?_
    refine lv_isub hx hb dX0_nearest_34 ?_
    refine lv_iload hx hb dX0_nearest_35 (lv_at hl 0 rfl) ?_
    refine lv_iadd hx hb dX0_nearest_37 ?_
    refine lv_iload_n hx hb dX0_nearest_38 rfl (lv_at hl 2 rfl) ?_
    refine px_S (As := [.int v0]) (rest := [.int ((v4 - v5_19) + v6_28)]) ⟨hx, hb, hml, hown, hts⟩ (kX0_leastExponent l v0) (va_cwS 1 hts gX0_nearest_X0_leastExponent rfl rfl rfl (by decide +kernel) ⟨Nat.le_of_ble_eq_true rfl, Nat.le_of_ble_eq_true rfl⟩) rfl hl.1 rfl (Nat.le_of_ble_eq_true rfl) dX0_nearest_39 (Nat.zero_le _) (Nat.zero_le _) ?_
    refine lv_isub hx hb dX0_nearest_42 ?_
    refine lv_topi (fun v7_43 ev7_43 => ?_)
    rw [← ev7_43]
    refine lv_istore (lv' := [(7, .int v7_43), (6, .int v6_28), (5, .int v5_19), (0, .int v0), (1, .int v1), (2, .long v2), (4, .int v4)]) hx hb dX0_nearest_43 hl (by decide) rfl (fun ls hl => ?_)
    rw [fX0_nearest_45]
    refine lv_iload hx hb dX0_nearest_45 (lv_at hl 0 rfl) ?_
    refine lv_iload_n hx hb dX0_nearest_47 rfl (lv_at hl 3 rfl) ?_
    refine px_S (As := [.int v0]) (rest := [.int v7_43]) ⟨hx, hb, hml, hown, hts⟩ (kX0_greatestAbove l v0) (va_cwS 1 hts gX0_nearest_X0_greatestAbove rfl rfl rfl (by decide +kernel) ⟨Nat.le_of_ble_eq_true rfl, Nat.le_of_ble_eq_true rfl⟩) rfl hl.1 rfl (Nat.le_of_ble_eq_true rfl) dX0_nearest_48 (Nat.zero_le _) (Nat.zero_le _) ?_
    refine px_icmp_le (tgt := 64) hx hb dX0_nearest_51 (by decide) (fun hc51 => ?_) (fun hc51 => ?_)
    · rw [if_pos hc51]
      refine lv_iload_n hx hb dX0_nearest_54 rfl (lv_at hl 3 rfl) ?_
      refine lv_iload_n hx hb dX0_nearest_55 rfl (lv_at hl 4 rfl) ?_
      refine lv_iload_n hx hb dX0_nearest_56 rfl (lv_at hl 3 rfl) ?_
      refine px_S (As := [.int v0]) (rest := [.int v1, .int v0]) ⟨hx, hb, hml, hown, hts⟩ (kX0_infinity l v0) (va_cwS 1 hts gX0_nearest_X0_infinity rfl rfl rfl (by decide +kernel) ⟨Nat.le_of_ble_eq_true rfl, Nat.le_of_ble_eq_true rfl⟩) rfl hl.1 rfl (Nat.le_of_ble_eq_true rfl) dX0_nearest_57 (Nat.zero_le _) (Nat.zero_le _) ?_
      refine px_S (As := [.int v0, .int v1, .long (fX0_infinity v0)]) (rest := []) ⟨hx, hb, hml, hown, hts⟩ (kX0_signed l v0 v1 (fX0_infinity v0)) (va_cwS 3 hts gX0_nearest_X0_signed rfl rfl rfl (by decide +kernel) ⟨Nat.le_of_ble_eq_true rfl, Nat.le_of_ble_eq_true rfl⟩) rfl hl.1 rfl (Nat.le_of_ble_eq_true rfl) dX0_nearest_60 (Nat.zero_le _) (Nat.zero_le _) ?_
      exact W.lret hx hb hr (fun t ht _ => ⟨rfl, ht⟩) (fun q h => by cases h) dX0_nearest_63
    · rw [if_neg hc51]
      refine lv_iload hx hb dX0_nearest_64 (lv_at hl 0 rfl) ?_
      refine px_if_ge (tgt := 79) hx hb dX0_nearest_66 (by decide) (fun hc66 => ?_) (fun hc66 => ?_)
      · rw [if_pos hc66]
        refine lv_iload hx hb dX0_nearest_69 (lv_at hl 1 rfl) ?_
        refine lv_iload hx hb dX0_nearest_71 (lv_at hl 0 rfl) ?_
        refine lv_isub hx hb dX0_nearest_73 ?_
        refine lv_topi (fun v6_74 ev6_74 => ?_)
        rw [← ev6_74]
        refine lv_istore (lv' := [(6, .int v6_74), (7, .int v7_43), (5, .int v5_19), (0, .int v0), (1, .int v1), (2, .long v2), (4, .int v4)]) hx hb dX0_nearest_74 hl (by decide) rfl (fun ls hl => ?_)
        rw [fX0_nearest_76]
        refine lv_iconst (v := 0) hx hb dX0_nearest_76 (by decide) ?_
        refine lv_istore (lv' := [(7, .int (0 : Int32)), (6, .int v6_74), (5, .int v5_19), (0, .int v0), (1, .int v1), (2, .long v2), (4, .int v4)]) hx hb dX0_nearest_77 hl (by decide) rfl (fun ls hl => ?_)
        exact wX0_nearest_79 C v0 v1 v2 v5_19 v6_74 (0 : Int32) (lv_sub hl [3, 4, 5, 2, 1, 0] rfl)
      · rw [if_neg hc66]
        exact wX0_nearest_79 C v0 v1 v2 v5_19 v6_28 v7_43 (lv_sub hl [3, 4, 5, 2, 1, 0] rfl)
set_option maxHeartbeats 4000000 in
set_option maxRecDepth 100000 in
theorem kX0_nearest (l : Launch) (v0 : Int32) (v1 : Int32) (v2 : Int64) (v4 : Int32) : px_M l yX0_nearest wsX0_nearest ({ frames := 2, cells := 0, slots := 0, locals := 43 }) [.int v0, .int v1, .long v2, .int v4] (.long (fX0_nearest v0 v1 v2 v4)) := by
  refine Met.ofW (cc := cX0_nearest) (maxL := 10) (ret := (some .long)) (by decide) rfl ?_
  intro p e s m args below meth c s₁ B hml hv
  cases hv
  have C : px_C p s m _ meth c cX0_nearest 10 (some .long) RX0 wsX0_nearest := ⟨B.exec, B.bytes, hml, findClass_of_methodNamed B.named, atoms_spec (ws := wsX0_nearest) B.pre, B.returns, B.notSynchronized⟩
  have hl := lv_entry ([.int v0, .int v1, .long v2, .int v4]) (n := 10) (Nat.le_of_ble_eq_true rfl)
  rw [lg_entry_eq]
  generalize (lg_sl ([.int v0, .int v1, .long v2, .int v4]) ++ List.replicate (10 - (lg_sl ([.int v0, .int v1, .long v2, .int v4])).length) Slot.unset).toArray = ls at hl ⊢
  have hl : lv_has ls 10 [(0, .int v0), (1, .int v1), (2, .long v2), (4, .int v4)] := hl
  rw [fX0_nearest]
  exact wX0_nearest_0 C v0 v1 v2 v4 (lv_sub hl [0, 1, 2, 3] rfl)
set_option maxHeartbeats 4000000 in
set_option maxRecDepth 100000 in
theorem wX0_ofWhole_30 {p : Program} {l : Launch} {e : Env} {s : State} {m : MethodId} {args : Array Value} {below : List Frame} {meth : Method} {c : Code} (C : px_C p s m args meth c cX0_ofWhole 3 (some .long) RX0 wsX0_ofWhole) (v1 : Int64) (s0 : Int32) (s1 : Int32) {ls : Array Slot} (hl : lv_has ls 3 [(1, .long v1)]) : W p l e { frames := 3, cells := 0, slots := 0, locals := 72 } s m args below meth c s.heap [] 0 0 (MQ below (px_Q (.long (fX0_ofWhole_30 v1 s0 s1))) args s 0 0 (fun _ => False)) (F0 m 30 ls [.int s1, .int s0]) := by
  obtain ⟨hx, hb, hml, hown, hts, hr, hlocks⟩ := id C
  rw [fX0_ofWhole_30]
  refine lv_lload_n hx hb dX0_ofWhole_30 rfl (lv_at hl 0 rfl) ?_
  refine px_mabsl hx hb (hml.trans hl.1.symm) hown (hts (.methodLink RX0 57 Lib.MathLoose.abs_long.x) (by decide +kernel)) (hts (.static Lib.MathLoose.abs_long.x) (by decide +kernel)) (hts (.initialized "java/lang/Math") (by decide +kernel)) (hts (.code Lib.MathLoose.abs_long.x Lib.MathLoose.abs_long.code 2 (some .long)) (by decide +kernel)) (Nat.le_of_ble_eq_true rfl) (Nat.le_of_ble_eq_true rfl) (Nat.zero_le _) (Nat.zero_le _) dX0_ofWhole_31 ?_
  refine lv_iconst (v := 0) hx hb dX0_ofWhole_34 (by decide) ?_
  refine px_S (As := [.int s0, .int s1, .long (jabs v1), .int (0 : Int32)]) (rest := []) ⟨hx, hb, hml, hown, hts⟩ (kX0_nearest l s0 s1 (jabs v1) (0 : Int32)) (va_cwS 4 hts gX0_ofWhole_X0_nearest rfl rfl rfl (by decide +kernel) ⟨Nat.le_of_ble_eq_true rfl, Nat.le_of_ble_eq_true rfl⟩) rfl hl.1 rfl (Nat.le_of_ble_eq_true rfl) dX0_ofWhole_35 (Nat.zero_le _) (Nat.zero_le _) ?_
  exact W.lret hx hb hr (fun t ht _ => ⟨rfl, ht⟩) (fun q h => by cases h) dX0_ofWhole_38
set_option maxHeartbeats 4000000 in
set_option maxRecDepth 100000 in
theorem wX0_ofWhole_0 {p : Program} {l : Launch} {e : Env} {s : State} {m : MethodId} {args : Array Value} {below : List Frame} {meth : Method} {c : Code} (C : px_C p s m args meth c cX0_ofWhole 3 (some .long) RX0 wsX0_ofWhole) (v0 : Int32) (v1 : Int64) {ls : Array Slot} (hl : lv_has ls 3 [(0, .int v0), (1, .long v1)]) : W p l e { frames := 3, cells := 0, slots := 0, locals := 72 } s m args below meth c s.heap [] 0 0 (MQ below (px_Q (.long (fX0_ofWhole_0 v0 v1))) args s 0 0 (fun _ => False)) (F0 m 0 ls []) := by
  obtain ⟨hx, hb, hml, hown, hts, hr, hlocks⟩ := id C
  rw [fX0_ofWhole_0]
  refine lv_lload_n hx hb dX0_ofWhole_0 rfl (lv_at hl 1 rfl) ?_
  refine lv_ldc2 hx hb hown (hts (.constantLong RX0 23 (-9223372036854775808)) (by decide +kernel)) dX0_ofWhole_1 ?_
  refine px_lcmp_ne (tgt := 18) hx hb dX0_ofWhole_4 dX0_ofWhole_5 (by decide) (fun hc4 => ?_) (fun hc4 => ?_)
  · rw [if_pos hc4]
    refine lv_iload_n hx hb dX0_ofWhole_8 rfl (lv_at hl 0 rfl) ?_
    refine lv_iconst (v := 1) hx hb dX0_ofWhole_9 (by decide) ?_
    refine lv_ldc2 hx hb hown (hts (.constantLong RX0 51 (4611686018427387904)) (by decide +kernel)) dX0_ofWhole_10 ?_
    refine lv_iconst (v := 1) hx hb dX0_ofWhole_13 (by decide) ?_
    refine px_S (As := [.int v0, .int (1 : Int32), .long (4611686018427387904 : Int64), .int (1 : Int32)]) (rest := []) ⟨hx, hb, hml, hown, hts⟩ (kX0_nearest l v0 (1 : Int32) (4611686018427387904 : Int64) (1 : Int32)) (va_cwS 4 hts gX0_ofWhole_X0_nearest rfl rfl rfl (by decide +kernel) ⟨Nat.le_of_ble_eq_true rfl, Nat.le_of_ble_eq_true rfl⟩) rfl hl.1 rfl (Nat.le_of_ble_eq_true rfl) dX0_ofWhole_14 (Nat.zero_le _) (Nat.zero_le _) ?_
    exact W.lret hx hb hr (fun t ht _ => ⟨rfl, ht⟩) (fun q h => by cases h) dX0_ofWhole_17
  · rw [if_neg hc4]
    refine lv_iload_n hx hb dX0_ofWhole_18 rfl (lv_at hl 0 rfl) ?_
    refine lv_lload_n hx hb dX0_ofWhole_19 rfl (lv_at hl 1 rfl) ?_
    refine lv_lconst (v := 0) hx hb dX0_ofWhole_20 (by decide) ?_
    refine px_lcmp_ge (tgt := 29) hx hb dX0_ofWhole_21 dX0_ofWhole_22 (by decide) (fun hc21 => ?_) (fun hc21 => ?_)
    · rw [if_pos hc21]
      refine lv_iconst (v := 1) hx hb dX0_ofWhole_25 (by decide) ?_
      refine lv_goto (tgt := 30) hx hb dX0_ofWhole_26 (by decide) ?_
      exact wX0_ofWhole_30 C v1 v0 (1 : Int32) (lv_sub hl [1] rfl)
    · rw [if_neg hc21]
      refine lv_iconst (v := 0) hx hb dX0_ofWhole_29 (by decide) ?_
      exact wX0_ofWhole_30 C v1 v0 (0 : Int32) (lv_sub hl [1] rfl)
set_option maxHeartbeats 4000000 in
set_option maxRecDepth 100000 in
theorem kX0_ofWhole (l : Launch) (v0 : Int32) (v1 : Int64) : px_M l yX0_ofWhole wsX0_ofWhole ({ frames := 3, cells := 0, slots := 0, locals := 72 }) [.int v0, .long v1] (.long (fX0_ofWhole v0 v1)) := by
  refine Met.ofW (cc := cX0_ofWhole) (maxL := 3) (ret := (some .long)) (by decide) rfl ?_
  intro p e s m args below meth c s₁ B hml hv
  cases hv
  have C : px_C p s m _ meth c cX0_ofWhole 3 (some .long) RX0 wsX0_ofWhole := ⟨B.exec, B.bytes, hml, findClass_of_methodNamed B.named, atoms_spec (ws := wsX0_ofWhole) B.pre, B.returns, B.notSynchronized⟩
  have hl := lv_entry ([.int v0, .long v1]) (n := 3) (Nat.le_of_ble_eq_true rfl)
  rw [lg_entry_eq]
  generalize (lg_sl ([.int v0, .long v1]) ++ List.replicate (3 - (lg_sl ([.int v0, .long v1])).length) Slot.unset).toArray = ls at hl ⊢
  have hl : lv_has ls 3 [(0, .int v0), (1, .long v1)] := hl
  rw [fX0_ofWhole]
  exact wX0_ofWhole_0 C v0 v1 (lv_sub hl [0, 1] rfl)
set_option maxHeartbeats 4000000 in
set_option maxRecDepth 100000 in
theorem wX0_ofReal_0 {p : Program} {l : Launch} {e : Env} {s : State} {m : MethodId} {args : Array Value} {below : List Frame} {meth : Method} {c : Code} (C : px_C p s m args meth c cX0_ofReal 5 (some .long) RX0 wsX0_ofReal) (v0 : Int32) (v1 : Int32) (v2 : Int64) {ls : Array Slot} (hl : lv_has ls 5 [(0, .int v0), (1, .int v1), (2, .long v2)]) : W p l e { frames := 3, cells := 0, slots := 0, locals := 72 } s m args below meth c s.heap [] 0 0 (MQ below (px_Q (.long (fX0_ofReal_0 v0 v1 v2))) args s 0 0 (fun _ => False)) (F0 m 0 ls []) := by
  obtain ⟨hx, hb, hml, hown, hts, hr, hlocks⟩ := id C
  rw [fX0_ofReal_0]
  refine lv_iload_n hx hb dX0_ofReal_0 rfl (lv_at hl 1 rfl) ?_
  refine lv_lload_n hx hb dX0_ofReal_1 rfl (lv_at hl 2 rfl) ?_
  refine px_S (As := [.int v1, .long v2]) (rest := []) ⟨hx, hb, hml, hown, hts⟩ (kX0_isNegative l v1 v2) (va_cwS 2 hts gX0_ofReal_X0_isNegative rfl rfl rfl (by decide +kernel) ⟨Nat.le_of_ble_eq_true rfl, Nat.le_of_ble_eq_true rfl⟩) rfl hl.1 rfl (Nat.le_of_ble_eq_true rfl) dX0_ofReal_2 (Nat.zero_le _) (Nat.zero_le _) ?_
  refine lv_topi (fun v4_5 ev4_5 => ?_)
  rw [← ev4_5]
  refine lv_istore (lv' := [(4, .int v4_5), (0, .int v0), (1, .int v1), (2, .long v2)]) hx hb dX0_ofReal_5 hl (by decide) rfl (fun ls hl => ?_)
  rw [fX0_ofReal_7]
  refine lv_iload_n hx hb dX0_ofReal_7 rfl (lv_at hl 2 rfl) ?_
  refine lv_lload_n hx hb dX0_ofReal_8 rfl (lv_at hl 3 rfl) ?_
  refine px_S (As := [.int v1, .long v2]) (rest := []) ⟨hx, hb, hml, hown, hts⟩ (kX0_isInfinite l v1 v2) (va_cwS 2 hts gX0_ofReal_X0_isInfinite rfl rfl rfl (by decide +kernel) ⟨Nat.le_of_ble_eq_true rfl, Nat.le_of_ble_eq_true rfl⟩) rfl hl.1 rfl (Nat.le_of_ble_eq_true rfl) dX0_ofReal_9 (Nat.zero_le _) (Nat.zero_le _) ?_
  refine px_if_eq (tgt := 26) hx hb dX0_ofReal_12 (by decide) (fun hc12 => ?_) (fun hc12 => ?_)
  · rw [if_pos hc12]
    refine lv_iload_n hx hb dX0_ofReal_26 rfl (lv_at hl 1 rfl) ?_
    refine lv_iload hx hb dX0_ofReal_27 (lv_at hl 0 rfl) ?_
    refine lv_iload_n hx hb dX0_ofReal_29 rfl (lv_at hl 2 rfl) ?_
    refine lv_lload_n hx hb dX0_ofReal_30 rfl (lv_at hl 3 rfl) ?_
    refine px_S (As := [.int v1, .long v2]) (rest := [.int v4_5, .int v0]) ⟨hx, hb, hml, hown, hts⟩ (kX0_magnitude l v1 v2) (va_cwS 2 hts gX0_ofReal_X0_magnitude rfl rfl rfl (by decide +kernel) ⟨Nat.le_of_ble_eq_true rfl, Nat.le_of_ble_eq_true rfl⟩) rfl hl.1 rfl (Nat.le_of_ble_eq_true rfl) dX0_ofReal_31 (Nat.zero_le _) (Nat.zero_le _) ?_
    refine lv_iload_n hx hb dX0_ofReal_34 rfl (lv_at hl 2 rfl) ?_
    refine lv_lload_n hx hb dX0_ofReal_35 rfl (lv_at hl 3 rfl) ?_
    refine px_S (As := [.int v1, .long v2]) (rest := [.long (fX0_magnitude v1 v2), .int v4_5, .int v0]) ⟨hx, hb, hml, hown, hts⟩ (kX0_exponent l v1 v2) (va_cwS 2 hts gX0_ofReal_X0_exponent rfl rfl rfl (by decide +kernel) ⟨Nat.le_of_ble_eq_true rfl, Nat.le_of_ble_eq_true rfl⟩) rfl hl.1 rfl (Nat.le_of_ble_eq_true rfl) dX0_ofReal_36 (Nat.zero_le _) (Nat.zero_le _) ?_
    refine px_S (As := [.int v0, .int v4_5, .long (fX0_magnitude v1 v2), .int (fX0_exponent v1 v2)]) (rest := []) ⟨hx, hb, hml, hown, hts⟩ (kX0_nearest l v0 v4_5 (fX0_magnitude v1 v2) (fX0_exponent v1 v2)) (va_cwS 4 hts gX0_ofReal_X0_nearest rfl rfl rfl (by decide +kernel) ⟨Nat.le_of_ble_eq_true rfl, Nat.le_of_ble_eq_true rfl⟩) rfl hl.1 rfl (Nat.le_of_ble_eq_true rfl) dX0_ofReal_39 (Nat.zero_le _) (Nat.zero_le _) ?_
    exact W.lret hx hb hr (fun t ht _ => ⟨rfl, ht⟩) (fun q h => by cases h) dX0_ofReal_42
  · rw [if_neg hc12]
    refine lv_iload_n hx hb dX0_ofReal_15 rfl (lv_at hl 1 rfl) ?_
    refine lv_iload hx hb dX0_ofReal_16 (lv_at hl 0 rfl) ?_
    refine lv_iload_n hx hb dX0_ofReal_18 rfl (lv_at hl 1 rfl) ?_
    refine px_S (As := [.int v0]) (rest := [.int v4_5, .int v0]) ⟨hx, hb, hml, hown, hts⟩ (kX0_infinity l v0) (va_cwS 1 hts gX0_ofReal_X0_infinity rfl rfl rfl (by decide +kernel) ⟨Nat.le_of_ble_eq_true rfl, Nat.le_of_ble_eq_true rfl⟩) rfl hl.1 rfl (Nat.le_of_ble_eq_true rfl) dX0_ofReal_19 (Nat.zero_le _) (Nat.zero_le _) ?_
    refine px_S (As := [.int v0, .int v4_5, .long (fX0_infinity v0)]) (rest := []) ⟨hx, hb, hml, hown, hts⟩ (kX0_signed l v0 v4_5 (fX0_infinity v0)) (va_cwS 3 hts gX0_ofReal_X0_signed rfl rfl rfl (by decide +kernel) ⟨Nat.le_of_ble_eq_true rfl, Nat.le_of_ble_eq_true rfl⟩) rfl hl.1 rfl (Nat.le_of_ble_eq_true rfl) dX0_ofReal_22 (Nat.zero_le _) (Nat.zero_le _) ?_
    exact W.lret hx hb hr (fun t ht _ => ⟨rfl, ht⟩) (fun q h => by cases h) dX0_ofReal_25
set_option maxHeartbeats 4000000 in
set_option maxRecDepth 100000 in
theorem kX0_ofReal (l : Launch) (v0 : Int32) (v1 : Int32) (v2 : Int64) : px_M l yX0_ofReal wsX0_ofReal ({ frames := 3, cells := 0, slots := 0, locals := 72 }) [.int v0, .int v1, .long v2] (.long (fX0_ofReal v0 v1 v2)) := by
  refine Met.ofW (cc := cX0_ofReal) (maxL := 5) (ret := (some .long)) (by decide) rfl ?_
  intro p e s m args below meth c s₁ B hml hv
  cases hv
  have C : px_C p s m _ meth c cX0_ofReal 5 (some .long) RX0 wsX0_ofReal := ⟨B.exec, B.bytes, hml, findClass_of_methodNamed B.named, atoms_spec (ws := wsX0_ofReal) B.pre, B.returns, B.notSynchronized⟩
  have hl := lv_entry ([.int v0, .int v1, .long v2]) (n := 5) (Nat.le_of_ble_eq_true rfl)
  rw [lg_entry_eq]
  generalize (lg_sl ([.int v0, .int v1, .long v2]) ++ List.replicate (5 - (lg_sl ([.int v0, .int v1, .long v2])).length) Slot.unset).toArray = ls at hl ⊢
  have hl : lv_has ls 5 [(0, .int v0), (1, .int v1), (2, .long v2)] := hl
  rw [fX0_ofReal]
  exact wX0_ofReal_0 C v0 v1 v2 (lv_sub hl [0, 1, 2] rfl)
set_option maxHeartbeats 4000000 in
set_option maxRecDepth 100000 in
theorem wX0_wholePart_42 {p : Program} {l : Launch} {e : Env} {s : State} {m : MethodId} {args : Array Value} {below : List Frame} {meth : Method} {c : Code} (C : px_C p s m args meth c cX0_wholePart 9 (some .long) RX0 wsX0_wholePart) (v3 : Int32) (s0 : Int64) {ls : Array Slot} (hl : lv_has ls 9 [(3, .int v3)]) : W p l e { frames := 3, cells := 0, slots := 0, locals := 68 } s m args below meth c s.heap [] 0 0 (MQ below (px_Q (.long (fX0_wholePart_42 v3 s0))) args s 0 0 (fun _ => False)) (F0 m 42 ls [.long s0]) := by
  obtain ⟨hx, hb, hml, hown, hts, hr, hlocks⟩ := id C
  rw [fX0_wholePart_42]
  refine lv_lstore (lv' := [(7, .long s0), (3, .int v3)]) hx hb dX0_wholePart_42 hl (by decide) rfl (fun ls hl => ?_)
  refine lv_iload_n hx hb dX0_wholePart_44 rfl (lv_at hl 1 rfl) ?_
  refine px_if_eq (tgt := 54) hx hb dX0_wholePart_45 (by decide) (fun hc45 => ?_) (fun hc45 => ?_)
  · rw [if_pos hc45]
    refine lv_lload hx hb dX0_wholePart_54 (lv_at hl 0 rfl) ?_
    exact W.lret hx hb hr (fun t ht _ => ⟨rfl, ht⟩) (fun q h => by cases h) dX0_wholePart_56
  · rw [if_neg hc45]
    refine lv_lload hx hb dX0_wholePart_48 (lv_at hl 0 rfl) ?_
    refine lv_lneg hx hb dX0_wholePart_50 ?_
    refine lv_goto (tgt := 56) hx hb dX0_wholePart_51 (by decide) ?_
    exact W.lret hx hb hr (fun t ht _ => ⟨rfl, ht⟩) (fun q h => by cases h) dX0_wholePart_56
set_option maxHeartbeats 4000000 in
set_option maxRecDepth 100000 in
theorem wX0_wholePart_76 {p : Program} {l : Launch} {e : Env} {s : State} {m : MethodId} {args : Array Value} {below : List Frame} {meth : Method} {c : Code} (C : px_C p s m args meth c cX0_wholePart 9 (some .long) RX0 wsX0_wholePart) (v3 : Int32) {ls : Array Slot} (hl : lv_has ls 9 [(3, .int v3)]) : W p l e { frames := 3, cells := 0, slots := 0, locals := 68 } s m args below meth c s.heap [] 0 0 (MQ below (px_Q (.long (fX0_wholePart_76 v3))) args s 0 0 (fun _ => False)) (F0 m 76 ls []) := by
  obtain ⟨hx, hb, hml, hown, hts, hr, hlocks⟩ := id C
  rw [fX0_wholePart_76]
  refine lv_iload_n hx hb dX0_wholePart_76 rfl (lv_at hl 0 rfl) ?_
  refine px_if_eq (tgt := 86) hx hb dX0_wholePart_77 (by decide) (fun hc77 => ?_) (fun hc77 => ?_)
  · rw [if_pos hc77]
    refine lv_ldc2 hx hb hown (hts (.constantLong RX0 75 (9223372036854775807)) (by decide +kernel)) dX0_wholePart_86 ?_
    exact W.lret hx hb hr (fun t ht _ => ⟨rfl, ht⟩) (fun q h => by cases h) dX0_wholePart_89
  · rw [if_neg hc77]
    refine lv_ldc2 hx hb hown (hts (.constantLong RX0 23 (-9223372036854775808)) (by decide +kernel)) dX0_wholePart_80 ?_
    refine lv_goto (tgt := 89) hx hb dX0_wholePart_83 (by decide) ?_
    exact W.lret hx hb hr (fun t ht _ => ⟨rfl, ht⟩) (fun q h => by cases h) dX0_wholePart_89
set_option maxHeartbeats 4000000 in
set_option maxRecDepth 100000 in
theorem wX0_wholePart_0 {p : Program} {l : Launch} {e : Env} {s : State} {m : MethodId} {args : Array Value} {below : List Frame} {meth : Method} {c : Code} (C : px_C p s m args meth c cX0_wholePart 9 (some .long) RX0 wsX0_wholePart) (v0 : Int32) (v1 : Int64) {ls : Array Slot} (hl : lv_has ls 9 [(0, .int v0), (1, .long v1)]) : W p l e { frames := 3, cells := 0, slots := 0, locals := 68 } s m args below meth c s.heap [] 0 0 (MQ below (px_Q (.long (fX0_wholePart_0 v0 v1))) args s 0 0 (fun _ => False)) (F0 m 0 ls []) := by
  obtain ⟨hx, hb, hml, hown, hts, hr, hlocks⟩ := id C
  rw [fX0_wholePart_0]
  refine lv_iload_n hx hb dX0_wholePart_0 rfl (lv_at hl 0 rfl) ?_
  refine lv_lload_n hx hb dX0_wholePart_1 rfl (lv_at hl 1 rfl) ?_
  refine px_S (As := [.int v0, .long v1]) (rest := []) ⟨hx, hb, hml, hown, hts⟩ (kX0_isNegative l v0 v1) (va_cwS 2 hts gX0_wholePart_X0_isNegative rfl rfl rfl (by decide +kernel) ⟨Nat.le_of_ble_eq_true rfl, Nat.le_of_ble_eq_true rfl⟩) rfl hl.1 rfl (Nat.le_of_ble_eq_true rfl) dX0_wholePart_2 (Nat.zero_le _) (Nat.zero_le _) ?_
  refine lv_topi (fun v3_5 ev3_5 => ?_)
  rw [← ev3_5]
  refine lv_istore_n (lv' := [(3, .int v3_5), (0, .int v0), (1, .long v1)]) hx hb dX0_wholePart_5 rfl hl (by decide) rfl (fun ls hl => ?_)
  rw [fX0_wholePart_6]
  refine lv_iload_n hx hb dX0_wholePart_6 rfl (lv_at hl 1 rfl) ?_
  refine lv_lload_n hx hb dX0_wholePart_7 rfl (lv_at hl 2 rfl) ?_
  refine px_S (As := [.int v0, .long v1]) (rest := []) ⟨hx, hb, hml, hown, hts⟩ (kX0_magnitude l v0 v1) (va_cwS 2 hts gX0_wholePart_X0_magnitude rfl rfl rfl (by decide +kernel) ⟨Nat.le_of_ble_eq_true rfl, Nat.le_of_ble_eq_true rfl⟩) rfl hl.1 rfl (Nat.le_of_ble_eq_true rfl) dX0_wholePart_8 (Nat.zero_le _) (Nat.zero_le _) ?_
  refine lv_topl (fun v4_11 ev4_11 => ?_)
  rw [← ev4_11]
  refine lv_lstore (lv' := [(4, .long v4_11), (3, .int v3_5), (0, .int v0), (1, .long v1)]) hx hb dX0_wholePart_11 hl (by decide) rfl (fun ls hl => ?_)
  rw [fX0_wholePart_13]
  refine lv_iload_n hx hb dX0_wholePart_13 rfl (lv_at hl 2 rfl) ?_
  refine lv_lload_n hx hb dX0_wholePart_14 rfl (lv_at hl 3 rfl) ?_
  refine px_S (As := [.int v0, .long v1]) (rest := []) ⟨hx, hb, hml, hown, hts⟩ (kX0_exponent l v0 v1) (va_cwS 2 hts gX0_wholePart_X0_exponent rfl rfl rfl (by decide +kernel) ⟨Nat.le_of_ble_eq_true rfl, Nat.le_of_ble_eq_true rfl⟩) rfl hl.1 rfl (Nat.le_of_ble_eq_true rfl) dX0_wholePart_15 (Nat.zero_le _) (Nat.zero_le _) ?_
  refine lv_topi (fun v6_18 ev6_18 => ?_)
  rw [← ev6_18]
  refine lv_istore (lv' := [(6, .int v6_18), (4, .long v4_11), (3, .int v3_5), (0, .int v0), (1, .long v1)]) hx hb dX0_wholePart_18 hl (by decide) rfl (fun ls hl => ?_)
  rw [fX0_wholePart_20]
  refine lv_iload hx hb dX0_wholePart_20 (lv_at hl 0 rfl) ?_
  refine px_if_gt (tgt := 57) hx hb dX0_wholePart_22 (by decide) (fun hc22 => ?_) (fun hc22 => ?_)
  · rw [if_pos hc22]
    refine lv_iload hx hb dX0_wholePart_57 (lv_at hl 0 rfl) ?_
    refine lv_bipush (v := 63) hx hb dX0_wholePart_59 (by decide) ?_
    refine px_icmp_gt (tgt := 76) hx hb dX0_wholePart_61 (by decide) (fun hc61 => ?_) (fun hc61 => ?_)
    · rw [if_pos hc61]
      exact wX0_wholePart_76 C v3_5 (lv_sub hl [2] rfl)
    · rw [if_neg hc61]
      refine lv_lload hx hb dX0_wholePart_64 (lv_at hl 1 rfl) ?_
      refine lv_ldc2 hx hb hown (hts (.constantLong RX0 75 (9223372036854775807)) (by decide +kernel)) dX0_wholePart_66 ?_
      refine lv_iload hx hb dX0_wholePart_69 (lv_at hl 0 rfl) ?_
      refine px_lushr hx hb dX0_wholePart_71 ?_
      refine px_lcmp_le (tgt := 90) hx hb dX0_wholePart_72 dX0_wholePart_73 (by decide) (fun hc72 => ?_) (fun hc72 => ?_)
      · rw [if_pos hc72]
        exact wX0_wholePart_76 C v3_5 (lv_sub hl [2] rfl)
      · rw [if_neg hc72]
        refine lv_iload_n hx hb dX0_wholePart_90 rfl (lv_at hl 2 rfl) ?_
        refine px_if_eq (tgt := 103) hx hb dX0_wholePart_91 (by decide) (fun hc91 => ?_) (fun hc91 => ?_)
        · rw [if_pos hc91]
          refine lv_lload hx hb dX0_wholePart_103 (lv_at hl 1 rfl) ?_
          refine lv_iload hx hb dX0_wholePart_105 (lv_at hl 0 rfl) ?_
          refine px_lshl hx hb dX0_wholePart_107 ?_
          exact W.lret hx hb hr (fun t ht _ => ⟨rfl, ht⟩) (fun q h => by cases h) dX0_wholePart_108
        · rw [if_neg hc91]
          refine lv_lload hx hb dX0_wholePart_94 (lv_at hl 1 rfl) ?_
          refine lv_iload hx hb dX0_wholePart_96 (lv_at hl 0 rfl) ?_
          refine px_lshl hx hb dX0_wholePart_98 ?_
          refine lv_lneg hx hb dX0_wholePart_99 ?_
          refine lv_goto (tgt := 108) hx hb dX0_wholePart_100 (by decide) ?_
          exact W.lret hx hb hr (fun t ht _ => ⟨rfl, ht⟩) (fun q h => by cases h) dX0_wholePart_108
  · rw [if_neg hc22]
    refine lv_iload hx hb dX0_wholePart_25 (lv_at hl 0 rfl) ?_
    refine lv_bipush (v := -63) hx hb dX0_wholePart_27 (by decide) ?_
    refine px_icmp_ge (tgt := 36) hx hb dX0_wholePart_29 (by decide) (fun hc29 => ?_) (fun hc29 => ?_)
    · rw [if_pos hc29]
      refine lv_lconst (v := 0) hx hb dX0_wholePart_32 (by decide) ?_
      refine lv_goto (tgt := 42) hx hb dX0_wholePart_33 (by decide) ?_
      exact wX0_wholePart_42 C v3_5 (0 : Int64) (lv_sub hl [2] rfl)
    · rw [if_neg hc29]
      refine lv_lload hx hb dX0_wholePart_36 (lv_at hl 1 rfl) ?_
      refine lv_iload hx hb dX0_wholePart_38 (lv_at hl 0 rfl) ?_
      refine lv_ineg hx hb dX0_wholePart_40 ?_
      refine px_lushr hx hb dX0_wholePart_41 ?_
      exact wX0_wholePart_42 C v3_5 (jushr v4_11 (-v6_18)) (lv_sub hl [2] rfl)
set_option maxHeartbeats 4000000 in
set_option maxRecDepth 100000 in
theorem kX0_wholePart (l : Launch) (v0 : Int32) (v1 : Int64) : px_M l yX0_wholePart wsX0_wholePart ({ frames := 3, cells := 0, slots := 0, locals := 68 }) [.int v0, .long v1] (.long (fX0_wholePart v0 v1)) := by
  refine Met.ofW (cc := cX0_wholePart) (maxL := 9) (ret := (some .long)) (by decide) rfl ?_
  intro p e s m args below meth c s₁ B hml hv
  cases hv
  have C : px_C p s m _ meth c cX0_wholePart 9 (some .long) RX0 wsX0_wholePart := ⟨B.exec, B.bytes, hml, findClass_of_methodNamed B.named, atoms_spec (ws := wsX0_wholePart) B.pre, B.returns, B.notSynchronized⟩
  have hl := lv_entry ([.int v0, .long v1]) (n := 9) (Nat.le_of_ble_eq_true rfl)
  rw [lg_entry_eq]
  generalize (lg_sl ([.int v0, .long v1]) ++ List.replicate (9 - (lg_sl ([.int v0, .long v1])).length) Slot.unset).toArray = ls at hl ⊢
  have hl : lv_has ls 9 [(0, .int v0), (1, .long v1)] := hl
  rw [fX0_wholePart]
  exact wX0_wholePart_0 C v0 v1 (lv_sub hl [0, 1] rfl)
set_option maxHeartbeats 4000000 in
set_option maxRecDepth 100000 in
theorem wX0_sumByGreater_70 {p : Program} {l : Launch} {e : Env} {s : State} {m : MethodId} {args : Array Value} {below : List Frame} {meth : Method} {c : Code} (C : px_C p s m args meth c cX0_sumByGreater 13 (some .long) RX0 wsX0_sumByGreater) (v0 : Int32) (v1 : Int64) (v3 : Int64) (v6 : Int64) (v8 : Int32) (s0 : Int64) {ls : Array Slot} (hl : lv_has ls 13 [(0, .int v0), (1, .long v1), (3, .long v3), (6, .long v6), (8, .int v8)]) : W p l e { frames := 3, cells := 0, slots := 0, locals := 72 } s m args below meth c s.heap [] 0 0 (MQ below (px_Q (.long (fX0_sumByGreater_70 v0 v1 v3 v6 v8 s0))) args s 0 0 (fun _ => False)) (F0 m 70 ls [.long s0]) := by
  obtain ⟨hx, hb, hml, hown, hts, hr, hlocks⟩ := id C
  rw [fX0_sumByGreater_70]
  refine lv_lstore (lv' := [(9, .long s0), (0, .int v0), (1, .long v1), (3, .long v3), (6, .long v6), (8, .int v8)]) hx hb dX0_sumByGreater_70 hl (by decide) rfl (fun ls hl => ?_)
  refine lv_iload_n hx hb dX0_sumByGreater_72 rfl (lv_at hl 1 rfl) ?_
  refine lv_lload_n hx hb dX0_sumByGreater_73 rfl (lv_at hl 2 rfl) ?_
  refine px_S (As := [.int v0, .long v1]) (rest := []) ⟨hx, hb, hml, hown, hts⟩ (kX0_isNegative l v0 v1) (va_cwS 2 hts gX0_sumByGreater_X0_isNegative rfl rfl rfl (by decide +kernel) ⟨Nat.le_of_ble_eq_true rfl, Nat.le_of_ble_eq_true rfl⟩) rfl hl.1 rfl (Nat.le_of_ble_eq_true rfl) dX0_sumByGreater_74 (Nat.zero_le _) (Nat.zero_le _) ?_
  refine lv_topi (fun v12_77 ev12_77 => ?_)
  rw [← ev12_77]
  refine lv_istore (lv' := [(12, .int v12_77), (9, .long s0), (0, .int v0), (1, .long v1), (3, .long v3), (6, .long v6), (8, .int v8)]) hx hb dX0_sumByGreater_77 hl (by decide) rfl (fun ls hl => ?_)
  rw [fX0_sumByGreater_79]
  refine lv_iload hx hb dX0_sumByGreater_79 (lv_at hl 0 rfl) ?_
  refine lv_iload_n hx hb dX0_sumByGreater_81 rfl (lv_at hl 2 rfl) ?_
  refine lv_lload_n hx hb dX0_sumByGreater_82 rfl (lv_at hl 4 rfl) ?_
  refine px_S (As := [.int v0, .long v3]) (rest := [.int v12_77]) ⟨hx, hb, hml, hown, hts⟩ (kX0_isNegative l v0 v3) (va_cwS 2 hts gX0_sumByGreater_X0_isNegative rfl rfl rfl (by decide +kernel) ⟨Nat.le_of_ble_eq_true rfl, Nat.le_of_ble_eq_true rfl⟩) rfl hl.1 rfl (Nat.le_of_ble_eq_true rfl) dX0_sumByGreater_83 (Nat.zero_le _) (Nat.zero_le _) ?_
  refine px_icmp_ne (tgt := 103) hx hb dX0_sumByGreater_86 (by decide) (fun hc86 => ?_) (fun hc86 => ?_)
  · rw [if_pos hc86]
    refine lv_iload_n hx hb dX0_sumByGreater_89 rfl (lv_at hl 2 rfl) ?_
    refine lv_iload hx hb dX0_sumByGreater_90 (lv_at hl 0 rfl) ?_
    refine lv_lload hx hb dX0_sumByGreater_92 (lv_at hl 5 rfl) ?_
    refine lv_lload hx hb dX0_sumByGreater_94 (lv_at hl 1 rfl) ?_
    refine lv_ladd hx hb dX0_sumByGreater_96 ?_
    refine lv_iload hx hb dX0_sumByGreater_97 (lv_at hl 6 rfl) ?_
    refine px_S (As := [.int v0, .int v12_77, .long (v6 + s0), .int v8]) (rest := []) ⟨hx, hb, hml, hown, hts⟩ (kX0_nearest l v0 v12_77 (v6 + s0) v8) (va_cwS 4 hts gX0_sumByGreater_X0_nearest rfl rfl rfl (by decide +kernel) ⟨Nat.le_of_ble_eq_true rfl, Nat.le_of_ble_eq_true rfl⟩) rfl hl.1 rfl (Nat.le_of_ble_eq_true rfl) dX0_sumByGreater_99 (Nat.zero_le _) (Nat.zero_le _) ?_
    exact W.lret hx hb hr (fun t ht _ => ⟨rfl, ht⟩) (fun q h => by cases h) dX0_sumByGreater_102
  · rw [if_neg hc86]
    refine lv_lload hx hb dX0_sumByGreater_103 (lv_at hl 5 rfl) ?_
    refine lv_lload hx hb dX0_sumByGreater_105 (lv_at hl 1 rfl) ?_
    refine px_lcmp_ne (tgt := 115) hx hb dX0_sumByGreater_107 dX0_sumByGreater_108 (by decide) (fun hc107 => ?_) (fun hc107 => ?_)
    · rw [if_pos hc107]
      refine lv_lconst (v := 0) hx hb dX0_sumByGreater_111 (by decide) ?_
      refine lv_goto (tgt := 128) hx hb dX0_sumByGreater_112 (by decide) ?_
      exact W.lret hx hb hr (fun t ht _ => ⟨rfl, ht⟩) (fun q h => by cases h) dX0_sumByGreater_128
    · rw [if_neg hc107]
      refine lv_iload_n hx hb dX0_sumByGreater_115 rfl (lv_at hl 2 rfl) ?_
      refine lv_iload hx hb dX0_sumByGreater_116 (lv_at hl 0 rfl) ?_
      refine lv_lload hx hb dX0_sumByGreater_118 (lv_at hl 5 rfl) ?_
      refine lv_lload hx hb dX0_sumByGreater_120 (lv_at hl 1 rfl) ?_
      refine lv_lsub hx hb dX0_sumByGreater_122 ?_
      refine lv_iload hx hb dX0_sumByGreater_123 (lv_at hl 6 rfl) ?_
      refine px_S (As := [.int v0, .int v12_77, .long (v6 - s0), .int v8]) (rest := []) ⟨hx, hb, hml, hown, hts⟩ (kX0_nearest l v0 v12_77 (v6 - s0) v8) (va_cwS 4 hts gX0_sumByGreater_X0_nearest rfl rfl rfl (by decide +kernel) ⟨Nat.le_of_ble_eq_true rfl, Nat.le_of_ble_eq_true rfl⟩) rfl hl.1 rfl (Nat.le_of_ble_eq_true rfl) dX0_sumByGreater_125 (Nat.zero_le _) (Nat.zero_le _) ?_
      exact W.lret hx hb hr (fun t ht _ => ⟨rfl, ht⟩) (fun q h => by cases h) dX0_sumByGreater_128
set_option maxHeartbeats 4000000 in
set_option maxRecDepth 100000 in
theorem wX0_sumByGreater_0 {p : Program} {l : Launch} {e : Env} {s : State} {m : MethodId} {args : Array Value} {below : List Frame} {meth : Method} {c : Code} (C : px_C p s m args meth c cX0_sumByGreater 13 (some .long) RX0 wsX0_sumByGreater) (v0 : Int32) (v1 : Int64) (v3 : Int64) {ls : Array Slot} (hl : lv_has ls 13 [(0, .int v0), (1, .long v1), (3, .long v3)]) : W p l e { frames := 3, cells := 0, slots := 0, locals := 72 } s m args below meth c s.heap [] 0 0 (MQ below (px_Q (.long (fX0_sumByGreater_0 v0 v1 v3))) args s 0 0 (fun _ => False)) (F0 m 0 ls []) := by
  obtain ⟨hx, hb, hml, hown, hts, hr, hlocks⟩ := id C
  rw [fX0_sumByGreater_0]
  refine lv_bipush (v := 61) hx hb dX0_sumByGreater_0 (by decide) ?_
  refine lv_iload_n hx hb dX0_sumByGreater_2 rfl (lv_at hl 0 rfl) ?_
  refine lv_lload_n hx hb dX0_sumByGreater_3 rfl (lv_at hl 1 rfl) ?_
  refine px_S (As := [.int v0, .long v1]) (rest := [.int (61 : Int32)]) ⟨hx, hb, hml, hown, hts⟩ (kX0_magnitude l v0 v1) (va_cwS 2 hts gX0_sumByGreater_X0_magnitude rfl rfl rfl (by decide +kernel) ⟨Nat.le_of_ble_eq_true rfl, Nat.le_of_ble_eq_true rfl⟩) rfl hl.1 rfl (Nat.le_of_ble_eq_true rfl) dX0_sumByGreater_4 (Nat.zero_le _) (Nat.zero_le _) ?_
  refine px_S (As := [.int (61 : Int32), .long (fX0_magnitude v0 v1)]) (rest := []) ⟨hx, hb, hml, hown, hts⟩ (kX0_roomBelow l (61 : Int32) (fX0_magnitude v0 v1) (okX0_roomBelow_all (61 : Int32) (fX0_magnitude v0 v1))) (va_cwS 2 hts gX0_sumByGreater_X0_roomBelow rfl rfl rfl (by decide +kernel) ⟨Nat.le_of_ble_eq_true rfl, Nat.le_of_ble_eq_true rfl⟩) rfl hl.1 rfl (Nat.le_of_ble_eq_true rfl) dX0_sumByGreater_7 (Nat.zero_le _) (Nat.zero_le _) ?_
  refine lv_topi (fun v5_10 ev5_10 => ?_)
  rw [← ev5_10]
  refine lv_istore (lv' := [(5, .int v5_10), (0, .int v0), (1, .long v1), (3, .long v3)]) hx hb dX0_sumByGreater_10 hl (by decide) rfl (fun ls hl => ?_)
  rw [fX0_sumByGreater_12]
  refine lv_iload_n hx hb dX0_sumByGreater_12 rfl (lv_at hl 1 rfl) ?_
  refine lv_lload_n hx hb dX0_sumByGreater_13 rfl (lv_at hl 2 rfl) ?_
  refine px_S (As := [.int v0, .long v1]) (rest := []) ⟨hx, hb, hml, hown, hts⟩ (kX0_magnitude l v0 v1) (va_cwS 2 hts gX0_sumByGreater_X0_magnitude rfl rfl rfl (by decide +kernel) ⟨Nat.le_of_ble_eq_true rfl, Nat.le_of_ble_eq_true rfl⟩) rfl hl.1 rfl (Nat.le_of_ble_eq_true rfl) dX0_sumByGreater_14 (Nat.zero_le _) (Nat.zero_le _) ?_
  refine lv_iload hx hb dX0_sumByGreater_17 (lv_at hl 0 rfl) ?_
  refine px_lshl hx hb dX0_sumByGreater_19 ?_
  refine lv_topl (fun v6_20 ev6_20 => ?_)
  rw [← ev6_20]
  refine lv_lstore (lv' := [(6, .long v6_20), (5, .int v5_10), (0, .int v0), (1, .long v1), (3, .long v3)]) hx hb dX0_sumByGreater_20 hl (by decide) rfl (fun ls hl => ?_)
  rw [fX0_sumByGreater_22]
  refine lv_iload_n hx hb dX0_sumByGreater_22 rfl (lv_at hl 2 rfl) ?_
  refine lv_lload_n hx hb dX0_sumByGreater_23 rfl (lv_at hl 3 rfl) ?_
  refine px_S (As := [.int v0, .long v1]) (rest := []) ⟨hx, hb, hml, hown, hts⟩ (kX0_exponent l v0 v1) (va_cwS 2 hts gX0_sumByGreater_X0_exponent rfl rfl rfl (by decide +kernel) ⟨Nat.le_of_ble_eq_true rfl, Nat.le_of_ble_eq_true rfl⟩) rfl hl.1 rfl (Nat.le_of_ble_eq_true rfl) dX0_sumByGreater_24 (Nat.zero_le _) (Nat.zero_le _) ?_
  refine lv_iload hx hb dX0_sumByGreater_27 (lv_at hl 1 rfl) ?_
  refine lv_isub hx hb dX0_sumByGreater_29 ?_
  refine lv_topi (fun v8_30 ev8_30 => ?_)
  rw [← ev8_30]
  refine lv_istore (lv' := [(8, .int v8_30), (6, .long v6_20), (5, .int v5_10), (0, .int v0), (1, .long v1), (3, .long v3)]) hx hb dX0_sumByGreater_30 hl (by decide) rfl (fun ls hl => ?_)
  rw [fX0_sumByGreater_32]
  refine lv_iload_n hx hb dX0_sumByGreater_32 rfl (lv_at hl 3 rfl) ?_
  refine lv_lload_n hx hb dX0_sumByGreater_33 rfl (lv_at hl 5 rfl) ?_
  refine px_S (As := [.int v0, .long v3]) (rest := []) ⟨hx, hb, hml, hown, hts⟩ (kX0_magnitude l v0 v3) (va_cwS 2 hts gX0_sumByGreater_X0_magnitude rfl rfl rfl (by decide +kernel) ⟨Nat.le_of_ble_eq_true rfl, Nat.le_of_ble_eq_true rfl⟩) rfl hl.1 rfl (Nat.le_of_ble_eq_true rfl) dX0_sumByGreater_34 (Nat.zero_le _) (Nat.zero_le _) ?_
  refine lv_topl (fun v9_37 ev9_37 => ?_)
  rw [← ev9_37]
  refine lv_lstore (lv' := [(9, .long v9_37), (8, .int v8_30), (6, .long v6_20), (5, .int v5_10), (0, .int v0), (1, .long v1), (3, .long v3)]) hx hb dX0_sumByGreater_37 hl (by decide) rfl (fun ls hl => ?_)
  rw [fX0_sumByGreater_39]
  refine lv_iload_n hx hb dX0_sumByGreater_39 rfl (lv_at hl 4 rfl) ?_
  refine lv_lload_n hx hb dX0_sumByGreater_40 rfl (lv_at hl 6 rfl) ?_
  refine px_S (As := [.int v0, .long v3]) (rest := []) ⟨hx, hb, hml, hown, hts⟩ (kX0_exponent l v0 v3) (va_cwS 2 hts gX0_sumByGreater_X0_exponent rfl rfl rfl (by decide +kernel) ⟨Nat.le_of_ble_eq_true rfl, Nat.le_of_ble_eq_true rfl⟩) rfl hl.1 rfl (Nat.le_of_ble_eq_true rfl) dX0_sumByGreater_41 (Nat.zero_le _) (Nat.zero_le _) ?_
  refine lv_iload hx hb dX0_sumByGreater_44 (lv_at hl 1 rfl) ?_
  refine lv_isub hx hb dX0_sumByGreater_46 ?_
  refine lv_topi (fun v11_47 ev11_47 => ?_)
  rw [← ev11_47]
  refine lv_istore (lv' := [(11, .int v11_47), (9, .long v9_37), (8, .int v8_30), (6, .long v6_20), (5, .int v5_10), (0, .int v0), (1, .long v1), (3, .long v3)]) hx hb dX0_sumByGreater_47 hl (by decide) rfl (fun ls hl => ?_)
  rw [fX0_sumByGreater_49]
  refine lv_iload hx hb dX0_sumByGreater_49 (lv_at hl 0 rfl) ?_
  refine px_if_lt (tgt := 62) hx hb dX0_sumByGreater_51 (by decide) (fun hc51 => ?_) (fun hc51 => ?_)
  · rw [if_pos hc51]
    refine lv_lload hx hb dX0_sumByGreater_62 (lv_at hl 1 rfl) ?_
    refine lv_iload hx hb dX0_sumByGreater_64 (lv_at hl 0 rfl) ?_
    refine lv_ineg hx hb dX0_sumByGreater_66 ?_
    refine px_S (As := [.long v9_37, .int (-v11_47)]) (rest := []) ⟨hx, hb, hml, hown, hts⟩ (kX0_movedDown l v9_37 (-v11_47)) (va_cwS 2 hts gX0_sumByGreater_X0_movedDown rfl rfl rfl (by decide +kernel) ⟨Nat.le_of_ble_eq_true rfl, Nat.le_of_ble_eq_true rfl⟩) rfl hl.1 rfl (Nat.le_of_ble_eq_true rfl) dX0_sumByGreater_67 (Nat.zero_le _) (Nat.zero_le _) ?_
    exact wX0_sumByGreater_70 C v0 v1 v3 v6_20 v8_30 (fX0_movedDown v9_37 (-v11_47)) (lv_sub hl [5, 6, 7, 3, 2] rfl)
  · rw [if_neg hc51]
    refine lv_lload hx hb dX0_sumByGreater_54 (lv_at hl 1 rfl) ?_
    refine lv_iload hx hb dX0_sumByGreater_56 (lv_at hl 0 rfl) ?_
    refine px_lshl hx hb dX0_sumByGreater_58 ?_
    refine lv_goto (tgt := 70) hx hb dX0_sumByGreater_59 (by decide) ?_
    exact wX0_sumByGreater_70 C v0 v1 v3 v6_20 v8_30 (jshl v9_37 v11_47) (lv_sub hl [5, 6, 7, 3, 2] rfl)
set_option maxHeartbeats 4000000 in
set_option maxRecDepth 100000 in
theorem kX0_sumByGreater (l : Launch) (v0 : Int32) (v1 : Int64) (v3 : Int64) : px_M l yX0_sumByGreater wsX0_sumByGreater ({ frames := 3, cells := 0, slots := 0, locals := 72 }) [.int v0, .long v1, .long v3] (.long (fX0_sumByGreater v0 v1 v3)) := by
  refine Met.ofW (cc := cX0_sumByGreater) (maxL := 13) (ret := (some .long)) (by decide) rfl ?_
  intro p e s m args below meth c s₁ B hml hv
  cases hv
  have C : px_C p s m _ meth c cX0_sumByGreater 13 (some .long) RX0 wsX0_sumByGreater := ⟨B.exec, B.bytes, hml, findClass_of_methodNamed B.named, atoms_spec (ws := wsX0_sumByGreater) B.pre, B.returns, B.notSynchronized⟩
  have hl := lv_entry ([.int v0, .long v1, .long v3]) (n := 13) (Nat.le_of_ble_eq_true rfl)
  rw [lg_entry_eq]
  generalize (lg_sl ([.int v0, .long v1, .long v3]) ++ List.replicate (13 - (lg_sl ([.int v0, .long v1, .long v3])).length) Slot.unset).toArray = ls at hl ⊢
  have hl : lv_has ls 13 [(0, .int v0), (1, .long v1), (3, .long v3)] := hl
  rw [fX0_sumByGreater]
  exact wX0_sumByGreater_0 C v0 v1 v3 (lv_sub hl [0, 1, 2] rfl)
set_option maxHeartbeats 4000000 in
set_option maxRecDepth 100000 in
theorem wX0_sum_80 {p : Program} {l : Launch} {e : Env} {s : State} {m : MethodId} {args : Array Value} {below : List Frame} {meth : Method} {c : Code} (C : px_C p s m args meth c cX0_sum 6 (some .long) RX0 wsX0_sum) (v0 : Int32) (v1 : Int64) (v3 : Int64) (s0 : Int32) {ls : Array Slot} (hl : lv_has ls 6 [(0, .int v0), (1, .long v1), (3, .long v3)]) : W p l e { frames := 4, cells := 0, slots := 0, locals := 104 } s m args below meth c s.heap [] 0 0 (MQ below (px_Q (.long (fX0_sum_80 v0 v1 v3 s0))) args s 0 0 (fun _ => False)) (F0 m 80 ls [.int s0]) := by
  obtain ⟨hx, hb, hml, hown, hts, hr, hlocks⟩ := id C
  rw [fX0_sum_80]
  refine lv_istore (lv' := [(5, .int s0), (0, .int v0), (1, .long v1), (3, .long v3)]) hx hb dX0_sum_80 hl (by decide) rfl (fun ls hl => ?_)
  refine lv_iload hx hb dX0_sum_82 (lv_at hl 0 rfl) ?_
  refine px_if_eq (tgt := 96) hx hb dX0_sum_84 (by decide) (fun hc84 => ?_) (fun hc84 => ?_)
  · rw [if_pos hc84]
    refine lv_iload_n hx hb dX0_sum_96 rfl (lv_at hl 1 rfl) ?_
    refine lv_lload_n hx hb dX0_sum_97 rfl (lv_at hl 3 rfl) ?_
    refine lv_lload_n hx hb dX0_sum_98 rfl (lv_at hl 2 rfl) ?_
    refine px_S (As := [.int v0, .long v3, .long v1]) (rest := []) ⟨hx, hb, hml, hown, hts⟩ (kX0_sumByGreater l v0 v3 v1) (va_cwS 3 hts gX0_sum_X0_sumByGreater rfl rfl rfl (by decide +kernel) ⟨Nat.le_of_ble_eq_true rfl, Nat.le_of_ble_eq_true rfl⟩) rfl hl.1 rfl (Nat.le_of_ble_eq_true rfl) dX0_sum_99 (Nat.zero_le _) (Nat.zero_le _) ?_
    exact W.lret hx hb hr (fun t ht _ => ⟨rfl, ht⟩) (fun q h => by cases h) dX0_sum_102
  · rw [if_neg hc84]
    refine lv_iload_n hx hb dX0_sum_87 rfl (lv_at hl 1 rfl) ?_
    refine lv_lload_n hx hb dX0_sum_88 rfl (lv_at hl 2 rfl) ?_
    refine lv_lload_n hx hb dX0_sum_89 rfl (lv_at hl 3 rfl) ?_
    refine px_S (As := [.int v0, .long v1, .long v3]) (rest := []) ⟨hx, hb, hml, hown, hts⟩ (kX0_sumByGreater l v0 v1 v3) (va_cwS 3 hts gX0_sum_X0_sumByGreater rfl rfl rfl (by decide +kernel) ⟨Nat.le_of_ble_eq_true rfl, Nat.le_of_ble_eq_true rfl⟩) rfl hl.1 rfl (Nat.le_of_ble_eq_true rfl) dX0_sum_90 (Nat.zero_le _) (Nat.zero_le _) ?_
    refine lv_goto (tgt := 102) hx hb dX0_sum_93 (by decide) ?_
    exact W.lret hx hb hr (fun t ht _ => ⟨rfl, ht⟩) (fun q h => by cases h) dX0_sum_102
set_option maxHeartbeats 4000000 in
set_option maxRecDepth 100000 in
theorem wX0_sum_61 {p : Program} {l : Launch} {e : Env} {s : State} {m : MethodId} {args : Array Value} {below : List Frame} {meth : Method} {c : Code} (C : px_C p s m args meth c cX0_sum 6 (some .long) RX0 wsX0_sum) (v0 : Int32) (v1 : Int64) (v3 : Int64) {ls : Array Slot} (hl : lv_has ls 6 [(0, .int v0), (1, .long v1), (3, .long v3)]) : W p l e { frames := 4, cells := 0, slots := 0, locals := 104 } s m args below meth c s.heap [] 0 0 (MQ below (px_Q (.long (fX0_sum_61 v0 v1 v3))) args s 0 0 (fun _ => False)) (F0 m 61 ls []) := by
  obtain ⟨hx, hb, hml, hown, hts, hr, hlocks⟩ := id C
  rw [fX0_sum_61]
  refine lv_iload_n hx hb dX0_sum_61 rfl (lv_at hl 0 rfl) ?_
  refine lv_lload_n hx hb dX0_sum_62 rfl (lv_at hl 1 rfl) ?_
  refine px_S (As := [.int v0, .long v1]) (rest := []) ⟨hx, hb, hml, hown, hts⟩ (kX0_size l v0 v1) (va_cwS 2 hts gX0_sum_X0_size rfl rfl rfl (by decide +kernel) ⟨Nat.le_of_ble_eq_true rfl, Nat.le_of_ble_eq_true rfl⟩) rfl hl.1 rfl (Nat.le_of_ble_eq_true rfl) dX0_sum_63 (Nat.zero_le _) (Nat.zero_le _) ?_
  refine lv_iload_n hx hb dX0_sum_66 rfl (lv_at hl 0 rfl) ?_
  refine lv_lload_n hx hb dX0_sum_67 rfl (lv_at hl 2 rfl) ?_
  refine px_S (As := [.int v0, .long v3]) (rest := [.long (fX0_size v0 v1)]) ⟨hx, hb, hml, hown, hts⟩ (kX0_size l v0 v3) (va_cwS 2 hts gX0_sum_X0_size rfl rfl rfl (by decide +kernel) ⟨Nat.le_of_ble_eq_true rfl, Nat.le_of_ble_eq_true rfl⟩) rfl hl.1 rfl (Nat.le_of_ble_eq_true rfl) dX0_sum_68 (Nat.zero_le _) (Nat.zero_le _) ?_
  refine px_lcmp_lt (tgt := 79) hx hb dX0_sum_71 dX0_sum_72 (by decide) (fun hc71 => ?_) (fun hc71 => ?_)
  · rw [if_pos hc71]
    refine lv_iconst (v := 0) hx hb dX0_sum_79 (by decide) ?_
    exact wX0_sum_80 C v0 v1 v3 (0 : Int32) (lv_sub hl [0, 1, 2] rfl)
  · rw [if_neg hc71]
    refine lv_iconst (v := 1) hx hb dX0_sum_75 (by decide) ?_
    refine lv_goto (tgt := 80) hx hb dX0_sum_76 (by decide) ?_
    exact wX0_sum_80 C v0 v1 v3 (1 : Int32) (lv_sub hl [0, 1, 2] rfl)
set_option maxHeartbeats 4000000 in
set_option maxRecDepth 100000 in
theorem wX0_sum_0 {p : Program} {l : Launch} {e : Env} {s : State} {m : MethodId} {args : Array Value} {below : List Frame} {meth : Method} {c : Code} (C : px_C p s m args meth c cX0_sum 6 (some .long) RX0 wsX0_sum) (v0 : Int32) (v1 : Int64) (v3 : Int64) {ls : Array Slot} (hl : lv_has ls 6 [(0, .int v0), (1, .long v1), (3, .long v3)]) : W p l e { frames := 4, cells := 0, slots := 0, locals := 104 } s m args below meth c s.heap [] 0 0 (MQ below (px_Q (.long (fX0_sum_0 v0 v1 v3))) args s 0 0 (fun _ => False)) (F0 m 0 ls []) := by
  obtain ⟨hx, hb, hml, hown, hts, hr, hlocks⟩ := id C
  rw [fX0_sum_0]
  refine lv_iload_n hx hb dX0_sum_0 rfl (lv_at hl 0 rfl) ?_
  refine lv_lload_n hx hb dX0_sum_1 rfl (lv_at hl 1 rfl) ?_
  refine px_S (As := [.int v0, .long v1]) (rest := []) ⟨hx, hb, hml, hown, hts⟩ (kX0_isInfinite l v0 v1) (va_cwS 2 hts gX0_sum_X0_isInfinite rfl rfl rfl (by decide +kernel) ⟨Nat.le_of_ble_eq_true rfl, Nat.le_of_ble_eq_true rfl⟩) rfl hl.1 rfl (Nat.le_of_ble_eq_true rfl) dX0_sum_2 (Nat.zero_le _) (Nat.zero_le _) ?_
  refine px_if_eq (tgt := 31) hx hb dX0_sum_5 (by decide) (fun hc5 => ?_) (fun hc5 => ?_)
  · rw [if_pos hc5]
    refine lv_iload_n hx hb dX0_sum_31 rfl (lv_at hl 0 rfl) ?_
    refine lv_lload_n hx hb dX0_sum_32 rfl (lv_at hl 2 rfl) ?_
    refine px_S (As := [.int v0, .long v3]) (rest := []) ⟨hx, hb, hml, hown, hts⟩ (kX0_isInfinite l v0 v3) (va_cwS 2 hts gX0_sum_X0_isInfinite rfl rfl rfl (by decide +kernel) ⟨Nat.le_of_ble_eq_true rfl, Nat.le_of_ble_eq_true rfl⟩) rfl hl.1 rfl (Nat.le_of_ble_eq_true rfl) dX0_sum_33 (Nat.zero_le _) (Nat.zero_le _) ?_
    refine px_if_eq (tgt := 41) hx hb dX0_sum_36 (by decide) (fun hc36 => ?_) (fun hc36 => ?_)
    · rw [if_pos hc36]
      refine lv_iload_n hx hb dX0_sum_41 rfl (lv_at hl 0 rfl) ?_
      refine lv_lload_n hx hb dX0_sum_42 rfl (lv_at hl 1 rfl) ?_
      refine px_S (As := [.int v0, .long v1]) (rest := []) ⟨hx, hb, hml, hown, hts⟩ (kX0_isZero l v0 v1) (va_cwS 2 hts gX0_sum_X0_isZero rfl rfl rfl (by decide +kernel) ⟨Nat.le_of_ble_eq_true rfl, Nat.le_of_ble_eq_true rfl⟩) rfl hl.1 rfl (Nat.le_of_ble_eq_true rfl) dX0_sum_43 (Nat.zero_le _) (Nat.zero_le _) ?_
      refine px_if_eq (tgt := 61) hx hb dX0_sum_46 (by decide) (fun hc46 => ?_) (fun hc46 => ?_)
      · rw [if_pos hc46]
        exact wX0_sum_61 C v0 v1 v3 (lv_sub hl [0, 1, 2] rfl)
      · rw [if_neg hc46]
        refine lv_iload_n hx hb dX0_sum_49 rfl (lv_at hl 0 rfl) ?_
        refine lv_lload_n hx hb dX0_sum_50 rfl (lv_at hl 2 rfl) ?_
        refine px_S (As := [.int v0, .long v3]) (rest := []) ⟨hx, hb, hml, hown, hts⟩ (kX0_isZero l v0 v3) (va_cwS 2 hts gX0_sum_X0_isZero rfl rfl rfl (by decide +kernel) ⟨Nat.le_of_ble_eq_true rfl, Nat.le_of_ble_eq_true rfl⟩) rfl hl.1 rfl (Nat.le_of_ble_eq_true rfl) dX0_sum_51 (Nat.zero_le _) (Nat.zero_le _) ?_
        refine px_if_eq (tgt := 61) hx hb dX0_sum_54 (by decide) (fun hc54 => ?_) (fun hc54 => ?_)
        · rw [if_pos hc54]
          exact wX0_sum_61 C v0 v1 v3 (lv_sub hl [0, 1, 2] rfl)
        · rw [if_neg hc54]
          refine lv_lload_n hx hb dX0_sum_57 rfl (lv_at hl 1 rfl) ?_
          refine lv_lload_n hx hb dX0_sum_58 rfl (lv_at hl 2 rfl) ?_
          refine lv_land hx hb dX0_sum_59 ?_
          exact W.lret hx hb hr (fun t ht _ => ⟨rfl, ht⟩) (fun q h => by cases h) dX0_sum_60
    · rw [if_neg hc36]
      refine lv_lload_n hx hb dX0_sum_39 rfl (lv_at hl 2 rfl) ?_
      exact W.lret hx hb hr (fun t ht _ => ⟨rfl, ht⟩) (fun q h => by cases h) dX0_sum_40
  · rw [if_neg hc5]
    refine lv_iload_n hx hb dX0_sum_8 rfl (lv_at hl 0 rfl) ?_
    refine lv_lload_n hx hb dX0_sum_9 rfl (lv_at hl 2 rfl) ?_
    refine px_S (As := [.int v0, .long v3]) (rest := []) ⟨hx, hb, hml, hown, hts⟩ (kX0_isInfinite l v0 v3) (va_cwS 2 hts gX0_sum_X0_isInfinite rfl rfl rfl (by decide +kernel) ⟨Nat.le_of_ble_eq_true rfl, Nat.le_of_ble_eq_true rfl⟩) rfl hl.1 rfl (Nat.le_of_ble_eq_true rfl) dX0_sum_10 (Nat.zero_le _) (Nat.zero_le _) ?_
    refine px_if_eq (tgt := 29) hx hb dX0_sum_13 (by decide) (fun hc13 => ?_) (fun hc13 => ?_)
    · rw [if_pos hc13]
      refine lv_lload_n hx hb dX0_sum_29 rfl (lv_at hl 1 rfl) ?_
      exact W.lret hx hb hr (fun t ht _ => ⟨rfl, ht⟩) (fun q h => by cases h) dX0_sum_30
    · rw [if_neg hc13]
      refine lv_lload_n hx hb dX0_sum_16 rfl (lv_at hl 1 rfl) ?_
      refine lv_lload_n hx hb dX0_sum_17 rfl (lv_at hl 2 rfl) ?_
      refine px_lcmp_eq (tgt := 29) hx hb dX0_sum_18 dX0_sum_19 (by decide) (fun hc18 => ?_) (fun hc18 => ?_)
      · rw [if_pos hc18]
        refine lv_lload_n hx hb dX0_sum_29 rfl (lv_at hl 1 rfl) ?_
        exact W.lret hx hb hr (fun t ht _ => ⟨rfl, ht⟩) (fun q h => by cases h) dX0_sum_30
      · rw [if_neg hc18]
        refine lv_iload_n hx hb dX0_sum_22 rfl (lv_at hl 0 rfl) ?_
        refine px_S (As := [.int v0]) (rest := []) ⟨hx, hb, hml, hown, hts⟩ (kX0_notANumber l v0) (va_cwS 1 hts gX0_sum_X0_notANumber rfl rfl rfl (by decide +kernel) ⟨Nat.le_of_ble_eq_true rfl, Nat.le_of_ble_eq_true rfl⟩) rfl hl.1 rfl (Nat.le_of_ble_eq_true rfl) dX0_sum_23 (Nat.zero_le _) (Nat.zero_le _) ?_
        refine lv_goto (tgt := 30) hx hb dX0_sum_26 (by decide) ?_
        exact W.lret hx hb hr (fun t ht _ => ⟨rfl, ht⟩) (fun q h => by cases h) dX0_sum_30
set_option maxHeartbeats 4000000 in
set_option maxRecDepth 100000 in
theorem kX0_sum (l : Launch) (v0 : Int32) (v1 : Int64) (v3 : Int64) : px_M l yX0_sum wsX0_sum ({ frames := 4, cells := 0, slots := 0, locals := 104 }) [.int v0, .long v1, .long v3] (.long (fX0_sum v0 v1 v3)) := by
  refine Met.ofW (cc := cX0_sum) (maxL := 6) (ret := (some .long)) (by decide) rfl ?_
  intro p e s m args below meth c s₁ B hml hv
  cases hv
  have C : px_C p s m _ meth c cX0_sum 6 (some .long) RX0 wsX0_sum := ⟨B.exec, B.bytes, hml, findClass_of_methodNamed B.named, atoms_spec (ws := wsX0_sum) B.pre, B.returns, B.notSynchronized⟩
  have hl := lv_entry ([.int v0, .long v1, .long v3]) (n := 6) (Nat.le_of_ble_eq_true rfl)
  rw [lg_entry_eq]
  generalize (lg_sl ([.int v0, .long v1, .long v3]) ++ List.replicate (6 - (lg_sl ([.int v0, .long v1, .long v3])).length) Slot.unset).toArray = ls at hl ⊢
  have hl : lv_has ls 6 [(0, .int v0), (1, .long v1), (3, .long v3)] := hl
  rw [fX0_sum]
  exact wX0_sum_0 C v0 v1 v3 (lv_sub hl [0, 1, 2] rfl)
end
section
set_option maxHeartbeats 4000000 in
set_option maxRecDepth 100000 in
theorem wX0_topOfProduct_0 {p : Program} {l : Launch} {e : Env} {s : State} {m : MethodId} {args : Array Value} {below : List Frame} {meth : Method} {c : Code} (C : px_C p s m args meth c cX0_topOfProduct 22 (some .long) RX0 wsX0_topOfProduct) (v0 : Int64) (v2 : Int64) {ls : Array Slot} (hl : lv_has ls 22 [(0, .long v0), (2, .long v2)]) : W p l e { frames := 1, cells := 0, slots := 0, locals := 24 } s m args below meth c s.heap [] 0 0 (MQ below (px_Q (.long (fX0_topOfProduct_0 v0 v2))) args s 0 0 (fun _ => False)) (F0 m 0 ls []) := by
  obtain ⟨hx, hb, hml, hown, hts, hr, hlocks⟩ := id C
  rw [fX0_topOfProduct_0]
  refine lv_ldc2 hx hb hown (hts (.constantLong RX0 104 (134217727)) (by decide +kernel)) dX0_topOfProduct_0 ?_
  refine lv_lstore (lv' := [(4, .long (134217727 : Int64)), (0, .long v0), (2, .long v2)]) hx hb dX0_topOfProduct_3 hl (by decide) rfl (fun ls hl => ?_)
  refine lv_lload_n hx hb dX0_topOfProduct_5 rfl (lv_at hl 1 rfl) ?_
  refine lv_bipush (v := 27) hx hb dX0_topOfProduct_6 (by decide) ?_
  refine px_lushr hx hb dX0_topOfProduct_8 ?_
  refine lv_topl (fun v6_9 ev6_9 => ?_)
  rw [← ev6_9]
  refine lv_lstore (lv' := [(6, .long v6_9), (4, .long (134217727 : Int64)), (0, .long v0), (2, .long v2)]) hx hb dX0_topOfProduct_9 hl (by decide) rfl (fun ls hl => ?_)
  rw [fX0_topOfProduct_11]
  refine lv_lload_n hx hb dX0_topOfProduct_11 rfl (lv_at hl 2 rfl) ?_
  refine lv_lload hx hb dX0_topOfProduct_12 (lv_at hl 1 rfl) ?_
  refine lv_land hx hb dX0_topOfProduct_14 ?_
  refine lv_topl (fun v8_15 ev8_15 => ?_)
  rw [← ev8_15]
  refine lv_lstore (lv' := [(8, .long v8_15), (6, .long v6_9), (4, .long (134217727 : Int64)), (0, .long v0), (2, .long v2)]) hx hb dX0_topOfProduct_15 hl (by decide) rfl (fun ls hl => ?_)
  rw [fX0_topOfProduct_17]
  refine lv_lload_n hx hb dX0_topOfProduct_17 rfl (lv_at hl 4 rfl) ?_
  refine lv_bipush (v := 27) hx hb dX0_topOfProduct_18 (by decide) ?_
  refine px_lushr hx hb dX0_topOfProduct_20 ?_
  refine lv_topl (fun v10_21 ev10_21 => ?_)
  rw [← ev10_21]
  refine lv_lstore (lv' := [(10, .long v10_21), (8, .long v8_15), (6, .long v6_9), (4, .long (134217727 : Int64)), (0, .long v0), (2, .long v2)]) hx hb dX0_topOfProduct_21 hl (by decide) rfl (fun ls hl => ?_)
  rw [fX0_topOfProduct_23]
  refine lv_lload_n hx hb dX0_topOfProduct_23 rfl (lv_at hl 5 rfl) ?_
  refine lv_lload hx hb dX0_topOfProduct_24 (lv_at hl 3 rfl) ?_
  refine lv_land hx hb dX0_topOfProduct_26 ?_
  refine lv_topl (fun v12_27 ev12_27 => ?_)
  rw [← ev12_27]
  refine lv_lstore (lv' := [(12, .long v12_27), (10, .long v10_21), (8, .long v8_15), (6, .long v6_9), (4, .long (134217727 : Int64)), (0, .long v0), (2, .long v2)]) hx hb dX0_topOfProduct_27 hl (by decide) rfl (fun ls hl => ?_)
  rw [fX0_topOfProduct_29]
  refine lv_lload hx hb dX0_topOfProduct_29 (lv_at hl 2 rfl) ?_
  refine lv_lload hx hb dX0_topOfProduct_31 (lv_at hl 0 rfl) ?_
  refine lv_lmul hx hb dX0_topOfProduct_33 ?_
  refine lv_topl (fun v14_34 ev14_34 => ?_)
  rw [← ev14_34]
  refine lv_lstore (lv' := [(14, .long v14_34), (12, .long v12_27), (10, .long v10_21), (8, .long v8_15), (6, .long v6_9), (4, .long (134217727 : Int64)), (0, .long v0), (2, .long v2)]) hx hb dX0_topOfProduct_34 hl (by decide) rfl (fun ls hl => ?_)
  rw [fX0_topOfProduct_36]
  refine lv_lload hx hb dX0_topOfProduct_36 (lv_at hl 4 rfl) ?_
  refine lv_lload hx hb dX0_topOfProduct_38 (lv_at hl 1 rfl) ?_
  refine lv_lmul hx hb dX0_topOfProduct_40 ?_
  refine lv_lload hx hb dX0_topOfProduct_41 (lv_at hl 3 rfl) ?_
  refine lv_lload hx hb dX0_topOfProduct_43 (lv_at hl 2 rfl) ?_
  refine lv_lmul hx hb dX0_topOfProduct_45 ?_
  refine lv_ladd hx hb dX0_topOfProduct_46 ?_
  refine lv_lload hx hb dX0_topOfProduct_47 (lv_at hl 0 rfl) ?_
  refine lv_bipush (v := 27) hx hb dX0_topOfProduct_49 (by decide) ?_
  refine px_lushr hx hb dX0_topOfProduct_51 ?_
  refine lv_ladd hx hb dX0_topOfProduct_52 ?_
  refine lv_topl (fun v16_53 ev16_53 => ?_)
  rw [← ev16_53]
  refine lv_lstore (lv' := [(16, .long v16_53), (14, .long v14_34), (12, .long v12_27), (10, .long v10_21), (8, .long v8_15), (6, .long v6_9), (4, .long (134217727 : Int64)), (0, .long v0), (2, .long v2)]) hx hb dX0_topOfProduct_53 hl (by decide) rfl (fun ls hl => ?_)
  rw [fX0_topOfProduct_55]
  refine lv_lload hx hb dX0_topOfProduct_55 (lv_at hl 5 rfl) ?_
  refine lv_lload hx hb dX0_topOfProduct_57 (lv_at hl 3 rfl) ?_
  refine lv_lmul hx hb dX0_topOfProduct_59 ?_
  refine lv_lload hx hb dX0_topOfProduct_60 (lv_at hl 0 rfl) ?_
  refine lv_bipush (v := 27) hx hb dX0_topOfProduct_62 (by decide) ?_
  refine px_lushr hx hb dX0_topOfProduct_64 ?_
  refine lv_ladd hx hb dX0_topOfProduct_65 ?_
  refine lv_topl (fun v18_66 ev18_66 => ?_)
  rw [← ev18_66]
  refine lv_lstore (lv' := [(18, .long v18_66), (16, .long v16_53), (14, .long v14_34), (12, .long v12_27), (10, .long v10_21), (8, .long v8_15), (6, .long v6_9), (4, .long (134217727 : Int64)), (0, .long v0), (2, .long v2)]) hx hb dX0_topOfProduct_66 hl (by decide) rfl (fun ls hl => ?_)
  rw [fX0_topOfProduct_68]
  refine lv_lload hx hb dX0_topOfProduct_68 (lv_at hl 1 rfl) ?_
  refine lv_lload hx hb dX0_topOfProduct_70 (lv_at hl 7 rfl) ?_
  refine lv_land hx hb dX0_topOfProduct_72 ?_
  refine lv_bipush (v := 27) hx hb dX0_topOfProduct_73 (by decide) ?_
  refine px_lshl hx hb dX0_topOfProduct_75 ?_
  refine lv_lload hx hb dX0_topOfProduct_76 (lv_at hl 2 rfl) ?_
  refine lv_lload hx hb dX0_topOfProduct_78 (lv_at hl 7 rfl) ?_
  refine lv_land hx hb dX0_topOfProduct_80 ?_
  refine lv_lor hx hb dX0_topOfProduct_81 ?_
  refine lv_topl (fun v20_82 ev20_82 => ?_)
  rw [← ev20_82]
  refine lv_lstore (lv' := [(20, .long v20_82), (18, .long v18_66), (16, .long v16_53), (14, .long v14_34), (12, .long v12_27), (10, .long v10_21), (8, .long v8_15), (6, .long v6_9), (4, .long (134217727 : Int64)), (0, .long v0), (2, .long v2)]) hx hb dX0_topOfProduct_82 hl (by decide) rfl (fun ls hl => ?_)
  rw [fX0_topOfProduct_84]
  refine lv_lload hx hb dX0_topOfProduct_84 (lv_at hl 1 rfl) ?_
  refine lv_bipush (v := 10) hx hb dX0_topOfProduct_86 (by decide) ?_
  refine px_lshl hx hb dX0_topOfProduct_88 ?_
  refine lv_lload hx hb dX0_topOfProduct_89 (lv_at hl 0 rfl) ?_
  refine lv_bipush (v := 44) hx hb dX0_topOfProduct_91 (by decide) ?_
  refine px_S (As := [.long v20_82, .int (44 : Int32)]) (rest := [.long (jshl v18_66 (10 : Int32))]) ⟨hx, hb, hml, hown, hts⟩ (kX0_movedDown l v20_82 (44 : Int32)) (va_cwS 2 hts gX0_topOfProduct_X0_movedDown rfl rfl rfl (by decide +kernel) ⟨Nat.le_of_ble_eq_true rfl, Nat.le_of_ble_eq_true rfl⟩) rfl hl.1 rfl (Nat.le_of_ble_eq_true rfl) dX0_topOfProduct_93 (Nat.zero_le _) (Nat.zero_le _) ?_
  refine lv_lor hx hb dX0_topOfProduct_96 ?_
  exact W.lret hx hb hr (fun t ht _ => ⟨rfl, ht⟩) (fun q h => by cases h) dX0_topOfProduct_97
set_option maxHeartbeats 4000000 in
set_option maxRecDepth 100000 in
theorem kX0_topOfProduct (l : Launch) (v0 : Int64) (v2 : Int64) : px_M l yX0_topOfProduct wsX0_topOfProduct ({ frames := 1, cells := 0, slots := 0, locals := 24 }) [.long v0, .long v2] (.long (fX0_topOfProduct v0 v2)) := by
  refine Met.ofW (cc := cX0_topOfProduct) (maxL := 22) (ret := (some .long)) (by decide) rfl ?_
  intro p e s m args below meth c s₁ B hml hv
  cases hv
  have C : px_C p s m _ meth c cX0_topOfProduct 22 (some .long) RX0 wsX0_topOfProduct := ⟨B.exec, B.bytes, hml, findClass_of_methodNamed B.named, atoms_spec (ws := wsX0_topOfProduct) B.pre, B.returns, B.notSynchronized⟩
  have hl := lv_entry ([.long v0, .long v2]) (n := 22) (Nat.le_of_ble_eq_true rfl)
  rw [lg_entry_eq]
  generalize (lg_sl ([.long v0, .long v2]) ++ List.replicate (22 - (lg_sl ([.long v0, .long v2])).length) Slot.unset).toArray = ls at hl ⊢
  have hl : lv_has ls 22 [(0, .long v0), (2, .long v2)] := hl
  rw [fX0_topOfProduct]
  exact wX0_topOfProduct_0 C v0 v2 (lv_sub hl [0, 1] rfl)
set_option maxHeartbeats 4000000 in
set_option maxRecDepth 100000 in
theorem wX0_product_57 {p : Program} {l : Launch} {e : Env} {s : State} {m : MethodId} {args : Array Value} {below : List Frame} {meth : Method} {c : Code} (C : px_C p s m args meth c cX0_product 11 (some .long) RX0 wsX0_product) (v0 : Int32) (v5 : Int32) (s0 : Int32) {ls : Array Slot} (hl : lv_has ls 11 [(0, .int v0), (5, .int v5)]) : W p l e { frames := 3, cells := 0, slots := 0, locals := 72 } s m args below meth c s.heap [] 0 0 (MQ below (px_Q (.long (fX0_product_57 v0 v5 s0))) args s 0 0 (fun _ => False)) (F0 m 57 ls [.int s0]) := by
  obtain ⟨hx, hb, hml, hown, hts, hr, hlocks⟩ := id C
  rw [fX0_product_57]
  refine lv_istore (lv' := [(6, .int s0), (0, .int v0), (5, .int v5)]) hx hb dX0_product_57 hl (by decide) rfl (fun ls hl => ?_)
  refine lv_iload hx hb dX0_product_59 (lv_at hl 0 rfl) ?_
  refine px_if_eq (tgt := 71) hx hb dX0_product_61 (by decide) (fun hc61 => ?_) (fun hc61 => ?_)
  · rw [if_pos hc61]
    refine lv_iload_n hx hb dX0_product_71 rfl (lv_at hl 1 rfl) ?_
    refine lv_iload hx hb dX0_product_72 (lv_at hl 2 rfl) ?_
    refine lv_iload_n hx hb dX0_product_74 rfl (lv_at hl 1 rfl) ?_
    refine px_S (As := [.int v0]) (rest := [.int v5, .int v0]) ⟨hx, hb, hml, hown, hts⟩ (kX0_infinity l v0) (va_cwS 1 hts gX0_product_X0_infinity rfl rfl rfl (by decide +kernel) ⟨Nat.le_of_ble_eq_true rfl, Nat.le_of_ble_eq_true rfl⟩) rfl hl.1 rfl (Nat.le_of_ble_eq_true rfl) dX0_product_75 (Nat.zero_le _) (Nat.zero_le _) ?_
    refine px_S (As := [.int v0, .int v5, .long (fX0_infinity v0)]) (rest := []) ⟨hx, hb, hml, hown, hts⟩ (kX0_signed l v0 v5 (fX0_infinity v0)) (va_cwS 3 hts gX0_product_X0_signed rfl rfl rfl (by decide +kernel) ⟨Nat.le_of_ble_eq_true rfl, Nat.le_of_ble_eq_true rfl⟩) rfl hl.1 rfl (Nat.le_of_ble_eq_true rfl) dX0_product_78 (Nat.zero_le _) (Nat.zero_le _) ?_
    exact W.lret hx hb hr (fun t ht _ => ⟨rfl, ht⟩) (fun q h => by cases h) dX0_product_81
  · rw [if_neg hc61]
    refine lv_iload_n hx hb dX0_product_64 rfl (lv_at hl 1 rfl) ?_
    refine px_S (As := [.int v0]) (rest := []) ⟨hx, hb, hml, hown, hts⟩ (kX0_notANumber l v0) (va_cwS 1 hts gX0_product_X0_notANumber rfl rfl rfl (by decide +kernel) ⟨Nat.le_of_ble_eq_true rfl, Nat.le_of_ble_eq_true rfl⟩) rfl hl.1 rfl (Nat.le_of_ble_eq_true rfl) dX0_product_65 (Nat.zero_le _) (Nat.zero_le _) ?_
    refine lv_goto (tgt := 81) hx hb dX0_product_68 (by decide) ?_
    exact W.lret hx hb hr (fun t ht _ => ⟨rfl, ht⟩) (fun q h => by cases h) dX0_product_81
set_option maxHeartbeats 4000000 in
set_option maxRecDepth 100000 in
theorem wX0_product_52 {p : Program} {l : Launch} {e : Env} {s : State} {m : MethodId} {args : Array Value} {below : List Frame} {meth : Method} {c : Code} (C : px_C p s m args meth c cX0_product 11 (some .long) RX0 wsX0_product) (v0 : Int32) (v5 : Int32) {ls : Array Slot} (hl : lv_has ls 11 [(0, .int v0), (5, .int v5)]) : W p l e { frames := 3, cells := 0, slots := 0, locals := 72 } s m args below meth c s.heap [] 0 0 (MQ below (px_Q (.long (fX0_product_52 v0 v5))) args s 0 0 (fun _ => False)) (F0 m 52 ls []) := by
  obtain ⟨hx, hb, hml, hown, hts, hr, hlocks⟩ := id C
  rw [fX0_product_52]
  refine lv_iconst (v := 1) hx hb dX0_product_52 (by decide) ?_
  refine lv_goto (tgt := 57) hx hb dX0_product_53 (by decide) ?_
  exact wX0_product_57 C v0 v5 (1 : Int32) (lv_sub hl [0, 1] rfl)
set_option maxHeartbeats 4000000 in
set_option maxRecDepth 100000 in
theorem wX0_product_36 {p : Program} {l : Launch} {e : Env} {s : State} {m : MethodId} {args : Array Value} {below : List Frame} {meth : Method} {c : Code} (C : px_C p s m args meth c cX0_product 11 (some .long) RX0 wsX0_product) (v0 : Int32) (v1 : Int64) (v3 : Int64) (v5 : Int32) {ls : Array Slot} (hl : lv_has ls 11 [(0, .int v0), (1, .long v1), (3, .long v3), (5, .int v5)]) : W p l e { frames := 3, cells := 0, slots := 0, locals := 72 } s m args below meth c s.heap [] 0 0 (MQ below (px_Q (.long (fX0_product_36 v0 v1 v3 v5))) args s 0 0 (fun _ => False)) (F0 m 36 ls []) := by
  obtain ⟨hx, hb, hml, hown, hts, hr, hlocks⟩ := id C
  rw [fX0_product_36]
  refine lv_iload_n hx hb dX0_product_36 rfl (lv_at hl 0 rfl) ?_
  refine lv_lload_n hx hb dX0_product_37 rfl (lv_at hl 1 rfl) ?_
  refine px_S (As := [.int v0, .long v1]) (rest := []) ⟨hx, hb, hml, hown, hts⟩ (kX0_isZero l v0 v1) (va_cwS 2 hts gX0_product_X0_isZero rfl rfl rfl (by decide +kernel) ⟨Nat.le_of_ble_eq_true rfl, Nat.le_of_ble_eq_true rfl⟩) rfl hl.1 rfl (Nat.le_of_ble_eq_true rfl) dX0_product_38 (Nat.zero_le _) (Nat.zero_le _) ?_
  refine px_if_ne (tgt := 52) hx hb dX0_product_41 (by decide) (fun hc41 => ?_) (fun hc41 => ?_)
  · rw [if_pos hc41]
    refine lv_iload_n hx hb dX0_product_44 rfl (lv_at hl 0 rfl) ?_
    refine lv_lload_n hx hb dX0_product_45 rfl (lv_at hl 2 rfl) ?_
    refine px_S (As := [.int v0, .long v3]) (rest := []) ⟨hx, hb, hml, hown, hts⟩ (kX0_isZero l v0 v3) (va_cwS 2 hts gX0_product_X0_isZero rfl rfl rfl (by decide +kernel) ⟨Nat.le_of_ble_eq_true rfl, Nat.le_of_ble_eq_true rfl⟩) rfl hl.1 rfl (Nat.le_of_ble_eq_true rfl) dX0_product_46 (Nat.zero_le _) (Nat.zero_le _) ?_
    refine px_if_eq (tgt := 56) hx hb dX0_product_49 (by decide) (fun hc49 => ?_) (fun hc49 => ?_)
    · rw [if_pos hc49]
      refine lv_iconst (v := 0) hx hb dX0_product_56 (by decide) ?_
      exact wX0_product_57 C v0 v5 (0 : Int32) (lv_sub hl [0, 3] rfl)
    · rw [if_neg hc49]
      exact wX0_product_52 C v0 v5 (lv_sub hl [0, 3] rfl)
  · rw [if_neg hc41]
    exact wX0_product_52 C v0 v5 (lv_sub hl [0, 3] rfl)
set_option maxHeartbeats 4000000 in
set_option maxRecDepth 100000 in
theorem wX0_product_18 {p : Program} {l : Launch} {e : Env} {s : State} {m : MethodId} {args : Array Value} {below : List Frame} {meth : Method} {c : Code} (C : px_C p s m args meth c cX0_product 11 (some .long) RX0 wsX0_product) (v0 : Int32) (v1 : Int64) (v3 : Int64) (s0 : Int32) {ls : Array Slot} (hl : lv_has ls 11 [(0, .int v0), (1, .long v1), (3, .long v3)]) : W p l e { frames := 3, cells := 0, slots := 0, locals := 72 } s m args below meth c s.heap [] 0 0 (MQ below (px_Q (.long (fX0_product_18 v0 v1 v3 s0))) args s 0 0 (fun _ => False)) (F0 m 18 ls [.int s0]) := by
  obtain ⟨hx, hb, hml, hown, hts, hr, hlocks⟩ := id C
  rw [fX0_product_18]
  refine lv_istore (lv' := [(5, .int s0), (0, .int v0), (1, .long v1), (3, .long v3)]) hx hb dX0_product_18 hl (by decide) rfl (fun ls hl => ?_)
  refine lv_iload_n hx hb dX0_product_20 rfl (lv_at hl 1 rfl) ?_
  refine lv_lload_n hx hb dX0_product_21 rfl (lv_at hl 2 rfl) ?_
  refine px_S (As := [.int v0, .long v1]) (rest := []) ⟨hx, hb, hml, hown, hts⟩ (kX0_isInfinite l v0 v1) (va_cwS 2 hts gX0_product_X0_isInfinite rfl rfl rfl (by decide +kernel) ⟨Nat.le_of_ble_eq_true rfl, Nat.le_of_ble_eq_true rfl⟩) rfl hl.1 rfl (Nat.le_of_ble_eq_true rfl) dX0_product_22 (Nat.zero_le _) (Nat.zero_le _) ?_
  refine px_if_ne (tgt := 36) hx hb dX0_product_25 (by decide) (fun hc25 => ?_) (fun hc25 => ?_)
  · rw [if_pos hc25]
    refine lv_iload_n hx hb dX0_product_28 rfl (lv_at hl 1 rfl) ?_
    refine lv_lload_n hx hb dX0_product_29 rfl (lv_at hl 3 rfl) ?_
    refine px_S (As := [.int v0, .long v3]) (rest := []) ⟨hx, hb, hml, hown, hts⟩ (kX0_isInfinite l v0 v3) (va_cwS 2 hts gX0_product_X0_isInfinite rfl rfl rfl (by decide +kernel) ⟨Nat.le_of_ble_eq_true rfl, Nat.le_of_ble_eq_true rfl⟩) rfl hl.1 rfl (Nat.le_of_ble_eq_true rfl) dX0_product_30 (Nat.zero_le _) (Nat.zero_le _) ?_
    refine px_if_eq (tgt := 82) hx hb dX0_product_33 (by decide) (fun hc33 => ?_) (fun hc33 => ?_)
    · rw [if_pos hc33]
      refine lv_bipush (v := 52) hx hb dX0_product_82 (by decide) ?_
      refine lv_iload_n hx hb dX0_product_84 rfl (lv_at hl 1 rfl) ?_
      refine lv_lload_n hx hb dX0_product_85 rfl (lv_at hl 2 rfl) ?_
      refine px_S (As := [.int v0, .long v1]) (rest := [.int (52 : Int32)]) ⟨hx, hb, hml, hown, hts⟩ (kX0_magnitude l v0 v1) (va_cwS 2 hts gX0_product_X0_magnitude rfl rfl rfl (by decide +kernel) ⟨Nat.le_of_ble_eq_true rfl, Nat.le_of_ble_eq_true rfl⟩) rfl hl.1 rfl (Nat.le_of_ble_eq_true rfl) dX0_product_86 (Nat.zero_le _) (Nat.zero_le _) ?_
      refine px_S (As := [.int (52 : Int32), .long (fX0_magnitude v0 v1)]) (rest := []) ⟨hx, hb, hml, hown, hts⟩ (kX0_roomBelow l (52 : Int32) (fX0_magnitude v0 v1) (okX0_roomBelow_all (52 : Int32) (fX0_magnitude v0 v1))) (va_cwS 2 hts gX0_product_X0_roomBelow rfl rfl rfl (by decide +kernel) ⟨Nat.le_of_ble_eq_true rfl, Nat.le_of_ble_eq_true rfl⟩) rfl hl.1 rfl (Nat.le_of_ble_eq_true rfl) dX0_product_89 (Nat.zero_le _) (Nat.zero_le _) ?_
      refine lv_topi (fun v6_92 ev6_92 => ?_)
      rw [← ev6_92]
      refine lv_istore (lv' := [(6, .int v6_92), (5, .int s0), (0, .int v0), (1, .long v1), (3, .long v3)]) hx hb dX0_product_92 hl (by decide) rfl (fun ls hl => ?_)
      rw [fX0_product_94]
      refine lv_bipush (v := 52) hx hb dX0_product_94 (by decide) ?_
      refine lv_iload_n hx hb dX0_product_96 rfl (lv_at hl 2 rfl) ?_
      refine lv_lload_n hx hb dX0_product_97 rfl (lv_at hl 4 rfl) ?_
      refine px_S (As := [.int v0, .long v3]) (rest := [.int (52 : Int32)]) ⟨hx, hb, hml, hown, hts⟩ (kX0_magnitude l v0 v3) (va_cwS 2 hts gX0_product_X0_magnitude rfl rfl rfl (by decide +kernel) ⟨Nat.le_of_ble_eq_true rfl, Nat.le_of_ble_eq_true rfl⟩) rfl hl.1 rfl (Nat.le_of_ble_eq_true rfl) dX0_product_98 (Nat.zero_le _) (Nat.zero_le _) ?_
      refine px_S (As := [.int (52 : Int32), .long (fX0_magnitude v0 v3)]) (rest := []) ⟨hx, hb, hml, hown, hts⟩ (kX0_roomBelow l (52 : Int32) (fX0_magnitude v0 v3) (okX0_roomBelow_all (52 : Int32) (fX0_magnitude v0 v3))) (va_cwS 2 hts gX0_product_X0_roomBelow rfl rfl rfl (by decide +kernel) ⟨Nat.le_of_ble_eq_true rfl, Nat.le_of_ble_eq_true rfl⟩) rfl hl.1 rfl (Nat.le_of_ble_eq_true rfl) dX0_product_101 (Nat.zero_le _) (Nat.zero_le _) ?_
      refine lv_topi (fun v7_104 ev7_104 => ?_)
      rw [← ev7_104]
      refine lv_istore (lv' := [(7, .int v7_104), (6, .int v6_92), (5, .int s0), (0, .int v0), (1, .long v1), (3, .long v3)]) hx hb dX0_product_104 hl (by decide) rfl (fun ls hl => ?_)
      rw [fX0_product_106]
      refine lv_iload_n hx hb dX0_product_106 rfl (lv_at hl 3 rfl) ?_
      refine lv_lload_n hx hb dX0_product_107 rfl (lv_at hl 4 rfl) ?_
      refine px_S (As := [.int v0, .long v1]) (rest := []) ⟨hx, hb, hml, hown, hts⟩ (kX0_magnitude l v0 v1) (va_cwS 2 hts gX0_product_X0_magnitude rfl rfl rfl (by decide +kernel) ⟨Nat.le_of_ble_eq_true rfl, Nat.le_of_ble_eq_true rfl⟩) rfl hl.1 rfl (Nat.le_of_ble_eq_true rfl) dX0_product_108 (Nat.zero_le _) (Nat.zero_le _) ?_
      refine lv_iload hx hb dX0_product_111 (lv_at hl 1 rfl) ?_
      refine px_lshl hx hb dX0_product_113 ?_
      refine lv_iload_n hx hb dX0_product_114 rfl (lv_at hl 3 rfl) ?_
      refine lv_lload_n hx hb dX0_product_115 rfl (lv_at hl 5 rfl) ?_
      refine px_S (As := [.int v0, .long v3]) (rest := [.long (jshl (fX0_magnitude v0 v1) v6_92)]) ⟨hx, hb, hml, hown, hts⟩ (kX0_magnitude l v0 v3) (va_cwS 2 hts gX0_product_X0_magnitude rfl rfl rfl (by decide +kernel) ⟨Nat.le_of_ble_eq_true rfl, Nat.le_of_ble_eq_true rfl⟩) rfl hl.1 rfl (Nat.le_of_ble_eq_true rfl) dX0_product_116 (Nat.zero_le _) (Nat.zero_le _) ?_
      refine lv_iload hx hb dX0_product_119 (lv_at hl 0 rfl) ?_
      refine px_lshl hx hb dX0_product_121 ?_
      refine px_S (As := [.long (jshl (fX0_magnitude v0 v1) v6_92), .long (jshl (fX0_magnitude v0 v3) v7_104)]) (rest := []) ⟨hx, hb, hml, hown, hts⟩ (kX0_topOfProduct l (jshl (fX0_magnitude v0 v1) v6_92) (jshl (fX0_magnitude v0 v3) v7_104)) (va_cwS 2 hts gX0_product_X0_topOfProduct rfl rfl rfl (by decide +kernel) ⟨Nat.le_of_ble_eq_true rfl, Nat.le_of_ble_eq_true rfl⟩) rfl hl.1 rfl (Nat.le_of_ble_eq_true rfl) dX0_product_122 (Nat.zero_le _) (Nat.zero_le _) ?_
      refine lv_topl (fun v8_125 ev8_125 => ?_)
      rw [← ev8_125]
      refine lv_lstore (lv' := [(8, .long v8_125), (7, .int v7_104), (6, .int v6_92), (5, .int s0), (0, .int v0), (1, .long v1), (3, .long v3)]) hx hb dX0_product_125 hl (by decide) rfl (fun ls hl => ?_)
      rw [fX0_product_127]
      refine lv_iload_n hx hb dX0_product_127 rfl (lv_at hl 4 rfl) ?_
      refine lv_lload_n hx hb dX0_product_128 rfl (lv_at hl 5 rfl) ?_
      refine px_S (As := [.int v0, .long v1]) (rest := []) ⟨hx, hb, hml, hown, hts⟩ (kX0_exponent l v0 v1) (va_cwS 2 hts gX0_product_X0_exponent rfl rfl rfl (by decide +kernel) ⟨Nat.le_of_ble_eq_true rfl, Nat.le_of_ble_eq_true rfl⟩) rfl hl.1 rfl (Nat.le_of_ble_eq_true rfl) dX0_product_129 (Nat.zero_le _) (Nat.zero_le _) ?_
      refine lv_iload hx hb dX0_product_132 (lv_at hl 2 rfl) ?_
      refine lv_isub hx hb dX0_product_134 ?_
      refine lv_iload_n hx hb dX0_product_135 rfl (lv_at hl 4 rfl) ?_
      refine lv_lload_n hx hb dX0_product_136 rfl (lv_at hl 6 rfl) ?_
      refine px_S (As := [.int v0, .long v3]) (rest := [.int ((fX0_exponent v0 v1) - v6_92)]) ⟨hx, hb, hml, hown, hts⟩ (kX0_exponent l v0 v3) (va_cwS 2 hts gX0_product_X0_exponent rfl rfl rfl (by decide +kernel) ⟨Nat.le_of_ble_eq_true rfl, Nat.le_of_ble_eq_true rfl⟩) rfl hl.1 rfl (Nat.le_of_ble_eq_true rfl) dX0_product_137 (Nat.zero_le _) (Nat.zero_le _) ?_
      refine lv_iadd hx hb dX0_product_140 ?_
      refine lv_iload hx hb dX0_product_141 (lv_at hl 1 rfl) ?_
      refine lv_isub hx hb dX0_product_143 ?_
      refine lv_topi (fun v10_144 ev10_144 => ?_)
      rw [← ev10_144]
      refine lv_istore (lv' := [(10, .int v10_144), (8, .long v8_125), (7, .int v7_104), (6, .int v6_92), (5, .int s0), (0, .int v0), (1, .long v1), (3, .long v3)]) hx hb dX0_product_144 hl (by decide) rfl (fun ls hl => ?_)
      rw [fX0_product_146]
      refine lv_iload_n hx hb dX0_product_146 rfl (lv_at hl 5 rfl) ?_
      refine lv_iload hx hb dX0_product_147 (lv_at hl 4 rfl) ?_
      refine lv_lload hx hb dX0_product_149 (lv_at hl 1 rfl) ?_
      refine lv_iload hx hb dX0_product_151 (lv_at hl 0 rfl) ?_
      refine lv_bipush (v := 54) hx hb dX0_product_153 (by decide) ?_
      refine lv_iadd hx hb dX0_product_155 ?_
      refine lv_bipush (v := 10) hx hb dX0_product_156 (by decide) ?_
      refine lv_isub hx hb dX0_product_158 ?_
      refine px_S (As := [.int v0, .int s0, .long v8_125, .int ((v10_144 + (54 : Int32)) - (10 : Int32))]) (rest := []) ⟨hx, hb, hml, hown, hts⟩ (kX0_nearest l v0 s0 v8_125 ((v10_144 + (54 : Int32)) - (10 : Int32))) (va_cwS 4 hts gX0_product_X0_nearest rfl rfl rfl (by decide +kernel) ⟨Nat.le_of_ble_eq_true rfl, Nat.le_of_ble_eq_true rfl⟩) rfl hl.1 rfl (Nat.le_of_ble_eq_true rfl) dX0_product_159 (Nat.zero_le _) (Nat.zero_le _) ?_
      exact W.lret hx hb hr (fun t ht _ => ⟨rfl, ht⟩) (fun q h => by cases h) dX0_product_162
    · rw [if_neg hc33]
      exact wX0_product_36 C v0 v1 v3 s0 (lv_sub hl [1, 2, 3, 0] rfl)
  · rw [if_neg hc25]
    exact wX0_product_36 C v0 v1 v3 s0 (lv_sub hl [1, 2, 3, 0] rfl)
set_option maxHeartbeats 4000000 in
set_option maxRecDepth 100000 in
theorem wX0_product_0 {p : Program} {l : Launch} {e : Env} {s : State} {m : MethodId} {args : Array Value} {below : List Frame} {meth : Method} {c : Code} (C : px_C p s m args meth c cX0_product 11 (some .long) RX0 wsX0_product) (v0 : Int32) (v1 : Int64) (v3 : Int64) {ls : Array Slot} (hl : lv_has ls 11 [(0, .int v0), (1, .long v1), (3, .long v3)]) : W p l e { frames := 3, cells := 0, slots := 0, locals := 72 } s m args below meth c s.heap [] 0 0 (MQ below (px_Q (.long (fX0_product_0 v0 v1 v3))) args s 0 0 (fun _ => False)) (F0 m 0 ls []) := by
  obtain ⟨hx, hb, hml, hown, hts, hr, hlocks⟩ := id C
  rw [fX0_product_0]
  refine lv_iload_n hx hb dX0_product_0 rfl (lv_at hl 0 rfl) ?_
  refine lv_lload_n hx hb dX0_product_1 rfl (lv_at hl 1 rfl) ?_
  refine px_S (As := [.int v0, .long v1]) (rest := []) ⟨hx, hb, hml, hown, hts⟩ (kX0_isNegative l v0 v1) (va_cwS 2 hts gX0_product_X0_isNegative rfl rfl rfl (by decide +kernel) ⟨Nat.le_of_ble_eq_true rfl, Nat.le_of_ble_eq_true rfl⟩) rfl hl.1 rfl (Nat.le_of_ble_eq_true rfl) dX0_product_2 (Nat.zero_le _) (Nat.zero_le _) ?_
  refine lv_iload_n hx hb dX0_product_5 rfl (lv_at hl 0 rfl) ?_
  refine lv_lload_n hx hb dX0_product_6 rfl (lv_at hl 2 rfl) ?_
  refine px_S (As := [.int v0, .long v3]) (rest := [.int (fX0_isNegative v0 v1)]) ⟨hx, hb, hml, hown, hts⟩ (kX0_isNegative l v0 v3) (va_cwS 2 hts gX0_product_X0_isNegative rfl rfl rfl (by decide +kernel) ⟨Nat.le_of_ble_eq_true rfl, Nat.le_of_ble_eq_true rfl⟩) rfl hl.1 rfl (Nat.le_of_ble_eq_true rfl) dX0_product_7 (Nat.zero_le _) (Nat.zero_le _) ?_
  refine px_icmp_eq (tgt := 17) hx hb dX0_product_10 (by decide) (fun hc10 => ?_) (fun hc10 => ?_)
  · rw [if_pos hc10]
    refine lv_iconst (v := 0) hx hb dX0_product_17 (by decide) ?_
    exact wX0_product_18 C v0 v1 v3 (0 : Int32) (lv_sub hl [0, 1, 2] rfl)
  · rw [if_neg hc10]
    refine lv_iconst (v := 1) hx hb dX0_product_13 (by decide) ?_
    refine lv_goto (tgt := 18) hx hb dX0_product_14 (by decide) ?_
    exact wX0_product_18 C v0 v1 v3 (1 : Int32) (lv_sub hl [0, 1, 2] rfl)
set_option maxHeartbeats 4000000 in
set_option maxRecDepth 100000 in
theorem kX0_product (l : Launch) (v0 : Int32) (v1 : Int64) (v3 : Int64) : px_M l yX0_product wsX0_product ({ frames := 3, cells := 0, slots := 0, locals := 72 }) [.int v0, .long v1, .long v3] (.long (fX0_product v0 v1 v3)) := by
  refine Met.ofW (cc := cX0_product) (maxL := 11) (ret := (some .long)) (by decide) rfl ?_
  intro p e s m args below meth c s₁ B hml hv
  cases hv
  have C : px_C p s m _ meth c cX0_product 11 (some .long) RX0 wsX0_product := ⟨B.exec, B.bytes, hml, findClass_of_methodNamed B.named, atoms_spec (ws := wsX0_product) B.pre, B.returns, B.notSynchronized⟩
  have hl := lv_entry ([.int v0, .long v1, .long v3]) (n := 11) (Nat.le_of_ble_eq_true rfl)
  rw [lg_entry_eq]
  generalize (lg_sl ([.int v0, .long v1, .long v3]) ++ List.replicate (11 - (lg_sl ([.int v0, .long v1, .long v3])).length) Slot.unset).toArray = ls at hl ⊢
  have hl : lv_has ls 11 [(0, .int v0), (1, .long v1), (3, .long v3)] := hl
  rw [fX0_product]
  exact wX0_product_0 C v0 v1 v3 (lv_sub hl [0, 1, 2] rfl)
set_option maxHeartbeats 4000000 in
set_option maxRecDepth 100000 in
theorem wX0_topOfQuotient_59 {p : Program} {l : Launch} {e : Env} {s : State} {m : MethodId} {args : Array Value} {below : List Frame} {meth : Method} {c : Code} (C : px_C p s m args meth c cX0_topOfQuotient 9 (some .long) RX0 wsX0_topOfQuotient) (v4 : Int64) (v6 : Int64) {ls : Array Slot} (hl : lv_has ls 9 [(4, .long v4), (6, .long v6)]) : W p l e { frames := 0, cells := 0, slots := 0, locals := 0 } s m args below meth c s.heap [] 0 0 (MQ below (px_Q (.long (fX0_topOfQuotient_59 v4 v6))) args s 0 0 (fun _ => False)) (F0 m 59 ls []) := by
  obtain ⟨hx, hb, hml, hown, hts, hr, hlocks⟩ := id C
  rw [fX0_topOfQuotient_59]
  refine lv_lload hx hb dX0_topOfQuotient_59 (lv_at hl 1 rfl) ?_
  refine lv_lconst (v := 0) hx hb dX0_topOfQuotient_61 (by decide) ?_
  refine px_lcmp_ne (tgt := 71) hx hb dX0_topOfQuotient_62 dX0_topOfQuotient_63 (by decide) (fun hc62 => ?_) (fun hc62 => ?_)
  · rw [if_pos hc62]
    refine lv_lload hx hb dX0_topOfQuotient_66 (lv_at hl 0 rfl) ?_
    refine lv_goto (tgt := 75) hx hb dX0_topOfQuotient_68 (by decide) ?_
    exact W.lret hx hb hr (fun t ht _ => ⟨rfl, ht⟩) (fun q h => by cases h) dX0_topOfQuotient_75
  · rw [if_neg hc62]
    refine lv_lload hx hb dX0_topOfQuotient_71 (lv_at hl 0 rfl) ?_
    refine lv_lconst (v := 1) hx hb dX0_topOfQuotient_73 (by decide) ?_
    refine lv_lor hx hb dX0_topOfQuotient_74 ?_
    exact W.lret hx hb hr (fun t ht _ => ⟨rfl, ht⟩) (fun q h => by cases h) dX0_topOfQuotient_75
set_option maxHeartbeats 4000000 in
set_option maxRecDepth 100000 in
theorem wX0_topOfQuotient_21 {p : Program} {l : Launch} {e : Env} {s : State} {m : MethodId} {args : Array Value} {below : List Frame} {meth : Method} {c : Code} (C : px_C p s m args meth c cX0_topOfQuotient 9 (some .long) RX0 wsX0_topOfQuotient) : ∀ (n : Nat) (v2 : Int64) (v4 : Int64) (v6 : Int64) (v8 : Int32) (hok : okX0_topOfQuotient_21 n v2 v4 v6 v8) (ls : Array Slot) (hl : lv_has ls 9 [(2, .long v2), (4, .long v4), (6, .long v6), (8, .int v8)]), W p l e { frames := 0, cells := 0, slots := 0, locals := 0 } s m args below meth c s.heap [] 0 0 (MQ below (px_Q (.long (fX0_topOfQuotient_21 n v2 v4 v6 v8))) args s 0 0 (fun _ => False)) (F0 m 21 ls []) := by
  obtain ⟨hx, hb, hml, hown, hts, hr, hlocks⟩ := id C
  intro n
  induction n with
  | zero => intro v2 v4 v6 v8 hok; exact hok.elim
  | succ n ih =>
    intro v2 v4 v6 v8 hok ls hl
    rw [fX0_topOfQuotient_21]
    rw [okX0_topOfQuotient_21] at hok
    refine lv_iload hx hb dX0_topOfQuotient_21 (lv_at hl 3 rfl) ?_
    refine lv_bipush (v := 6) hx hb dX0_topOfQuotient_23 (by decide) ?_
    refine px_icmp_ge (tgt := 59) hx hb dX0_topOfQuotient_25 (by decide) (fun hc25 => ?_) (fun hc25 => ?_)
    · rw [if_pos hc25]
      have hok := hok.1 hc25
      refine lv_lload hx hb dX0_topOfQuotient_28 (lv_at hl 2 rfl) ?_
      refine lv_bipush (v := 10) hx hb dX0_topOfQuotient_30 (by decide) ?_
      refine px_lshl hx hb dX0_topOfQuotient_32 ?_
      refine lv_lstore (lv' := [(6, .long (jshl v6 (10 : Int32))), (2, .long v2), (4, .long v4), (8, .int v8)]) hx hb dX0_topOfQuotient_33 hl (by decide) rfl (fun ls hl => ?_)
      refine lv_lload hx hb dX0_topOfQuotient_35 (lv_at hl 2 rfl) ?_
      refine lv_bipush (v := 10) hx hb dX0_topOfQuotient_37 (by decide) ?_
      refine px_lshl hx hb dX0_topOfQuotient_39 ?_
      refine lv_lload hx hb dX0_topOfQuotient_40 (lv_at hl 0 rfl) ?_
      refine lv_lload_n hx hb dX0_topOfQuotient_42 rfl (lv_at hl 1 rfl) ?_
      obtain ⟨hne, hok⟩ := hok
      refine lv_ldiv hx hb dX0_topOfQuotient_43 hne ?_
      refine lv_ladd hx hb dX0_topOfQuotient_44 ?_
      refine lv_lstore (lv' := [(4, .long ((jshl v4 (10 : Int32)) + ((jshl v6 (10 : Int32)) / v2))), (6, .long (jshl v6 (10 : Int32))), (2, .long v2), (8, .int v8)]) hx hb dX0_topOfQuotient_45 hl (by decide) rfl (fun ls hl => ?_)
      refine lv_lload hx hb dX0_topOfQuotient_47 (lv_at hl 1 rfl) ?_
      refine lv_lload_n hx hb dX0_topOfQuotient_49 rfl (lv_at hl 2 rfl) ?_
      obtain ⟨hne, hok⟩ := hok
      refine px_lrem hx hb dX0_topOfQuotient_50 hne ?_
      refine lv_lstore (lv' := [(6, .long (jrem (jshl v6 (10 : Int32)) v2)), (4, .long ((jshl v4 (10 : Int32)) + ((jshl v6 (10 : Int32)) / v2))), (2, .long v2), (8, .int v8)]) hx hb dX0_topOfQuotient_51 hl (by decide) rfl (fun ls hl => ?_)
      refine lv_iinc (v := (v8 + (1 : Int32))) (lv' := [(8, .int (v8 + (1 : Int32))), (6, .long (jrem (jshl v6 (10 : Int32)) v2)), (4, .long ((jshl v4 (10 : Int32)) + ((jshl v6 (10 : Int32)) / v2))), (2, .long v2)]) hx hb dX0_topOfQuotient_53 hl (k := 3) rfl (congrArg (HAdd.hAdd v8) (by decide : Int32.ofInt (1) = (1 : Int32))) (by decide) rfl (fun ls hl => ?_)
      refine lv_goto (tgt := 21) hx hb dX0_topOfQuotient_56 (by decide) ?_
      exact ih v2 ((jshl v4 (10 : Int32)) + ((jshl v6 (10 : Int32)) / v2)) (jrem (jshl v6 (10 : Int32)) v2) (v8 + (1 : Int32)) hok _ (lv_sub hl [3, 2, 1, 0] rfl)
    · rw [if_neg hc25]
      have hok := hok.2 hc25
      exact wX0_topOfQuotient_59 C v4 v6 (lv_sub hl [1, 2] rfl)
set_option maxHeartbeats 4000000 in
set_option maxRecDepth 100000 in
theorem wX0_topOfQuotient_0 {p : Program} {l : Launch} {e : Env} {s : State} {m : MethodId} {args : Array Value} {below : List Frame} {meth : Method} {c : Code} (C : px_C p s m args meth c cX0_topOfQuotient 9 (some .long) RX0 wsX0_topOfQuotient) (v0 : Int64) (v2 : Int64) (hok : okX0_topOfQuotient_0 v0 v2) {ls : Array Slot} (hl : lv_has ls 9 [(0, .long v0), (2, .long v2)]) : W p l e { frames := 0, cells := 0, slots := 0, locals := 0 } s m args below meth c s.heap [] 0 0 (MQ below (px_Q (.long (fX0_topOfQuotient_0 v0 v2))) args s 0 0 (fun _ => False)) (F0 m 0 ls []) := by
  obtain ⟨hx, hb, hml, hown, hts, hr, hlocks⟩ := id C
  rw [fX0_topOfQuotient_0]
  rw [okX0_topOfQuotient_0] at hok
  refine lv_lload_n hx hb dX0_topOfQuotient_0 rfl (lv_at hl 1 rfl) ?_
  refine lv_lconst (v := 0) hx hb dX0_topOfQuotient_1 (by decide) ?_
  refine px_lcmp_ne (tgt := 8) hx hb dX0_topOfQuotient_2 dX0_topOfQuotient_3 (by decide) (fun hc2 => ?_) (fun hc2 => ?_)
  · rw [if_pos hc2]
    have hok := hok.1 hc2
    refine lv_lconst (v := 0) hx hb dX0_topOfQuotient_6 (by decide) ?_
    exact W.lret hx hb hr (fun t ht _ => ⟨rfl, ht⟩) (fun q h => by cases h) dX0_topOfQuotient_7
  · rw [if_neg hc2]
    have hok := hok.2 hc2
    refine lv_lload_n hx hb dX0_topOfQuotient_8 rfl (lv_at hl 0 rfl) ?_
    refine lv_lload_n hx hb dX0_topOfQuotient_9 rfl (lv_at hl 1 rfl) ?_
    obtain ⟨hne, hok⟩ := hok
    refine lv_ldiv hx hb dX0_topOfQuotient_10 hne ?_
    refine lv_topl (fun v4_11 ev4_11 => ?_)
    rw [← ev4_11]
    rw [← ev4_11] at hok
    refine lv_lstore (lv' := [(4, .long v4_11), (0, .long v0), (2, .long v2)]) hx hb dX0_topOfQuotient_11 hl (by decide) rfl (fun ls hl => ?_)
    rw [fX0_topOfQuotient_13]
    rw [okX0_topOfQuotient_13] at hok
    refine lv_lload_n hx hb dX0_topOfQuotient_13 rfl (lv_at hl 1 rfl) ?_
    refine lv_lload_n hx hb dX0_topOfQuotient_14 rfl (lv_at hl 2 rfl) ?_
    obtain ⟨hne, hok⟩ := hok
    refine px_lrem hx hb dX0_topOfQuotient_15 hne ?_
    refine lv_topl (fun v6_16 ev6_16 => ?_)
    rw [← ev6_16]
    rw [← ev6_16] at hok
    refine lv_lstore (lv' := [(6, .long v6_16), (4, .long v4_11), (0, .long v0), (2, .long v2)]) hx hb dX0_topOfQuotient_16 hl (by decide) rfl (fun ls hl => ?_)
    rw [fX0_topOfQuotient_18]
    rw [okX0_topOfQuotient_18] at hok
    refine lv_iconst (v := 0) hx hb dX0_topOfQuotient_18 (by decide) ?_
    refine lv_istore (lv' := [(8, .int (0 : Int32)), (6, .long v6_16), (4, .long v4_11), (0, .long v0), (2, .long v2)]) hx hb dX0_topOfQuotient_19 hl (by decide) rfl (fun ls hl => ?_)
    exact wX0_topOfQuotient_21 C _ v2 v4_11 v6_16 (0 : Int32) hok _ (lv_sub hl [4, 2, 1, 0] rfl)
set_option maxHeartbeats 4000000 in
set_option maxRecDepth 100000 in
theorem kX0_topOfQuotient (l : Launch) (v0 : Int64) (v2 : Int64) (hok : okX0_topOfQuotient v0 v2) : px_M l yX0_topOfQuotient wsX0_topOfQuotient ({ frames := 0, cells := 0, slots := 0, locals := 0 }) [.long v0, .long v2] (.long (fX0_topOfQuotient v0 v2)) := by
  refine Met.ofW (cc := cX0_topOfQuotient) (maxL := 9) (ret := (some .long)) (by decide) rfl ?_
  intro p e s m args below meth c s₁ B hml hv
  cases hv
  have C : px_C p s m _ meth c cX0_topOfQuotient 9 (some .long) RX0 wsX0_topOfQuotient := ⟨B.exec, B.bytes, hml, findClass_of_methodNamed B.named, atoms_spec (ws := wsX0_topOfQuotient) B.pre, B.returns, B.notSynchronized⟩
  have hl := lv_entry ([.long v0, .long v2]) (n := 9) (Nat.le_of_ble_eq_true rfl)
  rw [lg_entry_eq]
  generalize (lg_sl ([.long v0, .long v2]) ++ List.replicate (9 - (lg_sl ([.long v0, .long v2])).length) Slot.unset).toArray = ls at hl ⊢
  have hl : lv_has ls 9 [(0, .long v0), (2, .long v2)] := hl
  rw [fX0_topOfQuotient]
  rw [okX0_topOfQuotient] at hok
  exact wX0_topOfQuotient_0 C v0 v2 hok (lv_sub hl [0, 1] rfl)
set_option maxHeartbeats 4000000 in
set_option maxRecDepth 100000 in
theorem wX0_quotient_44 {p : Program} {l : Launch} {e : Env} {s : State} {m : MethodId} {args : Array Value} {below : List Frame} {meth : Method} {c : Code} (C : px_C p s m args meth c cX0_quotient 14 (some .long) RX0 wsX0_quotient) (v0 : Int32) {ls : Array Slot} (hl : lv_has ls 14 [(0, .int v0)]) : W p l e { frames := 3, cells := 0, slots := 0, locals := 72 } s m args below meth c s.heap [] 0 0 (MQ below (px_Q (.long (fX0_quotient_44 v0))) args s 0 0 (fun _ => False)) (F0 m 44 ls []) := by
  obtain ⟨hx, hb, hml, hown, hts, hr, hlocks⟩ := id C
  rw [fX0_quotient_44]
  refine lv_iload_n hx hb dX0_quotient_44 rfl (lv_at hl 0 rfl) ?_
  refine px_S (As := [.int v0]) (rest := []) ⟨hx, hb, hml, hown, hts⟩ (kX0_notANumber l v0) (va_cwS 1 hts gX0_quotient_X0_notANumber rfl rfl rfl (by decide +kernel) ⟨Nat.le_of_ble_eq_true rfl, Nat.le_of_ble_eq_true rfl⟩) rfl hl.1 rfl (Nat.le_of_ble_eq_true rfl) dX0_quotient_45 (Nat.zero_le _) (Nat.zero_le _) ?_
  exact W.lret hx hb hr (fun t ht _ => ⟨rfl, ht⟩) (fun q h => by cases h) dX0_quotient_48
set_option maxHeartbeats 4000000 in
set_option maxRecDepth 100000 in
theorem wX0_quotient_85 {p : Program} {l : Launch} {e : Env} {s : State} {m : MethodId} {args : Array Value} {below : List Frame} {meth : Method} {c : Code} (C : px_C p s m args meth c cX0_quotient 14 (some .long) RX0 wsX0_quotient) (v0 : Int32) (v6 : Int32) {ls : Array Slot} (hl : lv_has ls 14 [(0, .int v0), (6, .int v6)]) : W p l e { frames := 3, cells := 0, slots := 0, locals := 72 } s m args below meth c s.heap [] 0 0 (MQ below (px_Q (.long (fX0_quotient_85 v0 v6))) args s 0 0 (fun _ => False)) (F0 m 85 ls []) := by
  obtain ⟨hx, hb, hml, hown, hts, hr, hlocks⟩ := id C
  rw [fX0_quotient_85]
  refine lv_iload_n hx hb dX0_quotient_85 rfl (lv_at hl 0 rfl) ?_
  refine lv_iload hx hb dX0_quotient_86 (lv_at hl 1 rfl) ?_
  refine lv_iload_n hx hb dX0_quotient_88 rfl (lv_at hl 0 rfl) ?_
  refine px_S (As := [.int v0]) (rest := [.int v6, .int v0]) ⟨hx, hb, hml, hown, hts⟩ (kX0_infinity l v0) (va_cwS 1 hts gX0_quotient_X0_infinity rfl rfl rfl (by decide +kernel) ⟨Nat.le_of_ble_eq_true rfl, Nat.le_of_ble_eq_true rfl⟩) rfl hl.1 rfl (Nat.le_of_ble_eq_true rfl) dX0_quotient_89 (Nat.zero_le _) (Nat.zero_le _) ?_
  refine px_S (As := [.int v0, .int v6, .long (fX0_infinity v0)]) (rest := []) ⟨hx, hb, hml, hown, hts⟩ (kX0_signed l v0 v6 (fX0_infinity v0)) (va_cwS 3 hts gX0_quotient_X0_signed rfl rfl rfl (by decide +kernel) ⟨Nat.le_of_ble_eq_true rfl, Nat.le_of_ble_eq_true rfl⟩) rfl hl.1 rfl (Nat.le_of_ble_eq_true rfl) dX0_quotient_92 (Nat.zero_le _) (Nat.zero_le _) ?_
  exact W.lret hx hb hr (fun t ht _ => ⟨rfl, ht⟩) (fun q h => by cases h) dX0_quotient_95
set_option maxHeartbeats 4000000 in
set_option maxRecDepth 100000 in
theorem wX0_quotient_67 {p : Program} {l : Launch} {e : Env} {s : State} {m : MethodId} {args : Array Value} {below : List Frame} {meth : Method} {c : Code} (C : px_C p s m args meth c cX0_quotient 14 (some .long) RX0 wsX0_quotient) (v0 : Int32) (v1 : Int64) (v3 : Int64) (s0 : Int32) {ls : Array Slot} (hl : lv_has ls 14 [(0, .int v0), (1, .long v1), (3, .long v3)]) : W p l e { frames := 3, cells := 0, slots := 0, locals := 72 } s m args below meth c s.heap [] 0 0 (MQ below (px_Q (.long (fX0_quotient_67 v0 v1 v3 s0))) args s 0 0 (fun _ => False)) (F0 m 67 ls [.int s0]) := by
  obtain ⟨hx, hb, hml, hown, hts, hr, hlocks⟩ := id C
  rw [fX0_quotient_67]
  refine lv_istore (lv' := [(6, .int s0), (0, .int v0), (1, .long v1), (3, .long v3)]) hx hb dX0_quotient_67 hl (by decide) rfl (fun ls hl => ?_)
  refine lv_iload_n hx hb dX0_quotient_69 rfl (lv_at hl 1 rfl) ?_
  refine lv_lload_n hx hb dX0_quotient_70 rfl (lv_at hl 2 rfl) ?_
  refine px_S (As := [.int v0, .long v1]) (rest := []) ⟨hx, hb, hml, hown, hts⟩ (kX0_isInfinite l v0 v1) (va_cwS 2 hts gX0_quotient_X0_isInfinite rfl rfl rfl (by decide +kernel) ⟨Nat.le_of_ble_eq_true rfl, Nat.le_of_ble_eq_true rfl⟩) rfl hl.1 rfl (Nat.le_of_ble_eq_true rfl) dX0_quotient_71 (Nat.zero_le _) (Nat.zero_le _) ?_
  refine px_if_ne (tgt := 85) hx hb dX0_quotient_74 (by decide) (fun hc74 => ?_) (fun hc74 => ?_)
  · rw [if_pos hc74]
    refine lv_iload_n hx hb dX0_quotient_77 rfl (lv_at hl 1 rfl) ?_
    refine lv_lload_n hx hb dX0_quotient_78 rfl (lv_at hl 3 rfl) ?_
    refine px_S (As := [.int v0, .long v3]) (rest := []) ⟨hx, hb, hml, hown, hts⟩ (kX0_isZero l v0 v3) (va_cwS 2 hts gX0_quotient_X0_isZero rfl rfl rfl (by decide +kernel) ⟨Nat.le_of_ble_eq_true rfl, Nat.le_of_ble_eq_true rfl⟩) rfl hl.1 rfl (Nat.le_of_ble_eq_true rfl) dX0_quotient_79 (Nat.zero_le _) (Nat.zero_le _) ?_
    refine px_if_eq (tgt := 96) hx hb dX0_quotient_82 (by decide) (fun hc82 => ?_) (fun hc82 => ?_)
    · rw [if_pos hc82]
      refine lv_iload_n hx hb dX0_quotient_96 rfl (lv_at hl 1 rfl) ?_
      refine lv_lload_n hx hb dX0_quotient_97 rfl (lv_at hl 3 rfl) ?_
      refine px_S (As := [.int v0, .long v3]) (rest := []) ⟨hx, hb, hml, hown, hts⟩ (kX0_isInfinite l v0 v3) (va_cwS 2 hts gX0_quotient_X0_isInfinite rfl rfl rfl (by decide +kernel) ⟨Nat.le_of_ble_eq_true rfl, Nat.le_of_ble_eq_true rfl⟩) rfl hl.1 rfl (Nat.le_of_ble_eq_true rfl) dX0_quotient_98 (Nat.zero_le _) (Nat.zero_le _) ?_
      refine px_if_eq (tgt := 112) hx hb dX0_quotient_101 (by decide) (fun hc101 => ?_) (fun hc101 => ?_)
      · rw [if_pos hc101]
        refine lv_bipush (v := 52) hx hb dX0_quotient_112 (by decide) ?_
        refine lv_iload_n hx hb dX0_quotient_114 rfl (lv_at hl 1 rfl) ?_
        refine lv_lload_n hx hb dX0_quotient_115 rfl (lv_at hl 2 rfl) ?_
        refine px_S (As := [.int v0, .long v1]) (rest := [.int (52 : Int32)]) ⟨hx, hb, hml, hown, hts⟩ (kX0_magnitude l v0 v1) (va_cwS 2 hts gX0_quotient_X0_magnitude rfl rfl rfl (by decide +kernel) ⟨Nat.le_of_ble_eq_true rfl, Nat.le_of_ble_eq_true rfl⟩) rfl hl.1 rfl (Nat.le_of_ble_eq_true rfl) dX0_quotient_116 (Nat.zero_le _) (Nat.zero_le _) ?_
        refine px_S (As := [.int (52 : Int32), .long (fX0_magnitude v0 v1)]) (rest := []) ⟨hx, hb, hml, hown, hts⟩ (kX0_roomBelow l (52 : Int32) (fX0_magnitude v0 v1) (okX0_roomBelow_all (52 : Int32) (fX0_magnitude v0 v1))) (va_cwS 2 hts gX0_quotient_X0_roomBelow rfl rfl rfl (by decide +kernel) ⟨Nat.le_of_ble_eq_true rfl, Nat.le_of_ble_eq_true rfl⟩) rfl hl.1 rfl (Nat.le_of_ble_eq_true rfl) dX0_quotient_119 (Nat.zero_le _) (Nat.zero_le _) ?_
        refine lv_topi (fun v7_122 ev7_122 => ?_)
        rw [← ev7_122]
        refine lv_istore (lv' := [(7, .int v7_122), (6, .int s0), (0, .int v0), (1, .long v1), (3, .long v3)]) hx hb dX0_quotient_122 hl (by decide) rfl (fun ls hl => ?_)
        rw [fX0_quotient_124]
        refine lv_bipush (v := 52) hx hb dX0_quotient_124 (by decide) ?_
        refine lv_iload_n hx hb dX0_quotient_126 rfl (lv_at hl 2 rfl) ?_
        refine lv_lload_n hx hb dX0_quotient_127 rfl (lv_at hl 4 rfl) ?_
        refine px_S (As := [.int v0, .long v3]) (rest := [.int (52 : Int32)]) ⟨hx, hb, hml, hown, hts⟩ (kX0_magnitude l v0 v3) (va_cwS 2 hts gX0_quotient_X0_magnitude rfl rfl rfl (by decide +kernel) ⟨Nat.le_of_ble_eq_true rfl, Nat.le_of_ble_eq_true rfl⟩) rfl hl.1 rfl (Nat.le_of_ble_eq_true rfl) dX0_quotient_128 (Nat.zero_le _) (Nat.zero_le _) ?_
        refine px_S (As := [.int (52 : Int32), .long (fX0_magnitude v0 v3)]) (rest := []) ⟨hx, hb, hml, hown, hts⟩ (kX0_roomBelow l (52 : Int32) (fX0_magnitude v0 v3) (okX0_roomBelow_all (52 : Int32) (fX0_magnitude v0 v3))) (va_cwS 2 hts gX0_quotient_X0_roomBelow rfl rfl rfl (by decide +kernel) ⟨Nat.le_of_ble_eq_true rfl, Nat.le_of_ble_eq_true rfl⟩) rfl hl.1 rfl (Nat.le_of_ble_eq_true rfl) dX0_quotient_131 (Nat.zero_le _) (Nat.zero_le _) ?_
        refine lv_topi (fun v8_134 ev8_134 => ?_)
        rw [← ev8_134]
        refine lv_istore (lv' := [(8, .int v8_134), (7, .int v7_122), (6, .int s0), (0, .int v0), (1, .long v1), (3, .long v3)]) hx hb dX0_quotient_134 hl (by decide) rfl (fun ls hl => ?_)
        rw [fX0_quotient_136]
        refine lv_iload_n hx hb dX0_quotient_136 rfl (lv_at hl 3 rfl) ?_
        refine lv_lload_n hx hb dX0_quotient_137 rfl (lv_at hl 5 rfl) ?_
        refine px_S (As := [.int v0, .long v3]) (rest := []) ⟨hx, hb, hml, hown, hts⟩ (kX0_magnitude l v0 v3) (va_cwS 2 hts gX0_quotient_X0_magnitude rfl rfl rfl (by decide +kernel) ⟨Nat.le_of_ble_eq_true rfl, Nat.le_of_ble_eq_true rfl⟩) rfl hl.1 rfl (Nat.le_of_ble_eq_true rfl) dX0_quotient_138 (Nat.zero_le _) (Nat.zero_le _) ?_
        refine lv_iload hx hb dX0_quotient_141 (lv_at hl 0 rfl) ?_
        refine px_lshl hx hb dX0_quotient_143 ?_
        refine lv_topl (fun v9_144 ev9_144 => ?_)
        rw [← ev9_144]
        refine lv_lstore (lv' := [(9, .long v9_144), (8, .int v8_134), (7, .int v7_122), (6, .int s0), (0, .int v0), (1, .long v1), (3, .long v3)]) hx hb dX0_quotient_144 hl (by decide) rfl (fun ls hl => ?_)
        rw [fX0_quotient_146]
        refine lv_iload_n hx hb dX0_quotient_146 rfl (lv_at hl 4 rfl) ?_
        refine lv_lload_n hx hb dX0_quotient_147 rfl (lv_at hl 5 rfl) ?_
        refine px_S (As := [.int v0, .long v1]) (rest := []) ⟨hx, hb, hml, hown, hts⟩ (kX0_magnitude l v0 v1) (va_cwS 2 hts gX0_quotient_X0_magnitude rfl rfl rfl (by decide +kernel) ⟨Nat.le_of_ble_eq_true rfl, Nat.le_of_ble_eq_true rfl⟩) rfl hl.1 rfl (Nat.le_of_ble_eq_true rfl) dX0_quotient_148 (Nat.zero_le _) (Nat.zero_le _) ?_
        refine lv_iload hx hb dX0_quotient_151 (lv_at hl 2 rfl) ?_
        refine px_lshl hx hb dX0_quotient_153 ?_
        refine lv_lload hx hb dX0_quotient_154 (lv_at hl 0 rfl) ?_
        refine px_S (As := [.long (jshl (fX0_magnitude v0 v1) v7_122), .long v9_144]) (rest := []) ⟨hx, hb, hml, hown, hts⟩ (kX0_topOfQuotient l (jshl (fX0_magnitude v0 v1) v7_122) v9_144 (okX0_topOfQuotient_all (jshl (fX0_magnitude v0 v1) v7_122) v9_144)) (va_cwS 2 hts gX0_quotient_X0_topOfQuotient rfl rfl rfl (by decide +kernel) ⟨Nat.le_of_ble_eq_true rfl, Nat.le_of_ble_eq_true rfl⟩) rfl hl.1 rfl (Nat.le_of_ble_eq_true rfl) dX0_quotient_156 (Nat.zero_le _) (Nat.zero_le _) ?_
        refine lv_topl (fun v11_159 ev11_159 => ?_)
        rw [← ev11_159]
        refine lv_lstore (lv' := [(11, .long v11_159), (9, .long v9_144), (8, .int v8_134), (7, .int v7_122), (6, .int s0), (0, .int v0), (1, .long v1), (3, .long v3)]) hx hb dX0_quotient_159 hl (by decide) rfl (fun ls hl => ?_)
        rw [fX0_quotient_161]
        refine lv_iload_n hx hb dX0_quotient_161 rfl (lv_at hl 5 rfl) ?_
        refine lv_lload_n hx hb dX0_quotient_162 rfl (lv_at hl 6 rfl) ?_
        refine px_S (As := [.int v0, .long v1]) (rest := []) ⟨hx, hb, hml, hown, hts⟩ (kX0_exponent l v0 v1) (va_cwS 2 hts gX0_quotient_X0_exponent rfl rfl rfl (by decide +kernel) ⟨Nat.le_of_ble_eq_true rfl, Nat.le_of_ble_eq_true rfl⟩) rfl hl.1 rfl (Nat.le_of_ble_eq_true rfl) dX0_quotient_163 (Nat.zero_le _) (Nat.zero_le _) ?_
        refine lv_iload hx hb dX0_quotient_166 (lv_at hl 3 rfl) ?_
        refine lv_isub hx hb dX0_quotient_168 ?_
        refine lv_iload_n hx hb dX0_quotient_169 rfl (lv_at hl 5 rfl) ?_
        refine lv_lload_n hx hb dX0_quotient_170 rfl (lv_at hl 7 rfl) ?_
        refine px_S (As := [.int v0, .long v3]) (rest := [.int ((fX0_exponent v0 v1) - v7_122)]) ⟨hx, hb, hml, hown, hts⟩ (kX0_exponent l v0 v3) (va_cwS 2 hts gX0_quotient_X0_exponent rfl rfl rfl (by decide +kernel) ⟨Nat.le_of_ble_eq_true rfl, Nat.le_of_ble_eq_true rfl⟩) rfl hl.1 rfl (Nat.le_of_ble_eq_true rfl) dX0_quotient_171 (Nat.zero_le _) (Nat.zero_le _) ?_
        refine lv_isub hx hb dX0_quotient_174 ?_
        refine lv_iload hx hb dX0_quotient_175 (lv_at hl 2 rfl) ?_
        refine lv_iadd hx hb dX0_quotient_177 ?_
        refine lv_topi (fun v13_178 ev13_178 => ?_)
        rw [← ev13_178]
        refine lv_istore (lv' := [(13, .int v13_178), (11, .long v11_159), (9, .long v9_144), (8, .int v8_134), (7, .int v7_122), (6, .int s0), (0, .int v0), (1, .long v1), (3, .long v3)]) hx hb dX0_quotient_178 hl (by decide) rfl (fun ls hl => ?_)
        rw [fX0_quotient_180]
        refine lv_iload_n hx hb dX0_quotient_180 rfl (lv_at hl 6 rfl) ?_
        refine lv_iload hx hb dX0_quotient_181 (lv_at hl 5 rfl) ?_
        refine lv_lload hx hb dX0_quotient_183 (lv_at hl 1 rfl) ?_
        refine lv_iload hx hb dX0_quotient_185 (lv_at hl 0 rfl) ?_
        refine lv_bipush (v := 60) hx hb dX0_quotient_187 (by decide) ?_
        refine lv_isub hx hb dX0_quotient_189 ?_
        refine px_S (As := [.int v0, .int s0, .long v11_159, .int (v13_178 - (60 : Int32))]) (rest := []) ⟨hx, hb, hml, hown, hts⟩ (kX0_nearest l v0 s0 v11_159 (v13_178 - (60 : Int32))) (va_cwS 4 hts gX0_quotient_X0_nearest rfl rfl rfl (by decide +kernel) ⟨Nat.le_of_ble_eq_true rfl, Nat.le_of_ble_eq_true rfl⟩) rfl hl.1 rfl (Nat.le_of_ble_eq_true rfl) dX0_quotient_190 (Nat.zero_le _) (Nat.zero_le _) ?_
        exact W.lret hx hb hr (fun t ht _ => ⟨rfl, ht⟩) (fun q h => by cases h) dX0_quotient_193
      · rw [if_neg hc101]
        refine lv_iload_n hx hb dX0_quotient_104 rfl (lv_at hl 1 rfl) ?_
        refine lv_iload hx hb dX0_quotient_105 (lv_at hl 0 rfl) ?_
        refine lv_lconst (v := 0) hx hb dX0_quotient_107 (by decide) ?_
        refine px_S (As := [.int v0, .int s0, .long (0 : Int64)]) (rest := []) ⟨hx, hb, hml, hown, hts⟩ (kX0_signed l v0 s0 (0 : Int64)) (va_cwS 3 hts gX0_quotient_X0_signed rfl rfl rfl (by decide +kernel) ⟨Nat.le_of_ble_eq_true rfl, Nat.le_of_ble_eq_true rfl⟩) rfl hl.1 rfl (Nat.le_of_ble_eq_true rfl) dX0_quotient_108 (Nat.zero_le _) (Nat.zero_le _) ?_
        exact W.lret hx hb hr (fun t ht _ => ⟨rfl, ht⟩) (fun q h => by cases h) dX0_quotient_111
    · rw [if_neg hc82]
      exact wX0_quotient_85 C v0 s0 (lv_sub hl [1, 0] rfl)
  · rw [if_neg hc74]
    exact wX0_quotient_85 C v0 s0 (lv_sub hl [1, 0] rfl)
set_option maxHeartbeats 4000000 in
set_option maxRecDepth 100000 in
theorem wX0_quotient_49 {p : Program} {l : Launch} {e : Env} {s : State} {m : MethodId} {args : Array Value} {below : List Frame} {meth : Method} {c : Code} (C : px_C p s m args meth c cX0_quotient 14 (some .long) RX0 wsX0_quotient) (v0 : Int32) (v1 : Int64) (v3 : Int64) {ls : Array Slot} (hl : lv_has ls 14 [(0, .int v0), (1, .long v1), (3, .long v3)]) : W p l e { frames := 3, cells := 0, slots := 0, locals := 72 } s m args below meth c s.heap [] 0 0 (MQ below (px_Q (.long (fX0_quotient_49 v0 v1 v3))) args s 0 0 (fun _ => False)) (F0 m 49 ls []) := by
  obtain ⟨hx, hb, hml, hown, hts, hr, hlocks⟩ := id C
  rw [fX0_quotient_49]
  refine lv_iload_n hx hb dX0_quotient_49 rfl (lv_at hl 0 rfl) ?_
  refine lv_lload_n hx hb dX0_quotient_50 rfl (lv_at hl 1 rfl) ?_
  refine px_S (As := [.int v0, .long v1]) (rest := []) ⟨hx, hb, hml, hown, hts⟩ (kX0_isNegative l v0 v1) (va_cwS 2 hts gX0_quotient_X0_isNegative rfl rfl rfl (by decide +kernel) ⟨Nat.le_of_ble_eq_true rfl, Nat.le_of_ble_eq_true rfl⟩) rfl hl.1 rfl (Nat.le_of_ble_eq_true rfl) dX0_quotient_51 (Nat.zero_le _) (Nat.zero_le _) ?_
  refine lv_iload_n hx hb dX0_quotient_54 rfl (lv_at hl 0 rfl) ?_
  refine lv_lload_n hx hb dX0_quotient_55 rfl (lv_at hl 2 rfl) ?_
  refine px_S (As := [.int v0, .long v3]) (rest := [.int (fX0_isNegative v0 v1)]) ⟨hx, hb, hml, hown, hts⟩ (kX0_isNegative l v0 v3) (va_cwS 2 hts gX0_quotient_X0_isNegative rfl rfl rfl (by decide +kernel) ⟨Nat.le_of_ble_eq_true rfl, Nat.le_of_ble_eq_true rfl⟩) rfl hl.1 rfl (Nat.le_of_ble_eq_true rfl) dX0_quotient_56 (Nat.zero_le _) (Nat.zero_le _) ?_
  refine px_icmp_eq (tgt := 66) hx hb dX0_quotient_59 (by decide) (fun hc59 => ?_) (fun hc59 => ?_)
  · rw [if_pos hc59]
    refine lv_iconst (v := 0) hx hb dX0_quotient_66 (by decide) ?_
    exact wX0_quotient_67 C v0 v1 v3 (0 : Int32) (lv_sub hl [0, 1, 2] rfl)
  · rw [if_neg hc59]
    refine lv_iconst (v := 1) hx hb dX0_quotient_62 (by decide) ?_
    refine lv_goto (tgt := 67) hx hb dX0_quotient_63 (by decide) ?_
    exact wX0_quotient_67 C v0 v1 v3 (1 : Int32) (lv_sub hl [0, 1, 2] rfl)
set_option maxHeartbeats 4000000 in
set_option maxRecDepth 100000 in
theorem wX0_quotient_21 {p : Program} {l : Launch} {e : Env} {s : State} {m : MethodId} {args : Array Value} {below : List Frame} {meth : Method} {c : Code} (C : px_C p s m args meth c cX0_quotient 14 (some .long) RX0 wsX0_quotient) (v0 : Int32) (v1 : Int64) (v3 : Int64) (s0 : Int32) {ls : Array Slot} (hl : lv_has ls 14 [(0, .int v0), (1, .long v1), (3, .long v3)]) : W p l e { frames := 3, cells := 0, slots := 0, locals := 72 } s m args below meth c s.heap [] 0 0 (MQ below (px_Q (.long (fX0_quotient_21 v0 v1 v3 s0))) args s 0 0 (fun _ => False)) (F0 m 21 ls [.int s0]) := by
  obtain ⟨hx, hb, hml, hown, hts, hr, hlocks⟩ := id C
  rw [fX0_quotient_21]
  refine lv_istore (lv' := [(5, .int s0), (0, .int v0), (1, .long v1), (3, .long v3)]) hx hb dX0_quotient_21 hl (by decide) rfl (fun ls hl => ?_)
  refine lv_iload hx hb dX0_quotient_23 (lv_at hl 0 rfl) ?_
  refine px_if_ne (tgt := 44) hx hb dX0_quotient_25 (by decide) (fun hc25 => ?_) (fun hc25 => ?_)
  · rw [if_pos hc25]
    refine lv_iload_n hx hb dX0_quotient_28 rfl (lv_at hl 1 rfl) ?_
    refine lv_lload_n hx hb dX0_quotient_29 rfl (lv_at hl 2 rfl) ?_
    refine px_S (As := [.int v0, .long v1]) (rest := []) ⟨hx, hb, hml, hown, hts⟩ (kX0_isZero l v0 v1) (va_cwS 2 hts gX0_quotient_X0_isZero rfl rfl rfl (by decide +kernel) ⟨Nat.le_of_ble_eq_true rfl, Nat.le_of_ble_eq_true rfl⟩) rfl hl.1 rfl (Nat.le_of_ble_eq_true rfl) dX0_quotient_30 (Nat.zero_le _) (Nat.zero_le _) ?_
    refine px_if_eq (tgt := 49) hx hb dX0_quotient_33 (by decide) (fun hc33 => ?_) (fun hc33 => ?_)
    · rw [if_pos hc33]
      exact wX0_quotient_49 C v0 v1 v3 (lv_sub hl [1, 2, 3] rfl)
    · rw [if_neg hc33]
      refine lv_iload_n hx hb dX0_quotient_36 rfl (lv_at hl 1 rfl) ?_
      refine lv_lload_n hx hb dX0_quotient_37 rfl (lv_at hl 3 rfl) ?_
      refine px_S (As := [.int v0, .long v3]) (rest := []) ⟨hx, hb, hml, hown, hts⟩ (kX0_isZero l v0 v3) (va_cwS 2 hts gX0_quotient_X0_isZero rfl rfl rfl (by decide +kernel) ⟨Nat.le_of_ble_eq_true rfl, Nat.le_of_ble_eq_true rfl⟩) rfl hl.1 rfl (Nat.le_of_ble_eq_true rfl) dX0_quotient_38 (Nat.zero_le _) (Nat.zero_le _) ?_
      refine px_if_eq (tgt := 49) hx hb dX0_quotient_41 (by decide) (fun hc41 => ?_) (fun hc41 => ?_)
      · rw [if_pos hc41]
        exact wX0_quotient_49 C v0 v1 v3 (lv_sub hl [1, 2, 3] rfl)
      · rw [if_neg hc41]
        exact wX0_quotient_44 C v0 (lv_sub hl [1] rfl)
  · rw [if_neg hc25]
    exact wX0_quotient_44 C v0 (lv_sub hl [1] rfl)
set_option maxHeartbeats 4000000 in
set_option maxRecDepth 100000 in
theorem wX0_quotient_20 {p : Program} {l : Launch} {e : Env} {s : State} {m : MethodId} {args : Array Value} {below : List Frame} {meth : Method} {c : Code} (C : px_C p s m args meth c cX0_quotient 14 (some .long) RX0 wsX0_quotient) (v0 : Int32) (v1 : Int64) (v3 : Int64) {ls : Array Slot} (hl : lv_has ls 14 [(0, .int v0), (1, .long v1), (3, .long v3)]) : W p l e { frames := 3, cells := 0, slots := 0, locals := 72 } s m args below meth c s.heap [] 0 0 (MQ below (px_Q (.long (fX0_quotient_20 v0 v1 v3))) args s 0 0 (fun _ => False)) (F0 m 20 ls []) := by
  obtain ⟨hx, hb, hml, hown, hts, hr, hlocks⟩ := id C
  rw [fX0_quotient_20]
  refine lv_iconst (v := 0) hx hb dX0_quotient_20 (by decide) ?_
  exact wX0_quotient_21 C v0 v1 v3 (0 : Int32) (lv_sub hl [0, 1, 2] rfl)
set_option maxHeartbeats 4000000 in
set_option maxRecDepth 100000 in
theorem wX0_quotient_0 {p : Program} {l : Launch} {e : Env} {s : State} {m : MethodId} {args : Array Value} {below : List Frame} {meth : Method} {c : Code} (C : px_C p s m args meth c cX0_quotient 14 (some .long) RX0 wsX0_quotient) (v0 : Int32) (v1 : Int64) (v3 : Int64) {ls : Array Slot} (hl : lv_has ls 14 [(0, .int v0), (1, .long v1), (3, .long v3)]) : W p l e { frames := 3, cells := 0, slots := 0, locals := 72 } s m args below meth c s.heap [] 0 0 (MQ below (px_Q (.long (fX0_quotient_0 v0 v1 v3))) args s 0 0 (fun _ => False)) (F0 m 0 ls []) := by
  obtain ⟨hx, hb, hml, hown, hts, hr, hlocks⟩ := id C
  rw [fX0_quotient_0]
  refine lv_iload_n hx hb dX0_quotient_0 rfl (lv_at hl 0 rfl) ?_
  refine lv_lload_n hx hb dX0_quotient_1 rfl (lv_at hl 1 rfl) ?_
  refine px_S (As := [.int v0, .long v1]) (rest := []) ⟨hx, hb, hml, hown, hts⟩ (kX0_isInfinite l v0 v1) (va_cwS 2 hts gX0_quotient_X0_isInfinite rfl rfl rfl (by decide +kernel) ⟨Nat.le_of_ble_eq_true rfl, Nat.le_of_ble_eq_true rfl⟩) rfl hl.1 rfl (Nat.le_of_ble_eq_true rfl) dX0_quotient_2 (Nat.zero_le _) (Nat.zero_le _) ?_
  refine px_if_eq (tgt := 20) hx hb dX0_quotient_5 (by decide) (fun hc5 => ?_) (fun hc5 => ?_)
  · rw [if_pos hc5]
    exact wX0_quotient_20 C v0 v1 v3 (lv_sub hl [0, 1, 2] rfl)
  · rw [if_neg hc5]
    refine lv_iload_n hx hb dX0_quotient_8 rfl (lv_at hl 0 rfl) ?_
    refine lv_lload_n hx hb dX0_quotient_9 rfl (lv_at hl 2 rfl) ?_
    refine px_S (As := [.int v0, .long v3]) (rest := []) ⟨hx, hb, hml, hown, hts⟩ (kX0_isInfinite l v0 v3) (va_cwS 2 hts gX0_quotient_X0_isInfinite rfl rfl rfl (by decide +kernel) ⟨Nat.le_of_ble_eq_true rfl, Nat.le_of_ble_eq_true rfl⟩) rfl hl.1 rfl (Nat.le_of_ble_eq_true rfl) dX0_quotient_10 (Nat.zero_le _) (Nat.zero_le _) ?_
    refine px_if_eq (tgt := 20) hx hb dX0_quotient_13 (by decide) (fun hc13 => ?_) (fun hc13 => ?_)
    · rw [if_pos hc13]
      exact wX0_quotient_20 C v0 v1 v3 (lv_sub hl [0, 1, 2] rfl)
    · rw [if_neg hc13]
      refine lv_iconst (v := 1) hx hb dX0_quotient_16 (by decide) ?_
      refine lv_goto (tgt := 21) hx hb dX0_quotient_17 (by decide) ?_
      exact wX0_quotient_21 C v0 v1 v3 (1 : Int32) (lv_sub hl [0, 1, 2] rfl)
set_option maxHeartbeats 4000000 in
set_option maxRecDepth 100000 in
theorem kX0_quotient (l : Launch) (v0 : Int32) (v1 : Int64) (v3 : Int64) : px_M l yX0_quotient wsX0_quotient ({ frames := 3, cells := 0, slots := 0, locals := 72 }) [.int v0, .long v1, .long v3] (.long (fX0_quotient v0 v1 v3)) := by
  refine Met.ofW (cc := cX0_quotient) (maxL := 14) (ret := (some .long)) (by decide) rfl ?_
  intro p e s m args below meth c s₁ B hml hv
  cases hv
  have C : px_C p s m _ meth c cX0_quotient 14 (some .long) RX0 wsX0_quotient := ⟨B.exec, B.bytes, hml, findClass_of_methodNamed B.named, atoms_spec (ws := wsX0_quotient) B.pre, B.returns, B.notSynchronized⟩
  have hl := lv_entry ([.int v0, .long v1, .long v3]) (n := 14) (Nat.le_of_ble_eq_true rfl)
  rw [lg_entry_eq]
  generalize (lg_sl ([.int v0, .long v1, .long v3]) ++ List.replicate (14 - (lg_sl ([.int v0, .long v1, .long v3])).length) Slot.unset).toArray = ls at hl ⊢
  have hl : lv_has ls 14 [(0, .int v0), (1, .long v1), (3, .long v3)] := hl
  rw [fX0_quotient]
  exact wX0_quotient_0 C v0 v1 v3 (lv_sub hl [0, 1, 2] rfl)
set_option maxHeartbeats 4000000 in
set_option maxRecDepth 100000 in
theorem wX0_restAbove_16 {p : Program} {l : Launch} {e : Env} {s : State} {m : MethodId} {args : Array Value} {below : List Frame} {meth : Method} {c : Code} (C : px_C p s m args meth c cX0_restAbove 8 (some .long) RX0 wsX0_restAbove) : ∀ (n : Nat) (v3 : Int64) (v5 : Int64) (v7 : Int32) (hok : okX0_restAbove_16 n v3 v5 v7) (ls : Array Slot) (hl : lv_has ls 8 [(3, .long v3), (5, .long v5), (7, .int v7)]), W p l e { frames := 1, cells := 0, slots := 0, locals := 15 } s m args below meth c s.heap [] 0 0 (MQ below (px_Q (.long (fX0_restAbove_16 n v3 v5 v7))) args s 0 0 (fun _ => False)) (F0 m 16 ls []) := by
  obtain ⟨hx, hb, hml, hown, hts, hr, hlocks⟩ := id C
  intro n
  induction n with
  | zero => intro v3 v5 v7 hok; exact hok.elim
  | succ n ih =>
    intro v3 v5 v7 hok ls hl
    rw [fX0_restAbove_16]
    rw [okX0_restAbove_16] at hok
    refine lv_iload hx hb dX0_restAbove_16 (lv_at hl 2 rfl) ?_
    refine px_if_le (tgt := 41) hx hb dX0_restAbove_18 (by decide) (fun hc18 => ?_) (fun hc18 => ?_)
    · rw [if_pos hc18]
      have hok := hok.1 hc18
      refine lv_lload hx hb dX0_restAbove_21 (lv_at hl 1 rfl) ?_
      refine lv_iload hx hb dX0_restAbove_23 (lv_at hl 2 rfl) ?_
      refine lv_bipush (v := 10) hx hb dX0_restAbove_25 (by decide) ?_
      refine px_mmin hx hb (hml.trans hl.1.symm) hown (hts (.methodLink RX0 113 Lib.Math.min.name) (by decide +kernel)) (hts (.static Lib.Math.min.name) (by decide +kernel)) (hts (.initialized "java/lang/Math") (by decide +kernel)) (hts (.code Lib.Math.min.name Lib.Math.min.code 2 (some .int)) (by decide +kernel)) (Nat.le_of_ble_eq_true rfl) (Nat.le_of_ble_eq_true rfl) (Nat.zero_le _) (Nat.zero_le _) dX0_restAbove_27 ?_
      refine px_lshl hx hb dX0_restAbove_30 ?_
      refine lv_lload_n hx hb dX0_restAbove_31 rfl (lv_at hl 0 rfl) ?_
      obtain ⟨hne, hok⟩ := hok
      refine px_lrem hx hb dX0_restAbove_32 hne ?_
      refine lv_lstore (lv' := [(5, .long (jrem (jshl v5 (imin v7 (10 : Int32))) v3)), (3, .long v3), (7, .int v7)]) hx hb dX0_restAbove_33 hl (by decide) rfl (fun ls hl => ?_)
      refine lv_iinc (v := (v7 + (-10 : Int32))) (lv' := [(7, .int (v7 + (-10 : Int32))), (5, .long (jrem (jshl v5 (imin v7 (10 : Int32))) v3)), (3, .long v3)]) hx hb dX0_restAbove_35 hl (k := 2) rfl (congrArg (HAdd.hAdd v7) (by decide : Int32.ofInt (-10) = (-10 : Int32))) (by decide) rfl (fun ls hl => ?_)
      refine lv_goto (tgt := 16) hx hb dX0_restAbove_38 (by decide) ?_
      exact ih v3 (jrem (jshl v5 (imin v7 (10 : Int32))) v3) (v7 + (-10 : Int32)) hok _ (lv_sub hl [2, 1, 0] rfl)
    · rw [if_neg hc18]
      have hok := hok.2 hc18
      refine lv_lload hx hb dX0_restAbove_41 (lv_at hl 1 rfl) ?_
      exact W.lret hx hb hr (fun t ht _ => ⟨rfl, ht⟩) (fun q h => by cases h) dX0_restAbove_43
set_option maxHeartbeats 4000000 in
set_option maxRecDepth 100000 in
theorem wX0_restAbove_0 {p : Program} {l : Launch} {e : Env} {s : State} {m : MethodId} {args : Array Value} {below : List Frame} {meth : Method} {c : Code} (C : px_C p s m args meth c cX0_restAbove 8 (some .long) RX0 wsX0_restAbove) (v0 : Int64) (v2 : Int32) (v3 : Int64) (hok : okX0_restAbove_0 v0 v2 v3) {ls : Array Slot} (hl : lv_has ls 8 [(0, .long v0), (2, .int v2), (3, .long v3)]) : W p l e { frames := 1, cells := 0, slots := 0, locals := 15 } s m args below meth c s.heap [] 0 0 (MQ below (px_Q (.long (fX0_restAbove_0 v0 v2 v3))) args s 0 0 (fun _ => False)) (F0 m 0 ls []) := by
  obtain ⟨hx, hb, hml, hown, hts, hr, hlocks⟩ := id C
  rw [fX0_restAbove_0]
  rw [okX0_restAbove_0] at hok
  refine lv_lload_n hx hb dX0_restAbove_0 rfl (lv_at hl 2 rfl) ?_
  refine lv_lconst (v := 0) hx hb dX0_restAbove_1 (by decide) ?_
  refine px_lcmp_ne (tgt := 8) hx hb dX0_restAbove_2 dX0_restAbove_3 (by decide) (fun hc2 => ?_) (fun hc2 => ?_)
  · rw [if_pos hc2]
    have hok := hok.1 hc2
    refine lv_lconst (v := 0) hx hb dX0_restAbove_6 (by decide) ?_
    exact W.lret hx hb hr (fun t ht _ => ⟨rfl, ht⟩) (fun q h => by cases h) dX0_restAbove_7
  · rw [if_neg hc2]
    have hok := hok.2 hc2
    refine lv_lload_n hx hb dX0_restAbove_8 rfl (lv_at hl 0 rfl) ?_
    refine lv_lload_n hx hb dX0_restAbove_9 rfl (lv_at hl 2 rfl) ?_
    obtain ⟨hne, hok⟩ := hok
    refine px_lrem hx hb dX0_restAbove_10 hne ?_
    refine lv_topl (fun v5_11 ev5_11 => ?_)
    rw [← ev5_11]
    rw [← ev5_11] at hok
    refine lv_lstore (lv' := [(5, .long v5_11), (0, .long v0), (2, .int v2), (3, .long v3)]) hx hb dX0_restAbove_11 hl (by decide) rfl (fun ls hl => ?_)
    rw [fX0_restAbove_13]
    rw [okX0_restAbove_13] at hok
    refine lv_iload_n hx hb dX0_restAbove_13 rfl (lv_at hl 2 rfl) ?_
    refine lv_istore (lv' := [(7, .int v2), (5, .long v5_11), (0, .long v0), (2, .int v2), (3, .long v3)]) hx hb dX0_restAbove_14 hl (by decide) rfl (fun ls hl => ?_)
    exact wX0_restAbove_16 C _ v3 v5_11 v2 hok _ (lv_sub hl [4, 1, 0] rfl)
set_option maxHeartbeats 4000000 in
set_option maxRecDepth 100000 in
theorem kX0_restAbove (l : Launch) (v0 : Int64) (v2 : Int32) (v3 : Int64) (hok : okX0_restAbove v0 v2 v3) : px_M l yX0_restAbove wsX0_restAbove ({ frames := 1, cells := 0, slots := 0, locals := 15 }) [.long v0, .int v2, .long v3] (.long (fX0_restAbove v0 v2 v3)) := by
  refine Met.ofW (cc := cX0_restAbove) (maxL := 8) (ret := (some .long)) (by decide) rfl ?_
  intro p e s m args below meth c s₁ B hml hv
  cases hv
  have C : px_C p s m _ meth c cX0_restAbove 8 (some .long) RX0 wsX0_restAbove := ⟨B.exec, B.bytes, hml, findClass_of_methodNamed B.named, atoms_spec (ws := wsX0_restAbove) B.pre, B.returns, B.notSynchronized⟩
  have hl := lv_entry ([.long v0, .int v2, .long v3]) (n := 8) (Nat.le_of_ble_eq_true rfl)
  rw [lg_entry_eq]
  generalize (lg_sl ([.long v0, .int v2, .long v3]) ++ List.replicate (8 - (lg_sl ([.long v0, .int v2, .long v3])).length) Slot.unset).toArray = ls at hl ⊢
  have hl : lv_has ls 8 [(0, .long v0), (2, .int v2), (3, .long v3)] := hl
  rw [fX0_restAbove]
  rw [okX0_restAbove] at hok
  exact wX0_restAbove_0 C v0 v2 v3 hok (lv_sub hl [0, 1, 2] rfl)
set_option maxHeartbeats 4000000 in
set_option maxRecDepth 100000 in
theorem wX0_rest_16 {p : Program} {l : Launch} {e : Env} {s : State} {m : MethodId} {args : Array Value} {below : List Frame} {meth : Method} {c : Code} (C : px_C p s m args meth c cX0_rest 11 (some .long) RX0 wsX0_rest) (v0 : Int32) {ls : Array Slot} (hl : lv_has ls 11 [(0, .int v0)]) : W p l e { frames := 3, cells := 0, slots := 0, locals := 72 } s m args below meth c s.heap [] 0 0 (MQ below (px_Q (.long (fX0_rest_16 v0))) args s 0 0 (fun _ => False)) (F0 m 16 ls []) := by
  obtain ⟨hx, hb, hml, hown, hts, hr, hlocks⟩ := id C
  rw [fX0_rest_16]
  refine lv_iload_n hx hb dX0_rest_16 rfl (lv_at hl 0 rfl) ?_
  refine px_S (As := [.int v0]) (rest := []) ⟨hx, hb, hml, hown, hts⟩ (kX0_notANumber l v0) (va_cwS 1 hts gX0_rest_X0_notANumber rfl rfl rfl (by decide +kernel) ⟨Nat.le_of_ble_eq_true rfl, Nat.le_of_ble_eq_true rfl⟩) rfl hl.1 rfl (Nat.le_of_ble_eq_true rfl) dX0_rest_17 (Nat.zero_le _) (Nat.zero_le _) ?_
  exact W.lret hx hb hr (fun t ht _ => ⟨rfl, ht⟩) (fun q h => by cases h) dX0_rest_20
set_option maxHeartbeats 4000000 in
set_option maxRecDepth 100000 in
theorem wX0_rest_0 {p : Program} {l : Launch} {e : Env} {s : State} {m : MethodId} {args : Array Value} {below : List Frame} {meth : Method} {c : Code} (C : px_C p s m args meth c cX0_rest 11 (some .long) RX0 wsX0_rest) (v0 : Int32) (v1 : Int64) (v3 : Int64) {ls : Array Slot} (hl : lv_has ls 11 [(0, .int v0), (1, .long v1), (3, .long v3)]) : W p l e { frames := 3, cells := 0, slots := 0, locals := 72 } s m args below meth c s.heap [] 0 0 (MQ below (px_Q (.long (fX0_rest_0 v0 v1 v3))) args s 0 0 (fun _ => False)) (F0 m 0 ls []) := by
  obtain ⟨hx, hb, hml, hown, hts, hr, hlocks⟩ := id C
  rw [fX0_rest_0]
  refine lv_iload_n hx hb dX0_rest_0 rfl (lv_at hl 0 rfl) ?_
  refine lv_lload_n hx hb dX0_rest_1 rfl (lv_at hl 1 rfl) ?_
  refine px_S (As := [.int v0, .long v1]) (rest := []) ⟨hx, hb, hml, hown, hts⟩ (kX0_isInfinite l v0 v1) (va_cwS 2 hts gX0_rest_X0_isInfinite rfl rfl rfl (by decide +kernel) ⟨Nat.le_of_ble_eq_true rfl, Nat.le_of_ble_eq_true rfl⟩) rfl hl.1 rfl (Nat.le_of_ble_eq_true rfl) dX0_rest_2 (Nat.zero_le _) (Nat.zero_le _) ?_
  refine px_if_ne (tgt := 16) hx hb dX0_rest_5 (by decide) (fun hc5 => ?_) (fun hc5 => ?_)
  · rw [if_pos hc5]
    refine lv_iload_n hx hb dX0_rest_8 rfl (lv_at hl 0 rfl) ?_
    refine lv_lload_n hx hb dX0_rest_9 rfl (lv_at hl 2 rfl) ?_
    refine px_S (As := [.int v0, .long v3]) (rest := []) ⟨hx, hb, hml, hown, hts⟩ (kX0_isZero l v0 v3) (va_cwS 2 hts gX0_rest_X0_isZero rfl rfl rfl (by decide +kernel) ⟨Nat.le_of_ble_eq_true rfl, Nat.le_of_ble_eq_true rfl⟩) rfl hl.1 rfl (Nat.le_of_ble_eq_true rfl) dX0_rest_10 (Nat.zero_le _) (Nat.zero_le _) ?_
    refine px_if_eq (tgt := 21) hx hb dX0_rest_13 (by decide) (fun hc13 => ?_) (fun hc13 => ?_)
    · rw [if_pos hc13]
      refine lv_iload_n hx hb dX0_rest_21 rfl (lv_at hl 0 rfl) ?_
      refine lv_lload_n hx hb dX0_rest_22 rfl (lv_at hl 1 rfl) ?_
      refine px_S (As := [.int v0, .long v1]) (rest := []) ⟨hx, hb, hml, hown, hts⟩ (kX0_size l v0 v1) (va_cwS 2 hts gX0_rest_X0_size rfl rfl rfl (by decide +kernel) ⟨Nat.le_of_ble_eq_true rfl, Nat.le_of_ble_eq_true rfl⟩) rfl hl.1 rfl (Nat.le_of_ble_eq_true rfl) dX0_rest_23 (Nat.zero_le _) (Nat.zero_le _) ?_
      refine lv_iload_n hx hb dX0_rest_26 rfl (lv_at hl 0 rfl) ?_
      refine lv_lload_n hx hb dX0_rest_27 rfl (lv_at hl 2 rfl) ?_
      refine px_S (As := [.int v0, .long v3]) (rest := [.long (fX0_size v0 v1)]) ⟨hx, hb, hml, hown, hts⟩ (kX0_size l v0 v3) (va_cwS 2 hts gX0_rest_X0_size rfl rfl rfl (by decide +kernel) ⟨Nat.le_of_ble_eq_true rfl, Nat.le_of_ble_eq_true rfl⟩) rfl hl.1 rfl (Nat.le_of_ble_eq_true rfl) dX0_rest_28 (Nat.zero_le _) (Nat.zero_le _) ?_
      refine px_lcmp_ge (tgt := 37) hx hb dX0_rest_31 dX0_rest_32 (by decide) (fun hc31 => ?_) (fun hc31 => ?_)
      · rw [if_pos hc31]
        refine lv_lload_n hx hb dX0_rest_35 rfl (lv_at hl 1 rfl) ?_
        exact W.lret hx hb hr (fun t ht _ => ⟨rfl, ht⟩) (fun q h => by cases h) dX0_rest_36
      · rw [if_neg hc31]
        refine lv_bipush (v := 52) hx hb dX0_rest_37 (by decide) ?_
        refine lv_iload_n hx hb dX0_rest_39 rfl (lv_at hl 0 rfl) ?_
        refine lv_lload_n hx hb dX0_rest_40 rfl (lv_at hl 1 rfl) ?_
        refine px_S (As := [.int v0, .long v1]) (rest := [.int (52 : Int32)]) ⟨hx, hb, hml, hown, hts⟩ (kX0_magnitude l v0 v1) (va_cwS 2 hts gX0_rest_X0_magnitude rfl rfl rfl (by decide +kernel) ⟨Nat.le_of_ble_eq_true rfl, Nat.le_of_ble_eq_true rfl⟩) rfl hl.1 rfl (Nat.le_of_ble_eq_true rfl) dX0_rest_41 (Nat.zero_le _) (Nat.zero_le _) ?_
        refine px_S (As := [.int (52 : Int32), .long (fX0_magnitude v0 v1)]) (rest := []) ⟨hx, hb, hml, hown, hts⟩ (kX0_roomBelow l (52 : Int32) (fX0_magnitude v0 v1) (okX0_roomBelow_all (52 : Int32) (fX0_magnitude v0 v1))) (va_cwS 2 hts gX0_rest_X0_roomBelow rfl rfl rfl (by decide +kernel) ⟨Nat.le_of_ble_eq_true rfl, Nat.le_of_ble_eq_true rfl⟩) rfl hl.1 rfl (Nat.le_of_ble_eq_true rfl) dX0_rest_44 (Nat.zero_le _) (Nat.zero_le _) ?_
        refine lv_topi (fun v5_47 ev5_47 => ?_)
        rw [← ev5_47]
        refine lv_istore (lv' := [(5, .int v5_47), (0, .int v0), (1, .long v1), (3, .long v3)]) hx hb dX0_rest_47 hl (by decide) rfl (fun ls hl => ?_)
        rw [fX0_rest_49]
        refine lv_bipush (v := 52) hx hb dX0_rest_49 (by decide) ?_
        refine lv_iload_n hx hb dX0_rest_51 rfl (lv_at hl 1 rfl) ?_
        refine lv_lload_n hx hb dX0_rest_52 rfl (lv_at hl 3 rfl) ?_
        refine px_S (As := [.int v0, .long v3]) (rest := [.int (52 : Int32)]) ⟨hx, hb, hml, hown, hts⟩ (kX0_magnitude l v0 v3) (va_cwS 2 hts gX0_rest_X0_magnitude rfl rfl rfl (by decide +kernel) ⟨Nat.le_of_ble_eq_true rfl, Nat.le_of_ble_eq_true rfl⟩) rfl hl.1 rfl (Nat.le_of_ble_eq_true rfl) dX0_rest_53 (Nat.zero_le _) (Nat.zero_le _) ?_
        refine px_S (As := [.int (52 : Int32), .long (fX0_magnitude v0 v3)]) (rest := []) ⟨hx, hb, hml, hown, hts⟩ (kX0_roomBelow l (52 : Int32) (fX0_magnitude v0 v3) (okX0_roomBelow_all (52 : Int32) (fX0_magnitude v0 v3))) (va_cwS 2 hts gX0_rest_X0_roomBelow rfl rfl rfl (by decide +kernel) ⟨Nat.le_of_ble_eq_true rfl, Nat.le_of_ble_eq_true rfl⟩) rfl hl.1 rfl (Nat.le_of_ble_eq_true rfl) dX0_rest_56 (Nat.zero_le _) (Nat.zero_le _) ?_
        refine lv_topi (fun v6_59 ev6_59 => ?_)
        rw [← ev6_59]
        refine lv_istore (lv' := [(6, .int v6_59), (5, .int v5_47), (0, .int v0), (1, .long v1), (3, .long v3)]) hx hb dX0_rest_59 hl (by decide) rfl (fun ls hl => ?_)
        rw [fX0_rest_61]
        refine lv_iload_n hx hb dX0_rest_61 rfl (lv_at hl 2 rfl) ?_
        refine lv_lload_n hx hb dX0_rest_62 rfl (lv_at hl 4 rfl) ?_
        refine px_S (As := [.int v0, .long v3]) (rest := []) ⟨hx, hb, hml, hown, hts⟩ (kX0_exponent l v0 v3) (va_cwS 2 hts gX0_rest_X0_exponent rfl rfl rfl (by decide +kernel) ⟨Nat.le_of_ble_eq_true rfl, Nat.le_of_ble_eq_true rfl⟩) rfl hl.1 rfl (Nat.le_of_ble_eq_true rfl) dX0_rest_63 (Nat.zero_le _) (Nat.zero_le _) ?_
        refine lv_iload hx hb dX0_rest_66 (lv_at hl 0 rfl) ?_
        refine lv_isub hx hb dX0_rest_68 ?_
        refine lv_topi (fun v7_69 ev7_69 => ?_)
        rw [← ev7_69]
        refine lv_istore (lv' := [(7, .int v7_69), (6, .int v6_59), (5, .int v5_47), (0, .int v0), (1, .long v1), (3, .long v3)]) hx hb dX0_rest_69 hl (by decide) rfl (fun ls hl => ?_)
        rw [fX0_rest_71]
        refine lv_iload_n hx hb dX0_rest_71 rfl (lv_at hl 3 rfl) ?_
        refine lv_lload_n hx hb dX0_rest_72 rfl (lv_at hl 4 rfl) ?_
        refine px_S (As := [.int v0, .long v1]) (rest := []) ⟨hx, hb, hml, hown, hts⟩ (kX0_exponent l v0 v1) (va_cwS 2 hts gX0_rest_X0_exponent rfl rfl rfl (by decide +kernel) ⟨Nat.le_of_ble_eq_true rfl, Nat.le_of_ble_eq_true rfl⟩) rfl hl.1 rfl (Nat.le_of_ble_eq_true rfl) dX0_rest_73 (Nat.zero_le _) (Nat.zero_le _) ?_
        refine lv_iload hx hb dX0_rest_76 (lv_at hl 2 rfl) ?_
        refine lv_isub hx hb dX0_rest_78 ?_
        refine lv_iload hx hb dX0_rest_79 (lv_at hl 0 rfl) ?_
        refine lv_isub hx hb dX0_rest_81 ?_
        refine lv_topi (fun v8_82 ev8_82 => ?_)
        rw [← ev8_82]
        refine lv_istore (lv' := [(8, .int v8_82), (7, .int v7_69), (6, .int v6_59), (5, .int v5_47), (0, .int v0), (1, .long v1), (3, .long v3)]) hx hb dX0_rest_82 hl (by decide) rfl (fun ls hl => ?_)
        rw [fX0_rest_84]
        refine lv_iload_n hx hb dX0_rest_84 rfl (lv_at hl 4 rfl) ?_
        refine lv_lload_n hx hb dX0_rest_85 rfl (lv_at hl 5 rfl) ?_
        refine px_S (As := [.int v0, .long v1]) (rest := []) ⟨hx, hb, hml, hown, hts⟩ (kX0_magnitude l v0 v1) (va_cwS 2 hts gX0_rest_X0_magnitude rfl rfl rfl (by decide +kernel) ⟨Nat.le_of_ble_eq_true rfl, Nat.le_of_ble_eq_true rfl⟩) rfl hl.1 rfl (Nat.le_of_ble_eq_true rfl) dX0_rest_86 (Nat.zero_le _) (Nat.zero_le _) ?_
        refine lv_iload hx hb dX0_rest_89 (lv_at hl 3 rfl) ?_
        refine px_lshl hx hb dX0_rest_91 ?_
        refine lv_iload hx hb dX0_rest_92 (lv_at hl 0 rfl) ?_
        refine lv_iload_n hx hb dX0_rest_94 rfl (lv_at hl 4 rfl) ?_
        refine lv_lload_n hx hb dX0_rest_95 rfl (lv_at hl 6 rfl) ?_
        refine px_S (As := [.int v0, .long v3]) (rest := [.int v8_82, .long (jshl (fX0_magnitude v0 v1) v5_47)]) ⟨hx, hb, hml, hown, hts⟩ (kX0_magnitude l v0 v3) (va_cwS 2 hts gX0_rest_X0_magnitude rfl rfl rfl (by decide +kernel) ⟨Nat.le_of_ble_eq_true rfl, Nat.le_of_ble_eq_true rfl⟩) rfl hl.1 rfl (Nat.le_of_ble_eq_true rfl) dX0_rest_96 (Nat.zero_le _) (Nat.zero_le _) ?_
        refine lv_iload hx hb dX0_rest_99 (lv_at hl 2 rfl) ?_
        refine px_lshl hx hb dX0_rest_101 ?_
        refine px_S (As := [.long (jshl (fX0_magnitude v0 v1) v5_47), .int v8_82, .long (jshl (fX0_magnitude v0 v3) v6_59)]) (rest := []) ⟨hx, hb, hml, hown, hts⟩ (kX0_restAbove l (jshl (fX0_magnitude v0 v1) v5_47) v8_82 (jshl (fX0_magnitude v0 v3) v6_59) (okX0_restAbove_all (jshl (fX0_magnitude v0 v1) v5_47) v8_82 (jshl (fX0_magnitude v0 v3) v6_59))) (va_cwS 3 hts gX0_rest_X0_restAbove rfl rfl rfl (by decide +kernel) ⟨Nat.le_of_ble_eq_true rfl, Nat.le_of_ble_eq_true rfl⟩) rfl hl.1 rfl (Nat.le_of_ble_eq_true rfl) dX0_rest_102 (Nat.zero_le _) (Nat.zero_le _) ?_
        refine lv_topl (fun v9_105 ev9_105 => ?_)
        rw [← ev9_105]
        refine lv_lstore (lv' := [(9, .long v9_105), (8, .int v8_82), (7, .int v7_69), (6, .int v6_59), (5, .int v5_47), (0, .int v0), (1, .long v1), (3, .long v3)]) hx hb dX0_rest_105 hl (by decide) rfl (fun ls hl => ?_)
        rw [fX0_rest_107]
        refine lv_iload_n hx hb dX0_rest_107 rfl (lv_at hl 5 rfl) ?_
        refine lv_iload_n hx hb dX0_rest_108 rfl (lv_at hl 5 rfl) ?_
        refine lv_lload_n hx hb dX0_rest_109 rfl (lv_at hl 6 rfl) ?_
        refine px_S (As := [.int v0, .long v1]) (rest := [.int v0]) ⟨hx, hb, hml, hown, hts⟩ (kX0_isNegative l v0 v1) (va_cwS 2 hts gX0_rest_X0_isNegative rfl rfl rfl (by decide +kernel) ⟨Nat.le_of_ble_eq_true rfl, Nat.le_of_ble_eq_true rfl⟩) rfl hl.1 rfl (Nat.le_of_ble_eq_true rfl) dX0_rest_110 (Nat.zero_le _) (Nat.zero_le _) ?_
        refine lv_lload hx hb dX0_rest_113 (lv_at hl 0 rfl) ?_
        refine lv_iload hx hb dX0_rest_115 (lv_at hl 2 rfl) ?_
        refine px_S (As := [.int v0, .int (fX0_isNegative v0 v1), .long v9_105, .int v7_69]) (rest := []) ⟨hx, hb, hml, hown, hts⟩ (kX0_nearest l v0 (fX0_isNegative v0 v1) v9_105 v7_69) (va_cwS 4 hts gX0_rest_X0_nearest rfl rfl rfl (by decide +kernel) ⟨Nat.le_of_ble_eq_true rfl, Nat.le_of_ble_eq_true rfl⟩) rfl hl.1 rfl (Nat.le_of_ble_eq_true rfl) dX0_rest_117 (Nat.zero_le _) (Nat.zero_le _) ?_
        exact W.lret hx hb hr (fun t ht _ => ⟨rfl, ht⟩) (fun q h => by cases h) dX0_rest_120
    · rw [if_neg hc13]
      exact wX0_rest_16 C v0 (lv_sub hl [0] rfl)
  · rw [if_neg hc5]
    exact wX0_rest_16 C v0 (lv_sub hl [0] rfl)
set_option maxHeartbeats 4000000 in
set_option maxRecDepth 100000 in
theorem kX0_rest (l : Launch) (v0 : Int32) (v1 : Int64) (v3 : Int64) : px_M l yX0_rest wsX0_rest ({ frames := 3, cells := 0, slots := 0, locals := 72 }) [.int v0, .long v1, .long v3] (.long (fX0_rest v0 v1 v3)) := by
  refine Met.ofW (cc := cX0_rest) (maxL := 11) (ret := (some .long)) (by decide) rfl ?_
  intro p e s m args below meth c s₁ B hml hv
  cases hv
  have C : px_C p s m _ meth c cX0_rest 11 (some .long) RX0 wsX0_rest := ⟨B.exec, B.bytes, hml, findClass_of_methodNamed B.named, atoms_spec (ws := wsX0_rest) B.pre, B.returns, B.notSynchronized⟩
  have hl := lv_entry ([.int v0, .long v1, .long v3]) (n := 11) (Nat.le_of_ble_eq_true rfl)
  rw [lg_entry_eq]
  generalize (lg_sl ([.int v0, .long v1, .long v3]) ++ List.replicate (11 - (lg_sl ([.int v0, .long v1, .long v3])).length) Slot.unset).toArray = ls at hl ⊢
  have hl : lv_has ls 11 [(0, .int v0), (1, .long v1), (3, .long v3)] := hl
  rw [fX0_rest]
  exact wX0_rest_0 C v0 v1 v3 (lv_sub hl [0, 1, 2] rfl)
end
section
theorem dX1_init_0 : decode cX1_init 0 = .ok (.aload_n 0, 1) := by decide +kernel
theorem dX1_init_1 : decode cX1_init 1 = .ok (.invokespecial 1, 3) := by decide +kernel
theorem dX1_init_4 : decode cX1_init 4 = .ok (.aload_n 0, 1) := by decide +kernel
theorem dX1_init_5 : decode cX1_init 5 = .ok (.iconst 0, 1) := by decide +kernel
theorem dX1_init_6 : decode cX1_init 6 = .ok (.putfield 9, 3) := by decide +kernel
theorem dX1_init_9 : decode cX1_init 9 = .ok (.return_, 1) := by decide +kernel
set_option maxRecDepth 20000 in
theorem ggX1_has_X1_isValue : GoodIn wsX1_has wsX1_isValue := goodIn_r _ [4, 5, 6, 3, 7, 8, 9, 10, 11, 12, 13, 14, 15, 16, 17, 18, 19, 20, 21, 22, 23, 24, 25] (by decide +kernel) (by decide +kernel)
set_option maxRecDepth 20000 in
theorem gX1_has_X1_isValue : GoodIn wsX1_has (va_wsS RX1 13 yX1_isValue wsX1_isValue) := goodIn_app (goodIn_of _ (by decide +kernel)) ggX1_has_X1_isValue
theorem dX1_has_0 : decode cX1_has 0 = .ok (.iload_n 1, 1) := by decide +kernel
theorem dX1_has_1 : decode cX1_has 1 = .ok (.lload_n 2, 1) := by decide +kernel
theorem dX1_has_2 : decode cX1_has 2 = .ok (.invokestatic 13, 3) := by decide +kernel
theorem dX1_has_5 : decode cX1_has 5 = .ok (.ireturn, 1) := by decide +kernel
set_option maxRecDepth 20000 in
theorem ggX1_widens_X1_isNumberKind : GoodIn wsX1_widens wsX1_isNumberKind := goodIn_r _ [4] (by decide +kernel) (by decide +kernel)
set_option maxRecDepth 20000 in
theorem gX1_widens_X1_isNumberKind : GoodIn wsX1_widens (va_wsS RX1 17 yX1_isNumberKind wsX1_isNumberKind) := goodIn_app (goodIn_of _ (by decide +kernel)) ggX1_widens_X1_isNumberKind
theorem dX1_widens_0 : decode cX1_widens 0 = .ok (.iload_n 1, 1) := by decide +kernel
theorem dX1_widens_1 : decode cX1_widens 1 = .ok (.iload_n 2, 1) := by decide +kernel
theorem dX1_widens_2 : decode cX1_widens 2 = .ok (.if_icmp .ne 19, 3) := by decide +kernel
theorem dX1_widens_5 : decode cX1_widens 5 = .ok (.iload_n 1, 1) := by decide +kernel
theorem dX1_widens_6 : decode cX1_widens 6 = .ok (.ifCond .lt 13, 3) := by decide +kernel
theorem dX1_widens_9 : decode cX1_widens 9 = .ok (.iload_n 1, 1) := by decide +kernel
theorem dX1_widens_10 : decode cX1_widens 10 = .ok (.bipush 7, 2) := by decide +kernel
theorem dX1_widens_12 : decode cX1_widens 12 = .ok (.if_icmp .gt 7, 3) := by decide +kernel
theorem dX1_widens_15 : decode cX1_widens 15 = .ok (.iconst 1, 1) := by decide +kernel
theorem dX1_widens_16 : decode cX1_widens 16 = .ok (.goto 4, 3) := by decide +kernel
theorem dX1_widens_19 : decode cX1_widens 19 = .ok (.iconst 0, 1) := by decide +kernel
theorem dX1_widens_20 : decode cX1_widens 20 = .ok (.ireturn, 1) := by decide +kernel
theorem dX1_widens_21 : decode cX1_widens 21 = .ok (.iload_n 1, 1) := by decide +kernel
theorem dX1_widens_22 : decode cX1_widens 22 = .ok (.invokestatic 17, 3) := by decide +kernel
theorem dX1_widens_25 : decode cX1_widens 25 = .ok (.ifCond .eq 15, 3) := by decide +kernel
theorem dX1_widens_28 : decode cX1_widens 28 = .ok (.iload_n 2, 1) := by decide +kernel
theorem dX1_widens_29 : decode cX1_widens 29 = .ok (.invokestatic 17, 3) := by decide +kernel
theorem dX1_widens_32 : decode cX1_widens 32 = .ok (.ifCond .eq 8, 3) := by decide +kernel
theorem dX1_widens_35 : decode cX1_widens 35 = .ok (.iload_n 2, 1) := by decide +kernel
theorem dX1_widens_36 : decode cX1_widens 36 = .ok (.iconst 3, 1) := by decide +kernel
theorem dX1_widens_37 : decode cX1_widens 37 = .ok (.if_icmp .ne 5, 3) := by decide +kernel
theorem dX1_widens_40 : decode cX1_widens 40 = .ok (.iconst 0, 1) := by decide +kernel
theorem dX1_widens_41 : decode cX1_widens 41 = .ok (.ireturn, 1) := by decide +kernel
theorem dX1_widens_42 : decode cX1_widens 42 = .ok (.iload_n 1, 1) := by decide +kernel
theorem dX1_widens_43 : decode cX1_widens 43 = .ok (.iload_n 2, 1) := by decide +kernel
theorem dX1_widens_44 : decode cX1_widens 44 = .ok (.if_icmp .ge 7, 3) := by decide +kernel
theorem dX1_widens_47 : decode cX1_widens 47 = .ok (.iconst 1, 1) := by decide +kernel
theorem dX1_widens_48 : decode cX1_widens 48 = .ok (.goto 4, 3) := by decide +kernel
theorem dX1_widens_51 : decode cX1_widens 51 = .ok (.iconst 0, 1) := by decide +kernel
theorem dX1_widens_52 : decode cX1_widens 52 = .ok (.ireturn, 1) := by decide +kernel
set_option maxRecDepth 20000 in
theorem ggX1_cast_X1_isNumberKind : GoodIn wsX1_cast wsX1_isNumberKind := goodIn_r _ [5] (by decide +kernel) (by decide +kernel)
set_option maxRecDepth 20000 in
theorem gX1_cast_X1_isNumberKind : GoodIn wsX1_cast (va_wsS RX1 17 yX1_isNumberKind wsX1_isNumberKind) := goodIn_app (goodIn_of _ (by decide +kernel)) ggX1_cast_X1_isNumberKind
set_option maxRecDepth 20000 in
theorem ggX1_cast_X1_isValue : GoodIn wsX1_cast wsX1_isValue := goodIn_r _ [8, 9, 10, 4, 11, 12, 13, 14, 15, 16, 17, 18, 19, 20, 21, 22, 23, 24, 25, 26, 27, 28, 29] (by decide +kernel) (by decide +kernel)
set_option maxRecDepth 20000 in
theorem gX1_cast_X1_isValue : GoodIn wsX1_cast (va_wsS RX1 13 yX1_isValue wsX1_isValue) := goodIn_app (goodIn_of _ (by decide +kernel)) ggX1_cast_X1_isValue
set_option maxRecDepth 20000 in
theorem ggX1_cast_X1_fails : GoodIn wsX1_cast wsX1_fails := goodIn_r _ [33, 1, 99] (by decide +kernel) (by decide +kernel)
set_option maxRecDepth 20000 in
theorem gX1_cast_X1_fails : GoodIn wsX1_cast (wsV RX1 21 RX1 yX1_fails wsX1_fails) := goodIn_app (goodIn_of _ (by decide +kernel)) ggX1_cast_X1_fails
set_option maxRecDepth 20000 in
theorem ggX1_cast_X1_converted : GoodIn wsX1_cast wsX1_converted := goodIn_r _ [36, 37, 38, 14, 39, 40, 41, 42, 20, 21, 22, 23, 24, 43, 44, 45, 16, 17, 18, 19, 25, 26, 27, 28, 29, 46, 47, 48, 49, 50, 51, 52, 53, 54, 55, 56, 57, 58, 59, 60, 61, 62, 63, 64, 65, 66, 67, 68, 69, 70, 71, 72, 73, 74, 75, 76, 77, 78, 79, 80, 81, 82, 83, 9, 10, 4, 11, 84, 85, 86, 87, 88, 89, 90, 91, 92, 93, 94, 95, 96, 97, 98] (by decide +kernel) (by decide +kernel)
set_option maxRecDepth 20000 in
theorem gX1_cast_X1_converted : GoodIn wsX1_cast (va_wsS RX1 25 yX1_converted wsX1_converted) := goodIn_app (goodIn_of _ (by decide +kernel)) ggX1_cast_X1_converted
theorem dX1_cast_0 : decode cX1_cast 0 = .ok (.iload_n 1, 1) := by decide +kernel
theorem dX1_cast_1 : decode cX1_cast 1 = .ok (.iload_n 2, 1) := by decide +kernel
theorem dX1_cast_2 : decode cX1_cast 2 = .ok (.if_icmp .eq 17, 3) := by decide +kernel
theorem dX1_cast_5 : decode cX1_cast 5 = .ok (.iload_n 1, 1) := by decide +kernel
theorem dX1_cast_6 : decode cX1_cast 6 = .ok (.invokestatic 17, 3) := by decide +kernel
theorem dX1_cast_9 : decode cX1_cast 9 = .ok (.ifCond .eq 14, 3) := by decide +kernel
theorem dX1_cast_12 : decode cX1_cast 12 = .ok (.iload_n 2, 1) := by decide +kernel
theorem dX1_cast_13 : decode cX1_cast 13 = .ok (.invokestatic 17, 3) := by decide +kernel
theorem dX1_cast_16 : decode cX1_cast 16 = .ok (.ifCond .eq 7, 3) := by decide +kernel
theorem dX1_cast_19 : decode cX1_cast 19 = .ok (.iconst 1, 1) := by decide +kernel
theorem dX1_cast_20 : decode cX1_cast 20 = .ok (.goto 4, 3) := by decide +kernel
theorem dX1_cast_23 : decode cX1_cast 23 = .ok (.iconst 0, 1) := by decide +kernel
theorem dX1_cast_24 : decode cX1_cast 24 = .ok (.istore 5, 2) := by decide +kernel
theorem dX1_cast_26 : decode cX1_cast 26 = .ok (.iload 5, 2) := by decide +kernel
theorem dX1_cast_28 : decode cX1_cast 28 = .ok (.ifCond .eq 11, 3) := by decide +kernel
theorem dX1_cast_31 : decode cX1_cast 31 = .ok (.iload_n 1, 1) := by decide +kernel
theorem dX1_cast_32 : decode cX1_cast 32 = .ok (.lload_n 3, 1) := by decide +kernel
theorem dX1_cast_33 : decode cX1_cast 33 = .ok (.invokestatic 13, 3) := by decide +kernel
theorem dX1_cast_36 : decode cX1_cast 36 = .ok (.ifCond .ne 11, 3) := by decide +kernel
theorem dX1_cast_39 : decode cX1_cast 39 = .ok (.aload_n 0, 1) := by decide +kernel
theorem dX1_cast_40 : decode cX1_cast 40 = .ok (.iconst 1, 1) := by decide +kernel
theorem dX1_cast_41 : decode cX1_cast 41 = .ok (.iconst 0, 1) := by decide +kernel
theorem dX1_cast_42 : decode cX1_cast 42 = .ok (.invokevirtual 21, 3) := by decide +kernel
theorem dX1_cast_45 : decode cX1_cast 45 = .ok (.i2l, 1) := by decide +kernel
theorem dX1_cast_46 : decode cX1_cast 46 = .ok (.lreturn, 1) := by decide +kernel
theorem dX1_cast_47 : decode cX1_cast 47 = .ok (.aload_n 0, 1) := by decide +kernel
theorem dX1_cast_48 : decode cX1_cast 48 = .ok (.iconst 0, 1) := by decide +kernel
theorem dX1_cast_49 : decode cX1_cast 49 = .ok (.putfield 9, 3) := by decide +kernel
theorem dX1_cast_52 : decode cX1_cast 52 = .ok (.iload_n 1, 1) := by decide +kernel
theorem dX1_cast_53 : decode cX1_cast 53 = .ok (.iload_n 2, 1) := by decide +kernel
theorem dX1_cast_54 : decode cX1_cast 54 = .ok (.lload_n 3, 1) := by decide +kernel
theorem dX1_cast_55 : decode cX1_cast 55 = .ok (.invokestatic 25, 3) := by decide +kernel
theorem dX1_cast_58 : decode cX1_cast 58 = .ok (.lreturn, 1) := by decide +kernel
set_option maxRecDepth 20000 in
theorem ggX1_work_X1_areNumbers : GoodIn wsX1_work wsX1_areNumbers := goodIn_r _ [5, 6, 7, 4, 8, 9, 10, 11, 12, 13, 14, 15, 16, 17, 18, 19, 20, 21, 22, 23, 24, 25, 26, 27, 28, 29, 30, 31, 32] (by decide +kernel) (by decide +kernel)
set_option maxRecDepth 20000 in
theorem gX1_work_X1_areNumbers : GoodIn wsX1_work (va_wsS RX1 29 yX1_areNumbers wsX1_areNumbers) := goodIn_app (goodIn_of _ (by decide +kernel)) ggX1_work_X1_areNumbers
set_option maxRecDepth 20000 in
theorem ggX1_work_X1_fails : GoodIn wsX1_work wsX1_fails := goodIn_r _ [36, 1, 154] (by decide +kernel) (by decide +kernel)
set_option maxRecDepth 20000 in
theorem gX1_work_X1_fails : GoodIn wsX1_work (wsV RX1 21 RX1 yX1_fails wsX1_fails) := goodIn_app (goodIn_of _ (by decide +kernel)) ggX1_work_X1_fails
set_option maxRecDepth 20000 in
theorem ggX1_work_X1_workKind : GoodIn wsX1_work wsX1_workKind := goodIn_r _ [39, 40, 41, 42, 43] (by decide +kernel) (by decide +kernel)
set_option maxRecDepth 20000 in
theorem gX1_work_X1_workKind : GoodIn wsX1_work (va_wsS RX1 33 yX1_workKind wsX1_workKind) := goodIn_app (goodIn_of _ (by decide +kernel)) ggX1_work_X1_workKind
set_option maxRecDepth 20000 in
theorem ggX1_work_X1_converted : GoodIn wsX1_work wsX1_converted := goodIn_r _ [46, 47, 48, 17, 49, 50, 51, 52, 23, 24, 25, 26, 27, 53, 54, 55, 19, 20, 21, 22, 28, 29, 30, 31, 32, 56, 57, 58, 59, 60, 61, 62, 63, 64, 65, 66, 67, 68, 41, 42, 43, 69, 70, 71, 72, 73, 74, 75, 76, 77, 78, 79, 80, 81, 82, 83, 84, 85, 86, 87, 88, 89, 90, 12, 13, 4, 14, 91, 92, 93, 94, 95, 96, 97, 98, 99, 100, 101, 102, 103, 104, 105] (by decide +kernel) (by decide +kernel)
set_option maxRecDepth 20000 in
theorem gX1_work_X1_converted : GoodIn wsX1_work (va_wsS RX1 25 yX1_converted wsX1_converted) := goodIn_app (goodIn_of _ (by decide +kernel)) ggX1_work_X1_converted
set_option maxRecDepth 20000 in
theorem ggX1_work_X1_workReal : GoodIn wsX1_work wsX1_workReal := goodIn_r _ [109, 110, 111, 17, 112, 53, 54, 55, 19, 20, 21, 22, 23, 24, 25, 26, 27, 28, 29, 30, 31, 32, 113, 114, 115, 116, 117, 118, 119, 120, 121, 59, 60, 61, 62, 63, 64, 75, 76, 77, 65, 66, 67, 68, 41, 42, 43, 69, 70, 71, 122, 123, 124, 50, 51, 52, 72, 73, 74, 56, 57, 58, 78, 79, 80, 81, 82, 83, 125, 126, 127, 128, 129, 130, 131, 132, 133, 134, 135, 136, 137, 138, 139, 140, 141, 142, 143, 144, 145, 146, 147, 148, 149, 15, 16, 18, 33, 34, 35, 4, 36, 1, 154] (by decide +kernel) (by decide +kernel)
set_option maxRecDepth 20000 in
theorem gX1_work_X1_workReal : GoodIn wsX1_work (wsV RX1 36 RX1 yX1_workReal wsX1_workReal) := goodIn_app (goodIn_of _ (by decide +kernel)) ggX1_work_X1_workReal
set_option maxRecDepth 20000 in
theorem ggX1_work_X1_workWhole : GoodIn wsX1_work wsX1_workWhole := goodIn_r _ [153, 12, 13, 4, 14, 33, 34, 35, 36, 1, 154] (by decide +kernel) (by decide +kernel)
set_option maxRecDepth 20000 in
theorem gX1_work_X1_workWhole : GoodIn wsX1_work (wsV RX1 40 RX1 yX1_workWhole wsX1_workWhole) := goodIn_app (goodIn_of _ (by decide +kernel)) ggX1_work_X1_workWhole
theorem dX1_work_0 : decode cX1_work 0 = .ok (.iload_n 1, 1) := by decide +kernel
theorem dX1_work_1 : decode cX1_work 1 = .ok (.iconst 1, 1) := by decide +kernel
theorem dX1_work_2 : decode cX1_work 2 = .ok (.if_icmp .lt 20, 3) := by decide +kernel
theorem dX1_work_5 : decode cX1_work 5 = .ok (.iload_n 1, 1) := by decide +kernel
theorem dX1_work_6 : decode cX1_work 6 = .ok (.iconst 5, 1) := by decide +kernel
theorem dX1_work_7 : decode cX1_work 7 = .ok (.if_icmp .gt 15, 3) := by decide +kernel
theorem dX1_work_10 : decode cX1_work 10 = .ok (.iload_n 2, 1) := by decide +kernel
theorem dX1_work_11 : decode cX1_work 11 = .ok (.lload_n 3, 1) := by decide +kernel
theorem dX1_work_12 : decode cX1_work 12 = .ok (.iload 5, 2) := by decide +kernel
theorem dX1_work_14 : decode cX1_work 14 = .ok (.lload 6, 2) := by decide +kernel
theorem dX1_work_16 : decode cX1_work 16 = .ok (.invokestatic 29, 3) := by decide +kernel
theorem dX1_work_19 : decode cX1_work 19 = .ok (.ifCond .ne 11, 3) := by decide +kernel
theorem dX1_work_22 : decode cX1_work 22 = .ok (.aload_n 0, 1) := by decide +kernel
theorem dX1_work_23 : decode cX1_work 23 = .ok (.iconst 1, 1) := by decide +kernel
theorem dX1_work_24 : decode cX1_work 24 = .ok (.iconst 0, 1) := by decide +kernel
theorem dX1_work_25 : decode cX1_work 25 = .ok (.invokevirtual 21, 3) := by decide +kernel
theorem dX1_work_28 : decode cX1_work 28 = .ok (.i2l, 1) := by decide +kernel
theorem dX1_work_29 : decode cX1_work 29 = .ok (.lreturn, 1) := by decide +kernel
theorem dX1_work_30 : decode cX1_work 30 = .ok (.aload_n 0, 1) := by decide +kernel
theorem dX1_work_31 : decode cX1_work 31 = .ok (.iconst 0, 1) := by decide +kernel
theorem dX1_work_32 : decode cX1_work 32 = .ok (.putfield 9, 3) := by decide +kernel
theorem dX1_work_35 : decode cX1_work 35 = .ok (.iload_n 2, 1) := by decide +kernel
theorem dX1_work_36 : decode cX1_work 36 = .ok (.iload 5, 2) := by decide +kernel
theorem dX1_work_38 : decode cX1_work 38 = .ok (.invokestatic 33, 3) := by decide +kernel
theorem dX1_work_41 : decode cX1_work 41 = .ok (.istore 8, 2) := by decide +kernel
theorem dX1_work_43 : decode cX1_work 43 = .ok (.iload_n 2, 1) := by decide +kernel
theorem dX1_work_44 : decode cX1_work 44 = .ok (.iload 8, 2) := by decide +kernel
theorem dX1_work_46 : decode cX1_work 46 = .ok (.lload_n 3, 1) := by decide +kernel
theorem dX1_work_47 : decode cX1_work 47 = .ok (.invokestatic 25, 3) := by decide +kernel
theorem dX1_work_50 : decode cX1_work 50 = .ok (.lstore 9, 2) := by decide +kernel
theorem dX1_work_52 : decode cX1_work 52 = .ok (.iload 5, 2) := by decide +kernel
theorem dX1_work_54 : decode cX1_work 54 = .ok (.iload 8, 2) := by decide +kernel
theorem dX1_work_56 : decode cX1_work 56 = .ok (.lload 6, 2) := by decide +kernel
theorem dX1_work_58 : decode cX1_work 58 = .ok (.invokestatic 25, 3) := by decide +kernel
theorem dX1_work_61 : decode cX1_work 61 = .ok (.lstore 11, 2) := by decide +kernel
theorem dX1_work_63 : decode cX1_work 63 = .ok (.iload 8, 2) := by decide +kernel
theorem dX1_work_65 : decode cX1_work 65 = .ok (.bipush 6, 2) := by decide +kernel
theorem dX1_work_67 : decode cX1_work 67 = .ok (.if_icmp .lt 17, 3) := by decide +kernel
theorem dX1_work_70 : decode cX1_work 70 = .ok (.aload_n 0, 1) := by decide +kernel
theorem dX1_work_71 : decode cX1_work 71 = .ok (.iload_n 1, 1) := by decide +kernel
theorem dX1_work_72 : decode cX1_work 72 = .ok (.iload 8, 2) := by decide +kernel
theorem dX1_work_74 : decode cX1_work 74 = .ok (.lload 9, 2) := by decide +kernel
theorem dX1_work_76 : decode cX1_work 76 = .ok (.lload 11, 2) := by decide +kernel
theorem dX1_work_78 : decode cX1_work 78 = .ok (.invokevirtual 36, 3) := by decide +kernel
theorem dX1_work_81 : decode cX1_work 81 = .ok (.goto 14, 3) := by decide +kernel
theorem dX1_work_84 : decode cX1_work 84 = .ok (.aload_n 0, 1) := by decide +kernel
theorem dX1_work_85 : decode cX1_work 85 = .ok (.iload_n 1, 1) := by decide +kernel
theorem dX1_work_86 : decode cX1_work 86 = .ok (.iload 8, 2) := by decide +kernel
theorem dX1_work_88 : decode cX1_work 88 = .ok (.lload 9, 2) := by decide +kernel
theorem dX1_work_90 : decode cX1_work 90 = .ok (.lload 11, 2) := by decide +kernel
theorem dX1_work_92 : decode cX1_work 92 = .ok (.invokevirtual 40, 3) := by decide +kernel
theorem dX1_work_95 : decode cX1_work 95 = .ok (.lreturn, 1) := by decide +kernel
set_option maxRecDepth 20000 in
theorem ggX1_shift_X1_isValue : GoodIn wsX1_shift wsX1_isValue := goodIn_r _ [7, 8, 9, 6, 10, 11, 12, 13, 14, 15, 16, 17, 18, 19, 20, 21, 22, 23, 24, 25, 26, 27, 28] (by decide +kernel) (by decide +kernel)
set_option maxRecDepth 20000 in
theorem gX1_shift_X1_isValue : GoodIn wsX1_shift (va_wsS RX1 13 yX1_isValue wsX1_isValue) := goodIn_app (goodIn_of _ (by decide +kernel)) ggX1_shift_X1_isValue
set_option maxRecDepth 20000 in
theorem ggX1_shift_X1_fails : GoodIn wsX1_shift wsX1_fails := goodIn_r _ [32, 1, 39] (by decide +kernel) (by decide +kernel)
set_option maxRecDepth 20000 in
theorem gX1_shift_X1_fails : GoodIn wsX1_shift (wsV RX1 21 RX1 yX1_fails wsX1_fails) := goodIn_app (goodIn_of _ (by decide +kernel)) ggX1_shift_X1_fails
set_option maxRecDepth 20000 in
theorem ggX1_shift_X1_shiftedLong : GoodIn wsX1_shift wsX1_shiftedLong := goodIn_r _ [35] (by decide +kernel) (by decide +kernel)
set_option maxRecDepth 20000 in
theorem gX1_shift_X1_shiftedLong : GoodIn wsX1_shift (va_wsS RX1 45 yX1_shiftedLong wsX1_shiftedLong) := goodIn_app (goodIn_of _ (by decide +kernel)) ggX1_shift_X1_shiftedLong
set_option maxRecDepth 20000 in
theorem ggX1_shift_X1_shiftedInt : GoodIn wsX1_shift wsX1_shiftedInt := goodIn_r _ [38] (by decide +kernel) (by decide +kernel)
set_option maxRecDepth 20000 in
theorem gX1_shift_X1_shiftedInt : GoodIn wsX1_shift (va_wsS RX1 51 yX1_shiftedInt wsX1_shiftedInt) := goodIn_app (goodIn_of _ (by decide +kernel)) ggX1_shift_X1_shiftedInt
theorem dX1_shift_0 : decode cX1_shift 0 = .ok (.iload_n 1, 1) := by decide +kernel
theorem dX1_shift_1 : decode cX1_shift 1 = .ok (.bipush 6, 2) := by decide +kernel
theorem dX1_shift_3 : decode cX1_shift 3 = .ok (.if_icmp .lt 13, 3) := by decide +kernel
theorem dX1_shift_6 : decode cX1_shift 6 = .ok (.iload_n 1, 1) := by decide +kernel
theorem dX1_shift_7 : decode cX1_shift 7 = .ok (.bipush 8, 2) := by decide +kernel
theorem dX1_shift_9 : decode cX1_shift 9 = .ok (.if_icmp .gt 7, 3) := by decide +kernel
theorem dX1_shift_12 : decode cX1_shift 12 = .ok (.iconst 1, 1) := by decide +kernel
theorem dX1_shift_13 : decode cX1_shift 13 = .ok (.goto 4, 3) := by decide +kernel
theorem dX1_shift_16 : decode cX1_shift 16 = .ok (.iconst 0, 1) := by decide +kernel
theorem dX1_shift_17 : decode cX1_shift 17 = .ok (.istore 7, 2) := by decide +kernel
theorem dX1_shift_19 : decode cX1_shift 19 = .ok (.iload 7, 2) := by decide +kernel
theorem dX1_shift_21 : decode cX1_shift 21 = .ok (.ifCond .eq 21, 3) := by decide +kernel
theorem dX1_shift_24 : decode cX1_shift 24 = .ok (.iload_n 2, 1) := by decide +kernel
theorem dX1_shift_25 : decode cX1_shift 25 = .ok (.iconst 1, 1) := by decide +kernel
theorem dX1_shift_26 : decode cX1_shift 26 = .ok (.if_icmp .lt 16, 3) := by decide +kernel
theorem dX1_shift_29 : decode cX1_shift 29 = .ok (.iload_n 2, 1) := by decide +kernel
theorem dX1_shift_30 : decode cX1_shift 30 = .ok (.iconst 5, 1) := by decide +kernel
theorem dX1_shift_31 : decode cX1_shift 31 = .ok (.if_icmp .gt 11, 3) := by decide +kernel
theorem dX1_shift_34 : decode cX1_shift 34 = .ok (.iload_n 2, 1) := by decide +kernel
theorem dX1_shift_35 : decode cX1_shift 35 = .ok (.lload_n 3, 1) := by decide +kernel
theorem dX1_shift_36 : decode cX1_shift 36 = .ok (.invokestatic 13, 3) := by decide +kernel
theorem dX1_shift_39 : decode cX1_shift 39 = .ok (.ifCond .ne 11, 3) := by decide +kernel
theorem dX1_shift_42 : decode cX1_shift 42 = .ok (.aload_n 0, 1) := by decide +kernel
theorem dX1_shift_43 : decode cX1_shift 43 = .ok (.iconst 1, 1) := by decide +kernel
theorem dX1_shift_44 : decode cX1_shift 44 = .ok (.iconst 0, 1) := by decide +kernel
theorem dX1_shift_45 : decode cX1_shift 45 = .ok (.invokevirtual 21, 3) := by decide +kernel
theorem dX1_shift_48 : decode cX1_shift 48 = .ok (.i2l, 1) := by decide +kernel
theorem dX1_shift_49 : decode cX1_shift 49 = .ok (.lreturn, 1) := by decide +kernel
theorem dX1_shift_50 : decode cX1_shift 50 = .ok (.aload_n 0, 1) := by decide +kernel
theorem dX1_shift_51 : decode cX1_shift 51 = .ok (.iconst 0, 1) := by decide +kernel
theorem dX1_shift_52 : decode cX1_shift 52 = .ok (.putfield 9, 3) := by decide +kernel
theorem dX1_shift_55 : decode cX1_shift 55 = .ok (.iload_n 2, 1) := by decide +kernel
theorem dX1_shift_56 : decode cX1_shift 56 = .ok (.iconst 5, 1) := by decide +kernel
theorem dX1_shift_57 : decode cX1_shift 57 = .ok (.if_icmp .ne 18, 3) := by decide +kernel
theorem dX1_shift_60 : decode cX1_shift 60 = .ok (.iload_n 1, 1) := by decide +kernel
theorem dX1_shift_61 : decode cX1_shift 61 = .ok (.lload_n 3, 1) := by decide +kernel
theorem dX1_shift_62 : decode cX1_shift 62 = .ok (.lload 5, 2) := by decide +kernel
theorem dX1_shift_64 : decode cX1_shift 64 = .ok (.ldc2_w 43, 3) := by decide +kernel
theorem dX1_shift_67 : decode cX1_shift 67 = .ok (.land, 1) := by decide +kernel
theorem dX1_shift_68 : decode cX1_shift 68 = .ok (.l2i, 1) := by decide +kernel
theorem dX1_shift_69 : decode cX1_shift 69 = .ok (.invokestatic 45, 3) := by decide +kernel
theorem dX1_shift_72 : decode cX1_shift 72 = .ok (.goto 16, 3) := by decide +kernel
theorem dX1_shift_75 : decode cX1_shift 75 = .ok (.iload_n 1, 1) := by decide +kernel
theorem dX1_shift_76 : decode cX1_shift 76 = .ok (.lload_n 3, 1) := by decide +kernel
theorem dX1_shift_77 : decode cX1_shift 77 = .ok (.l2i, 1) := by decide +kernel
theorem dX1_shift_78 : decode cX1_shift 78 = .ok (.lload 5, 2) := by decide +kernel
theorem dX1_shift_80 : decode cX1_shift 80 = .ok (.ldc2_w 49, 3) := by decide +kernel
theorem dX1_shift_83 : decode cX1_shift 83 = .ok (.land, 1) := by decide +kernel
theorem dX1_shift_84 : decode cX1_shift 84 = .ok (.l2i, 1) := by decide +kernel
theorem dX1_shift_85 : decode cX1_shift 85 = .ok (.invokestatic 51, 3) := by decide +kernel
theorem dX1_shift_88 : decode cX1_shift 88 = .ok (.lreturn, 1) := by decide +kernel
set_option maxRecDepth 20000 in
theorem ggX1_compare_X1_areNumbers : GoodIn wsX1_compare wsX1_areNumbers := goodIn_r _ [5, 6, 7, 4, 8, 9, 10, 11, 12, 13, 14, 15, 16, 17, 18, 19, 20, 21, 22, 23, 24, 25, 26, 27, 28, 29, 30, 31, 32] (by decide +kernel) (by decide +kernel)
set_option maxRecDepth 20000 in
theorem gX1_compare_X1_areNumbers : GoodIn wsX1_compare (va_wsS RX1 29 yX1_areNumbers wsX1_areNumbers) := goodIn_app (goodIn_of _ (by decide +kernel)) ggX1_compare_X1_areNumbers
set_option maxRecDepth 20000 in
theorem ggX1_compare_X1_fails : GoodIn wsX1_compare wsX1_fails := goodIn_r _ [36, 1, 112] (by decide +kernel) (by decide +kernel)
set_option maxRecDepth 20000 in
theorem gX1_compare_X1_fails : GoodIn wsX1_compare (wsV RX1 21 RX1 yX1_fails wsX1_fails) := goodIn_app (goodIn_of _ (by decide +kernel)) ggX1_compare_X1_fails
set_option maxRecDepth 20000 in
theorem ggX1_compare_X1_workKind : GoodIn wsX1_compare wsX1_workKind := goodIn_r _ [39, 40, 41, 42, 43] (by decide +kernel) (by decide +kernel)
set_option maxRecDepth 20000 in
theorem gX1_compare_X1_workKind : GoodIn wsX1_compare (va_wsS RX1 33 yX1_workKind wsX1_workKind) := goodIn_app (goodIn_of _ (by decide +kernel)) ggX1_compare_X1_workKind
set_option maxRecDepth 20000 in
theorem ggX1_compare_X1_converted : GoodIn wsX1_compare wsX1_converted := goodIn_r _ [46, 47, 48, 17, 49, 50, 51, 52, 23, 24, 25, 26, 27, 53, 54, 55, 19, 20, 21, 22, 28, 29, 30, 31, 32, 56, 57, 58, 59, 60, 61, 62, 63, 64, 65, 66, 67, 68, 41, 42, 43, 69, 70, 71, 72, 73, 74, 75, 76, 77, 78, 79, 80, 81, 82, 83, 84, 85, 86, 87, 88, 89, 90, 12, 13, 4, 14, 91, 92, 93, 94, 95, 96, 97, 98, 99, 100, 101, 102, 103, 104, 105] (by decide +kernel) (by decide +kernel)
set_option maxRecDepth 20000 in
theorem gX1_compare_X1_converted : GoodIn wsX1_compare (va_wsS RX1 25 yX1_converted wsX1_converted) := goodIn_app (goodIn_of _ (by decide +kernel)) ggX1_compare_X1_converted
set_option maxRecDepth 20000 in
theorem ggX1_compare_X0_place : GoodIn wsX1_compare wsX0_place := goodIn_r _ [108, 19, 20, 17, 21, 22, 23, 24, 25, 26, 27, 50, 51, 52] (by decide +kernel) (by decide +kernel)
set_option maxRecDepth 20000 in
theorem gX1_compare_X0_place : GoodIn wsX1_compare (va_wsS RX1 55 yX0_place wsX0_place) := goodIn_app (goodIn_of _ (by decide +kernel)) ggX1_compare_X0_place
set_option maxRecDepth 20000 in
theorem ggX1_compare_X1_sideOf : GoodIn wsX1_compare wsX1_sideOf := goodIn_r _ [111] (by decide +kernel) (by decide +kernel)
set_option maxRecDepth 20000 in
theorem gX1_compare_X1_sideOf : GoodIn wsX1_compare (va_wsS RX1 61 yX1_sideOf wsX1_sideOf) := goodIn_app (goodIn_of _ (by decide +kernel)) ggX1_compare_X1_sideOf
theorem dX1_compare_0 : decode cX1_compare 0 = .ok (.iload_n 1, 1) := by decide +kernel
theorem dX1_compare_1 : decode cX1_compare 1 = .ok (.lload_n 2, 1) := by decide +kernel
theorem dX1_compare_2 : decode cX1_compare 2 = .ok (.iload 4, 2) := by decide +kernel
theorem dX1_compare_4 : decode cX1_compare 4 = .ok (.lload 5, 2) := by decide +kernel
theorem dX1_compare_6 : decode cX1_compare 6 = .ok (.invokestatic 29, 3) := by decide +kernel
theorem dX1_compare_9 : decode cX1_compare 9 = .ok (.ifCond .ne 10, 3) := by decide +kernel
theorem dX1_compare_12 : decode cX1_compare 12 = .ok (.aload_n 0, 1) := by decide +kernel
theorem dX1_compare_13 : decode cX1_compare 13 = .ok (.iconst 1, 1) := by decide +kernel
theorem dX1_compare_14 : decode cX1_compare 14 = .ok (.iconst 2, 1) := by decide +kernel
theorem dX1_compare_15 : decode cX1_compare 15 = .ok (.invokevirtual 21, 3) := by decide +kernel
theorem dX1_compare_18 : decode cX1_compare 18 = .ok (.ireturn, 1) := by decide +kernel
theorem dX1_compare_19 : decode cX1_compare 19 = .ok (.aload_n 0, 1) := by decide +kernel
theorem dX1_compare_20 : decode cX1_compare 20 = .ok (.iconst 0, 1) := by decide +kernel
theorem dX1_compare_21 : decode cX1_compare 21 = .ok (.putfield 9, 3) := by decide +kernel
theorem dX1_compare_24 : decode cX1_compare 24 = .ok (.iload_n 1, 1) := by decide +kernel
theorem dX1_compare_25 : decode cX1_compare 25 = .ok (.iload 4, 2) := by decide +kernel
theorem dX1_compare_27 : decode cX1_compare 27 = .ok (.invokestatic 33, 3) := by decide +kernel
theorem dX1_compare_30 : decode cX1_compare 30 = .ok (.istore 7, 2) := by decide +kernel
theorem dX1_compare_32 : decode cX1_compare 32 = .ok (.iload_n 1, 1) := by decide +kernel
theorem dX1_compare_33 : decode cX1_compare 33 = .ok (.iload 7, 2) := by decide +kernel
theorem dX1_compare_35 : decode cX1_compare 35 = .ok (.lload_n 2, 1) := by decide +kernel
theorem dX1_compare_36 : decode cX1_compare 36 = .ok (.invokestatic 25, 3) := by decide +kernel
theorem dX1_compare_39 : decode cX1_compare 39 = .ok (.lstore 8, 2) := by decide +kernel
theorem dX1_compare_41 : decode cX1_compare 41 = .ok (.iload 4, 2) := by decide +kernel
theorem dX1_compare_43 : decode cX1_compare 43 = .ok (.iload 7, 2) := by decide +kernel
theorem dX1_compare_45 : decode cX1_compare 45 = .ok (.lload 5, 2) := by decide +kernel
theorem dX1_compare_47 : decode cX1_compare 47 = .ok (.invokestatic 25, 3) := by decide +kernel
theorem dX1_compare_50 : decode cX1_compare 50 = .ok (.lstore 10, 2) := by decide +kernel
theorem dX1_compare_52 : decode cX1_compare 52 = .ok (.iload 7, 2) := by decide +kernel
theorem dX1_compare_54 : decode cX1_compare 54 = .ok (.bipush 6, 2) := by decide +kernel
theorem dX1_compare_56 : decode cX1_compare 56 = .ok (.if_icmp .lt 21, 3) := by decide +kernel
theorem dX1_compare_59 : decode cX1_compare 59 = .ok (.iload 7, 2) := by decide +kernel
theorem dX1_compare_61 : decode cX1_compare 61 = .ok (.lload 8, 2) := by decide +kernel
theorem dX1_compare_63 : decode cX1_compare 63 = .ok (.invokestatic 55, 3) := by decide +kernel
theorem dX1_compare_66 : decode cX1_compare 66 = .ok (.iload 7, 2) := by decide +kernel
theorem dX1_compare_68 : decode cX1_compare 68 = .ok (.lload 10, 2) := by decide +kernel
theorem dX1_compare_70 : decode cX1_compare 70 = .ok (.invokestatic 55, 3) := by decide +kernel
theorem dX1_compare_73 : decode cX1_compare 73 = .ok (.invokestatic 61, 3) := by decide +kernel
theorem dX1_compare_76 : decode cX1_compare 76 = .ok (.ireturn, 1) := by decide +kernel
theorem dX1_compare_77 : decode cX1_compare 77 = .ok (.lload 8, 2) := by decide +kernel
theorem dX1_compare_79 : decode cX1_compare 79 = .ok (.lload 10, 2) := by decide +kernel
theorem dX1_compare_81 : decode cX1_compare 81 = .ok (.invokestatic 61, 3) := by decide +kernel
theorem dX1_compare_84 : decode cX1_compare 84 = .ok (.ireturn, 1) := by decide +kernel
set_option maxRecDepth 20000 in
theorem ggX1_order_X1_isValue : GoodIn wsX1_order wsX1_isValue := goodIn_r _ [5, 6, 7, 4, 8, 9, 10, 11, 12, 13, 14, 15, 16, 17, 18, 19, 20, 21, 22, 23, 24, 25, 26] (by decide +kernel) (by decide +kernel)
set_option maxRecDepth 20000 in
theorem gX1_order_X1_isValue : GoodIn wsX1_order (va_wsS RX1 13 yX1_isValue wsX1_isValue) := goodIn_app (goodIn_of _ (by decide +kernel)) ggX1_order_X1_isValue
set_option maxRecDepth 20000 in
theorem ggX1_order_X1_fails : GoodIn wsX1_order wsX1_fails := goodIn_r _ [30, 1, 40] (by decide +kernel) (by decide +kernel)
set_option maxRecDepth 20000 in
theorem gX1_order_X1_fails : GoodIn wsX1_order (wsV RX1 21 RX1 yX1_fails wsX1_fails) := goodIn_app (goodIn_of _ (by decide +kernel)) ggX1_order_X1_fails
set_option maxRecDepth 20000 in
theorem ggX1_order_X0_placeWithZerosApart : GoodIn wsX1_order wsX0_placeWithZerosApart := goodIn_r _ [33, 13, 14, 11, 15, 16, 17, 18, 19, 20, 21, 34, 35, 36] (by decide +kernel) (by decide +kernel)
set_option maxRecDepth 20000 in
theorem gX1_order_X0_placeWithZerosApart : GoodIn wsX1_order (va_wsS RX1 65 yX0_placeWithZerosApart wsX0_placeWithZerosApart) := goodIn_app (goodIn_of _ (by decide +kernel)) ggX1_order_X0_placeWithZerosApart
set_option maxRecDepth 20000 in
theorem ggX1_order_X1_sideOf : GoodIn wsX1_order wsX1_sideOf := goodIn_r _ [39] (by decide +kernel) (by decide +kernel)
set_option maxRecDepth 20000 in
theorem gX1_order_X1_sideOf : GoodIn wsX1_order (va_wsS RX1 61 yX1_sideOf wsX1_sideOf) := goodIn_app (goodIn_of _ (by decide +kernel)) ggX1_order_X1_sideOf
theorem dX1_order_0 : decode cX1_order 0 = .ok (.iload_n 1, 1) := by decide +kernel
theorem dX1_order_1 : decode cX1_order 1 = .ok (.lload_n 2, 1) := by decide +kernel
theorem dX1_order_2 : decode cX1_order 2 = .ok (.invokestatic 13, 3) := by decide +kernel
theorem dX1_order_5 : decode cX1_order 5 = .ok (.ifCond .eq 12, 3) := by decide +kernel
theorem dX1_order_8 : decode cX1_order 8 = .ok (.iload_n 1, 1) := by decide +kernel
theorem dX1_order_9 : decode cX1_order 9 = .ok (.lload 4, 2) := by decide +kernel
theorem dX1_order_11 : decode cX1_order 11 = .ok (.invokestatic 13, 3) := by decide +kernel
theorem dX1_order_14 : decode cX1_order 14 = .ok (.ifCond .ne 10, 3) := by decide +kernel
theorem dX1_order_17 : decode cX1_order 17 = .ok (.aload_n 0, 1) := by decide +kernel
theorem dX1_order_18 : decode cX1_order 18 = .ok (.iconst 1, 1) := by decide +kernel
theorem dX1_order_19 : decode cX1_order 19 = .ok (.iconst 2, 1) := by decide +kernel
theorem dX1_order_20 : decode cX1_order 20 = .ok (.invokevirtual 21, 3) := by decide +kernel
theorem dX1_order_23 : decode cX1_order 23 = .ok (.ireturn, 1) := by decide +kernel
theorem dX1_order_24 : decode cX1_order 24 = .ok (.aload_n 0, 1) := by decide +kernel
theorem dX1_order_25 : decode cX1_order 25 = .ok (.iconst 0, 1) := by decide +kernel
theorem dX1_order_26 : decode cX1_order 26 = .ok (.putfield 9, 3) := by decide +kernel
theorem dX1_order_29 : decode cX1_order 29 = .ok (.iload_n 1, 1) := by decide +kernel
theorem dX1_order_30 : decode cX1_order 30 = .ok (.bipush 6, 2) := by decide +kernel
theorem dX1_order_32 : decode cX1_order 32 = .ok (.if_icmp .lt 18, 3) := by decide +kernel
theorem dX1_order_35 : decode cX1_order 35 = .ok (.iload_n 1, 1) := by decide +kernel
theorem dX1_order_36 : decode cX1_order 36 = .ok (.lload_n 2, 1) := by decide +kernel
theorem dX1_order_37 : decode cX1_order 37 = .ok (.invokestatic 65, 3) := by decide +kernel
theorem dX1_order_40 : decode cX1_order 40 = .ok (.iload_n 1, 1) := by decide +kernel
theorem dX1_order_41 : decode cX1_order 41 = .ok (.lload 4, 2) := by decide +kernel
theorem dX1_order_43 : decode cX1_order 43 = .ok (.invokestatic 65, 3) := by decide +kernel
theorem dX1_order_46 : decode cX1_order 46 = .ok (.invokestatic 61, 3) := by decide +kernel
theorem dX1_order_49 : decode cX1_order 49 = .ok (.ireturn, 1) := by decide +kernel
theorem dX1_order_50 : decode cX1_order 50 = .ok (.lload_n 2, 1) := by decide +kernel
theorem dX1_order_51 : decode cX1_order 51 = .ok (.lload 4, 2) := by decide +kernel
theorem dX1_order_53 : decode cX1_order 53 = .ok (.invokestatic 61, 3) := by decide +kernel
theorem dX1_order_56 : decode cX1_order 56 = .ok (.ireturn, 1) := by decide +kernel
theorem dX1_failed_0 : decode cX1_failed 0 = .ok (.aload_n 0, 1) := by decide +kernel
theorem dX1_failed_1 : decode cX1_failed 1 = .ok (.getfield 9, 3) := by decide +kernel
theorem dX1_failed_4 : decode cX1_failed 4 = .ok (.ireturn, 1) := by decide +kernel
theorem dX1_fails_0 : decode cX1_fails 0 = .ok (.aload_n 0, 1) := by decide +kernel
theorem dX1_fails_1 : decode cX1_fails 1 = .ok (.iload_n 1, 1) := by decide +kernel
theorem dX1_fails_2 : decode cX1_fails 2 = .ok (.putfield 9, 3) := by decide +kernel
theorem dX1_fails_5 : decode cX1_fails 5 = .ok (.iload_n 2, 1) := by decide +kernel
theorem dX1_fails_6 : decode cX1_fails 6 = .ok (.ireturn, 1) := by decide +kernel
theorem dX1_isNumberKind_0 : decode cX1_isNumberKind 0 = .ok (.iload_n 0, 1) := by decide +kernel
theorem dX1_isNumberKind_1 : decode cX1_isNumberKind 1 = .ok (.iconst 1, 1) := by decide +kernel
theorem dX1_isNumberKind_2 : decode cX1_isNumberKind 2 = .ok (.if_icmp .lt 13, 3) := by decide +kernel
theorem dX1_isNumberKind_5 : decode cX1_isNumberKind 5 = .ok (.iload_n 0, 1) := by decide +kernel
theorem dX1_isNumberKind_6 : decode cX1_isNumberKind 6 = .ok (.bipush 7, 2) := by decide +kernel
theorem dX1_isNumberKind_8 : decode cX1_isNumberKind 8 = .ok (.if_icmp .gt 7, 3) := by decide +kernel
theorem dX1_isNumberKind_11 : decode cX1_isNumberKind 11 = .ok (.iconst 1, 1) := by decide +kernel
theorem dX1_isNumberKind_12 : decode cX1_isNumberKind 12 = .ok (.goto 4, 3) := by decide +kernel
theorem dX1_isNumberKind_15 : decode cX1_isNumberKind 15 = .ok (.iconst 0, 1) := by decide +kernel
theorem dX1_isNumberKind_16 : decode cX1_isNumberKind 16 = .ok (.ireturn, 1) := by decide +kernel
set_option maxRecDepth 20000 in
theorem ggX1_isValue_X1_narrowed : GoodIn wsX1_isValue wsX1_narrowed := goodIn_r _ [4] (by decide +kernel) (by decide +kernel)
set_option maxRecDepth 20000 in
theorem gX1_isValue_X1_narrowed : GoodIn wsX1_isValue (va_wsS RX1 68 yX1_narrowed wsX1_narrowed) := goodIn_app (goodIn_of _ (by decide +kernel)) ggX1_isValue_X1_narrowed
set_option maxRecDepth 20000 in
theorem ggX1_isValue_X0_isNumber : GoodIn wsX1_isValue wsX0_isNumber := goodIn_r _ [8, 9, 10, 7, 11, 12, 13, 14, 15, 16, 17, 18, 19, 20, 21, 22] (by decide +kernel) (by decide +kernel)
set_option maxRecDepth 20000 in
theorem gX1_isValue_X0_isNumber : GoodIn wsX1_isValue (va_wsS RX1 71 yX0_isNumber wsX0_isNumber) := goodIn_app (goodIn_of _ (by decide +kernel)) ggX1_isValue_X0_isNumber
theorem dX1_isValue_0 : decode cX1_isValue 0 = .ok (.iload_n 0, 1) := by decide +kernel
theorem dX1_isValue_1 : decode cX1_isValue 1 = .ok (.tableswitch 87 0 7 #[47, 65, 65, 65, 65, 65, 81, 81], 47) := by decide +kernel
theorem dX1_isValue_48 : decode cX1_isValue 48 = .ok (.lload_n 1, 1) := by decide +kernel
theorem dX1_isValue_49 : decode cX1_isValue 49 = .ok (.lconst 0, 1) := by decide +kernel
theorem dX1_isValue_50 : decode cX1_isValue 50 = .ok (.lcmp, 1) := by decide +kernel
theorem dX1_isValue_51 : decode cX1_isValue 51 = .ok (.ifCond .eq 9, 3) := by decide +kernel
theorem dX1_isValue_54 : decode cX1_isValue 54 = .ok (.lload_n 1, 1) := by decide +kernel
theorem dX1_isValue_55 : decode cX1_isValue 55 = .ok (.lconst 1, 1) := by decide +kernel
theorem dX1_isValue_56 : decode cX1_isValue 56 = .ok (.lcmp, 1) := by decide +kernel
theorem dX1_isValue_57 : decode cX1_isValue 57 = .ok (.ifCond .ne 7, 3) := by decide +kernel
theorem dX1_isValue_60 : decode cX1_isValue 60 = .ok (.iconst 1, 1) := by decide +kernel
theorem dX1_isValue_61 : decode cX1_isValue 61 = .ok (.goto 4, 3) := by decide +kernel
theorem dX1_isValue_64 : decode cX1_isValue 64 = .ok (.iconst 0, 1) := by decide +kernel
theorem dX1_isValue_65 : decode cX1_isValue 65 = .ok (.ireturn, 1) := by decide +kernel
theorem dX1_isValue_66 : decode cX1_isValue 66 = .ok (.iload_n 0, 1) := by decide +kernel
theorem dX1_isValue_67 : decode cX1_isValue 67 = .ok (.lload_n 1, 1) := by decide +kernel
theorem dX1_isValue_68 : decode cX1_isValue 68 = .ok (.invokestatic 68, 3) := by decide +kernel
theorem dX1_isValue_71 : decode cX1_isValue 71 = .ok (.lload_n 1, 1) := by decide +kernel
theorem dX1_isValue_72 : decode cX1_isValue 72 = .ok (.lcmp, 1) := by decide +kernel
theorem dX1_isValue_73 : decode cX1_isValue 73 = .ok (.ifCond .ne 7, 3) := by decide +kernel
theorem dX1_isValue_76 : decode cX1_isValue 76 = .ok (.iconst 1, 1) := by decide +kernel
theorem dX1_isValue_77 : decode cX1_isValue 77 = .ok (.goto 4, 3) := by decide +kernel
theorem dX1_isValue_80 : decode cX1_isValue 80 = .ok (.iconst 0, 1) := by decide +kernel
theorem dX1_isValue_81 : decode cX1_isValue 81 = .ok (.ireturn, 1) := by decide +kernel
theorem dX1_isValue_82 : decode cX1_isValue 82 = .ok (.iload_n 0, 1) := by decide +kernel
theorem dX1_isValue_83 : decode cX1_isValue 83 = .ok (.lload_n 1, 1) := by decide +kernel
theorem dX1_isValue_84 : decode cX1_isValue 84 = .ok (.invokestatic 71, 3) := by decide +kernel
theorem dX1_isValue_87 : decode cX1_isValue 87 = .ok (.ireturn, 1) := by decide +kernel
theorem dX1_isValue_88 : decode cX1_isValue 88 = .ok (.iconst 0, 1) := by decide +kernel
theorem dX1_isValue_89 : decode cX1_isValue 89 = .ok (.ireturn, 1) := by decide +kernel
set_option maxRecDepth 20000 in
theorem ggX1_areNumbers_X1_isNumberKind : GoodIn wsX1_areNumbers wsX1_isNumberKind := goodIn_r _ [4] (by decide +kernel) (by decide +kernel)
set_option maxRecDepth 20000 in
theorem gX1_areNumbers_X1_isNumberKind : GoodIn wsX1_areNumbers (va_wsS RX1 17 yX1_isNumberKind wsX1_isNumberKind) := goodIn_app (goodIn_of _ (by decide +kernel)) ggX1_areNumbers_X1_isNumberKind
set_option maxRecDepth 20000 in
theorem ggX1_areNumbers_X1_isValue : GoodIn wsX1_areNumbers wsX1_isValue := goodIn_r _ [7, 8, 9, 3, 10, 11, 12, 13, 14, 15, 16, 17, 18, 19, 20, 21, 22, 23, 24, 25, 26, 27, 28] (by decide +kernel) (by decide +kernel)
set_option maxRecDepth 20000 in
theorem gX1_areNumbers_X1_isValue : GoodIn wsX1_areNumbers (va_wsS RX1 13 yX1_isValue wsX1_isValue) := goodIn_app (goodIn_of _ (by decide +kernel)) ggX1_areNumbers_X1_isValue
theorem dX1_areNumbers_0 : decode cX1_areNumbers 0 = .ok (.iload_n 0, 1) := by decide +kernel
theorem dX1_areNumbers_1 : decode cX1_areNumbers 1 = .ok (.invokestatic 17, 3) := by decide +kernel
theorem dX1_areNumbers_4 : decode cX1_areNumbers 4 = .ok (.ifCond .eq 31, 3) := by decide +kernel
theorem dX1_areNumbers_7 : decode cX1_areNumbers 7 = .ok (.iload_n 3, 1) := by decide +kernel
theorem dX1_areNumbers_8 : decode cX1_areNumbers 8 = .ok (.invokestatic 17, 3) := by decide +kernel
theorem dX1_areNumbers_11 : decode cX1_areNumbers 11 = .ok (.ifCond .eq 24, 3) := by decide +kernel
theorem dX1_areNumbers_14 : decode cX1_areNumbers 14 = .ok (.iload_n 0, 1) := by decide +kernel
theorem dX1_areNumbers_15 : decode cX1_areNumbers 15 = .ok (.lload_n 1, 1) := by decide +kernel
theorem dX1_areNumbers_16 : decode cX1_areNumbers 16 = .ok (.invokestatic 13, 3) := by decide +kernel
theorem dX1_areNumbers_19 : decode cX1_areNumbers 19 = .ok (.ifCond .eq 16, 3) := by decide +kernel
theorem dX1_areNumbers_22 : decode cX1_areNumbers 22 = .ok (.iload_n 3, 1) := by decide +kernel
theorem dX1_areNumbers_23 : decode cX1_areNumbers 23 = .ok (.lload 4, 2) := by decide +kernel
theorem dX1_areNumbers_25 : decode cX1_areNumbers 25 = .ok (.invokestatic 13, 3) := by decide +kernel
theorem dX1_areNumbers_28 : decode cX1_areNumbers 28 = .ok (.ifCond .eq 7, 3) := by decide +kernel
theorem dX1_areNumbers_31 : decode cX1_areNumbers 31 = .ok (.iconst 1, 1) := by decide +kernel
theorem dX1_areNumbers_32 : decode cX1_areNumbers 32 = .ok (.goto 4, 3) := by decide +kernel
theorem dX1_areNumbers_35 : decode cX1_areNumbers 35 = .ok (.iconst 0, 1) := by decide +kernel
theorem dX1_areNumbers_36 : decode cX1_areNumbers 36 = .ok (.ireturn, 1) := by decide +kernel
theorem dX1_workKind_0 : decode cX1_workKind 0 = .ok (.iconst 4, 1) := by decide +kernel
theorem dX1_workKind_1 : decode cX1_workKind 1 = .ok (.iload_n 0, 1) := by decide +kernel
theorem dX1_workKind_2 : decode cX1_workKind 2 = .ok (.iload_n 1, 1) := by decide +kernel
theorem dX1_workKind_3 : decode cX1_workKind 3 = .ok (.invokestatic 74, 3) := by decide +kernel
theorem dX1_workKind_6 : decode cX1_workKind 6 = .ok (.invokestatic 74, 3) := by decide +kernel
theorem dX1_workKind_9 : decode cX1_workKind 9 = .ok (.ireturn, 1) := by decide +kernel
theorem dX1_sideOf_0 : decode cX1_sideOf 0 = .ok (.lload_n 0, 1) := by decide +kernel
theorem dX1_sideOf_1 : decode cX1_sideOf 1 = .ok (.lload_n 2, 1) := by decide +kernel
theorem dX1_sideOf_2 : decode cX1_sideOf 2 = .ok (.lcmp, 1) := by decide +kernel
theorem dX1_sideOf_3 : decode cX1_sideOf 3 = .ok (.ifCond .ne 5, 3) := by decide +kernel
theorem dX1_sideOf_6 : decode cX1_sideOf 6 = .ok (.iconst 0, 1) := by decide +kernel
theorem dX1_sideOf_7 : decode cX1_sideOf 7 = .ok (.ireturn, 1) := by decide +kernel
theorem dX1_sideOf_8 : decode cX1_sideOf 8 = .ok (.lload_n 0, 1) := by decide +kernel
theorem dX1_sideOf_9 : decode cX1_sideOf 9 = .ok (.lload_n 2, 1) := by decide +kernel
theorem dX1_sideOf_10 : decode cX1_sideOf 10 = .ok (.lcmp, 1) := by decide +kernel
theorem dX1_sideOf_11 : decode cX1_sideOf 11 = .ok (.ifCond .ge 7, 3) := by decide +kernel
theorem dX1_sideOf_14 : decode cX1_sideOf 14 = .ok (.iconst (-1), 1) := by decide +kernel
theorem dX1_sideOf_15 : decode cX1_sideOf 15 = .ok (.goto 4, 3) := by decide +kernel
theorem dX1_sideOf_18 : decode cX1_sideOf 18 = .ok (.iconst 1, 1) := by decide +kernel
theorem dX1_sideOf_19 : decode cX1_sideOf 19 = .ok (.ireturn, 1) := by decide +kernel
theorem dX1_narrowed_0 : decode cX1_narrowed 0 = .ok (.iload_n 0, 1) := by decide +kernel
theorem dX1_narrowed_1 : decode cX1_narrowed 1 = .ok (.tableswitch 50 1 4 #[31, 36, 41, 46], 31) := by decide +kernel
theorem dX1_narrowed_32 : decode cX1_narrowed 32 = .ok (.lload_n 1, 1) := by decide +kernel
theorem dX1_narrowed_33 : decode cX1_narrowed 33 = .ok (.l2i, 1) := by decide +kernel
theorem dX1_narrowed_34 : decode cX1_narrowed 34 = .ok (.i2b, 1) := by decide +kernel
theorem dX1_narrowed_35 : decode cX1_narrowed 35 = .ok (.i2l, 1) := by decide +kernel
theorem dX1_narrowed_36 : decode cX1_narrowed 36 = .ok (.lreturn, 1) := by decide +kernel
theorem dX1_narrowed_37 : decode cX1_narrowed 37 = .ok (.lload_n 1, 1) := by decide +kernel
theorem dX1_narrowed_38 : decode cX1_narrowed 38 = .ok (.l2i, 1) := by decide +kernel
theorem dX1_narrowed_39 : decode cX1_narrowed 39 = .ok (.i2s, 1) := by decide +kernel
theorem dX1_narrowed_40 : decode cX1_narrowed 40 = .ok (.i2l, 1) := by decide +kernel
theorem dX1_narrowed_41 : decode cX1_narrowed 41 = .ok (.lreturn, 1) := by decide +kernel
theorem dX1_narrowed_42 : decode cX1_narrowed 42 = .ok (.lload_n 1, 1) := by decide +kernel
theorem dX1_narrowed_43 : decode cX1_narrowed 43 = .ok (.l2i, 1) := by decide +kernel
theorem dX1_narrowed_44 : decode cX1_narrowed 44 = .ok (.i2c, 1) := by decide +kernel
theorem dX1_narrowed_45 : decode cX1_narrowed 45 = .ok (.i2l, 1) := by decide +kernel
theorem dX1_narrowed_46 : decode cX1_narrowed 46 = .ok (.lreturn, 1) := by decide +kernel
theorem dX1_narrowed_47 : decode cX1_narrowed 47 = .ok (.lload_n 1, 1) := by decide +kernel
theorem dX1_narrowed_48 : decode cX1_narrowed 48 = .ok (.l2i, 1) := by decide +kernel
theorem dX1_narrowed_49 : decode cX1_narrowed 49 = .ok (.i2l, 1) := by decide +kernel
theorem dX1_narrowed_50 : decode cX1_narrowed 50 = .ok (.lreturn, 1) := by decide +kernel
theorem dX1_narrowed_51 : decode cX1_narrowed 51 = .ok (.lload_n 1, 1) := by decide +kernel
theorem dX1_narrowed_52 : decode cX1_narrowed 52 = .ok (.lreturn, 1) := by decide +kernel
set_option maxRecDepth 20000 in
theorem ggX1_converted_X0_ofReal : GoodIn wsX1_converted wsX0_ofReal := goodIn_r _ [4, 5, 6, 3, 7, 8, 9, 10, 11, 12, 13, 14, 15, 16, 17, 18, 19, 20, 21, 22, 23, 24, 25, 26, 27, 28, 29, 30, 31, 32, 33, 34, 35, 36, 37, 38, 39, 40, 41, 42, 43, 44, 45, 46, 47, 48, 49, 50, 51, 52, 53, 54, 55] (by decide +kernel) (by decide +kernel)
set_option maxRecDepth 20000 in
theorem gX1_converted_X0_ofReal : GoodIn wsX1_converted (va_wsS RX1 79 yX0_ofReal wsX0_ofReal) := goodIn_app (goodIn_of _ (by decide +kernel)) ggX1_converted_X0_ofReal
set_option maxRecDepth 20000 in
theorem ggX1_converted_X0_ofWhole : GoodIn wsX1_converted wsX0_ofWhole := goodIn_r _ [58, 12, 59, 60, 61, 39, 62, 44, 45, 3, 46, 25, 26, 27, 8, 9, 10, 11, 47, 48, 49, 31, 32, 33, 41, 42, 43, 50, 51, 52, 20, 21, 22, 23, 24, 53, 54, 55] (by decide +kernel) (by decide +kernel)
set_option maxRecDepth 20000 in
theorem gX1_converted_X0_ofWhole : GoodIn wsX1_converted (va_wsS RX1 82 yX0_ofWhole wsX0_ofWhole) := goodIn_app (goodIn_of _ (by decide +kernel)) ggX1_converted_X0_ofWhole
set_option maxRecDepth 20000 in
theorem ggX1_converted_X1_narrowed : GoodIn wsX1_converted wsX1_narrowed := goodIn_r _ [66] (by decide +kernel) (by decide +kernel)
set_option maxRecDepth 20000 in
theorem gX1_converted_X1_narrowed : GoodIn wsX1_converted (va_wsS RX1 68 yX1_narrowed wsX1_narrowed) := goodIn_app (goodIn_of _ (by decide +kernel)) ggX1_converted_X1_narrowed
set_option maxRecDepth 20000 in
theorem ggX1_converted_X0_wholePart : GoodIn wsX1_converted wsX0_wholePart := goodIn_r _ [69, 70, 12, 5, 6, 3, 7, 8, 9, 10, 11, 28, 29, 30, 31, 32, 33, 16, 17, 18, 19, 34, 35, 36, 37, 38, 39, 40, 41, 42, 43] (by decide +kernel) (by decide +kernel)
set_option maxRecDepth 20000 in
theorem gX1_converted_X0_wholePart : GoodIn wsX1_converted (va_wsS RX1 85 yX0_wholePart wsX0_wholePart) := goodIn_app (goodIn_of _ (by decide +kernel)) ggX1_converted_X0_wholePart
set_option maxRecDepth 20000 in
theorem ggX1_converted_X1_cutToInt : GoodIn wsX1_converted wsX1_cutToInt := goodIn_r _ [73, 74, 75, 76, 77, 39, 78, 79, 80, 81] (by decide +kernel) (by decide +kernel)
set_option maxRecDepth 20000 in
theorem gX1_converted_X1_cutToInt : GoodIn wsX1_converted (va_wsS RX1 88 yX1_cutToInt wsX1_cutToInt) := goodIn_app (goodIn_of _ (by decide +kernel)) ggX1_converted_X1_cutToInt
theorem dX1_converted_0 : decode cX1_converted 0 = .ok (.iload_n 0, 1) := by decide +kernel
theorem dX1_converted_1 : decode cX1_converted 1 = .ok (.iload_n 1, 1) := by decide +kernel
theorem dX1_converted_2 : decode cX1_converted 2 = .ok (.if_icmp .ne 5, 3) := by decide +kernel
theorem dX1_converted_5 : decode cX1_converted 5 = .ok (.lload_n 2, 1) := by decide +kernel
theorem dX1_converted_6 : decode cX1_converted 6 = .ok (.lreturn, 1) := by decide +kernel
theorem dX1_converted_7 : decode cX1_converted 7 = .ok (.iload_n 1, 1) := by decide +kernel
theorem dX1_converted_8 : decode cX1_converted 8 = .ok (.bipush 6, 2) := by decide +kernel
theorem dX1_converted_10 : decode cX1_converted 10 = .ok (.if_icmp .lt 24, 3) := by decide +kernel
theorem dX1_converted_13 : decode cX1_converted 13 = .ok (.iload_n 0, 1) := by decide +kernel
theorem dX1_converted_14 : decode cX1_converted 14 = .ok (.bipush 6, 2) := by decide +kernel
theorem dX1_converted_16 : decode cX1_converted 16 = .ok (.if_icmp .lt 12, 3) := by decide +kernel
theorem dX1_converted_19 : decode cX1_converted 19 = .ok (.iload_n 1, 1) := by decide +kernel
theorem dX1_converted_20 : decode cX1_converted 20 = .ok (.iload_n 0, 1) := by decide +kernel
theorem dX1_converted_21 : decode cX1_converted 21 = .ok (.lload_n 2, 1) := by decide +kernel
theorem dX1_converted_22 : decode cX1_converted 22 = .ok (.invokestatic 79, 3) := by decide +kernel
theorem dX1_converted_25 : decode cX1_converted 25 = .ok (.goto 8, 3) := by decide +kernel
theorem dX1_converted_28 : decode cX1_converted 28 = .ok (.iload_n 1, 1) := by decide +kernel
theorem dX1_converted_29 : decode cX1_converted 29 = .ok (.lload_n 2, 1) := by decide +kernel
theorem dX1_converted_30 : decode cX1_converted 30 = .ok (.invokestatic 82, 3) := by decide +kernel
theorem dX1_converted_33 : decode cX1_converted 33 = .ok (.lreturn, 1) := by decide +kernel
theorem dX1_converted_34 : decode cX1_converted 34 = .ok (.iload_n 0, 1) := by decide +kernel
theorem dX1_converted_35 : decode cX1_converted 35 = .ok (.bipush 6, 2) := by decide +kernel
theorem dX1_converted_37 : decode cX1_converted 37 = .ok (.if_icmp .ge 9, 3) := by decide +kernel
theorem dX1_converted_40 : decode cX1_converted 40 = .ok (.iload_n 1, 1) := by decide +kernel
theorem dX1_converted_41 : decode cX1_converted 41 = .ok (.lload_n 2, 1) := by decide +kernel
theorem dX1_converted_42 : decode cX1_converted 42 = .ok (.invokestatic 68, 3) := by decide +kernel
theorem dX1_converted_45 : decode cX1_converted 45 = .ok (.lreturn, 1) := by decide +kernel
theorem dX1_converted_46 : decode cX1_converted 46 = .ok (.iload_n 0, 1) := by decide +kernel
theorem dX1_converted_47 : decode cX1_converted 47 = .ok (.lload_n 2, 1) := by decide +kernel
theorem dX1_converted_48 : decode cX1_converted 48 = .ok (.invokestatic 85, 3) := by decide +kernel
theorem dX1_converted_51 : decode cX1_converted 51 = .ok (.lstore 4, 2) := by decide +kernel
theorem dX1_converted_53 : decode cX1_converted 53 = .ok (.iload_n 1, 1) := by decide +kernel
theorem dX1_converted_54 : decode cX1_converted 54 = .ok (.iconst 5, 1) := by decide +kernel
theorem dX1_converted_55 : decode cX1_converted 55 = .ok (.if_icmp .ne 8, 3) := by decide +kernel
theorem dX1_converted_58 : decode cX1_converted 58 = .ok (.lload 4, 2) := by decide +kernel
theorem dX1_converted_60 : decode cX1_converted 60 = .ok (.goto 12, 3) := by decide +kernel
theorem dX1_converted_63 : decode cX1_converted 63 = .ok (.iload_n 1, 1) := by decide +kernel
theorem dX1_converted_64 : decode cX1_converted 64 = .ok (.lload 4, 2) := by decide +kernel
theorem dX1_converted_66 : decode cX1_converted 66 = .ok (.invokestatic 88, 3) := by decide +kernel
theorem dX1_converted_69 : decode cX1_converted 69 = .ok (.invokestatic 68, 3) := by decide +kernel
theorem dX1_converted_72 : decode cX1_converted 72 = .ok (.lreturn, 1) := by decide +kernel
theorem dX1_cutToInt_0 : decode cX1_cutToInt 0 = .ok (.ldc2_w 94, 3) := by decide +kernel
theorem dX1_cutToInt_3 : decode cX1_cutToInt 3 = .ok (.ldc2_w 96, 3) := by decide +kernel
theorem dX1_cutToInt_6 : decode cX1_cutToInt 6 = .ok (.lload_n 0, 1) := by decide +kernel
theorem dX1_cutToInt_7 : decode cX1_cutToInt 7 = .ok (.invokestatic 98, 3) := by decide +kernel
theorem dX1_cutToInt_10 : decode cX1_cutToInt 10 = .ok (.invokestatic 102, 3) := by decide +kernel
theorem dX1_cutToInt_13 : decode cX1_cutToInt 13 = .ok (.lreturn, 1) := by decide +kernel
set_option maxRecDepth 20000 in
theorem ggX1_workWhole_X1_narrowed : GoodIn wsX1_workWhole wsX1_narrowed := goodIn_r _ [4] (by decide +kernel) (by decide +kernel)
set_option maxRecDepth 20000 in
theorem gX1_workWhole_X1_narrowed : GoodIn wsX1_workWhole (va_wsS RX1 68 yX1_narrowed wsX1_narrowed) := goodIn_app (goodIn_of _ (by decide +kernel)) ggX1_workWhole_X1_narrowed
set_option maxRecDepth 20000 in
theorem ggX1_workWhole_X1_fails : GoodIn wsX1_workWhole wsX1_fails := goodIn_r _ [8, 9, 10] (by decide +kernel) (by decide +kernel)
set_option maxRecDepth 20000 in
theorem gX1_workWhole_X1_fails : GoodIn wsX1_workWhole (wsV RX1 21 RX1 yX1_fails wsX1_fails) := goodIn_app (goodIn_of _ (by decide +kernel)) ggX1_workWhole_X1_fails
theorem dX1_workWhole_0 : decode cX1_workWhole 0 = .ok (.iload_n 1, 1) := by decide +kernel
theorem dX1_workWhole_1 : decode cX1_workWhole 1 = .ok (.tableswitch 85 1 4 #[31, 40, 49, 58], 31) := by decide +kernel
theorem dX1_workWhole_32 : decode cX1_workWhole 32 = .ok (.iload_n 2, 1) := by decide +kernel
theorem dX1_workWhole_33 : decode cX1_workWhole 33 = .ok (.lload_n 3, 1) := by decide +kernel
theorem dX1_workWhole_34 : decode cX1_workWhole 34 = .ok (.lload 5, 2) := by decide +kernel
theorem dX1_workWhole_36 : decode cX1_workWhole 36 = .ok (.ladd, 1) := by decide +kernel
theorem dX1_workWhole_37 : decode cX1_workWhole 37 = .ok (.invokestatic 68, 3) := by decide +kernel
theorem dX1_workWhole_40 : decode cX1_workWhole 40 = .ok (.lreturn, 1) := by decide +kernel
theorem dX1_workWhole_41 : decode cX1_workWhole 41 = .ok (.iload_n 2, 1) := by decide +kernel
theorem dX1_workWhole_42 : decode cX1_workWhole 42 = .ok (.lload_n 3, 1) := by decide +kernel
theorem dX1_workWhole_43 : decode cX1_workWhole 43 = .ok (.lload 5, 2) := by decide +kernel
theorem dX1_workWhole_45 : decode cX1_workWhole 45 = .ok (.lsub, 1) := by decide +kernel
theorem dX1_workWhole_46 : decode cX1_workWhole 46 = .ok (.invokestatic 68, 3) := by decide +kernel
theorem dX1_workWhole_49 : decode cX1_workWhole 49 = .ok (.lreturn, 1) := by decide +kernel
theorem dX1_workWhole_50 : decode cX1_workWhole 50 = .ok (.iload_n 2, 1) := by decide +kernel
theorem dX1_workWhole_51 : decode cX1_workWhole 51 = .ok (.lload_n 3, 1) := by decide +kernel
theorem dX1_workWhole_52 : decode cX1_workWhole 52 = .ok (.lload 5, 2) := by decide +kernel
theorem dX1_workWhole_54 : decode cX1_workWhole 54 = .ok (.lmul, 1) := by decide +kernel
theorem dX1_workWhole_55 : decode cX1_workWhole 55 = .ok (.invokestatic 68, 3) := by decide +kernel
theorem dX1_workWhole_58 : decode cX1_workWhole 58 = .ok (.lreturn, 1) := by decide +kernel
theorem dX1_workWhole_59 : decode cX1_workWhole 59 = .ok (.lload 5, 2) := by decide +kernel
theorem dX1_workWhole_61 : decode cX1_workWhole 61 = .ok (.lconst 0, 1) := by decide +kernel
theorem dX1_workWhole_62 : decode cX1_workWhole 62 = .ok (.lcmp, 1) := by decide +kernel
theorem dX1_workWhole_63 : decode cX1_workWhole 63 = .ok (.ifCond .ne 14, 3) := by decide +kernel
theorem dX1_workWhole_66 : decode cX1_workWhole 66 = .ok (.aload_n 0, 1) := by decide +kernel
theorem dX1_workWhole_67 : decode cX1_workWhole 67 = .ok (.bipush 8, 2) := by decide +kernel
theorem dX1_workWhole_69 : decode cX1_workWhole 69 = .ok (.iconst 0, 1) := by decide +kernel
theorem dX1_workWhole_70 : decode cX1_workWhole 70 = .ok (.invokevirtual 21, 3) := by decide +kernel
theorem dX1_workWhole_73 : decode cX1_workWhole 73 = .ok (.i2l, 1) := by decide +kernel
theorem dX1_workWhole_74 : decode cX1_workWhole 74 = .ok (.goto 11, 3) := by decide +kernel
theorem dX1_workWhole_77 : decode cX1_workWhole 77 = .ok (.iload_n 2, 1) := by decide +kernel
theorem dX1_workWhole_78 : decode cX1_workWhole 78 = .ok (.lload_n 3, 1) := by decide +kernel
theorem dX1_workWhole_79 : decode cX1_workWhole 79 = .ok (.lload 5, 2) := by decide +kernel
theorem dX1_workWhole_81 : decode cX1_workWhole 81 = .ok (.ldiv, 1) := by decide +kernel
theorem dX1_workWhole_82 : decode cX1_workWhole 82 = .ok (.invokestatic 68, 3) := by decide +kernel
theorem dX1_workWhole_85 : decode cX1_workWhole 85 = .ok (.lreturn, 1) := by decide +kernel
theorem dX1_workWhole_86 : decode cX1_workWhole 86 = .ok (.lload 5, 2) := by decide +kernel
theorem dX1_workWhole_88 : decode cX1_workWhole 88 = .ok (.lconst 0, 1) := by decide +kernel
theorem dX1_workWhole_89 : decode cX1_workWhole 89 = .ok (.lcmp, 1) := by decide +kernel
theorem dX1_workWhole_90 : decode cX1_workWhole 90 = .ok (.ifCond .ne 14, 3) := by decide +kernel
theorem dX1_workWhole_93 : decode cX1_workWhole 93 = .ok (.aload_n 0, 1) := by decide +kernel
theorem dX1_workWhole_94 : decode cX1_workWhole 94 = .ok (.bipush 8, 2) := by decide +kernel
theorem dX1_workWhole_96 : decode cX1_workWhole 96 = .ok (.iconst 0, 1) := by decide +kernel
theorem dX1_workWhole_97 : decode cX1_workWhole 97 = .ok (.invokevirtual 21, 3) := by decide +kernel
theorem dX1_workWhole_100 : decode cX1_workWhole 100 = .ok (.i2l, 1) := by decide +kernel
theorem dX1_workWhole_101 : decode cX1_workWhole 101 = .ok (.goto 11, 3) := by decide +kernel
theorem dX1_workWhole_104 : decode cX1_workWhole 104 = .ok (.iload_n 2, 1) := by decide +kernel
theorem dX1_workWhole_105 : decode cX1_workWhole 105 = .ok (.lload_n 3, 1) := by decide +kernel
theorem dX1_workWhole_106 : decode cX1_workWhole 106 = .ok (.lload 5, 2) := by decide +kernel
theorem dX1_workWhole_108 : decode cX1_workWhole 108 = .ok (.lrem, 1) := by decide +kernel
theorem dX1_workWhole_109 : decode cX1_workWhole 109 = .ok (.invokestatic 68, 3) := by decide +kernel
theorem dX1_workWhole_112 : decode cX1_workWhole 112 = .ok (.lreturn, 1) := by decide +kernel
set_option maxRecDepth 20000 in
theorem ggX1_workReal_X0_sum : GoodIn wsX1_workReal wsX0_sum := goodIn_r _ [4, 5, 6, 3, 7, 8, 9, 10, 11, 12, 13, 14, 15, 16, 17, 18, 19, 20, 21, 22, 23, 24, 25, 26, 27, 28, 29, 30, 31, 32, 33, 34, 35, 36, 37, 38, 39, 40, 41, 42, 43, 44, 45, 46, 47, 48, 49, 50, 51, 52, 53, 54, 55, 56, 57, 58, 59, 60, 61, 62, 63, 64, 65, 66, 67] (by decide +kernel) (by decide +kernel)
set_option maxRecDepth 20000 in
theorem gX1_workReal_X0_sum : GoodIn wsX1_workReal (va_wsS RX1 104 yX0_sum wsX0_sum) := goodIn_app (goodIn_of _ (by decide +kernel)) ggX1_workReal_X0_sum
set_option maxRecDepth 20000 in
theorem ggX1_workReal_X0_negated : GoodIn wsX1_workReal wsX0_negated := goodIn_r _ [70, 12, 13, 3, 14, 15, 16] (by decide +kernel) (by decide +kernel)
set_option maxRecDepth 20000 in
theorem gX1_workReal_X0_negated : GoodIn wsX1_workReal (va_wsS RX1 108 yX0_negated wsX0_negated) := goodIn_app (goodIn_of _ (by decide +kernel)) ggX1_workReal_X0_negated
set_option maxRecDepth 20000 in
theorem ggX1_workReal_X0_product : GoodIn wsX1_workReal wsX0_product := goodIn_r _ [73, 53, 54, 3, 55, 12, 13, 14, 15, 16, 5, 6, 7, 8, 9, 10, 11, 17, 18, 19, 20, 21, 25, 26, 27, 22, 23, 24, 59, 60, 61, 31, 32, 33, 34, 35, 36, 37, 38, 39, 74, 75, 76, 77, 50, 51, 52, 40, 41, 42, 43, 44, 45, 46, 47, 48, 49, 56, 57, 58, 62, 63, 64, 65, 66, 67] (by decide +kernel) (by decide +kernel)
set_option maxRecDepth 20000 in
theorem gX1_workReal_X0_product : GoodIn wsX1_workReal (va_wsS RX1 111 yX0_product wsX0_product) := goodIn_app (goodIn_of _ (by decide +kernel)) ggX1_workReal_X0_product
set_option maxRecDepth 20000 in
theorem ggX1_workReal_X0_quotient : GoodIn wsX1_workReal wsX0_quotient := goodIn_r _ [80, 5, 6, 3, 7, 8, 9, 10, 11, 12, 13, 14, 15, 16, 17, 18, 19, 20, 21, 25, 26, 27, 22, 23, 24, 53, 54, 55, 59, 60, 61, 31, 32, 33, 34, 35, 36, 37, 38, 39, 81, 82, 83, 40, 41, 42, 43, 44, 45, 46, 47, 48, 49, 56, 57, 58, 62, 63, 64, 65, 66, 67] (by decide +kernel) (by decide +kernel)
set_option maxRecDepth 20000 in
theorem gX1_workReal_X0_quotient : GoodIn wsX1_workReal (va_wsS RX1 114 yX0_quotient wsX0_quotient) := goodIn_app (goodIn_of _ (by decide +kernel)) ggX1_workReal_X0_quotient
set_option maxRecDepth 20000 in
theorem ggX1_workReal_X0_rest : GoodIn wsX1_workReal wsX0_rest := goodIn_r _ [86, 5, 6, 3, 7, 8, 9, 10, 11, 12, 13, 14, 15, 16, 17, 18, 19, 20, 21, 25, 26, 27, 22, 23, 24, 31, 32, 33, 34, 35, 36, 37, 38, 39, 40, 41, 42, 43, 44, 45, 46, 47, 48, 49, 87, 88, 89, 90, 91, 92, 53, 54, 55, 56, 57, 58, 59, 60, 61, 62, 63, 64, 65, 66, 67] (by decide +kernel) (by decide +kernel)
set_option maxRecDepth 20000 in
theorem gX1_workReal_X0_rest : GoodIn wsX1_workReal (va_wsS RX1 117 yX0_rest wsX0_rest) := goodIn_app (goodIn_of _ (by decide +kernel)) ggX1_workReal_X0_rest
set_option maxRecDepth 20000 in
theorem ggX1_workReal_X0_isNumber : GoodIn wsX1_workReal wsX0_isNumber := goodIn_r _ [95, 8, 9, 3, 10, 11, 12, 13, 14, 15, 16, 17, 18, 19, 20, 21] (by decide +kernel) (by decide +kernel)
set_option maxRecDepth 20000 in
theorem gX1_workReal_X0_isNumber : GoodIn wsX1_workReal (va_wsS RX1 71 yX0_isNumber wsX0_isNumber) := goodIn_app (goodIn_of _ (by decide +kernel)) ggX1_workReal_X0_isNumber
set_option maxRecDepth 20000 in
theorem ggX1_workReal_X1_fails : GoodIn wsX1_workReal wsX1_fails := goodIn_r _ [100, 101, 102] (by decide +kernel) (by decide +kernel)
set_option maxRecDepth 20000 in
theorem gX1_workReal_X1_fails : GoodIn wsX1_workReal (wsV RX1 21 RX1 yX1_fails wsX1_fails) := goodIn_app (goodIn_of _ (by decide +kernel)) ggX1_workReal_X1_fails
theorem dX1_workReal_0 : decode cX1_workReal 0 = .ok (.iload_n 1, 1) := by decide +kernel
theorem dX1_workReal_1 : decode cX1_workReal 1 = .ok (.tableswitch 83 1 4 #[31, 43, 59, 71], 31) := by decide +kernel
theorem dX1_workReal_32 : decode cX1_workReal 32 = .ok (.iload_n 2, 1) := by decide +kernel
theorem dX1_workReal_33 : decode cX1_workReal 33 = .ok (.lload_n 3, 1) := by decide +kernel
theorem dX1_workReal_34 : decode cX1_workReal 34 = .ok (.lload 5, 2) := by decide +kernel
theorem dX1_workReal_36 : decode cX1_workReal 36 = .ok (.invokestatic 104, 3) := by decide +kernel
theorem dX1_workReal_39 : decode cX1_workReal 39 = .ok (.lstore 7, 2) := by decide +kernel
theorem dX1_workReal_41 : decode cX1_workReal 41 = .ok (.goto 52, 3) := by decide +kernel
theorem dX1_workReal_44 : decode cX1_workReal 44 = .ok (.iload_n 2, 1) := by decide +kernel
theorem dX1_workReal_45 : decode cX1_workReal 45 = .ok (.lload_n 3, 1) := by decide +kernel
theorem dX1_workReal_46 : decode cX1_workReal 46 = .ok (.iload_n 2, 1) := by decide +kernel
theorem dX1_workReal_47 : decode cX1_workReal 47 = .ok (.lload 5, 2) := by decide +kernel
theorem dX1_workReal_49 : decode cX1_workReal 49 = .ok (.invokestatic 108, 3) := by decide +kernel
theorem dX1_workReal_52 : decode cX1_workReal 52 = .ok (.invokestatic 104, 3) := by decide +kernel
theorem dX1_workReal_55 : decode cX1_workReal 55 = .ok (.lstore 7, 2) := by decide +kernel
theorem dX1_workReal_57 : decode cX1_workReal 57 = .ok (.goto 36, 3) := by decide +kernel
theorem dX1_workReal_60 : decode cX1_workReal 60 = .ok (.iload_n 2, 1) := by decide +kernel
theorem dX1_workReal_61 : decode cX1_workReal 61 = .ok (.lload_n 3, 1) := by decide +kernel
theorem dX1_workReal_62 : decode cX1_workReal 62 = .ok (.lload 5, 2) := by decide +kernel
theorem dX1_workReal_64 : decode cX1_workReal 64 = .ok (.invokestatic 111, 3) := by decide +kernel
theorem dX1_workReal_67 : decode cX1_workReal 67 = .ok (.lstore 7, 2) := by decide +kernel
theorem dX1_workReal_69 : decode cX1_workReal 69 = .ok (.goto 24, 3) := by decide +kernel
theorem dX1_workReal_72 : decode cX1_workReal 72 = .ok (.iload_n 2, 1) := by decide +kernel
theorem dX1_workReal_73 : decode cX1_workReal 73 = .ok (.lload_n 3, 1) := by decide +kernel
theorem dX1_workReal_74 : decode cX1_workReal 74 = .ok (.lload 5, 2) := by decide +kernel
theorem dX1_workReal_76 : decode cX1_workReal 76 = .ok (.invokestatic 114, 3) := by decide +kernel
theorem dX1_workReal_79 : decode cX1_workReal 79 = .ok (.lstore 7, 2) := by decide +kernel
theorem dX1_workReal_81 : decode cX1_workReal 81 = .ok (.goto 12, 3) := by decide +kernel
theorem dX1_workReal_84 : decode cX1_workReal 84 = .ok (.iload_n 2, 1) := by decide +kernel
theorem dX1_workReal_85 : decode cX1_workReal 85 = .ok (.lload_n 3, 1) := by decide +kernel
theorem dX1_workReal_86 : decode cX1_workReal 86 = .ok (.lload 5, 2) := by decide +kernel
theorem dX1_workReal_88 : decode cX1_workReal 88 = .ok (.invokestatic 117, 3) := by decide +kernel
theorem dX1_workReal_91 : decode cX1_workReal 91 = .ok (.lstore 7, 2) := by decide +kernel
theorem dX1_workReal_93 : decode cX1_workReal 93 = .ok (.iload_n 2, 1) := by decide +kernel
theorem dX1_workReal_94 : decode cX1_workReal 94 = .ok (.lload 7, 2) := by decide +kernel
theorem dX1_workReal_96 : decode cX1_workReal 96 = .ok (.invokestatic 71, 3) := by decide +kernel
theorem dX1_workReal_99 : decode cX1_workReal 99 = .ok (.ifCond .eq 8, 3) := by decide +kernel
theorem dX1_workReal_102 : decode cX1_workReal 102 = .ok (.lload 7, 2) := by decide +kernel
theorem dX1_workReal_104 : decode cX1_workReal 104 = .ok (.goto 11, 3) := by decide +kernel
theorem dX1_workReal_107 : decode cX1_workReal 107 = .ok (.aload_n 0, 1) := by decide +kernel
theorem dX1_workReal_108 : decode cX1_workReal 108 = .ok (.bipush 8, 2) := by decide +kernel
theorem dX1_workReal_110 : decode cX1_workReal 110 = .ok (.iconst 0, 1) := by decide +kernel
theorem dX1_workReal_111 : decode cX1_workReal 111 = .ok (.invokevirtual 21, 3) := by decide +kernel
theorem dX1_workReal_114 : decode cX1_workReal 114 = .ok (.i2l, 1) := by decide +kernel
theorem dX1_workReal_115 : decode cX1_workReal 115 = .ok (.lreturn, 1) := by decide +kernel
theorem dX1_shiftedInt_0 : decode cX1_shiftedInt 0 = .ok (.iload_n 0, 1) := by decide +kernel
theorem dX1_shiftedInt_1 : decode cX1_shiftedInt 1 = .ok (.lookupswitch 37 #[(6, 27), (7, 32)], 27) := by decide +kernel
theorem dX1_shiftedInt_28 : decode cX1_shiftedInt 28 = .ok (.iload_n 1, 1) := by decide +kernel
theorem dX1_shiftedInt_29 : decode cX1_shiftedInt 29 = .ok (.iload_n 2, 1) := by decide +kernel
theorem dX1_shiftedInt_30 : decode cX1_shiftedInt 30 = .ok (.ishl, 1) := by decide +kernel
theorem dX1_shiftedInt_31 : decode cX1_shiftedInt 31 = .ok (.i2l, 1) := by decide +kernel
theorem dX1_shiftedInt_32 : decode cX1_shiftedInt 32 = .ok (.lreturn, 1) := by decide +kernel
theorem dX1_shiftedInt_33 : decode cX1_shiftedInt 33 = .ok (.iload_n 1, 1) := by decide +kernel
theorem dX1_shiftedInt_34 : decode cX1_shiftedInt 34 = .ok (.iload_n 2, 1) := by decide +kernel
theorem dX1_shiftedInt_35 : decode cX1_shiftedInt 35 = .ok (.ishr, 1) := by decide +kernel
theorem dX1_shiftedInt_36 : decode cX1_shiftedInt 36 = .ok (.i2l, 1) := by decide +kernel
theorem dX1_shiftedInt_37 : decode cX1_shiftedInt 37 = .ok (.lreturn, 1) := by decide +kernel
theorem dX1_shiftedInt_38 : decode cX1_shiftedInt 38 = .ok (.iload_n 1, 1) := by decide +kernel
theorem dX1_shiftedInt_39 : decode cX1_shiftedInt 39 = .ok (.iload_n 2, 1) := by decide +kernel
theorem dX1_shiftedInt_40 : decode cX1_shiftedInt 40 = .ok (.iushr, 1) := by decide +kernel
theorem dX1_shiftedInt_41 : decode cX1_shiftedInt 41 = .ok (.i2l, 1) := by decide +kernel
theorem dX1_shiftedInt_42 : decode cX1_shiftedInt 42 = .ok (.lreturn, 1) := by decide +kernel
theorem dX1_shiftedLong_0 : decode cX1_shiftedLong 0 = .ok (.iload_n 0, 1) := by decide +kernel
theorem dX1_shiftedLong_1 : decode cX1_shiftedLong 1 = .ok (.lookupswitch 35 #[(6, 27), (7, 31)], 27) := by decide +kernel
theorem dX1_shiftedLong_28 : decode cX1_shiftedLong 28 = .ok (.lload_n 1, 1) := by decide +kernel
theorem dX1_shiftedLong_29 : decode cX1_shiftedLong 29 = .ok (.iload_n 3, 1) := by decide +kernel
theorem dX1_shiftedLong_30 : decode cX1_shiftedLong 30 = .ok (.lshl, 1) := by decide +kernel
theorem dX1_shiftedLong_31 : decode cX1_shiftedLong 31 = .ok (.lreturn, 1) := by decide +kernel
theorem dX1_shiftedLong_32 : decode cX1_shiftedLong 32 = .ok (.lload_n 1, 1) := by decide +kernel
theorem dX1_shiftedLong_33 : decode cX1_shiftedLong 33 = .ok (.iload_n 3, 1) := by decide +kernel
theorem dX1_shiftedLong_34 : decode cX1_shiftedLong 34 = .ok (.lshr, 1) := by decide +kernel
theorem dX1_shiftedLong_35 : decode cX1_shiftedLong 35 = .ok (.lreturn, 1) := by decide +kernel
theorem dX1_shiftedLong_36 : decode cX1_shiftedLong 36 = .ok (.lload_n 1, 1) := by decide +kernel
theorem dX1_shiftedLong_37 : decode cX1_shiftedLong 37 = .ok (.iload_n 3, 1) := by decide +kernel
theorem dX1_shiftedLong_38 : decode cX1_shiftedLong 38 = .ok (.lushr, 1) := by decide +kernel
theorem dX1_shiftedLong_39 : decode cX1_shiftedLong 39 = .ok (.lreturn, 1) := by decide +kernel
end
section
set_option maxHeartbeats 4000000 in
set_option maxRecDepth 100000 in
theorem wX1_narrowed_0 {p : Program} {l : Launch} {e : Env} {s : State} {m : MethodId} {args : Array Value} {below : List Frame} {meth : Method} {c : Code} (C : px_C p s m args meth c cX1_narrowed 3 (some .long) RX1 wsX1_narrowed) (v0 : Int32) (v1 : Int64) {ls : Array Slot} (hl : lv_has ls 3 [(0, .int v0), (1, .long v1)]) : W p l e { frames := 0, cells := 0, slots := 0, locals := 0 } s m args below meth c s.heap [] 0 0 (MQ below (px_Q (.long (fX1_narrowed_0 v0 v1))) args s 0 0 (fun _ => False)) (F0 m 0 ls []) := by
  obtain ⟨hx, hb, hml, hown, hts, hr, hlocks⟩ := id C
  rw [fX1_narrowed_0]
  refine lv_iload_n hx hb dX1_narrowed_0 rfl (lv_at hl 0 rfl) ?_
  by_cases hs1_0 : v0 = (1 : Int32)
  · rw [if_pos hs1_0]
    refine lv_tableIn (tgt := 32) (off := 31) hx hb dX1_narrowed_1 (by rw [hs1_0]; decide) (by rw [hs1_0]; decide) (by rw [hs1_0]; decide +kernel) (by decide) ?_
    refine lv_lload_n hx hb dX1_narrowed_32 rfl (lv_at hl 1 rfl) ?_
    refine px_l2i hx hb dX1_narrowed_33 ?_
    refine px_i2b hx hb dX1_narrowed_34 ?_
    refine px_i2l hx hb dX1_narrowed_35 ?_
    exact W.lret hx hb hr (fun t ht _ => ⟨rfl, ht⟩) (fun q h => by cases h) dX1_narrowed_36
  · rw [if_neg hs1_0]
    by_cases hs1_1 : v0 = (2 : Int32)
    · rw [if_pos hs1_1]
      refine lv_tableIn (tgt := 37) (off := 36) hx hb dX1_narrowed_1 (by rw [hs1_1]; decide) (by rw [hs1_1]; decide) (by rw [hs1_1]; decide +kernel) (by decide) ?_
      refine lv_lload_n hx hb dX1_narrowed_37 rfl (lv_at hl 1 rfl) ?_
      refine px_l2i hx hb dX1_narrowed_38 ?_
      refine px_i2s hx hb dX1_narrowed_39 ?_
      refine px_i2l hx hb dX1_narrowed_40 ?_
      exact W.lret hx hb hr (fun t ht _ => ⟨rfl, ht⟩) (fun q h => by cases h) dX1_narrowed_41
    · rw [if_neg hs1_1]
      by_cases hs1_2 : v0 = (3 : Int32)
      · rw [if_pos hs1_2]
        refine lv_tableIn (tgt := 42) (off := 41) hx hb dX1_narrowed_1 (by rw [hs1_2]; decide) (by rw [hs1_2]; decide) (by rw [hs1_2]; decide +kernel) (by decide) ?_
        refine lv_lload_n hx hb dX1_narrowed_42 rfl (lv_at hl 1 rfl) ?_
        refine px_l2i hx hb dX1_narrowed_43 ?_
        refine px_i2c hx hb dX1_narrowed_44 ?_
        refine px_i2l hx hb dX1_narrowed_45 ?_
        exact W.lret hx hb hr (fun t ht _ => ⟨rfl, ht⟩) (fun q h => by cases h) dX1_narrowed_46
      · rw [if_neg hs1_2]
        by_cases hs1_3 : v0 = (4 : Int32)
        · rw [if_pos hs1_3]
          refine lv_tableIn (tgt := 47) (off := 46) hx hb dX1_narrowed_1 (by rw [hs1_3]; decide) (by rw [hs1_3]; decide) (by rw [hs1_3]; decide +kernel) (by decide) ?_
          refine lv_lload_n hx hb dX1_narrowed_47 rfl (lv_at hl 1 rfl) ?_
          refine px_l2i hx hb dX1_narrowed_48 ?_
          refine px_i2l hx hb dX1_narrowed_49 ?_
          exact W.lret hx hb hr (fun t ht _ => ⟨rfl, ht⟩) (fun q h => by cases h) dX1_narrowed_50
        · rw [if_neg hs1_3]
          refine lv_tableOut (tgt := 51) hx hb dX1_narrowed_1 (by have q0 := lv_neT (a := 1) hs1_0 (by decide); have q1 := lv_neT (a := 2) hs1_1 (by decide); have q2 := lv_neT (a := 3) hs1_2 (by decide); have q3 := lv_neT (a := 4) hs1_3 (by decide); omega) (by decide) ?_
          refine lv_lload_n hx hb dX1_narrowed_51 rfl (lv_at hl 1 rfl) ?_
          exact W.lret hx hb hr (fun t ht _ => ⟨rfl, ht⟩) (fun q h => by cases h) dX1_narrowed_52
set_option maxHeartbeats 4000000 in
set_option maxRecDepth 100000 in
theorem kX1_narrowed (l : Launch) (v0 : Int32) (v1 : Int64) : px_M l yX1_narrowed wsX1_narrowed ({ frames := 0, cells := 0, slots := 0, locals := 0 }) [.int v0, .long v1] (.long (fX1_narrowed v0 v1)) := by
  refine Met.ofW (cc := cX1_narrowed) (maxL := 3) (ret := (some .long)) (by decide) rfl ?_
  intro p e s m args below meth c s₁ B hml hv
  cases hv
  have C : px_C p s m _ meth c cX1_narrowed 3 (some .long) RX1 wsX1_narrowed := ⟨B.exec, B.bytes, hml, findClass_of_methodNamed B.named, atoms_spec (ws := wsX1_narrowed) B.pre, B.returns, B.notSynchronized⟩
  have hl := lv_entry ([.int v0, .long v1]) (n := 3) (Nat.le_of_ble_eq_true rfl)
  rw [lg_entry_eq]
  generalize (lg_sl ([.int v0, .long v1]) ++ List.replicate (3 - (lg_sl ([.int v0, .long v1])).length) Slot.unset).toArray = ls at hl ⊢
  have hl : lv_has ls 3 [(0, .int v0), (1, .long v1)] := hl
  rw [fX1_narrowed]
  exact wX1_narrowed_0 C v0 v1 (lv_sub hl [0, 1] rfl)
set_option maxHeartbeats 4000000 in
set_option maxRecDepth 100000 in
theorem wX1_isValue_66 {p : Program} {l : Launch} {e : Env} {s : State} {m : MethodId} {args : Array Value} {below : List Frame} {meth : Method} {c : Code} (C : px_C p s m args meth c cX1_isValue 3 (some .boolean) RX1 wsX1_isValue) (v0 : Int32) (v1 : Int64) {ls : Array Slot} (hl : lv_has ls 3 [(0, .int v0), (1, .long v1)]) : W p l e { frames := 3, cells := 0, slots := 0, locals := 66 } s m args below meth c s.heap [] 0 0 (MQ below (px_Q (.int (fX1_isValue_66 v0 v1))) args s 0 0 (fun _ => False)) (F0 m 66 ls []) := by
  obtain ⟨hx, hb, hml, hown, hts, hr, hlocks⟩ := id C
  rw [fX1_isValue_66]
  refine lv_iload_n hx hb dX1_isValue_66 rfl (lv_at hl 0 rfl) ?_
  refine lv_lload_n hx hb dX1_isValue_67 rfl (lv_at hl 1 rfl) ?_
  refine px_S (As := [.int v0, .long v1]) (rest := []) ⟨hx, hb, hml, hown, hts⟩ (kX1_narrowed l v0 v1) (va_cwS 2 hts gX1_isValue_X1_narrowed rfl rfl rfl (by decide +kernel) ⟨Nat.le_of_ble_eq_true rfl, Nat.le_of_ble_eq_true rfl⟩) rfl hl.1 rfl (Nat.le_of_ble_eq_true rfl) dX1_isValue_68 (Nat.zero_le _) (Nat.zero_le _) ?_
  refine lv_lload_n hx hb dX1_isValue_71 rfl (lv_at hl 1 rfl) ?_
  refine px_lcmp_ne (tgt := 80) hx hb dX1_isValue_72 dX1_isValue_73 (by decide) (fun hc72 => ?_) (fun hc72 => ?_)
  · rw [if_pos hc72]
    refine lv_iconst (v := 1) hx hb dX1_isValue_76 (by decide) ?_
    refine lv_goto (tgt := 81) hx hb dX1_isValue_77 (by decide) ?_
    exact W.zret hx hb hr (by decide) (fun t ht _ => ⟨rfl, ht⟩) (fun q h => by cases h) dX1_isValue_81
  · rw [if_neg hc72]
    refine lv_iconst (v := 0) hx hb dX1_isValue_80 (by decide) ?_
    exact W.zret hx hb hr (by decide) (fun t ht _ => ⟨rfl, ht⟩) (fun q h => by cases h) dX1_isValue_81
set_option maxHeartbeats 4000000 in
set_option maxRecDepth 100000 in
theorem wX1_isValue_82 {p : Program} {l : Launch} {e : Env} {s : State} {m : MethodId} {args : Array Value} {below : List Frame} {meth : Method} {c : Code} (C : px_C p s m args meth c cX1_isValue 3 (some .boolean) RX1 wsX1_isValue) (v0 : Int32) (v1 : Int64) {ls : Array Slot} (hl : lv_has ls 3 [(0, .int v0), (1, .long v1)]) : W p l e { frames := 3, cells := 0, slots := 0, locals := 66 } s m args below meth c s.heap [] 0 0 (MQ below (px_Q (.int (fX1_isValue_82 v0 v1))) args s 0 0 (fun _ => False)) (F0 m 82 ls []) := by
  obtain ⟨hx, hb, hml, hown, hts, hr, hlocks⟩ := id C
  rw [fX1_isValue_82]
  refine lv_iload_n hx hb dX1_isValue_82 rfl (lv_at hl 0 rfl) ?_
  refine lv_lload_n hx hb dX1_isValue_83 rfl (lv_at hl 1 rfl) ?_
  refine px_S (As := [.int v0, .long v1]) (rest := []) ⟨hx, hb, hml, hown, hts⟩ (kX0_isNumber l v0 v1) (va_cwS 2 hts gX1_isValue_X0_isNumber rfl rfl rfl (by decide +kernel) ⟨Nat.le_of_ble_eq_true rfl, Nat.le_of_ble_eq_true rfl⟩) rfl hl.1 rfl (Nat.le_of_ble_eq_true rfl) dX1_isValue_84 (Nat.zero_le _) (Nat.zero_le _) ?_
  exact W.zret hx hb hr (px_z (zX0_isNumber _ _)) (fun t ht _ => ⟨rfl, ht⟩) (fun q h => by cases h) dX1_isValue_87
set_option maxHeartbeats 4000000 in
set_option maxRecDepth 100000 in
theorem wX1_isValue_0 {p : Program} {l : Launch} {e : Env} {s : State} {m : MethodId} {args : Array Value} {below : List Frame} {meth : Method} {c : Code} (C : px_C p s m args meth c cX1_isValue 3 (some .boolean) RX1 wsX1_isValue) (v0 : Int32) (v1 : Int64) {ls : Array Slot} (hl : lv_has ls 3 [(0, .int v0), (1, .long v1)]) : W p l e { frames := 3, cells := 0, slots := 0, locals := 66 } s m args below meth c s.heap [] 0 0 (MQ below (px_Q (.int (fX1_isValue_0 v0 v1))) args s 0 0 (fun _ => False)) (F0 m 0 ls []) := by
  obtain ⟨hx, hb, hml, hown, hts, hr, hlocks⟩ := id C
  rw [fX1_isValue_0]
  refine lv_iload_n hx hb dX1_isValue_0 rfl (lv_at hl 0 rfl) ?_
  by_cases hs1_0 : v0 = (0 : Int32)
  · rw [if_pos hs1_0]
    refine lv_tableIn (tgt := 48) (off := 47) hx hb dX1_isValue_1 (by rw [hs1_0]; decide) (by rw [hs1_0]; decide) (by rw [hs1_0]; decide +kernel) (by decide) ?_
    refine lv_lload_n hx hb dX1_isValue_48 rfl (lv_at hl 1 rfl) ?_
    refine lv_lconst (v := 0) hx hb dX1_isValue_49 (by decide) ?_
    refine px_lcmp_eq (tgt := 60) hx hb dX1_isValue_50 dX1_isValue_51 (by decide) (fun hc50 => ?_) (fun hc50 => ?_)
    · rw [if_pos hc50]
      refine lv_iconst (v := 1) hx hb dX1_isValue_60 (by decide) ?_
      refine lv_goto (tgt := 65) hx hb dX1_isValue_61 (by decide) ?_
      exact W.zret hx hb hr (by decide) (fun t ht _ => ⟨rfl, ht⟩) (fun q h => by cases h) dX1_isValue_65
    · rw [if_neg hc50]
      refine lv_lload_n hx hb dX1_isValue_54 rfl (lv_at hl 1 rfl) ?_
      refine lv_lconst (v := 1) hx hb dX1_isValue_55 (by decide) ?_
      refine px_lcmp_ne (tgt := 64) hx hb dX1_isValue_56 dX1_isValue_57 (by decide) (fun hc56 => ?_) (fun hc56 => ?_)
      · rw [if_pos hc56]
        refine lv_iconst (v := 1) hx hb dX1_isValue_60 (by decide) ?_
        refine lv_goto (tgt := 65) hx hb dX1_isValue_61 (by decide) ?_
        exact W.zret hx hb hr (by decide) (fun t ht _ => ⟨rfl, ht⟩) (fun q h => by cases h) dX1_isValue_65
      · rw [if_neg hc56]
        refine lv_iconst (v := 0) hx hb dX1_isValue_64 (by decide) ?_
        exact W.zret hx hb hr (by decide) (fun t ht _ => ⟨rfl, ht⟩) (fun q h => by cases h) dX1_isValue_65
  · rw [if_neg hs1_0]
    by_cases hs1_1 : v0 = (1 : Int32)
    · rw [if_pos hs1_1]
      refine lv_tableIn (tgt := 66) (off := 65) hx hb dX1_isValue_1 (by rw [hs1_1]; decide) (by rw [hs1_1]; decide) (by rw [hs1_1]; decide +kernel) (by decide) ?_
      exact wX1_isValue_66 C v0 v1 (lv_sub hl [0, 1] rfl)
    · rw [if_neg hs1_1]
      by_cases hs1_2 : v0 = (2 : Int32)
      · rw [if_pos hs1_2]
        refine lv_tableIn (tgt := 66) (off := 65) hx hb dX1_isValue_1 (by rw [hs1_2]; decide) (by rw [hs1_2]; decide) (by rw [hs1_2]; decide +kernel) (by decide) ?_
        exact wX1_isValue_66 C v0 v1 (lv_sub hl [0, 1] rfl)
      · rw [if_neg hs1_2]
        by_cases hs1_3 : v0 = (3 : Int32)
        · rw [if_pos hs1_3]
          refine lv_tableIn (tgt := 66) (off := 65) hx hb dX1_isValue_1 (by rw [hs1_3]; decide) (by rw [hs1_3]; decide) (by rw [hs1_3]; decide +kernel) (by decide) ?_
          exact wX1_isValue_66 C v0 v1 (lv_sub hl [0, 1] rfl)
        · rw [if_neg hs1_3]
          by_cases hs1_4 : v0 = (4 : Int32)
          · rw [if_pos hs1_4]
            refine lv_tableIn (tgt := 66) (off := 65) hx hb dX1_isValue_1 (by rw [hs1_4]; decide) (by rw [hs1_4]; decide) (by rw [hs1_4]; decide +kernel) (by decide) ?_
            exact wX1_isValue_66 C v0 v1 (lv_sub hl [0, 1] rfl)
          · rw [if_neg hs1_4]
            by_cases hs1_5 : v0 = (5 : Int32)
            · rw [if_pos hs1_5]
              refine lv_tableIn (tgt := 66) (off := 65) hx hb dX1_isValue_1 (by rw [hs1_5]; decide) (by rw [hs1_5]; decide) (by rw [hs1_5]; decide +kernel) (by decide) ?_
              exact wX1_isValue_66 C v0 v1 (lv_sub hl [0, 1] rfl)
            · rw [if_neg hs1_5]
              by_cases hs1_6 : v0 = (6 : Int32)
              · rw [if_pos hs1_6]
                refine lv_tableIn (tgt := 82) (off := 81) hx hb dX1_isValue_1 (by rw [hs1_6]; decide) (by rw [hs1_6]; decide) (by rw [hs1_6]; decide +kernel) (by decide) ?_
                exact wX1_isValue_82 C v0 v1 (lv_sub hl [0, 1] rfl)
              · rw [if_neg hs1_6]
                by_cases hs1_7 : v0 = (7 : Int32)
                · rw [if_pos hs1_7]
                  refine lv_tableIn (tgt := 82) (off := 81) hx hb dX1_isValue_1 (by rw [hs1_7]; decide) (by rw [hs1_7]; decide) (by rw [hs1_7]; decide +kernel) (by decide) ?_
                  exact wX1_isValue_82 C v0 v1 (lv_sub hl [0, 1] rfl)
                · rw [if_neg hs1_7]
                  refine lv_tableOut (tgt := 88) hx hb dX1_isValue_1 (by have q0 := lv_neT (a := 0) hs1_0 (by decide); have q1 := lv_neT (a := 1) hs1_1 (by decide); have q2 := lv_neT (a := 2) hs1_2 (by decide); have q3 := lv_neT (a := 3) hs1_3 (by decide); have q4 := lv_neT (a := 4) hs1_4 (by decide); have q5 := lv_neT (a := 5) hs1_5 (by decide); have q6 := lv_neT (a := 6) hs1_6 (by decide); have q7 := lv_neT (a := 7) hs1_7 (by decide); omega) (by decide) ?_
                  refine lv_iconst (v := 0) hx hb dX1_isValue_88 (by decide) ?_
                  exact W.zret hx hb hr (by decide) (fun t ht _ => ⟨rfl, ht⟩) (fun q h => by cases h) dX1_isValue_89
theorem zX1_isValue_66 (v0 : Int32) (v1 : Int64) : fX1_isValue_66 v0 v1 = 0 ∨ fX1_isValue_66 v0 v1 = 1 := by
  unfold fX1_isValue_66
  (repeat' split) <;> first | exact Or.inl rfl | exact Or.inr rfl
theorem zX1_isValue_82 (v0 : Int32) (v1 : Int64) : fX1_isValue_82 v0 v1 = 0 ∨ fX1_isValue_82 v0 v1 = 1 := by
  unfold fX1_isValue_82
  (repeat' split) <;> first | exact Or.inl rfl | exact Or.inr rfl | exact zX0_isNumber _ _
theorem zX1_isValue_0 (v0 : Int32) (v1 : Int64) : fX1_isValue_0 v0 v1 = 0 ∨ fX1_isValue_0 v0 v1 = 1 := by
  unfold fX1_isValue_0
  (repeat' split) <;> first | exact Or.inl rfl | exact Or.inr rfl | exact zX1_isValue_66 _ _ | exact zX1_isValue_82 _ _
theorem zX1_isValue (v0 : Int32) (v1 : Int64) : fX1_isValue v0 v1 = 0 ∨ fX1_isValue v0 v1 = 1 := zX1_isValue_0 _ _
set_option maxHeartbeats 4000000 in
set_option maxRecDepth 100000 in
theorem kX1_isValue (l : Launch) (v0 : Int32) (v1 : Int64) : px_M l yX1_isValue wsX1_isValue ({ frames := 3, cells := 0, slots := 0, locals := 66 }) [.int v0, .long v1] (.int (fX1_isValue v0 v1)) := by
  refine Met.ofW (cc := cX1_isValue) (maxL := 3) (ret := (some .boolean)) (by decide) rfl ?_
  intro p e s m args below meth c s₁ B hml hv
  cases hv
  have C : px_C p s m _ meth c cX1_isValue 3 (some .boolean) RX1 wsX1_isValue := ⟨B.exec, B.bytes, hml, findClass_of_methodNamed B.named, atoms_spec (ws := wsX1_isValue) B.pre, B.returns, B.notSynchronized⟩
  have hl := lv_entry ([.int v0, .long v1]) (n := 3) (Nat.le_of_ble_eq_true rfl)
  rw [lg_entry_eq]
  generalize (lg_sl ([.int v0, .long v1]) ++ List.replicate (3 - (lg_sl ([.int v0, .long v1])).length) Slot.unset).toArray = ls at hl ⊢
  have hl : lv_has ls 3 [(0, .int v0), (1, .long v1)] := hl
  rw [fX1_isValue]
  exact wX1_isValue_0 C v0 v1 (lv_sub hl [0, 1] rfl)
set_option maxHeartbeats 4000000 in
set_option maxRecDepth 100000 in
theorem wX1_isNumberKind_0 {p : Program} {l : Launch} {e : Env} {s : State} {m : MethodId} {args : Array Value} {below : List Frame} {meth : Method} {c : Code} (C : px_C p s m args meth c cX1_isNumberKind 1 (some .boolean) RX1 wsX1_isNumberKind) (v0 : Int32) {ls : Array Slot} (hl : lv_has ls 1 [(0, .int v0)]) : W p l e { frames := 0, cells := 0, slots := 0, locals := 0 } s m args below meth c s.heap [] 0 0 (MQ below (px_Q (.int (fX1_isNumberKind_0 v0))) args s 0 0 (fun _ => False)) (F0 m 0 ls []) := by
  obtain ⟨hx, hb, hml, hown, hts, hr, hlocks⟩ := id C
  rw [fX1_isNumberKind_0]
  refine lv_iload_n hx hb dX1_isNumberKind_0 rfl (lv_at hl 0 rfl) ?_
  refine lv_iconst (v := 1) hx hb dX1_isNumberKind_1 (by decide) ?_
  refine px_icmp_lt (tgt := 15) hx hb dX1_isNumberKind_2 (by decide) (fun hc2 => ?_) (fun hc2 => ?_)
  · rw [if_pos hc2]
    refine lv_iconst (v := 0) hx hb dX1_isNumberKind_15 (by decide) ?_
    exact W.zret hx hb hr (by decide) (fun t ht _ => ⟨rfl, ht⟩) (fun q h => by cases h) dX1_isNumberKind_16
  · rw [if_neg hc2]
    refine lv_iload_n hx hb dX1_isNumberKind_5 rfl (lv_at hl 0 rfl) ?_
    refine lv_bipush (v := 7) hx hb dX1_isNumberKind_6 (by decide) ?_
    refine px_icmp_gt (tgt := 15) hx hb dX1_isNumberKind_8 (by decide) (fun hc8 => ?_) (fun hc8 => ?_)
    · rw [if_pos hc8]
      refine lv_iconst (v := 0) hx hb dX1_isNumberKind_15 (by decide) ?_
      exact W.zret hx hb hr (by decide) (fun t ht _ => ⟨rfl, ht⟩) (fun q h => by cases h) dX1_isNumberKind_16
    · rw [if_neg hc8]
      refine lv_iconst (v := 1) hx hb dX1_isNumberKind_11 (by decide) ?_
      refine lv_goto (tgt := 16) hx hb dX1_isNumberKind_12 (by decide) ?_
      exact W.zret hx hb hr (by decide) (fun t ht _ => ⟨rfl, ht⟩) (fun q h => by cases h) dX1_isNumberKind_16
theorem zX1_isNumberKind_0 (v0 : Int32) : fX1_isNumberKind_0 v0 = 0 ∨ fX1_isNumberKind_0 v0 = 1 := by
  unfold fX1_isNumberKind_0
  (repeat' split) <;> first | exact Or.inl rfl | exact Or.inr rfl
theorem zX1_isNumberKind (v0 : Int32) : fX1_isNumberKind v0 = 0 ∨ fX1_isNumberKind v0 = 1 := zX1_isNumberKind_0 _
set_option maxHeartbeats 4000000 in
set_option maxRecDepth 100000 in
theorem kX1_isNumberKind (l : Launch) (v0 : Int32) : px_M l yX1_isNumberKind wsX1_isNumberKind ({ frames := 0, cells := 0, slots := 0, locals := 0 }) [.int v0] (.int (fX1_isNumberKind v0)) := by
  refine Met.ofW (cc := cX1_isNumberKind) (maxL := 1) (ret := (some .boolean)) (by decide) rfl ?_
  intro p e s m args below meth c s₁ B hml hv
  cases hv
  have C : px_C p s m _ meth c cX1_isNumberKind 1 (some .boolean) RX1 wsX1_isNumberKind := ⟨B.exec, B.bytes, hml, findClass_of_methodNamed B.named, atoms_spec (ws := wsX1_isNumberKind) B.pre, B.returns, B.notSynchronized⟩
  have hl := lv_entry ([.int v0]) (n := 1) (Nat.le_of_ble_eq_true rfl)
  rw [lg_entry_eq]
  generalize (lg_sl ([.int v0]) ++ List.replicate (1 - (lg_sl ([.int v0])).length) Slot.unset).toArray = ls at hl ⊢
  have hl : lv_has ls 1 [(0, .int v0)] := hl
  rw [fX1_isNumberKind]
  exact wX1_isNumberKind_0 C v0 (lv_sub hl [0] rfl)
set_option maxHeartbeats 4000000 in
set_option maxRecDepth 100000 in
theorem wX1_cutToInt_0 {p : Program} {l : Launch} {e : Env} {s : State} {m : MethodId} {args : Array Value} {below : List Frame} {meth : Method} {c : Code} (C : px_C p s m args meth c cX1_cutToInt 2 (some .long) RX1 wsX1_cutToInt) (v0 : Int64) {ls : Array Slot} (hl : lv_has ls 2 [(0, .long v0)]) : W p l e { frames := 1, cells := 0, slots := 0, locals := 17 } s m args below meth c s.heap [] 0 0 (MQ below (px_Q (.long (fX1_cutToInt_0 v0))) args s 0 0 (fun _ => False)) (F0 m 0 ls []) := by
  obtain ⟨hx, hb, hml, hown, hts, hr, hlocks⟩ := id C
  rw [fX1_cutToInt_0]
  refine lv_ldc2 hx hb hown (hts (.constantLong RX1 94 (-2147483648)) (by decide +kernel)) dX1_cutToInt_0 ?_
  refine lv_ldc2 hx hb hown (hts (.constantLong RX1 96 (2147483647)) (by decide +kernel)) dX1_cutToInt_3 ?_
  refine lv_lload_n hx hb dX1_cutToInt_6 rfl (lv_at hl 0 rfl) ?_
  refine px_mminl hx hb (hml.trans hl.1.symm) hown (hts (.methodLink RX1 98 Lib.MathLoose.min_long.x) (by decide +kernel)) (hts (.static Lib.MathLoose.min_long.x) (by decide +kernel)) (hts (.initialized "java/lang/Math") (by decide +kernel)) (hts (.code Lib.MathLoose.min_long.x Lib.MathLoose.min_long.code 4 (some .long)) (by decide +kernel)) (Nat.le_of_ble_eq_true rfl) (Nat.le_of_ble_eq_true rfl) (Nat.zero_le _) (Nat.zero_le _) dX1_cutToInt_7 ?_
  refine px_mmaxl hx hb (hml.trans hl.1.symm) hown (hts (.methodLink RX1 102 Lib.MathLoose.max_long.x) (by decide +kernel)) (hts (.static Lib.MathLoose.max_long.x) (by decide +kernel)) (hts (.initialized "java/lang/Math") (by decide +kernel)) (hts (.code Lib.MathLoose.max_long.x Lib.MathLoose.max_long.code 4 (some .long)) (by decide +kernel)) (Nat.le_of_ble_eq_true rfl) (Nat.le_of_ble_eq_true rfl) (Nat.zero_le _) (Nat.zero_le _) dX1_cutToInt_10 ?_
  exact W.lret hx hb hr (fun t ht _ => ⟨rfl, ht⟩) (fun q h => by cases h) dX1_cutToInt_13
set_option maxHeartbeats 4000000 in
set_option maxRecDepth 100000 in
theorem kX1_cutToInt (l : Launch) (v0 : Int64) : px_M l yX1_cutToInt wsX1_cutToInt ({ frames := 1, cells := 0, slots := 0, locals := 17 }) [.long v0] (.long (fX1_cutToInt v0)) := by
  refine Met.ofW (cc := cX1_cutToInt) (maxL := 2) (ret := (some .long)) (by decide) rfl ?_
  intro p e s m args below meth c s₁ B hml hv
  cases hv
  have C : px_C p s m _ meth c cX1_cutToInt 2 (some .long) RX1 wsX1_cutToInt := ⟨B.exec, B.bytes, hml, findClass_of_methodNamed B.named, atoms_spec (ws := wsX1_cutToInt) B.pre, B.returns, B.notSynchronized⟩
  have hl := lv_entry ([.long v0]) (n := 2) (Nat.le_of_ble_eq_true rfl)
  rw [lg_entry_eq]
  generalize (lg_sl ([.long v0]) ++ List.replicate (2 - (lg_sl ([.long v0])).length) Slot.unset).toArray = ls at hl ⊢
  have hl : lv_has ls 2 [(0, .long v0)] := hl
  rw [fX1_cutToInt]
  exact wX1_cutToInt_0 C v0 (lv_sub hl [0] rfl)
set_option maxHeartbeats 4000000 in
set_option maxRecDepth 100000 in
theorem wX1_converted_0 {p : Program} {l : Launch} {e : Env} {s : State} {m : MethodId} {args : Array Value} {below : List Frame} {meth : Method} {c : Code} (C : px_C p s m args meth c cX1_converted 6 (some .long) RX1 wsX1_converted) (v0 : Int32) (v1 : Int32) (v2 : Int64) {ls : Array Slot} (hl : lv_has ls 6 [(0, .int v0), (1, .int v1), (2, .long v2)]) : W p l e { frames := 4, cells := 0, slots := 0, locals := 96 } s m args below meth c s.heap [] 0 0 (MQ below (px_Q (.long (fX1_converted_0 v0 v1 v2))) args s 0 0 (fun _ => False)) (F0 m 0 ls []) := by
  obtain ⟨hx, hb, hml, hown, hts, hr, hlocks⟩ := id C
  rw [fX1_converted_0]
  refine lv_iload_n hx hb dX1_converted_0 rfl (lv_at hl 0 rfl) ?_
  refine lv_iload_n hx hb dX1_converted_1 rfl (lv_at hl 1 rfl) ?_
  refine px_icmp_ne (tgt := 7) hx hb dX1_converted_2 (by decide) (fun hc2 => ?_) (fun hc2 => ?_)
  · rw [if_pos hc2]
    refine lv_lload_n hx hb dX1_converted_5 rfl (lv_at hl 2 rfl) ?_
    exact W.lret hx hb hr (fun t ht _ => ⟨rfl, ht⟩) (fun q h => by cases h) dX1_converted_6
  · rw [if_neg hc2]
    refine lv_iload_n hx hb dX1_converted_7 rfl (lv_at hl 1 rfl) ?_
    refine lv_bipush (v := 6) hx hb dX1_converted_8 (by decide) ?_
    refine px_icmp_lt (tgt := 34) hx hb dX1_converted_10 (by decide) (fun hc10 => ?_) (fun hc10 => ?_)
    · rw [if_pos hc10]
      refine lv_iload_n hx hb dX1_converted_34 rfl (lv_at hl 0 rfl) ?_
      refine lv_bipush (v := 6) hx hb dX1_converted_35 (by decide) ?_
      refine px_icmp_ge (tgt := 46) hx hb dX1_converted_37 (by decide) (fun hc37 => ?_) (fun hc37 => ?_)
      · rw [if_pos hc37]
        refine lv_iload_n hx hb dX1_converted_40 rfl (lv_at hl 1 rfl) ?_
        refine lv_lload_n hx hb dX1_converted_41 rfl (lv_at hl 2 rfl) ?_
        refine px_S (As := [.int v1, .long v2]) (rest := []) ⟨hx, hb, hml, hown, hts⟩ (kX1_narrowed l v1 v2) (va_cwS 2 hts gX1_converted_X1_narrowed rfl rfl rfl (by decide +kernel) ⟨Nat.le_of_ble_eq_true rfl, Nat.le_of_ble_eq_true rfl⟩) rfl hl.1 rfl (Nat.le_of_ble_eq_true rfl) dX1_converted_42 (Nat.zero_le _) (Nat.zero_le _) ?_
        exact W.lret hx hb hr (fun t ht _ => ⟨rfl, ht⟩) (fun q h => by cases h) dX1_converted_45
      · rw [if_neg hc37]
        refine lv_iload_n hx hb dX1_converted_46 rfl (lv_at hl 0 rfl) ?_
        refine lv_lload_n hx hb dX1_converted_47 rfl (lv_at hl 2 rfl) ?_
        refine px_S (As := [.int v0, .long v2]) (rest := []) ⟨hx, hb, hml, hown, hts⟩ (kX0_wholePart l v0 v2) (va_cwS 2 hts gX1_converted_X0_wholePart rfl rfl rfl (by decide +kernel) ⟨Nat.le_of_ble_eq_true rfl, Nat.le_of_ble_eq_true rfl⟩) rfl hl.1 rfl (Nat.le_of_ble_eq_true rfl) dX1_converted_48 (Nat.zero_le _) (Nat.zero_le _) ?_
        refine lv_topl (fun v4_51 ev4_51 => ?_)
        rw [← ev4_51]
        refine lv_lstore (lv' := [(4, .long v4_51), (0, .int v0), (1, .int v1), (2, .long v2)]) hx hb dX1_converted_51 hl (by decide) rfl (fun ls hl => ?_)
        rw [fX1_converted_53]
        refine lv_iload_n hx hb dX1_converted_53 rfl (lv_at hl 2 rfl) ?_
        refine lv_iconst (v := 5) hx hb dX1_converted_54 (by decide) ?_
        refine px_icmp_ne (tgt := 63) hx hb dX1_converted_55 (by decide) (fun hc55 => ?_) (fun hc55 => ?_)
        · rw [if_pos hc55]
          refine lv_lload hx hb dX1_converted_58 (lv_at hl 0 rfl) ?_
          refine lv_goto (tgt := 72) hx hb dX1_converted_60 (by decide) ?_
          exact W.lret hx hb hr (fun t ht _ => ⟨rfl, ht⟩) (fun q h => by cases h) dX1_converted_72
        · rw [if_neg hc55]
          refine lv_iload_n hx hb dX1_converted_63 rfl (lv_at hl 2 rfl) ?_
          refine lv_lload hx hb dX1_converted_64 (lv_at hl 0 rfl) ?_
          refine px_S (As := [.long v4_51]) (rest := [.int v1]) ⟨hx, hb, hml, hown, hts⟩ (kX1_cutToInt l v4_51) (va_cwS 1 hts gX1_converted_X1_cutToInt rfl rfl rfl (by decide +kernel) ⟨Nat.le_of_ble_eq_true rfl, Nat.le_of_ble_eq_true rfl⟩) rfl hl.1 rfl (Nat.le_of_ble_eq_true rfl) dX1_converted_66 (Nat.zero_le _) (Nat.zero_le _) ?_
          refine px_S (As := [.int v1, .long (fX1_cutToInt v4_51)]) (rest := []) ⟨hx, hb, hml, hown, hts⟩ (kX1_narrowed l v1 (fX1_cutToInt v4_51)) (va_cwS 2 hts gX1_converted_X1_narrowed rfl rfl rfl (by decide +kernel) ⟨Nat.le_of_ble_eq_true rfl, Nat.le_of_ble_eq_true rfl⟩) rfl hl.1 rfl (Nat.le_of_ble_eq_true rfl) dX1_converted_69 (Nat.zero_le _) (Nat.zero_le _) ?_
          exact W.lret hx hb hr (fun t ht _ => ⟨rfl, ht⟩) (fun q h => by cases h) dX1_converted_72
    · rw [if_neg hc10]
      refine lv_iload_n hx hb dX1_converted_13 rfl (lv_at hl 0 rfl) ?_
      refine lv_bipush (v := 6) hx hb dX1_converted_14 (by decide) ?_
      refine px_icmp_lt (tgt := 28) hx hb dX1_converted_16 (by decide) (fun hc16 => ?_) (fun hc16 => ?_)
      · rw [if_pos hc16]
        refine lv_iload_n hx hb dX1_converted_28 rfl (lv_at hl 1 rfl) ?_
        refine lv_lload_n hx hb dX1_converted_29 rfl (lv_at hl 2 rfl) ?_
        refine px_S (As := [.int v1, .long v2]) (rest := []) ⟨hx, hb, hml, hown, hts⟩ (kX0_ofWhole l v1 v2) (va_cwS 2 hts gX1_converted_X0_ofWhole rfl rfl rfl (by decide +kernel) ⟨Nat.le_of_ble_eq_true rfl, Nat.le_of_ble_eq_true rfl⟩) rfl hl.1 rfl (Nat.le_of_ble_eq_true rfl) dX1_converted_30 (Nat.zero_le _) (Nat.zero_le _) ?_
        exact W.lret hx hb hr (fun t ht _ => ⟨rfl, ht⟩) (fun q h => by cases h) dX1_converted_33
      · rw [if_neg hc16]
        refine lv_iload_n hx hb dX1_converted_19 rfl (lv_at hl 1 rfl) ?_
        refine lv_iload_n hx hb dX1_converted_20 rfl (lv_at hl 0 rfl) ?_
        refine lv_lload_n hx hb dX1_converted_21 rfl (lv_at hl 2 rfl) ?_
        refine px_S (As := [.int v1, .int v0, .long v2]) (rest := []) ⟨hx, hb, hml, hown, hts⟩ (kX0_ofReal l v1 v0 v2) (va_cwS 3 hts gX1_converted_X0_ofReal rfl rfl rfl (by decide +kernel) ⟨Nat.le_of_ble_eq_true rfl, Nat.le_of_ble_eq_true rfl⟩) rfl hl.1 rfl (Nat.le_of_ble_eq_true rfl) dX1_converted_22 (Nat.zero_le _) (Nat.zero_le _) ?_
        refine lv_goto (tgt := 33) hx hb dX1_converted_25 (by decide) ?_
        exact W.lret hx hb hr (fun t ht _ => ⟨rfl, ht⟩) (fun q h => by cases h) dX1_converted_33
set_option maxHeartbeats 4000000 in
set_option maxRecDepth 100000 in
theorem kX1_converted (l : Launch) (v0 : Int32) (v1 : Int32) (v2 : Int64) : px_M l yX1_converted wsX1_converted ({ frames := 4, cells := 0, slots := 0, locals := 96 }) [.int v0, .int v1, .long v2] (.long (fX1_converted v0 v1 v2)) := by
  refine Met.ofW (cc := cX1_converted) (maxL := 6) (ret := (some .long)) (by decide) rfl ?_
  intro p e s m args below meth c s₁ B hml hv
  cases hv
  have C : px_C p s m _ meth c cX1_converted 6 (some .long) RX1 wsX1_converted := ⟨B.exec, B.bytes, hml, findClass_of_methodNamed B.named, atoms_spec (ws := wsX1_converted) B.pre, B.returns, B.notSynchronized⟩
  have hl := lv_entry ([.int v0, .int v1, .long v2]) (n := 6) (Nat.le_of_ble_eq_true rfl)
  rw [lg_entry_eq]
  generalize (lg_sl ([.int v0, .int v1, .long v2]) ++ List.replicate (6 - (lg_sl ([.int v0, .int v1, .long v2])).length) Slot.unset).toArray = ls at hl ⊢
  have hl : lv_has ls 6 [(0, .int v0), (1, .int v1), (2, .long v2)] := hl
  rw [fX1_converted]
  exact wX1_converted_0 C v0 v1 v2 (lv_sub hl [0, 1, 2] rfl)
set_option maxHeartbeats 4000000 in
set_option maxRecDepth 100000 in
theorem wX1_areNumbers_0 {p : Program} {l : Launch} {e : Env} {s : State} {m : MethodId} {args : Array Value} {below : List Frame} {meth : Method} {c : Code} (C : px_C p s m args meth c cX1_areNumbers 6 (some .boolean) RX1 wsX1_areNumbers) (v0 : Int32) (v1 : Int64) (v3 : Int32) (v4 : Int64) {ls : Array Slot} (hl : lv_has ls 6 [(0, .int v0), (1, .long v1), (3, .int v3), (4, .long v4)]) : W p l e { frames := 4, cells := 0, slots := 0, locals := 88 } s m args below meth c s.heap [] 0 0 (MQ below (px_Q (.int (fX1_areNumbers_0 v0 v1 v3 v4))) args s 0 0 (fun _ => False)) (F0 m 0 ls []) := by
  obtain ⟨hx, hb, hml, hown, hts, hr, hlocks⟩ := id C
  rw [fX1_areNumbers_0]
  refine lv_iload_n hx hb dX1_areNumbers_0 rfl (lv_at hl 0 rfl) ?_
  refine px_S (As := [.int v0]) (rest := []) ⟨hx, hb, hml, hown, hts⟩ (kX1_isNumberKind l v0) (va_cwS 1 hts gX1_areNumbers_X1_isNumberKind rfl rfl rfl (by decide +kernel) ⟨Nat.le_of_ble_eq_true rfl, Nat.le_of_ble_eq_true rfl⟩) rfl hl.1 rfl (Nat.le_of_ble_eq_true rfl) dX1_areNumbers_1 (Nat.zero_le _) (Nat.zero_le _) ?_
  refine px_if_eq (tgt := 35) hx hb dX1_areNumbers_4 (by decide) (fun hc4 => ?_) (fun hc4 => ?_)
  · rw [if_pos hc4]
    refine lv_iconst (v := 0) hx hb dX1_areNumbers_35 (by decide) ?_
    exact W.zret hx hb hr (by decide) (fun t ht _ => ⟨rfl, ht⟩) (fun q h => by cases h) dX1_areNumbers_36
  · rw [if_neg hc4]
    refine lv_iload_n hx hb dX1_areNumbers_7 rfl (lv_at hl 2 rfl) ?_
    refine px_S (As := [.int v3]) (rest := []) ⟨hx, hb, hml, hown, hts⟩ (kX1_isNumberKind l v3) (va_cwS 1 hts gX1_areNumbers_X1_isNumberKind rfl rfl rfl (by decide +kernel) ⟨Nat.le_of_ble_eq_true rfl, Nat.le_of_ble_eq_true rfl⟩) rfl hl.1 rfl (Nat.le_of_ble_eq_true rfl) dX1_areNumbers_8 (Nat.zero_le _) (Nat.zero_le _) ?_
    refine px_if_eq (tgt := 35) hx hb dX1_areNumbers_11 (by decide) (fun hc11 => ?_) (fun hc11 => ?_)
    · rw [if_pos hc11]
      refine lv_iconst (v := 0) hx hb dX1_areNumbers_35 (by decide) ?_
      exact W.zret hx hb hr (by decide) (fun t ht _ => ⟨rfl, ht⟩) (fun q h => by cases h) dX1_areNumbers_36
    · rw [if_neg hc11]
      refine lv_iload_n hx hb dX1_areNumbers_14 rfl (lv_at hl 0 rfl) ?_
      refine lv_lload_n hx hb dX1_areNumbers_15 rfl (lv_at hl 1 rfl) ?_
      refine px_S (As := [.int v0, .long v1]) (rest := []) ⟨hx, hb, hml, hown, hts⟩ (kX1_isValue l v0 v1) (va_cwS 2 hts gX1_areNumbers_X1_isValue rfl rfl rfl (by decide +kernel) ⟨Nat.le_of_ble_eq_true rfl, Nat.le_of_ble_eq_true rfl⟩) rfl hl.1 rfl (Nat.le_of_ble_eq_true rfl) dX1_areNumbers_16 (Nat.zero_le _) (Nat.zero_le _) ?_
      refine px_if_eq (tgt := 35) hx hb dX1_areNumbers_19 (by decide) (fun hc19 => ?_) (fun hc19 => ?_)
      · rw [if_pos hc19]
        refine lv_iconst (v := 0) hx hb dX1_areNumbers_35 (by decide) ?_
        exact W.zret hx hb hr (by decide) (fun t ht _ => ⟨rfl, ht⟩) (fun q h => by cases h) dX1_areNumbers_36
      · rw [if_neg hc19]
        refine lv_iload_n hx hb dX1_areNumbers_22 rfl (lv_at hl 2 rfl) ?_
        refine lv_lload hx hb dX1_areNumbers_23 (lv_at hl 3 rfl) ?_
        refine px_S (As := [.int v3, .long v4]) (rest := []) ⟨hx, hb, hml, hown, hts⟩ (kX1_isValue l v3 v4) (va_cwS 2 hts gX1_areNumbers_X1_isValue rfl rfl rfl (by decide +kernel) ⟨Nat.le_of_ble_eq_true rfl, Nat.le_of_ble_eq_true rfl⟩) rfl hl.1 rfl (Nat.le_of_ble_eq_true rfl) dX1_areNumbers_25 (Nat.zero_le _) (Nat.zero_le _) ?_
        refine px_if_eq (tgt := 35) hx hb dX1_areNumbers_28 (by decide) (fun hc28 => ?_) (fun hc28 => ?_)
        · rw [if_pos hc28]
          refine lv_iconst (v := 0) hx hb dX1_areNumbers_35 (by decide) ?_
          exact W.zret hx hb hr (by decide) (fun t ht _ => ⟨rfl, ht⟩) (fun q h => by cases h) dX1_areNumbers_36
        · rw [if_neg hc28]
          refine lv_iconst (v := 1) hx hb dX1_areNumbers_31 (by decide) ?_
          refine lv_goto (tgt := 36) hx hb dX1_areNumbers_32 (by decide) ?_
          exact W.zret hx hb hr (by decide) (fun t ht _ => ⟨rfl, ht⟩) (fun q h => by cases h) dX1_areNumbers_36
theorem zX1_areNumbers_0 (v0 : Int32) (v1 : Int64) (v3 : Int32) (v4 : Int64) : fX1_areNumbers_0 v0 v1 v3 v4 = 0 ∨ fX1_areNumbers_0 v0 v1 v3 v4 = 1 := by
  unfold fX1_areNumbers_0
  (repeat' split) <;> first | exact Or.inl rfl | exact Or.inr rfl | exact zX1_isNumberKind _ | exact zX1_isValue _ _
theorem zX1_areNumbers (v0 : Int32) (v1 : Int64) (v3 : Int32) (v4 : Int64) : fX1_areNumbers v0 v1 v3 v4 = 0 ∨ fX1_areNumbers v0 v1 v3 v4 = 1 := zX1_areNumbers_0 _ _ _ _
set_option maxHeartbeats 4000000 in
set_option maxRecDepth 100000 in
theorem kX1_areNumbers (l : Launch) (v0 : Int32) (v1 : Int64) (v3 : Int32) (v4 : Int64) : px_M l yX1_areNumbers wsX1_areNumbers ({ frames := 4, cells := 0, slots := 0, locals := 88 }) [.int v0, .long v1, .int v3, .long v4] (.int (fX1_areNumbers v0 v1 v3 v4)) := by
  refine Met.ofW (cc := cX1_areNumbers) (maxL := 6) (ret := (some .boolean)) (by decide) rfl ?_
  intro p e s m args below meth c s₁ B hml hv
  cases hv
  have C : px_C p s m _ meth c cX1_areNumbers 6 (some .boolean) RX1 wsX1_areNumbers := ⟨B.exec, B.bytes, hml, findClass_of_methodNamed B.named, atoms_spec (ws := wsX1_areNumbers) B.pre, B.returns, B.notSynchronized⟩
  have hl := lv_entry ([.int v0, .long v1, .int v3, .long v4]) (n := 6) (Nat.le_of_ble_eq_true rfl)
  rw [lg_entry_eq]
  generalize (lg_sl ([.int v0, .long v1, .int v3, .long v4]) ++ List.replicate (6 - (lg_sl ([.int v0, .long v1, .int v3, .long v4])).length) Slot.unset).toArray = ls at hl ⊢
  have hl : lv_has ls 6 [(0, .int v0), (1, .long v1), (3, .int v3), (4, .long v4)] := hl
  rw [fX1_areNumbers]
  exact wX1_areNumbers_0 C v0 v1 v3 v4 (lv_sub hl [0, 1, 2, 3] rfl)
set_option maxHeartbeats 4000000 in
set_option maxRecDepth 100000 in
theorem wX1_workKind_0 {p : Program} {l : Launch} {e : Env} {s : State} {m : MethodId} {args : Array Value} {below : List Frame} {meth : Method} {c : Code} (C : px_C p s m args meth c cX1_workKind 2 (some .int) RX1 wsX1_workKind) (v0 : Int32) (v1 : Int32) {ls : Array Slot} (hl : lv_has ls 2 [(0, .int v0), (1, .int v1)]) : W p l e { frames := 1, cells := 0, slots := 0, locals := 14 } s m args below meth c s.heap [] 0 0 (MQ below (px_Q (.int (fX1_workKind_0 v0 v1))) args s 0 0 (fun _ => False)) (F0 m 0 ls []) := by
  obtain ⟨hx, hb, hml, hown, hts, hr, hlocks⟩ := id C
  rw [fX1_workKind_0]
  refine lv_iconst (v := 4) hx hb dX1_workKind_0 (by decide) ?_
  refine lv_iload_n hx hb dX1_workKind_1 rfl (lv_at hl 0 rfl) ?_
  refine lv_iload_n hx hb dX1_workKind_2 rfl (lv_at hl 1 rfl) ?_
  refine px_mmax hx hb (hml.trans hl.1.symm) hown (hts (.methodLink RX1 74 Lib.Math.max.name) (by decide +kernel)) (hts (.static Lib.Math.max.name) (by decide +kernel)) (hts (.initialized "java/lang/Math") (by decide +kernel)) (hts (.code Lib.Math.max.name Lib.Math.max.code 2 (some .int)) (by decide +kernel)) (Nat.le_of_ble_eq_true rfl) (Nat.le_of_ble_eq_true rfl) (Nat.zero_le _) (Nat.zero_le _) dX1_workKind_3 ?_
  refine px_mmax hx hb (hml.trans hl.1.symm) hown (hts (.methodLink RX1 74 Lib.Math.max.name) (by decide +kernel)) (hts (.static Lib.Math.max.name) (by decide +kernel)) (hts (.initialized "java/lang/Math") (by decide +kernel)) (hts (.code Lib.Math.max.name Lib.Math.max.code 2 (some .int)) (by decide +kernel)) (Nat.le_of_ble_eq_true rfl) (Nat.le_of_ble_eq_true rfl) (Nat.zero_le _) (Nat.zero_le _) dX1_workKind_6 ?_
  exact W.iret hx hb hr (fun t ht _ => ⟨rfl, ht⟩) (fun q h => by cases h) dX1_workKind_9
set_option maxHeartbeats 4000000 in
set_option maxRecDepth 100000 in
theorem kX1_workKind (l : Launch) (v0 : Int32) (v1 : Int32) : px_M l yX1_workKind wsX1_workKind ({ frames := 1, cells := 0, slots := 0, locals := 14 }) [.int v0, .int v1] (.int (fX1_workKind v0 v1)) := by
  refine Met.ofW (cc := cX1_workKind) (maxL := 2) (ret := (some .int)) (by decide) rfl ?_
  intro p e s m args below meth c s₁ B hml hv
  cases hv
  have C : px_C p s m _ meth c cX1_workKind 2 (some .int) RX1 wsX1_workKind := ⟨B.exec, B.bytes, hml, findClass_of_methodNamed B.named, atoms_spec (ws := wsX1_workKind) B.pre, B.returns, B.notSynchronized⟩
  have hl := lv_entry ([.int v0, .int v1]) (n := 2) (Nat.le_of_ble_eq_true rfl)
  rw [lg_entry_eq]
  generalize (lg_sl ([.int v0, .int v1]) ++ List.replicate (2 - (lg_sl ([.int v0, .int v1])).length) Slot.unset).toArray = ls at hl ⊢
  have hl : lv_has ls 2 [(0, .int v0), (1, .int v1)] := hl
  rw [fX1_workKind]
  exact wX1_workKind_0 C v0 v1 (lv_sub hl [0, 1] rfl)
set_option maxHeartbeats 4000000 in
set_option maxRecDepth 100000 in
theorem wX1_shiftedLong_0 {p : Program} {l : Launch} {e : Env} {s : State} {m : MethodId} {args : Array Value} {below : List Frame} {meth : Method} {c : Code} (C : px_C p s m args meth c cX1_shiftedLong 4 (some .long) RX1 wsX1_shiftedLong) (v0 : Int32) (v1 : Int64) (v3 : Int32) {ls : Array Slot} (hl : lv_has ls 4 [(0, .int v0), (1, .long v1), (3, .int v3)]) : W p l e { frames := 0, cells := 0, slots := 0, locals := 0 } s m args below meth c s.heap [] 0 0 (MQ below (px_Q (.long (fX1_shiftedLong_0 v0 v1 v3))) args s 0 0 (fun _ => False)) (F0 m 0 ls []) := by
  obtain ⟨hx, hb, hml, hown, hts, hr, hlocks⟩ := id C
  rw [fX1_shiftedLong_0]
  refine lv_iload_n hx hb dX1_shiftedLong_0 rfl (lv_at hl 0 rfl) ?_
  by_cases hs1_0 : v0 = (6 : Int32)
  · rw [if_pos hs1_0]
    refine lv_lookup (tgt := 28) (off := 27) hx hb dX1_shiftedLong_1 (by decide) (by rw [hs1_0]; decide +kernel) (by decide) ?_
    refine lv_lload_n hx hb dX1_shiftedLong_28 rfl (lv_at hl 1 rfl) ?_
    refine lv_iload_n hx hb dX1_shiftedLong_29 rfl (lv_at hl 2 rfl) ?_
    refine px_lshl hx hb dX1_shiftedLong_30 ?_
    exact W.lret hx hb hr (fun t ht _ => ⟨rfl, ht⟩) (fun q h => by cases h) dX1_shiftedLong_31
  · rw [if_neg hs1_0]
    by_cases hs1_1 : v0 = (7 : Int32)
    · rw [if_pos hs1_1]
      refine lv_lookup (tgt := 32) (off := 31) hx hb dX1_shiftedLong_1 (by decide) (by rw [hs1_1]; decide +kernel) (by decide) ?_
      refine lv_lload_n hx hb dX1_shiftedLong_32 rfl (lv_at hl 1 rfl) ?_
      refine lv_iload_n hx hb dX1_shiftedLong_33 rfl (lv_at hl 2 rfl) ?_
      refine px_lshr hx hb dX1_shiftedLong_34 ?_
      exact W.lret hx hb hr (fun t ht _ => ⟨rfl, ht⟩) (fun q h => by cases h) dX1_shiftedLong_35
    · rw [if_neg hs1_1]
      refine lv_lookup (tgt := 36) (off := 35) hx hb dX1_shiftedLong_1 (by decide) (by show Op.lookupswitch.offset [(6, 27), (7, 31)] 35 _ = _; rw [lv_osw hs1_0 (by decide), lv_osw hs1_1 (by decide)]; rfl) (by decide) ?_
      refine lv_lload_n hx hb dX1_shiftedLong_36 rfl (lv_at hl 1 rfl) ?_
      refine lv_iload_n hx hb dX1_shiftedLong_37 rfl (lv_at hl 2 rfl) ?_
      refine px_lushr hx hb dX1_shiftedLong_38 ?_
      exact W.lret hx hb hr (fun t ht _ => ⟨rfl, ht⟩) (fun q h => by cases h) dX1_shiftedLong_39
set_option maxHeartbeats 4000000 in
set_option maxRecDepth 100000 in
theorem kX1_shiftedLong (l : Launch) (v0 : Int32) (v1 : Int64) (v3 : Int32) : px_M l yX1_shiftedLong wsX1_shiftedLong ({ frames := 0, cells := 0, slots := 0, locals := 0 }) [.int v0, .long v1, .int v3] (.long (fX1_shiftedLong v0 v1 v3)) := by
  refine Met.ofW (cc := cX1_shiftedLong) (maxL := 4) (ret := (some .long)) (by decide) rfl ?_
  intro p e s m args below meth c s₁ B hml hv
  cases hv
  have C : px_C p s m _ meth c cX1_shiftedLong 4 (some .long) RX1 wsX1_shiftedLong := ⟨B.exec, B.bytes, hml, findClass_of_methodNamed B.named, atoms_spec (ws := wsX1_shiftedLong) B.pre, B.returns, B.notSynchronized⟩
  have hl := lv_entry ([.int v0, .long v1, .int v3]) (n := 4) (Nat.le_of_ble_eq_true rfl)
  rw [lg_entry_eq]
  generalize (lg_sl ([.int v0, .long v1, .int v3]) ++ List.replicate (4 - (lg_sl ([.int v0, .long v1, .int v3])).length) Slot.unset).toArray = ls at hl ⊢
  have hl : lv_has ls 4 [(0, .int v0), (1, .long v1), (3, .int v3)] := hl
  rw [fX1_shiftedLong]
  exact wX1_shiftedLong_0 C v0 v1 v3 (lv_sub hl [0, 1, 2] rfl)
set_option maxHeartbeats 4000000 in
set_option maxRecDepth 100000 in
theorem wX1_shiftedInt_0 {p : Program} {l : Launch} {e : Env} {s : State} {m : MethodId} {args : Array Value} {below : List Frame} {meth : Method} {c : Code} (C : px_C p s m args meth c cX1_shiftedInt 3 (some .long) RX1 wsX1_shiftedInt) (v0 : Int32) (v1 : Int32) (v2 : Int32) {ls : Array Slot} (hl : lv_has ls 3 [(0, .int v0), (1, .int v1), (2, .int v2)]) : W p l e { frames := 0, cells := 0, slots := 0, locals := 0 } s m args below meth c s.heap [] 0 0 (MQ below (px_Q (.long (fX1_shiftedInt_0 v0 v1 v2))) args s 0 0 (fun _ => False)) (F0 m 0 ls []) := by
  obtain ⟨hx, hb, hml, hown, hts, hr, hlocks⟩ := id C
  rw [fX1_shiftedInt_0]
  refine lv_iload_n hx hb dX1_shiftedInt_0 rfl (lv_at hl 0 rfl) ?_
  by_cases hs1_0 : v0 = (6 : Int32)
  · rw [if_pos hs1_0]
    refine lv_lookup (tgt := 28) (off := 27) hx hb dX1_shiftedInt_1 (by decide) (by rw [hs1_0]; decide +kernel) (by decide) ?_
    refine lv_iload_n hx hb dX1_shiftedInt_28 rfl (lv_at hl 1 rfl) ?_
    refine lv_iload_n hx hb dX1_shiftedInt_29 rfl (lv_at hl 2 rfl) ?_
    refine px_ishl hx hb dX1_shiftedInt_30 ?_
    refine px_i2l hx hb dX1_shiftedInt_31 ?_
    exact W.lret hx hb hr (fun t ht _ => ⟨rfl, ht⟩) (fun q h => by cases h) dX1_shiftedInt_32
  · rw [if_neg hs1_0]
    by_cases hs1_1 : v0 = (7 : Int32)
    · rw [if_pos hs1_1]
      refine lv_lookup (tgt := 33) (off := 32) hx hb dX1_shiftedInt_1 (by decide) (by rw [hs1_1]; decide +kernel) (by decide) ?_
      refine lv_iload_n hx hb dX1_shiftedInt_33 rfl (lv_at hl 1 rfl) ?_
      refine lv_iload_n hx hb dX1_shiftedInt_34 rfl (lv_at hl 2 rfl) ?_
      refine px_ishr hx hb dX1_shiftedInt_35 ?_
      refine px_i2l hx hb dX1_shiftedInt_36 ?_
      exact W.lret hx hb hr (fun t ht _ => ⟨rfl, ht⟩) (fun q h => by cases h) dX1_shiftedInt_37
    · rw [if_neg hs1_1]
      refine lv_lookup (tgt := 38) (off := 37) hx hb dX1_shiftedInt_1 (by decide) (by show Op.lookupswitch.offset [(6, 27), (7, 32)] 37 _ = _; rw [lv_osw hs1_0 (by decide), lv_osw hs1_1 (by decide)]; rfl) (by decide) ?_
      refine lv_iload_n hx hb dX1_shiftedInt_38 rfl (lv_at hl 1 rfl) ?_
      refine lv_iload_n hx hb dX1_shiftedInt_39 rfl (lv_at hl 2 rfl) ?_
      refine px_iushr hx hb dX1_shiftedInt_40 ?_
      refine px_i2l hx hb dX1_shiftedInt_41 ?_
      exact W.lret hx hb hr (fun t ht _ => ⟨rfl, ht⟩) (fun q h => by cases h) dX1_shiftedInt_42
set_option maxHeartbeats 4000000 in
set_option maxRecDepth 100000 in
theorem kX1_shiftedInt (l : Launch) (v0 : Int32) (v1 : Int32) (v2 : Int32) : px_M l yX1_shiftedInt wsX1_shiftedInt ({ frames := 0, cells := 0, slots := 0, locals := 0 }) [.int v0, .int v1, .int v2] (.long (fX1_shiftedInt v0 v1 v2)) := by
  refine Met.ofW (cc := cX1_shiftedInt) (maxL := 3) (ret := (some .long)) (by decide) rfl ?_
  intro p e s m args below meth c s₁ B hml hv
  cases hv
  have C : px_C p s m _ meth c cX1_shiftedInt 3 (some .long) RX1 wsX1_shiftedInt := ⟨B.exec, B.bytes, hml, findClass_of_methodNamed B.named, atoms_spec (ws := wsX1_shiftedInt) B.pre, B.returns, B.notSynchronized⟩
  have hl := lv_entry ([.int v0, .int v1, .int v2]) (n := 3) (Nat.le_of_ble_eq_true rfl)
  rw [lg_entry_eq]
  generalize (lg_sl ([.int v0, .int v1, .int v2]) ++ List.replicate (3 - (lg_sl ([.int v0, .int v1, .int v2])).length) Slot.unset).toArray = ls at hl ⊢
  have hl : lv_has ls 3 [(0, .int v0), (1, .int v1), (2, .int v2)] := hl
  rw [fX1_shiftedInt]
  exact wX1_shiftedInt_0 C v0 v1 v2 (lv_sub hl [0, 1, 2] rfl)
set_option maxHeartbeats 4000000 in
set_option maxRecDepth 100000 in
theorem wX1_sideOf_0 {p : Program} {l : Launch} {e : Env} {s : State} {m : MethodId} {args : Array Value} {below : List Frame} {meth : Method} {c : Code} (C : px_C p s m args meth c cX1_sideOf 4 (some .int) RX1 wsX1_sideOf) (v0 : Int64) (v2 : Int64) {ls : Array Slot} (hl : lv_has ls 4 [(0, .long v0), (2, .long v2)]) : W p l e { frames := 0, cells := 0, slots := 0, locals := 0 } s m args below meth c s.heap [] 0 0 (MQ below (px_Q (.int (fX1_sideOf_0 v0 v2))) args s 0 0 (fun _ => False)) (F0 m 0 ls []) := by
  obtain ⟨hx, hb, hml, hown, hts, hr, hlocks⟩ := id C
  rw [fX1_sideOf_0]
  refine lv_lload_n hx hb dX1_sideOf_0 rfl (lv_at hl 0 rfl) ?_
  refine lv_lload_n hx hb dX1_sideOf_1 rfl (lv_at hl 1 rfl) ?_
  refine px_lcmp_ne (tgt := 8) hx hb dX1_sideOf_2 dX1_sideOf_3 (by decide) (fun hc2 => ?_) (fun hc2 => ?_)
  · rw [if_pos hc2]
    refine lv_iconst (v := 0) hx hb dX1_sideOf_6 (by decide) ?_
    exact W.iret hx hb hr (fun t ht _ => ⟨rfl, ht⟩) (fun q h => by cases h) dX1_sideOf_7
  · rw [if_neg hc2]
    refine lv_lload_n hx hb dX1_sideOf_8 rfl (lv_at hl 0 rfl) ?_
    refine lv_lload_n hx hb dX1_sideOf_9 rfl (lv_at hl 1 rfl) ?_
    refine px_lcmp_ge (tgt := 18) hx hb dX1_sideOf_10 dX1_sideOf_11 (by decide) (fun hc10 => ?_) (fun hc10 => ?_)
    · rw [if_pos hc10]
      refine lv_iconst (v := -1) hx hb dX1_sideOf_14 (by decide) ?_
      refine lv_goto (tgt := 19) hx hb dX1_sideOf_15 (by decide) ?_
      exact W.iret hx hb hr (fun t ht _ => ⟨rfl, ht⟩) (fun q h => by cases h) dX1_sideOf_19
    · rw [if_neg hc10]
      refine lv_iconst (v := 1) hx hb dX1_sideOf_18 (by decide) ?_
      exact W.iret hx hb hr (fun t ht _ => ⟨rfl, ht⟩) (fun q h => by cases h) dX1_sideOf_19
set_option maxHeartbeats 4000000 in
set_option maxRecDepth 100000 in
theorem kX1_sideOf (l : Launch) (v0 : Int64) (v2 : Int64) : px_M l yX1_sideOf wsX1_sideOf ({ frames := 0, cells := 0, slots := 0, locals := 0 }) [.long v0, .long v2] (.int (fX1_sideOf v0 v2)) := by
  refine Met.ofW (cc := cX1_sideOf) (maxL := 4) (ret := (some .int)) (by decide) rfl ?_
  intro p e s m args below meth c s₁ B hml hv
  cases hv
  have C : px_C p s m _ meth c cX1_sideOf 4 (some .int) RX1 wsX1_sideOf := ⟨B.exec, B.bytes, hml, findClass_of_methodNamed B.named, atoms_spec (ws := wsX1_sideOf) B.pre, B.returns, B.notSynchronized⟩
  have hl := lv_entry ([.long v0, .long v2]) (n := 4) (Nat.le_of_ble_eq_true rfl)
  rw [lg_entry_eq]
  generalize (lg_sl ([.long v0, .long v2]) ++ List.replicate (4 - (lg_sl ([.long v0, .long v2])).length) Slot.unset).toArray = ls at hl ⊢
  have hl : lv_has ls 4 [(0, .long v0), (2, .long v2)] := hl
  rw [fX1_sideOf]
  exact wX1_sideOf_0 C v0 v2 (lv_sub hl [0, 1] rfl)
end
section
set_option maxHeartbeats 4000000 in
set_option maxRecDepth 100000 in
theorem wX1_init_0 {p : Program} {l : Launch} {e : Env} {s : State} {m : MethodId} {args : Array Value} {below : List Frame} {meth : Method} {c : Code} {D : va_G} (C : px_C p s m args meth c cX1_init 1 none RX1 wsX1_init) (this : Nat) (fld : Int32) {H : Heap} {locs : List Loc} (hK : va_K D vwCl [] s) (hP : va_P D vwCl [(this, .inr (0, [.int fld]))] H) (hS : va_S (fun q => q = this) s.heap H locs) {ls : Array Slot} (hl : lv_has ls 1 [(0, .ref this)]) : W p l e { frames := 1, cells := 0, slots := 0, locals := 12 } s m args below meth c H locs 0 0 (MQ below (ob_QU D 0 this (fX1_init_0 fld)) args s 0 0 (fun q => q = this)) (F0 m 0 ls []) := by
  obtain ⟨hx, hb, hml, hown, hts, hr, hlocks⟩ := id C
  rw [fX1_init_0]
  refine lv_aload_n hx hb dX1_init_0 rfl (lv_at hl 0 rfl) ?_
  refine W.objInit hx hb hown (hts (.methodLink RX1 1 objectInit) (by decide +kernel)) (hts (.instanceMethod objectInit) (by decide +kernel)) (hts (.code objectInit ⟨#[0xb1]⟩ 1 none) (by decide +kernel)) rfl (by rw [hml]; exact hl.1) rfl dX1_init_1 (Nat.le_of_ble_eq_true rfl) (Nat.le_of_ble_eq_true rfl) ?_
  refine W.eq (g2 := F0 m 4 ls []) rfl ?_
  refine lv_aload_n hx hb dX1_init_4 rfl (lv_at hl 0 rfl) ?_
  refine lv_iconst (v := 0) hx hb dX1_init_5 (by decide) ?_
  refine va_put (D := D) (ci := 0) (v := .int (0 : Int32)) (ty := .int) (C := RX1) (T := TX1) (N := 1) hx hb hts (by decide +kernel) tyX1 tyX1_ok nmX1 hown hK hP (ob_D _ _) hS 0 rfl rfl 0 (by decide) (hts (.fieldLink RX1 9 "KindNumbers" "why" "I") (by decide +kernel)) (fun _ h9 => h9) rfl (by decide +kernel) rfl rfl (Nat.le_of_ble_eq_true rfl) dX1_init_6 (fun H locs hP _ hS => ?_)
  have hP : va_P D vwCl [(this, .inr (0, [.int (0 : Int32)]))] H := hP
  exact W.vret hx hb hr (fun t ht hW => ⟨rfl, by rw [ht]; exact hP, hS.F ht⟩) hS.2.2 dX1_init_9
set_option maxHeartbeats 4000000 in
set_option maxRecDepth 100000 in
theorem kX1_init (l : Launch) (D : va_G) (this : Nat)  (fld : Int32) : Met l yX1_init wsX1_init ({ frames := 1, cells := 0, slots := 0, locals := 12 }) (ob_P D 0 this fld [.ref this]) (ob_QU D 0 this (fX1_init fld)) 0 0 (fun q => q = this) := by
  refine Met.ofW (cc := cX1_init) (maxL := 1) (ret := none) (by decide) rfl ?_
  intro p e s m args below meth c s₁ B hml hv
  obtain ⟨rfl, hP, hK⟩ := hv
  have C : px_C p s m _ meth c cX1_init 1 none RX1 wsX1_init := ⟨B.exec, B.bytes, hml, findClass_of_methodNamed B.named, atoms_spec (ws := wsX1_init) B.pre, B.returns, B.notSynchronized⟩
  have hl := lv_entry ([.ref this]) (n := 1) (Nat.le_of_ble_eq_true rfl)
  rw [lg_entry_eq]
  generalize (lg_sl ([.ref this]) ++ List.replicate (1 - (lg_sl ([.ref this])).length) Slot.unset).toArray = ls at hl ⊢
  have hl : lv_has ls 1 [(0, .ref this)] := hl
  rw [fX1_init]
  exact wX1_init_0 C this fld hK hP va_S.rf (lv_sub hl [0] rfl)
set_option maxHeartbeats 4000000 in
set_option maxRecDepth 100000 in
theorem wX1_has_0 {p : Program} {l : Launch} {e : Env} {s : State} {m : MethodId} {args : Array Value} {below : List Frame} {meth : Method} {c : Code} {D : va_G} (C : px_C p s m args meth c cX1_has 4 (some .boolean) RX1 wsX1_has) (this : Nat) (v1 : Int32) (v2 : Int64) (fld : Int32) {H : Heap} {locs : List Loc} (hK : va_K D vwCl [] s) (hP : va_P D vwCl [(this, .inr (0, [.int fld]))] H) (hS : va_S (fun q => q = this) s.heap H locs) {ls : Array Slot} (hl : lv_has ls 4 [(0, .ref this), (1, .int v1), (2, .long v2)]) : W p l e { frames := 4, cells := 0, slots := 0, locals := 88 } s m args below meth c H locs 0 0 (MQ below (ob_QI D 0 this (fX1_has_0 v1 v2 fld)) args s 0 0 (fun q => q = this)) (F0 m 0 ls []) := by
  obtain ⟨hx, hb, hml, hown, hts, hr, hlocks⟩ := id C
  rw [fX1_has_0]
  refine lv_iload_n hx hb dX1_has_0 rfl (lv_at hl 1 rfl) ?_
  refine lv_lload_n hx hb dX1_has_1 rfl (lv_at hl 2 rfl) ?_
  refine px_S (As := [.int v1, .long v2]) (rest := []) ⟨hx, hb, hml, hown, hts⟩ (kX1_isValue l v1 v2) (va_cwS 2 hts gX1_has_X1_isValue rfl rfl rfl (by decide +kernel) ⟨Nat.le_of_ble_eq_true rfl, Nat.le_of_ble_eq_true rfl⟩) rfl hl.1 rfl (Nat.le_of_ble_eq_true rfl) dX1_has_2 (Nat.zero_le _) (Nat.zero_le _) ?_
  exact W.zret hx hb hr (px_z (zX1_isValue _ _)) (fun t ht hW => ⟨rfl, by rw [ht]; exact hP, hS.F ht⟩) hS.2.2 dX1_has_5
set_option maxHeartbeats 4000000 in
set_option maxRecDepth 100000 in
theorem kX1_has (l : Launch) (D : va_G) (this : Nat) (v1 : Int32) (v2 : Int64) (fld : Int32) : Met l yX1_has wsX1_has ({ frames := 4, cells := 0, slots := 0, locals := 88 }) (ob_P D 0 this fld [.ref this, .int v1, .long v2]) (ob_QI D 0 this (fX1_has v1 v2 fld)) 0 0 (fun q => q = this) := by
  refine Met.ofW (cc := cX1_has) (maxL := 4) (ret := (some .boolean)) (by decide) rfl ?_
  intro p e s m args below meth c s₁ B hml hv
  obtain ⟨rfl, hP, hK⟩ := hv
  have C : px_C p s m _ meth c cX1_has 4 (some .boolean) RX1 wsX1_has := ⟨B.exec, B.bytes, hml, findClass_of_methodNamed B.named, atoms_spec (ws := wsX1_has) B.pre, B.returns, B.notSynchronized⟩
  have hl := lv_entry ([.ref this, .int v1, .long v2]) (n := 4) (Nat.le_of_ble_eq_true rfl)
  rw [lg_entry_eq]
  generalize (lg_sl ([.ref this, .int v1, .long v2]) ++ List.replicate (4 - (lg_sl ([.ref this, .int v1, .long v2])).length) Slot.unset).toArray = ls at hl ⊢
  have hl : lv_has ls 4 [(0, .ref this), (1, .int v1), (2, .long v2)] := hl
  rw [fX1_has]
  exact wX1_has_0 C this v1 v2 fld hK hP va_S.rf (lv_sub hl [0, 1, 2] rfl)
set_option maxHeartbeats 4000000 in
set_option maxRecDepth 100000 in
theorem wX1_widens_0 {p : Program} {l : Launch} {e : Env} {s : State} {m : MethodId} {args : Array Value} {below : List Frame} {meth : Method} {c : Code} {D : va_G} (C : px_C p s m args meth c cX1_widens 3 (some .boolean) RX1 wsX1_widens) (this : Nat) (v1 : Int32) (v2 : Int32) (fld : Int32) {H : Heap} {locs : List Loc} (hK : va_K D vwCl [] s) (hP : va_P D vwCl [(this, .inr (0, [.int fld]))] H) (hS : va_S (fun q => q = this) s.heap H locs) {ls : Array Slot} (hl : lv_has ls 3 [(0, .ref this), (1, .int v1), (2, .int v2)]) : W p l e { frames := 1, cells := 0, slots := 0, locals := 20 } s m args below meth c H locs 0 0 (MQ below (ob_QI D 0 this (fX1_widens_0 v1 v2 fld)) args s 0 0 (fun q => q = this)) (F0 m 0 ls []) := by
  obtain ⟨hx, hb, hml, hown, hts, hr, hlocks⟩ := id C
  rw [fX1_widens_0]
  refine lv_iload_n hx hb dX1_widens_0 rfl (lv_at hl 1 rfl) ?_
  refine lv_iload_n hx hb dX1_widens_1 rfl (lv_at hl 2 rfl) ?_
  refine px_icmp_ne (tgt := 21) hx hb dX1_widens_2 (by decide) (fun hc2 => ?_) (fun hc2 => ?_)
  · rw [if_pos hc2]
    refine lv_iload_n hx hb dX1_widens_5 rfl (lv_at hl 1 rfl) ?_
    refine px_if_lt (tgt := 19) hx hb dX1_widens_6 (by decide) (fun hc6 => ?_) (fun hc6 => ?_)
    · rw [if_pos hc6]
      refine lv_iconst (v := 0) hx hb dX1_widens_19 (by decide) ?_
      exact W.zret hx hb hr (by decide) (fun t ht hW => ⟨rfl, by rw [ht]; exact hP, hS.F ht⟩) hS.2.2 dX1_widens_20
    · rw [if_neg hc6]
      refine lv_iload_n hx hb dX1_widens_9 rfl (lv_at hl 1 rfl) ?_
      refine lv_bipush (v := 7) hx hb dX1_widens_10 (by decide) ?_
      refine px_icmp_gt (tgt := 19) hx hb dX1_widens_12 (by decide) (fun hc12 => ?_) (fun hc12 => ?_)
      · rw [if_pos hc12]
        refine lv_iconst (v := 0) hx hb dX1_widens_19 (by decide) ?_
        exact W.zret hx hb hr (by decide) (fun t ht hW => ⟨rfl, by rw [ht]; exact hP, hS.F ht⟩) hS.2.2 dX1_widens_20
      · rw [if_neg hc12]
        refine lv_iconst (v := 1) hx hb dX1_widens_15 (by decide) ?_
        refine lv_goto (tgt := 20) hx hb dX1_widens_16 (by decide) ?_
        exact W.zret hx hb hr (by decide) (fun t ht hW => ⟨rfl, by rw [ht]; exact hP, hS.F ht⟩) hS.2.2 dX1_widens_20
  · rw [if_neg hc2]
    refine lv_iload_n hx hb dX1_widens_21 rfl (lv_at hl 1 rfl) ?_
    refine px_S (As := [.int v1]) (rest := []) ⟨hx, hb, hml, hown, hts⟩ (kX1_isNumberKind l v1) (va_cwS 1 hts gX1_widens_X1_isNumberKind rfl rfl rfl (by decide +kernel) ⟨Nat.le_of_ble_eq_true rfl, Nat.le_of_ble_eq_true rfl⟩) rfl hl.1 rfl (Nat.le_of_ble_eq_true rfl) dX1_widens_22 (Nat.zero_le _) (Nat.zero_le _) ?_
    refine px_if_eq (tgt := 40) hx hb dX1_widens_25 (by decide) (fun hc25 => ?_) (fun hc25 => ?_)
    · rw [if_pos hc25]
      refine lv_iconst (v := 0) hx hb dX1_widens_40 (by decide) ?_
      exact W.zret hx hb hr (by decide) (fun t ht hW => ⟨rfl, by rw [ht]; exact hP, hS.F ht⟩) hS.2.2 dX1_widens_41
    · rw [if_neg hc25]
      refine lv_iload_n hx hb dX1_widens_28 rfl (lv_at hl 2 rfl) ?_
      refine px_S (As := [.int v2]) (rest := []) ⟨hx, hb, hml, hown, hts⟩ (kX1_isNumberKind l v2) (va_cwS 1 hts gX1_widens_X1_isNumberKind rfl rfl rfl (by decide +kernel) ⟨Nat.le_of_ble_eq_true rfl, Nat.le_of_ble_eq_true rfl⟩) rfl hl.1 rfl (Nat.le_of_ble_eq_true rfl) dX1_widens_29 (Nat.zero_le _) (Nat.zero_le _) ?_
      refine px_if_eq (tgt := 40) hx hb dX1_widens_32 (by decide) (fun hc32 => ?_) (fun hc32 => ?_)
      · rw [if_pos hc32]
        refine lv_iconst (v := 0) hx hb dX1_widens_40 (by decide) ?_
        exact W.zret hx hb hr (by decide) (fun t ht hW => ⟨rfl, by rw [ht]; exact hP, hS.F ht⟩) hS.2.2 dX1_widens_41
      · rw [if_neg hc32]
        refine lv_iload_n hx hb dX1_widens_35 rfl (lv_at hl 2 rfl) ?_
        refine lv_iconst (v := 3) hx hb dX1_widens_36 (by decide) ?_
        refine px_icmp_ne (tgt := 42) hx hb dX1_widens_37 (by decide) (fun hc37 => ?_) (fun hc37 => ?_)
        · rw [if_pos hc37]
          refine lv_iconst (v := 0) hx hb dX1_widens_40 (by decide) ?_
          exact W.zret hx hb hr (by decide) (fun t ht hW => ⟨rfl, by rw [ht]; exact hP, hS.F ht⟩) hS.2.2 dX1_widens_41
        · rw [if_neg hc37]
          refine lv_iload_n hx hb dX1_widens_42 rfl (lv_at hl 1 rfl) ?_
          refine lv_iload_n hx hb dX1_widens_43 rfl (lv_at hl 2 rfl) ?_
          refine px_icmp_ge (tgt := 51) hx hb dX1_widens_44 (by decide) (fun hc44 => ?_) (fun hc44 => ?_)
          · rw [if_pos hc44]
            refine lv_iconst (v := 1) hx hb dX1_widens_47 (by decide) ?_
            refine lv_goto (tgt := 52) hx hb dX1_widens_48 (by decide) ?_
            exact W.zret hx hb hr (by decide) (fun t ht hW => ⟨rfl, by rw [ht]; exact hP, hS.F ht⟩) hS.2.2 dX1_widens_52
          · rw [if_neg hc44]
            refine lv_iconst (v := 0) hx hb dX1_widens_51 (by decide) ?_
            exact W.zret hx hb hr (by decide) (fun t ht hW => ⟨rfl, by rw [ht]; exact hP, hS.F ht⟩) hS.2.2 dX1_widens_52
set_option maxHeartbeats 4000000 in
set_option maxRecDepth 100000 in
theorem kX1_widens (l : Launch) (D : va_G) (this : Nat) (v1 : Int32) (v2 : Int32) (fld : Int32) : Met l yX1_widens wsX1_widens ({ frames := 1, cells := 0, slots := 0, locals := 20 }) (ob_P D 0 this fld [.ref this, .int v1, .int v2]) (ob_QI D 0 this (fX1_widens v1 v2 fld)) 0 0 (fun q => q = this) := by
  refine Met.ofW (cc := cX1_widens) (maxL := 3) (ret := (some .boolean)) (by decide) rfl ?_
  intro p e s m args below meth c s₁ B hml hv
  obtain ⟨rfl, hP, hK⟩ := hv
  have C : px_C p s m _ meth c cX1_widens 3 (some .boolean) RX1 wsX1_widens := ⟨B.exec, B.bytes, hml, findClass_of_methodNamed B.named, atoms_spec (ws := wsX1_widens) B.pre, B.returns, B.notSynchronized⟩
  have hl := lv_entry ([.ref this, .int v1, .int v2]) (n := 3) (Nat.le_of_ble_eq_true rfl)
  rw [lg_entry_eq]
  generalize (lg_sl ([.ref this, .int v1, .int v2]) ++ List.replicate (3 - (lg_sl ([.ref this, .int v1, .int v2])).length) Slot.unset).toArray = ls at hl ⊢
  have hl : lv_has ls 3 [(0, .ref this), (1, .int v1), (2, .int v2)] := hl
  rw [fX1_widens]
  exact wX1_widens_0 C this v1 v2 fld hK hP va_S.rf (lv_sub hl [0, 1, 2] rfl)
set_option maxHeartbeats 4000000 in
set_option maxRecDepth 100000 in
theorem wX1_fails_0 {p : Program} {l : Launch} {e : Env} {s : State} {m : MethodId} {args : Array Value} {below : List Frame} {meth : Method} {c : Code} {D : va_G} (C : px_C p s m args meth c cX1_fails 3 (some .int) RX1 wsX1_fails) (this : Nat) (v1 : Int32) (v2 : Int32) (fld : Int32) {H : Heap} {locs : List Loc} (hK : va_K D vwCl [] s) (hP : va_P D vwCl [(this, .inr (0, [.int fld]))] H) (hS : va_S (fun q => q = this) s.heap H locs) {ls : Array Slot} (hl : lv_has ls 3 [(0, .ref this), (1, .int v1), (2, .int v2)]) : W p l e { frames := 0, cells := 0, slots := 0, locals := 0 } s m args below meth c H locs 0 0 (MQ below (ob_QI D 0 this (fX1_fails_0 v1 v2 fld)) args s 0 0 (fun q => q = this)) (F0 m 0 ls []) := by
  obtain ⟨hx, hb, hml, hown, hts, hr, hlocks⟩ := id C
  rw [fX1_fails_0]
  refine lv_aload_n hx hb dX1_fails_0 rfl (lv_at hl 0 rfl) ?_
  refine lv_iload_n hx hb dX1_fails_1 rfl (lv_at hl 1 rfl) ?_
  refine va_put (D := D) (ci := 0) (v := .int v1) (ty := .int) (C := RX1) (T := TX1) (N := 1) hx hb hts (by decide +kernel) tyX1 tyX1_ok nmX1 hown hK hP (ob_D _ _) hS 0 rfl rfl 0 (by decide) (hts (.fieldLink RX1 9 "KindNumbers" "why" "I") (by decide +kernel)) (fun _ h9 => h9) rfl (by decide +kernel) rfl rfl (Nat.le_of_ble_eq_true rfl) dX1_fails_2 (fun H locs hP _ hS => ?_)
  have hP : va_P D vwCl [(this, .inr (0, [.int v1]))] H := hP
  refine lv_iload_n hx hb dX1_fails_5 rfl (lv_at hl 2 rfl) ?_
  exact W.iret hx hb hr (fun t ht hW => ⟨rfl, by rw [ht]; exact hP, hS.F ht⟩) hS.2.2 dX1_fails_6
set_option maxHeartbeats 4000000 in
set_option maxRecDepth 100000 in
theorem kX1_fails (l : Launch) (D : va_G) (this : Nat) (v1 : Int32) (v2 : Int32) (fld : Int32) : Met l yX1_fails wsX1_fails ({ frames := 0, cells := 0, slots := 0, locals := 0 }) (ob_P D 0 this fld [.ref this, .int v1, .int v2]) (ob_QI D 0 this (fX1_fails v1 v2 fld)) 0 0 (fun q => q = this) := by
  refine Met.ofW (cc := cX1_fails) (maxL := 3) (ret := (some .int)) (by decide) rfl ?_
  intro p e s m args below meth c s₁ B hml hv
  obtain ⟨rfl, hP, hK⟩ := hv
  have C : px_C p s m _ meth c cX1_fails 3 (some .int) RX1 wsX1_fails := ⟨B.exec, B.bytes, hml, findClass_of_methodNamed B.named, atoms_spec (ws := wsX1_fails) B.pre, B.returns, B.notSynchronized⟩
  have hl := lv_entry ([.ref this, .int v1, .int v2]) (n := 3) (Nat.le_of_ble_eq_true rfl)
  rw [lg_entry_eq]
  generalize (lg_sl ([.ref this, .int v1, .int v2]) ++ List.replicate (3 - (lg_sl ([.ref this, .int v1, .int v2])).length) Slot.unset).toArray = ls at hl ⊢
  have hl : lv_has ls 3 [(0, .ref this), (1, .int v1), (2, .int v2)] := hl
  rw [fX1_fails]
  exact wX1_fails_0 C this v1 v2 fld hK hP va_S.rf (lv_sub hl [0, 1, 2] rfl)
set_option maxHeartbeats 4000000 in
set_option maxRecDepth 100000 in
theorem wX1_cast_39 {p : Program} {l : Launch} {e : Env} {s : State} {m : MethodId} {args : Array Value} {below : List Frame} {meth : Method} {c : Code} {D : va_G} (C : px_C p s m args meth c cX1_cast 6 (some .long) RX1 wsX1_cast) (this : Nat) (fld : Int32) {H : Heap} {locs : List Loc} (hK : va_K D vwCl [] s) (hP : va_P D vwCl [(this, .inr (0, [.int fld]))] H) (hS : va_S (fun q => q = this) s.heap H locs) {ls : Array Slot} (hl : lv_has ls 6 [(0, .ref this)]) : W p l e { frames := 5, cells := 0, slots := 0, locals := 121 } s m args below meth c H locs 0 0 (MQ below (ob_QL D 0 this (fX1_cast_39 fld)) args s 0 0 (fun q => q = this)) (F0 m 39 ls []) := by
  obtain ⟨hx, hb, hml, hown, hts, hr, hlocks⟩ := id C
  rw [fX1_cast_39]
  refine lv_aload_n hx hb dX1_cast_39 rfl (lv_at hl 0 rfl) ?_
  refine lv_iconst (v := 1) hx hb dX1_cast_40 (by decide) ?_
  refine lv_iconst (v := 0) hx hb dX1_cast_41 (by decide) ?_
  refine ob_Vi (As := [.int (1 : Int32), .int (0 : Int32)]) (rest := []) ⟨hx, hb, hml, hown, hts⟩ (kX1_fails l D this (1 : Int32) (0 : Int32) fld) hK hP hS (ci := 0) rfl (cwV 2 hts gX1_cast_X1_fails rfl rfl rfl (by decide +kernel) ⟨Nat.le_of_ble_eq_true rfl, Nat.le_of_ble_eq_true rfl⟩) rfl hl.1 rfl (Nat.le_of_ble_eq_true rfl) dX1_cast_42 (Nat.zero_le _) (Nat.zero_le _) (fun H locs hP hS => ?_)
  refine px_i2l hx hb dX1_cast_45 ?_
  exact W.lret hx hb hr (fun t ht hW => ⟨rfl, by rw [ht]; exact hP, hS.F ht⟩) hS.2.2 dX1_cast_46
set_option maxHeartbeats 4000000 in
set_option maxRecDepth 100000 in
theorem wX1_cast_24 {p : Program} {l : Launch} {e : Env} {s : State} {m : MethodId} {args : Array Value} {below : List Frame} {meth : Method} {c : Code} {D : va_G} (C : px_C p s m args meth c cX1_cast 6 (some .long) RX1 wsX1_cast) (this : Nat) (v1 : Int32) (v2 : Int32) (v3 : Int64) (s0 : Int32) (fld : Int32) {H : Heap} {locs : List Loc} (hK : va_K D vwCl [] s) (hP : va_P D vwCl [(this, .inr (0, [.int fld]))] H) (hS : va_S (fun q => q = this) s.heap H locs) {ls : Array Slot} (hl : lv_has ls 6 [(0, .ref this), (1, .int v1), (2, .int v2), (3, .long v3)]) : W p l e { frames := 5, cells := 0, slots := 0, locals := 121 } s m args below meth c H locs 0 0 (MQ below (ob_QL D 0 this (fX1_cast_24 v1 v2 v3 s0 fld)) args s 0 0 (fun q => q = this)) (F0 m 24 ls [.int s0]) := by
  obtain ⟨hx, hb, hml, hown, hts, hr, hlocks⟩ := id C
  rw [fX1_cast_24]
  refine lv_istore (lv' := [(5, .int s0), (0, .ref this), (1, .int v1), (2, .int v2), (3, .long v3)]) hx hb dX1_cast_24 hl (by decide) rfl (fun ls hl => ?_)
  refine lv_iload hx hb dX1_cast_26 (lv_at hl 0 rfl) ?_
  refine px_if_eq (tgt := 39) hx hb dX1_cast_28 (by decide) (fun hc28 => ?_) (fun hc28 => ?_)
  · rw [if_pos hc28]
    exact wX1_cast_39 C this fld hK hP hS (lv_sub hl [1] rfl)
  · rw [if_neg hc28]
    refine lv_iload_n hx hb dX1_cast_31 rfl (lv_at hl 2 rfl) ?_
    refine lv_lload_n hx hb dX1_cast_32 rfl (lv_at hl 4 rfl) ?_
    refine px_S (As := [.int v1, .long v3]) (rest := []) ⟨hx, hb, hml, hown, hts⟩ (kX1_isValue l v1 v3) (va_cwS 2 hts gX1_cast_X1_isValue rfl rfl rfl (by decide +kernel) ⟨Nat.le_of_ble_eq_true rfl, Nat.le_of_ble_eq_true rfl⟩) rfl hl.1 rfl (Nat.le_of_ble_eq_true rfl) dX1_cast_33 (Nat.zero_le _) (Nat.zero_le _) ?_
    refine px_if_ne (tgt := 47) hx hb dX1_cast_36 (by decide) (fun hc36 => ?_) (fun hc36 => ?_)
    · rw [if_pos hc36]
      exact wX1_cast_39 C this fld hK hP hS (lv_sub hl [1] rfl)
    · rw [if_neg hc36]
      refine lv_aload_n hx hb dX1_cast_47 rfl (lv_at hl 1 rfl) ?_
      refine lv_iconst (v := 0) hx hb dX1_cast_48 (by decide) ?_
      refine va_put (D := D) (ci := 0) (v := .int (0 : Int32)) (ty := .int) (C := RX1) (T := TX1) (N := 1) hx hb hts (by decide +kernel) tyX1 tyX1_ok nmX1 hown hK hP (ob_D _ _) hS 0 rfl rfl 0 (by decide) (hts (.fieldLink RX1 9 "KindNumbers" "why" "I") (by decide +kernel)) (fun _ h9 => h9) rfl (by decide +kernel) rfl rfl (Nat.le_of_ble_eq_true rfl) dX1_cast_49 (fun H locs hP _ hS => ?_)
      have hP : va_P D vwCl [(this, .inr (0, [.int (0 : Int32)]))] H := hP
      refine lv_iload_n hx hb dX1_cast_52 rfl (lv_at hl 2 rfl) ?_
      refine lv_iload_n hx hb dX1_cast_53 rfl (lv_at hl 3 rfl) ?_
      refine lv_lload_n hx hb dX1_cast_54 rfl (lv_at hl 4 rfl) ?_
      refine px_S (As := [.int v1, .int v2, .long v3]) (rest := []) ⟨hx, hb, hml, hown, hts⟩ (kX1_converted l v1 v2 v3) (va_cwS 3 hts gX1_cast_X1_converted rfl rfl rfl (by decide +kernel) ⟨Nat.le_of_ble_eq_true rfl, Nat.le_of_ble_eq_true rfl⟩) rfl hl.1 rfl (Nat.le_of_ble_eq_true rfl) dX1_cast_55 (Nat.zero_le _) (Nat.zero_le _) ?_
      exact W.lret hx hb hr (fun t ht hW => ⟨rfl, by rw [ht]; exact hP, hS.F ht⟩) hS.2.2 dX1_cast_58
set_option maxHeartbeats 4000000 in
set_option maxRecDepth 100000 in
theorem wX1_cast_19 {p : Program} {l : Launch} {e : Env} {s : State} {m : MethodId} {args : Array Value} {below : List Frame} {meth : Method} {c : Code} {D : va_G} (C : px_C p s m args meth c cX1_cast 6 (some .long) RX1 wsX1_cast) (this : Nat) (v1 : Int32) (v2 : Int32) (v3 : Int64) (fld : Int32) {H : Heap} {locs : List Loc} (hK : va_K D vwCl [] s) (hP : va_P D vwCl [(this, .inr (0, [.int fld]))] H) (hS : va_S (fun q => q = this) s.heap H locs) {ls : Array Slot} (hl : lv_has ls 6 [(0, .ref this), (1, .int v1), (2, .int v2), (3, .long v3)]) : W p l e { frames := 5, cells := 0, slots := 0, locals := 121 } s m args below meth c H locs 0 0 (MQ below (ob_QL D 0 this (fX1_cast_19 v1 v2 v3 fld)) args s 0 0 (fun q => q = this)) (F0 m 19 ls []) := by
  obtain ⟨hx, hb, hml, hown, hts, hr, hlocks⟩ := id C
  rw [fX1_cast_19]
  refine lv_iconst (v := 1) hx hb dX1_cast_19 (by decide) ?_
  refine lv_goto (tgt := 24) hx hb dX1_cast_20 (by decide) ?_
  exact wX1_cast_24 C this v1 v2 v3 (1 : Int32) fld hK hP hS (lv_sub hl [0, 1, 2, 3] rfl)
set_option maxHeartbeats 4000000 in
set_option maxRecDepth 100000 in
theorem wX1_cast_23 {p : Program} {l : Launch} {e : Env} {s : State} {m : MethodId} {args : Array Value} {below : List Frame} {meth : Method} {c : Code} {D : va_G} (C : px_C p s m args meth c cX1_cast 6 (some .long) RX1 wsX1_cast) (this : Nat) (v1 : Int32) (v2 : Int32) (v3 : Int64) (fld : Int32) {H : Heap} {locs : List Loc} (hK : va_K D vwCl [] s) (hP : va_P D vwCl [(this, .inr (0, [.int fld]))] H) (hS : va_S (fun q => q = this) s.heap H locs) {ls : Array Slot} (hl : lv_has ls 6 [(0, .ref this), (1, .int v1), (2, .int v2), (3, .long v3)]) : W p l e { frames := 5, cells := 0, slots := 0, locals := 121 } s m args below meth c H locs 0 0 (MQ below (ob_QL D 0 this (fX1_cast_23 v1 v2 v3 fld)) args s 0 0 (fun q => q = this)) (F0 m 23 ls []) := by
  obtain ⟨hx, hb, hml, hown, hts, hr, hlocks⟩ := id C
  rw [fX1_cast_23]
  refine lv_iconst (v := 0) hx hb dX1_cast_23 (by decide) ?_
  exact wX1_cast_24 C this v1 v2 v3 (0 : Int32) fld hK hP hS (lv_sub hl [0, 1, 2, 3] rfl)
set_option maxHeartbeats 4000000 in
set_option maxRecDepth 100000 in
theorem wX1_cast_0 {p : Program} {l : Launch} {e : Env} {s : State} {m : MethodId} {args : Array Value} {below : List Frame} {meth : Method} {c : Code} {D : va_G} (C : px_C p s m args meth c cX1_cast 6 (some .long) RX1 wsX1_cast) (this : Nat) (v1 : Int32) (v2 : Int32) (v3 : Int64) (fld : Int32) {H : Heap} {locs : List Loc} (hK : va_K D vwCl [] s) (hP : va_P D vwCl [(this, .inr (0, [.int fld]))] H) (hS : va_S (fun q => q = this) s.heap H locs) {ls : Array Slot} (hl : lv_has ls 6 [(0, .ref this), (1, .int v1), (2, .int v2), (3, .long v3)]) : W p l e { frames := 5, cells := 0, slots := 0, locals := 121 } s m args below meth c H locs 0 0 (MQ below (ob_QL D 0 this (fX1_cast_0 v1 v2 v3 fld)) args s 0 0 (fun q => q = this)) (F0 m 0 ls []) := by
  obtain ⟨hx, hb, hml, hown, hts, hr, hlocks⟩ := id C
  rw [fX1_cast_0]
  refine lv_iload_n hx hb dX1_cast_0 rfl (lv_at hl 1 rfl) ?_
  refine lv_iload_n hx hb dX1_cast_1 rfl (lv_at hl 2 rfl) ?_
  refine px_icmp_eq (tgt := 19) hx hb dX1_cast_2 (by decide) (fun hc2 => ?_) (fun hc2 => ?_)
  · rw [if_pos hc2]
    exact wX1_cast_19 C this v1 v2 v3 fld hK hP hS (lv_sub hl [0, 1, 2, 3] rfl)
  · rw [if_neg hc2]
    refine lv_iload_n hx hb dX1_cast_5 rfl (lv_at hl 1 rfl) ?_
    refine px_S (As := [.int v1]) (rest := []) ⟨hx, hb, hml, hown, hts⟩ (kX1_isNumberKind l v1) (va_cwS 1 hts gX1_cast_X1_isNumberKind rfl rfl rfl (by decide +kernel) ⟨Nat.le_of_ble_eq_true rfl, Nat.le_of_ble_eq_true rfl⟩) rfl hl.1 rfl (Nat.le_of_ble_eq_true rfl) dX1_cast_6 (Nat.zero_le _) (Nat.zero_le _) ?_
    refine px_if_eq (tgt := 23) hx hb dX1_cast_9 (by decide) (fun hc9 => ?_) (fun hc9 => ?_)
    · rw [if_pos hc9]
      exact wX1_cast_23 C this v1 v2 v3 fld hK hP hS (lv_sub hl [0, 1, 2, 3] rfl)
    · rw [if_neg hc9]
      refine lv_iload_n hx hb dX1_cast_12 rfl (lv_at hl 2 rfl) ?_
      refine px_S (As := [.int v2]) (rest := []) ⟨hx, hb, hml, hown, hts⟩ (kX1_isNumberKind l v2) (va_cwS 1 hts gX1_cast_X1_isNumberKind rfl rfl rfl (by decide +kernel) ⟨Nat.le_of_ble_eq_true rfl, Nat.le_of_ble_eq_true rfl⟩) rfl hl.1 rfl (Nat.le_of_ble_eq_true rfl) dX1_cast_13 (Nat.zero_le _) (Nat.zero_le _) ?_
      refine px_if_eq (tgt := 23) hx hb dX1_cast_16 (by decide) (fun hc16 => ?_) (fun hc16 => ?_)
      · rw [if_pos hc16]
        exact wX1_cast_23 C this v1 v2 v3 fld hK hP hS (lv_sub hl [0, 1, 2, 3] rfl)
      · rw [if_neg hc16]
        exact wX1_cast_19 C this v1 v2 v3 fld hK hP hS (lv_sub hl [0, 1, 2, 3] rfl)
set_option maxHeartbeats 4000000 in
set_option maxRecDepth 100000 in
theorem kX1_cast (l : Launch) (D : va_G) (this : Nat) (v1 : Int32) (v2 : Int32) (v3 : Int64) (fld : Int32) : Met l yX1_cast wsX1_cast ({ frames := 5, cells := 0, slots := 0, locals := 121 }) (ob_P D 0 this fld [.ref this, .int v1, .int v2, .long v3]) (ob_QL D 0 this (fX1_cast v1 v2 v3 fld)) 0 0 (fun q => q = this) := by
  refine Met.ofW (cc := cX1_cast) (maxL := 6) (ret := (some .long)) (by decide) rfl ?_
  intro p e s m args below meth c s₁ B hml hv
  obtain ⟨rfl, hP, hK⟩ := hv
  have C : px_C p s m _ meth c cX1_cast 6 (some .long) RX1 wsX1_cast := ⟨B.exec, B.bytes, hml, findClass_of_methodNamed B.named, atoms_spec (ws := wsX1_cast) B.pre, B.returns, B.notSynchronized⟩
  have hl := lv_entry ([.ref this, .int v1, .int v2, .long v3]) (n := 6) (Nat.le_of_ble_eq_true rfl)
  rw [lg_entry_eq]
  generalize (lg_sl ([.ref this, .int v1, .int v2, .long v3]) ++ List.replicate (6 - (lg_sl ([.ref this, .int v1, .int v2, .long v3])).length) Slot.unset).toArray = ls at hl ⊢
  have hl : lv_has ls 6 [(0, .ref this), (1, .int v1), (2, .int v2), (3, .long v3)] := hl
  rw [fX1_cast]
  exact wX1_cast_0 C this v1 v2 v3 fld hK hP va_S.rf (lv_sub hl [0, 1, 2, 3] rfl)
set_option maxHeartbeats 4000000 in
set_option maxRecDepth 100000 in
theorem wX1_workWhole_0 {p : Program} {l : Launch} {e : Env} {s : State} {m : MethodId} {args : Array Value} {below : List Frame} {meth : Method} {c : Code} {D : va_G} (C : px_C p s m args meth c cX1_workWhole 7 (some .long) RX1 wsX1_workWhole) (this : Nat) (v1 : Int32) (v2 : Int32) (v3 : Int64) (v5 : Int64) (fld : Int32) {H : Heap} {locs : List Loc} (hK : va_K D vwCl [] s) (hP : va_P D vwCl [(this, .inr (0, [.int fld]))] H) (hS : va_S (fun q => q = this) s.heap H locs) {ls : Array Slot} (hl : lv_has ls 7 [(0, .ref this), (1, .int v1), (2, .int v2), (3, .long v3), (5, .long v5)]) : W p l e { frames := 1, cells := 0, slots := 0, locals := 22 } s m args below meth c H locs 0 0 (MQ below (ob_QL D 0 this (fX1_workWhole_0 v1 v2 v3 v5 fld)) args s 0 0 (fun q => q = this)) (F0 m 0 ls []) := by
  obtain ⟨hx, hb, hml, hown, hts, hr, hlocks⟩ := id C
  rw [fX1_workWhole_0]
  refine lv_iload_n hx hb dX1_workWhole_0 rfl (lv_at hl 1 rfl) ?_
  by_cases hs1_0 : v1 = (1 : Int32)
  · rw [if_pos hs1_0]
    refine lv_tableIn (tgt := 32) (off := 31) hx hb dX1_workWhole_1 (by rw [hs1_0]; decide) (by rw [hs1_0]; decide) (by rw [hs1_0]; decide +kernel) (by decide) ?_
    refine lv_iload_n hx hb dX1_workWhole_32 rfl (lv_at hl 2 rfl) ?_
    refine lv_lload_n hx hb dX1_workWhole_33 rfl (lv_at hl 3 rfl) ?_
    refine lv_lload hx hb dX1_workWhole_34 (lv_at hl 4 rfl) ?_
    refine lv_ladd hx hb dX1_workWhole_36 ?_
    refine px_S (As := [.int v2, .long (v3 + v5)]) (rest := []) ⟨hx, hb, hml, hown, hts⟩ (kX1_narrowed l v2 (v3 + v5)) (va_cwS 2 hts gX1_workWhole_X1_narrowed rfl rfl rfl (by decide +kernel) ⟨Nat.le_of_ble_eq_true rfl, Nat.le_of_ble_eq_true rfl⟩) rfl hl.1 rfl (Nat.le_of_ble_eq_true rfl) dX1_workWhole_37 (Nat.zero_le _) (Nat.zero_le _) ?_
    exact W.lret hx hb hr (fun t ht hW => ⟨rfl, by rw [ht]; exact hP, hS.F ht⟩) hS.2.2 dX1_workWhole_40
  · rw [if_neg hs1_0]
    by_cases hs1_1 : v1 = (2 : Int32)
    · rw [if_pos hs1_1]
      refine lv_tableIn (tgt := 41) (off := 40) hx hb dX1_workWhole_1 (by rw [hs1_1]; decide) (by rw [hs1_1]; decide) (by rw [hs1_1]; decide +kernel) (by decide) ?_
      refine lv_iload_n hx hb dX1_workWhole_41 rfl (lv_at hl 2 rfl) ?_
      refine lv_lload_n hx hb dX1_workWhole_42 rfl (lv_at hl 3 rfl) ?_
      refine lv_lload hx hb dX1_workWhole_43 (lv_at hl 4 rfl) ?_
      refine lv_lsub hx hb dX1_workWhole_45 ?_
      refine px_S (As := [.int v2, .long (v3 - v5)]) (rest := []) ⟨hx, hb, hml, hown, hts⟩ (kX1_narrowed l v2 (v3 - v5)) (va_cwS 2 hts gX1_workWhole_X1_narrowed rfl rfl rfl (by decide +kernel) ⟨Nat.le_of_ble_eq_true rfl, Nat.le_of_ble_eq_true rfl⟩) rfl hl.1 rfl (Nat.le_of_ble_eq_true rfl) dX1_workWhole_46 (Nat.zero_le _) (Nat.zero_le _) ?_
      exact W.lret hx hb hr (fun t ht hW => ⟨rfl, by rw [ht]; exact hP, hS.F ht⟩) hS.2.2 dX1_workWhole_49
    · rw [if_neg hs1_1]
      by_cases hs1_2 : v1 = (3 : Int32)
      · rw [if_pos hs1_2]
        refine lv_tableIn (tgt := 50) (off := 49) hx hb dX1_workWhole_1 (by rw [hs1_2]; decide) (by rw [hs1_2]; decide) (by rw [hs1_2]; decide +kernel) (by decide) ?_
        refine lv_iload_n hx hb dX1_workWhole_50 rfl (lv_at hl 2 rfl) ?_
        refine lv_lload_n hx hb dX1_workWhole_51 rfl (lv_at hl 3 rfl) ?_
        refine lv_lload hx hb dX1_workWhole_52 (lv_at hl 4 rfl) ?_
        refine lv_lmul hx hb dX1_workWhole_54 ?_
        refine px_S (As := [.int v2, .long (v3 * v5)]) (rest := []) ⟨hx, hb, hml, hown, hts⟩ (kX1_narrowed l v2 (v3 * v5)) (va_cwS 2 hts gX1_workWhole_X1_narrowed rfl rfl rfl (by decide +kernel) ⟨Nat.le_of_ble_eq_true rfl, Nat.le_of_ble_eq_true rfl⟩) rfl hl.1 rfl (Nat.le_of_ble_eq_true rfl) dX1_workWhole_55 (Nat.zero_le _) (Nat.zero_le _) ?_
        exact W.lret hx hb hr (fun t ht hW => ⟨rfl, by rw [ht]; exact hP, hS.F ht⟩) hS.2.2 dX1_workWhole_58
      · rw [if_neg hs1_2]
        by_cases hs1_3 : v1 = (4 : Int32)
        · rw [if_pos hs1_3]
          refine lv_tableIn (tgt := 59) (off := 58) hx hb dX1_workWhole_1 (by rw [hs1_3]; decide) (by rw [hs1_3]; decide) (by rw [hs1_3]; decide +kernel) (by decide) ?_
          refine lv_lload hx hb dX1_workWhole_59 (lv_at hl 4 rfl) ?_
          refine lv_lconst (v := 0) hx hb dX1_workWhole_61 (by decide) ?_
          refine px_lcmp_ne (tgt := 77) hx hb dX1_workWhole_62 dX1_workWhole_63 (by decide) (fun hc62 => ?_) (fun hc62 => ?_)
          · rw [if_pos hc62]
            refine lv_aload_n hx hb dX1_workWhole_66 rfl (lv_at hl 0 rfl) ?_
            refine lv_bipush (v := 8) hx hb dX1_workWhole_67 (by decide) ?_
            refine lv_iconst (v := 0) hx hb dX1_workWhole_69 (by decide) ?_
            refine ob_Vi (As := [.int (8 : Int32), .int (0 : Int32)]) (rest := []) ⟨hx, hb, hml, hown, hts⟩ (kX1_fails l D this (8 : Int32) (0 : Int32) fld) hK hP hS (ci := 0) rfl (cwV 2 hts gX1_workWhole_X1_fails rfl rfl rfl (by decide +kernel) ⟨Nat.le_of_ble_eq_true rfl, Nat.le_of_ble_eq_true rfl⟩) rfl hl.1 rfl (Nat.le_of_ble_eq_true rfl) dX1_workWhole_70 (Nat.zero_le _) (Nat.zero_le _) (fun H locs hP hS => ?_)
            refine px_i2l hx hb dX1_workWhole_73 ?_
            refine lv_goto (tgt := 85) hx hb dX1_workWhole_74 (by decide) ?_
            exact W.lret hx hb hr (fun t ht hW => ⟨rfl, by rw [ht]; exact hP, hS.F ht⟩) hS.2.2 dX1_workWhole_85
          · rw [if_neg hc62]
            refine lv_iload_n hx hb dX1_workWhole_77 rfl (lv_at hl 2 rfl) ?_
            refine lv_lload_n hx hb dX1_workWhole_78 rfl (lv_at hl 3 rfl) ?_
            refine lv_lload hx hb dX1_workWhole_79 (lv_at hl 4 rfl) ?_
            refine lv_ldiv hx hb dX1_workWhole_81 hc62 ?_
            refine px_S (As := [.int v2, .long (v3 / v5)]) (rest := []) ⟨hx, hb, hml, hown, hts⟩ (kX1_narrowed l v2 (v3 / v5)) (va_cwS 2 hts gX1_workWhole_X1_narrowed rfl rfl rfl (by decide +kernel) ⟨Nat.le_of_ble_eq_true rfl, Nat.le_of_ble_eq_true rfl⟩) rfl hl.1 rfl (Nat.le_of_ble_eq_true rfl) dX1_workWhole_82 (Nat.zero_le _) (Nat.zero_le _) ?_
            exact W.lret hx hb hr (fun t ht hW => ⟨rfl, by rw [ht]; exact hP, hS.F ht⟩) hS.2.2 dX1_workWhole_85
        · rw [if_neg hs1_3]
          refine lv_tableOut (tgt := 86) hx hb dX1_workWhole_1 (by have q0 := lv_neT (a := 1) hs1_0 (by decide); have q1 := lv_neT (a := 2) hs1_1 (by decide); have q2 := lv_neT (a := 3) hs1_2 (by decide); have q3 := lv_neT (a := 4) hs1_3 (by decide); omega) (by decide) ?_
          refine lv_lload hx hb dX1_workWhole_86 (lv_at hl 4 rfl) ?_
          refine lv_lconst (v := 0) hx hb dX1_workWhole_88 (by decide) ?_
          refine px_lcmp_ne (tgt := 104) hx hb dX1_workWhole_89 dX1_workWhole_90 (by decide) (fun hc89 => ?_) (fun hc89 => ?_)
          · rw [if_pos hc89]
            refine lv_aload_n hx hb dX1_workWhole_93 rfl (lv_at hl 0 rfl) ?_
            refine lv_bipush (v := 8) hx hb dX1_workWhole_94 (by decide) ?_
            refine lv_iconst (v := 0) hx hb dX1_workWhole_96 (by decide) ?_
            refine ob_Vi (As := [.int (8 : Int32), .int (0 : Int32)]) (rest := []) ⟨hx, hb, hml, hown, hts⟩ (kX1_fails l D this (8 : Int32) (0 : Int32) fld) hK hP hS (ci := 0) rfl (cwV 2 hts gX1_workWhole_X1_fails rfl rfl rfl (by decide +kernel) ⟨Nat.le_of_ble_eq_true rfl, Nat.le_of_ble_eq_true rfl⟩) rfl hl.1 rfl (Nat.le_of_ble_eq_true rfl) dX1_workWhole_97 (Nat.zero_le _) (Nat.zero_le _) (fun H locs hP hS => ?_)
            refine px_i2l hx hb dX1_workWhole_100 ?_
            refine lv_goto (tgt := 112) hx hb dX1_workWhole_101 (by decide) ?_
            exact W.lret hx hb hr (fun t ht hW => ⟨rfl, by rw [ht]; exact hP, hS.F ht⟩) hS.2.2 dX1_workWhole_112
          · rw [if_neg hc89]
            refine lv_iload_n hx hb dX1_workWhole_104 rfl (lv_at hl 2 rfl) ?_
            refine lv_lload_n hx hb dX1_workWhole_105 rfl (lv_at hl 3 rfl) ?_
            refine lv_lload hx hb dX1_workWhole_106 (lv_at hl 4 rfl) ?_
            refine px_lrem hx hb dX1_workWhole_108 hc89 ?_
            refine px_S (As := [.int v2, .long (jrem v3 v5)]) (rest := []) ⟨hx, hb, hml, hown, hts⟩ (kX1_narrowed l v2 (jrem v3 v5)) (va_cwS 2 hts gX1_workWhole_X1_narrowed rfl rfl rfl (by decide +kernel) ⟨Nat.le_of_ble_eq_true rfl, Nat.le_of_ble_eq_true rfl⟩) rfl hl.1 rfl (Nat.le_of_ble_eq_true rfl) dX1_workWhole_109 (Nat.zero_le _) (Nat.zero_le _) ?_
            exact W.lret hx hb hr (fun t ht hW => ⟨rfl, by rw [ht]; exact hP, hS.F ht⟩) hS.2.2 dX1_workWhole_112
set_option maxHeartbeats 4000000 in
set_option maxRecDepth 100000 in
theorem kX1_workWhole (l : Launch) (D : va_G) (this : Nat) (v1 : Int32) (v2 : Int32) (v3 : Int64) (v5 : Int64) (fld : Int32) : Met l yX1_workWhole wsX1_workWhole ({ frames := 1, cells := 0, slots := 0, locals := 22 }) (ob_P D 0 this fld [.ref this, .int v1, .int v2, .long v3, .long v5]) (ob_QL D 0 this (fX1_workWhole v1 v2 v3 v5 fld)) 0 0 (fun q => q = this) := by
  refine Met.ofW (cc := cX1_workWhole) (maxL := 7) (ret := (some .long)) (by decide) rfl ?_
  intro p e s m args below meth c s₁ B hml hv
  obtain ⟨rfl, hP, hK⟩ := hv
  have C : px_C p s m _ meth c cX1_workWhole 7 (some .long) RX1 wsX1_workWhole := ⟨B.exec, B.bytes, hml, findClass_of_methodNamed B.named, atoms_spec (ws := wsX1_workWhole) B.pre, B.returns, B.notSynchronized⟩
  have hl := lv_entry ([.ref this, .int v1, .int v2, .long v3, .long v5]) (n := 7) (Nat.le_of_ble_eq_true rfl)
  rw [lg_entry_eq]
  generalize (lg_sl ([.ref this, .int v1, .int v2, .long v3, .long v5]) ++ List.replicate (7 - (lg_sl ([.ref this, .int v1, .int v2, .long v3, .long v5])).length) Slot.unset).toArray = ls at hl ⊢
  have hl : lv_has ls 7 [(0, .ref this), (1, .int v1), (2, .int v2), (3, .long v3), (5, .long v5)] := hl
  rw [fX1_workWhole]
  exact wX1_workWhole_0 C this v1 v2 v3 v5 fld hK hP va_S.rf (lv_sub hl [0, 1, 2, 3, 4] rfl)
set_option maxHeartbeats 4000000 in
set_option maxRecDepth 100000 in
theorem wX1_workReal_93 {p : Program} {l : Launch} {e : Env} {s : State} {m : MethodId} {args : Array Value} {below : List Frame} {meth : Method} {c : Code} {D : va_G} (C : px_C p s m args meth c cX1_workReal 9 (some .long) RX1 wsX1_workReal) (this : Nat) (v2 : Int32) (v7 : Int64) (fld : Int32) {H : Heap} {locs : List Loc} (hK : va_K D vwCl [] s) (hP : va_P D vwCl [(this, .inr (0, [.int fld]))] H) (hS : va_S (fun q => q = this) s.heap H locs) {ls : Array Slot} (hl : lv_has ls 9 [(0, .ref this), (2, .int v2), (7, .long v7)]) : W p l e { frames := 5, cells := 0, slots := 0, locals := 129 } s m args below meth c H locs 0 0 (MQ below (ob_QL D 0 this (fX1_workReal_93 v2 v7 fld)) args s 0 0 (fun q => q = this)) (F0 m 93 ls []) := by
  obtain ⟨hx, hb, hml, hown, hts, hr, hlocks⟩ := id C
  rw [fX1_workReal_93]
  refine lv_iload_n hx hb dX1_workReal_93 rfl (lv_at hl 1 rfl) ?_
  refine lv_lload hx hb dX1_workReal_94 (lv_at hl 2 rfl) ?_
  refine px_S (As := [.int v2, .long v7]) (rest := []) ⟨hx, hb, hml, hown, hts⟩ (kX0_isNumber l v2 v7) (va_cwS 2 hts gX1_workReal_X0_isNumber rfl rfl rfl (by decide +kernel) ⟨Nat.le_of_ble_eq_true rfl, Nat.le_of_ble_eq_true rfl⟩) rfl hl.1 rfl (Nat.le_of_ble_eq_true rfl) dX1_workReal_96 (Nat.zero_le _) (Nat.zero_le _) ?_
  refine px_if_eq (tgt := 107) hx hb dX1_workReal_99 (by decide) (fun hc99 => ?_) (fun hc99 => ?_)
  · rw [if_pos hc99]
    refine lv_aload_n hx hb dX1_workReal_107 rfl (lv_at hl 0 rfl) ?_
    refine lv_bipush (v := 8) hx hb dX1_workReal_108 (by decide) ?_
    refine lv_iconst (v := 0) hx hb dX1_workReal_110 (by decide) ?_
    refine ob_Vi (As := [.int (8 : Int32), .int (0 : Int32)]) (rest := []) ⟨hx, hb, hml, hown, hts⟩ (kX1_fails l D this (8 : Int32) (0 : Int32) fld) hK hP hS (ci := 0) rfl (cwV 2 hts gX1_workReal_X1_fails rfl rfl rfl (by decide +kernel) ⟨Nat.le_of_ble_eq_true rfl, Nat.le_of_ble_eq_true rfl⟩) rfl hl.1 rfl (Nat.le_of_ble_eq_true rfl) dX1_workReal_111 (Nat.zero_le _) (Nat.zero_le _) (fun H locs hP hS => ?_)
    refine px_i2l hx hb dX1_workReal_114 ?_
    exact W.lret hx hb hr (fun t ht hW => ⟨rfl, by rw [ht]; exact hP, hS.F ht⟩) hS.2.2 dX1_workReal_115
  · rw [if_neg hc99]
    refine lv_lload hx hb dX1_workReal_102 (lv_at hl 2 rfl) ?_
    refine lv_goto (tgt := 115) hx hb dX1_workReal_104 (by decide) ?_
    exact W.lret hx hb hr (fun t ht hW => ⟨rfl, by rw [ht]; exact hP, hS.F ht⟩) hS.2.2 dX1_workReal_115
set_option maxHeartbeats 4000000 in
set_option maxRecDepth 100000 in
theorem wX1_workReal_0 {p : Program} {l : Launch} {e : Env} {s : State} {m : MethodId} {args : Array Value} {below : List Frame} {meth : Method} {c : Code} {D : va_G} (C : px_C p s m args meth c cX1_workReal 9 (some .long) RX1 wsX1_workReal) (this : Nat) (v1 : Int32) (v2 : Int32) (v3 : Int64) (v5 : Int64) (fld : Int32) {H : Heap} {locs : List Loc} (hK : va_K D vwCl [] s) (hP : va_P D vwCl [(this, .inr (0, [.int fld]))] H) (hS : va_S (fun q => q = this) s.heap H locs) {ls : Array Slot} (hl : lv_has ls 9 [(0, .ref this), (1, .int v1), (2, .int v2), (3, .long v3), (5, .long v5)]) : W p l e { frames := 5, cells := 0, slots := 0, locals := 129 } s m args below meth c H locs 0 0 (MQ below (ob_QL D 0 this (fX1_workReal_0 v1 v2 v3 v5 fld)) args s 0 0 (fun q => q = this)) (F0 m 0 ls []) := by
  obtain ⟨hx, hb, hml, hown, hts, hr, hlocks⟩ := id C
  rw [fX1_workReal_0]
  refine lv_iload_n hx hb dX1_workReal_0 rfl (lv_at hl 1 rfl) ?_
  by_cases hs1_0 : v1 = (1 : Int32)
  · rw [if_pos hs1_0]
    refine lv_tableIn (tgt := 32) (off := 31) hx hb dX1_workReal_1 (by rw [hs1_0]; decide) (by rw [hs1_0]; decide) (by rw [hs1_0]; decide +kernel) (by decide) ?_
    refine lv_iload_n hx hb dX1_workReal_32 rfl (lv_at hl 2 rfl) ?_
    refine lv_lload_n hx hb dX1_workReal_33 rfl (lv_at hl 3 rfl) ?_
    refine lv_lload hx hb dX1_workReal_34 (lv_at hl 4 rfl) ?_
    refine px_S (As := [.int v2, .long v3, .long v5]) (rest := []) ⟨hx, hb, hml, hown, hts⟩ (kX0_sum l v2 v3 v5) (va_cwS 3 hts gX1_workReal_X0_sum rfl rfl rfl (by decide +kernel) ⟨Nat.le_of_ble_eq_true rfl, Nat.le_of_ble_eq_true rfl⟩) rfl hl.1 rfl (Nat.le_of_ble_eq_true rfl) dX1_workReal_36 (Nat.zero_le _) (Nat.zero_le _) ?_
    refine lv_topl (fun v7_39 ev7_39 => ?_)
    rw [← ev7_39]
    refine lv_lstore (lv' := [(7, .long v7_39), (0, .ref this), (1, .int v1), (2, .int v2), (3, .long v3), (5, .long v5)]) hx hb dX1_workReal_39 hl (by decide) rfl (fun ls hl => ?_)
    rw [fX1_workReal_41]
    refine lv_goto (tgt := 93) hx hb dX1_workReal_41 (by decide) ?_
    exact wX1_workReal_93 C this v2 v7_39 fld hK hP hS (lv_sub hl [1, 3, 0] rfl)
  · rw [if_neg hs1_0]
    by_cases hs1_1 : v1 = (2 : Int32)
    · rw [if_pos hs1_1]
      refine lv_tableIn (tgt := 44) (off := 43) hx hb dX1_workReal_1 (by rw [hs1_1]; decide) (by rw [hs1_1]; decide) (by rw [hs1_1]; decide +kernel) (by decide) ?_
      refine lv_iload_n hx hb dX1_workReal_44 rfl (lv_at hl 2 rfl) ?_
      refine lv_lload_n hx hb dX1_workReal_45 rfl (lv_at hl 3 rfl) ?_
      refine lv_iload_n hx hb dX1_workReal_46 rfl (lv_at hl 2 rfl) ?_
      refine lv_lload hx hb dX1_workReal_47 (lv_at hl 4 rfl) ?_
      refine px_S (As := [.int v2, .long v5]) (rest := [.long v3, .int v2]) ⟨hx, hb, hml, hown, hts⟩ (kX0_negated l v2 v5) (va_cwS 2 hts gX1_workReal_X0_negated rfl rfl rfl (by decide +kernel) ⟨Nat.le_of_ble_eq_true rfl, Nat.le_of_ble_eq_true rfl⟩) rfl hl.1 rfl (Nat.le_of_ble_eq_true rfl) dX1_workReal_49 (Nat.zero_le _) (Nat.zero_le _) ?_
      refine px_S (As := [.int v2, .long v3, .long (fX0_negated v2 v5)]) (rest := []) ⟨hx, hb, hml, hown, hts⟩ (kX0_sum l v2 v3 (fX0_negated v2 v5)) (va_cwS 3 hts gX1_workReal_X0_sum rfl rfl rfl (by decide +kernel) ⟨Nat.le_of_ble_eq_true rfl, Nat.le_of_ble_eq_true rfl⟩) rfl hl.1 rfl (Nat.le_of_ble_eq_true rfl) dX1_workReal_52 (Nat.zero_le _) (Nat.zero_le _) ?_
      refine lv_topl (fun v7_55 ev7_55 => ?_)
      rw [← ev7_55]
      refine lv_lstore (lv' := [(7, .long v7_55), (0, .ref this), (1, .int v1), (2, .int v2), (3, .long v3), (5, .long v5)]) hx hb dX1_workReal_55 hl (by decide) rfl (fun ls hl => ?_)
      rw [fX1_workReal_57]
      refine lv_goto (tgt := 93) hx hb dX1_workReal_57 (by decide) ?_
      exact wX1_workReal_93 C this v2 v7_55 fld hK hP hS (lv_sub hl [1, 3, 0] rfl)
    · rw [if_neg hs1_1]
      by_cases hs1_2 : v1 = (3 : Int32)
      · rw [if_pos hs1_2]
        refine lv_tableIn (tgt := 60) (off := 59) hx hb dX1_workReal_1 (by rw [hs1_2]; decide) (by rw [hs1_2]; decide) (by rw [hs1_2]; decide +kernel) (by decide) ?_
        refine lv_iload_n hx hb dX1_workReal_60 rfl (lv_at hl 2 rfl) ?_
        refine lv_lload_n hx hb dX1_workReal_61 rfl (lv_at hl 3 rfl) ?_
        refine lv_lload hx hb dX1_workReal_62 (lv_at hl 4 rfl) ?_
        refine px_S (As := [.int v2, .long v3, .long v5]) (rest := []) ⟨hx, hb, hml, hown, hts⟩ (kX0_product l v2 v3 v5) (va_cwS 3 hts gX1_workReal_X0_product rfl rfl rfl (by decide +kernel) ⟨Nat.le_of_ble_eq_true rfl, Nat.le_of_ble_eq_true rfl⟩) rfl hl.1 rfl (Nat.le_of_ble_eq_true rfl) dX1_workReal_64 (Nat.zero_le _) (Nat.zero_le _) ?_
        refine lv_topl (fun v7_67 ev7_67 => ?_)
        rw [← ev7_67]
        refine lv_lstore (lv' := [(7, .long v7_67), (0, .ref this), (1, .int v1), (2, .int v2), (3, .long v3), (5, .long v5)]) hx hb dX1_workReal_67 hl (by decide) rfl (fun ls hl => ?_)
        rw [fX1_workReal_69]
        refine lv_goto (tgt := 93) hx hb dX1_workReal_69 (by decide) ?_
        exact wX1_workReal_93 C this v2 v7_67 fld hK hP hS (lv_sub hl [1, 3, 0] rfl)
      · rw [if_neg hs1_2]
        by_cases hs1_3 : v1 = (4 : Int32)
        · rw [if_pos hs1_3]
          refine lv_tableIn (tgt := 72) (off := 71) hx hb dX1_workReal_1 (by rw [hs1_3]; decide) (by rw [hs1_3]; decide) (by rw [hs1_3]; decide +kernel) (by decide) ?_
          refine lv_iload_n hx hb dX1_workReal_72 rfl (lv_at hl 2 rfl) ?_
          refine lv_lload_n hx hb dX1_workReal_73 rfl (lv_at hl 3 rfl) ?_
          refine lv_lload hx hb dX1_workReal_74 (lv_at hl 4 rfl) ?_
          refine px_S (As := [.int v2, .long v3, .long v5]) (rest := []) ⟨hx, hb, hml, hown, hts⟩ (kX0_quotient l v2 v3 v5) (va_cwS 3 hts gX1_workReal_X0_quotient rfl rfl rfl (by decide +kernel) ⟨Nat.le_of_ble_eq_true rfl, Nat.le_of_ble_eq_true rfl⟩) rfl hl.1 rfl (Nat.le_of_ble_eq_true rfl) dX1_workReal_76 (Nat.zero_le _) (Nat.zero_le _) ?_
          refine lv_topl (fun v7_79 ev7_79 => ?_)
          rw [← ev7_79]
          refine lv_lstore (lv' := [(7, .long v7_79), (0, .ref this), (1, .int v1), (2, .int v2), (3, .long v3), (5, .long v5)]) hx hb dX1_workReal_79 hl (by decide) rfl (fun ls hl => ?_)
          rw [fX1_workReal_81]
          refine lv_goto (tgt := 93) hx hb dX1_workReal_81 (by decide) ?_
          exact wX1_workReal_93 C this v2 v7_79 fld hK hP hS (lv_sub hl [1, 3, 0] rfl)
        · rw [if_neg hs1_3]
          refine lv_tableOut (tgt := 84) hx hb dX1_workReal_1 (by have q0 := lv_neT (a := 1) hs1_0 (by decide); have q1 := lv_neT (a := 2) hs1_1 (by decide); have q2 := lv_neT (a := 3) hs1_2 (by decide); have q3 := lv_neT (a := 4) hs1_3 (by decide); omega) (by decide) ?_
          refine lv_iload_n hx hb dX1_workReal_84 rfl (lv_at hl 2 rfl) ?_
          refine lv_lload_n hx hb dX1_workReal_85 rfl (lv_at hl 3 rfl) ?_
          refine lv_lload hx hb dX1_workReal_86 (lv_at hl 4 rfl) ?_
          refine px_S (As := [.int v2, .long v3, .long v5]) (rest := []) ⟨hx, hb, hml, hown, hts⟩ (kX0_rest l v2 v3 v5) (va_cwS 3 hts gX1_workReal_X0_rest rfl rfl rfl (by decide +kernel) ⟨Nat.le_of_ble_eq_true rfl, Nat.le_of_ble_eq_true rfl⟩) rfl hl.1 rfl (Nat.le_of_ble_eq_true rfl) dX1_workReal_88 (Nat.zero_le _) (Nat.zero_le _) ?_
          refine lv_lstore (lv' := [(7, .long (fX0_rest v2 v3 v5)), (0, .ref this), (1, .int v1), (2, .int v2), (3, .long v3), (5, .long v5)]) hx hb dX1_workReal_91 hl (by decide) rfl (fun ls hl => ?_)
          exact wX1_workReal_93 C this v2 (fX0_rest v2 v3 v5) fld hK hP hS (lv_sub hl [1, 3, 0] rfl)
set_option maxHeartbeats 4000000 in
set_option maxRecDepth 100000 in
theorem kX1_workReal (l : Launch) (D : va_G) (this : Nat) (v1 : Int32) (v2 : Int32) (v3 : Int64) (v5 : Int64) (fld : Int32) : Met l yX1_workReal wsX1_workReal ({ frames := 5, cells := 0, slots := 0, locals := 129 }) (ob_P D 0 this fld [.ref this, .int v1, .int v2, .long v3, .long v5]) (ob_QL D 0 this (fX1_workReal v1 v2 v3 v5 fld)) 0 0 (fun q => q = this) := by
  refine Met.ofW (cc := cX1_workReal) (maxL := 9) (ret := (some .long)) (by decide) rfl ?_
  intro p e s m args below meth c s₁ B hml hv
  obtain ⟨rfl, hP, hK⟩ := hv
  have C : px_C p s m _ meth c cX1_workReal 9 (some .long) RX1 wsX1_workReal := ⟨B.exec, B.bytes, hml, findClass_of_methodNamed B.named, atoms_spec (ws := wsX1_workReal) B.pre, B.returns, B.notSynchronized⟩
  have hl := lv_entry ([.ref this, .int v1, .int v2, .long v3, .long v5]) (n := 9) (Nat.le_of_ble_eq_true rfl)
  rw [lg_entry_eq]
  generalize (lg_sl ([.ref this, .int v1, .int v2, .long v3, .long v5]) ++ List.replicate (9 - (lg_sl ([.ref this, .int v1, .int v2, .long v3, .long v5])).length) Slot.unset).toArray = ls at hl ⊢
  have hl : lv_has ls 9 [(0, .ref this), (1, .int v1), (2, .int v2), (3, .long v3), (5, .long v5)] := hl
  rw [fX1_workReal]
  exact wX1_workReal_0 C this v1 v2 v3 v5 fld hK hP va_S.rf (lv_sub hl [0, 1, 2, 3, 4] rfl)
set_option maxHeartbeats 4000000 in
set_option maxRecDepth 100000 in
theorem wX1_work_22 {p : Program} {l : Launch} {e : Env} {s : State} {m : MethodId} {args : Array Value} {below : List Frame} {meth : Method} {c : Code} {D : va_G} (C : px_C p s m args meth c cX1_work 13 (some .long) RX1 wsX1_work) (this : Nat) (fld : Int32) {H : Heap} {locs : List Loc} (hK : va_K D vwCl [] s) (hP : va_P D vwCl [(this, .inr (0, [.int fld]))] H) (hS : va_S (fun q => q = this) s.heap H locs) {ls : Array Slot} (hl : lv_has ls 13 [(0, .ref this)]) : W p l e { frames := 6, cells := 0, slots := 0, locals := 157 } s m args below meth c H locs 0 0 (MQ below (ob_QL D 0 this (fX1_work_22 fld)) args s 0 0 (fun q => q = this)) (F0 m 22 ls []) := by
  obtain ⟨hx, hb, hml, hown, hts, hr, hlocks⟩ := id C
  rw [fX1_work_22]
  refine lv_aload_n hx hb dX1_work_22 rfl (lv_at hl 0 rfl) ?_
  refine lv_iconst (v := 1) hx hb dX1_work_23 (by decide) ?_
  refine lv_iconst (v := 0) hx hb dX1_work_24 (by decide) ?_
  refine ob_Vi (As := [.int (1 : Int32), .int (0 : Int32)]) (rest := []) ⟨hx, hb, hml, hown, hts⟩ (kX1_fails l D this (1 : Int32) (0 : Int32) fld) hK hP hS (ci := 0) rfl (cwV 2 hts gX1_work_X1_fails rfl rfl rfl (by decide +kernel) ⟨Nat.le_of_ble_eq_true rfl, Nat.le_of_ble_eq_true rfl⟩) rfl hl.1 rfl (Nat.le_of_ble_eq_true rfl) dX1_work_25 (Nat.zero_le _) (Nat.zero_le _) (fun H locs hP hS => ?_)
  refine px_i2l hx hb dX1_work_28 ?_
  exact W.lret hx hb hr (fun t ht hW => ⟨rfl, by rw [ht]; exact hP, hS.F ht⟩) hS.2.2 dX1_work_29
set_option maxHeartbeats 4000000 in
set_option maxRecDepth 100000 in
theorem wX1_work_0 {p : Program} {l : Launch} {e : Env} {s : State} {m : MethodId} {args : Array Value} {below : List Frame} {meth : Method} {c : Code} {D : va_G} (C : px_C p s m args meth c cX1_work 13 (some .long) RX1 wsX1_work) (this : Nat) (v1 : Int32) (v2 : Int32) (v3 : Int64) (v5 : Int32) (v6 : Int64) (fld : Int32) {H : Heap} {locs : List Loc} (hK : va_K D vwCl [] s) (hP : va_P D vwCl [(this, .inr (0, [.int fld]))] H) (hS : va_S (fun q => q = this) s.heap H locs) {ls : Array Slot} (hl : lv_has ls 13 [(0, .ref this), (1, .int v1), (2, .int v2), (3, .long v3), (5, .int v5), (6, .long v6)]) : W p l e { frames := 6, cells := 0, slots := 0, locals := 157 } s m args below meth c H locs 0 0 (MQ below (ob_QL D 0 this (fX1_work_0 v1 v2 v3 v5 v6 fld)) args s 0 0 (fun q => q = this)) (F0 m 0 ls []) := by
  obtain ⟨hx, hb, hml, hown, hts, hr, hlocks⟩ := id C
  rw [fX1_work_0]
  refine lv_iload_n hx hb dX1_work_0 rfl (lv_at hl 1 rfl) ?_
  refine lv_iconst (v := 1) hx hb dX1_work_1 (by decide) ?_
  refine px_icmp_lt (tgt := 22) hx hb dX1_work_2 (by decide) (fun hc2 => ?_) (fun hc2 => ?_)
  · rw [if_pos hc2]
    exact wX1_work_22 C this fld hK hP hS (lv_sub hl [0] rfl)
  · rw [if_neg hc2]
    refine lv_iload_n hx hb dX1_work_5 rfl (lv_at hl 1 rfl) ?_
    refine lv_iconst (v := 5) hx hb dX1_work_6 (by decide) ?_
    refine px_icmp_gt (tgt := 22) hx hb dX1_work_7 (by decide) (fun hc7 => ?_) (fun hc7 => ?_)
    · rw [if_pos hc7]
      exact wX1_work_22 C this fld hK hP hS (lv_sub hl [0] rfl)
    · rw [if_neg hc7]
      refine lv_iload_n hx hb dX1_work_10 rfl (lv_at hl 2 rfl) ?_
      refine lv_lload_n hx hb dX1_work_11 rfl (lv_at hl 3 rfl) ?_
      refine lv_iload hx hb dX1_work_12 (lv_at hl 4 rfl) ?_
      refine lv_lload hx hb dX1_work_14 (lv_at hl 5 rfl) ?_
      refine px_S (As := [.int v2, .long v3, .int v5, .long v6]) (rest := []) ⟨hx, hb, hml, hown, hts⟩ (kX1_areNumbers l v2 v3 v5 v6) (va_cwS 4 hts gX1_work_X1_areNumbers rfl rfl rfl (by decide +kernel) ⟨Nat.le_of_ble_eq_true rfl, Nat.le_of_ble_eq_true rfl⟩) rfl hl.1 rfl (Nat.le_of_ble_eq_true rfl) dX1_work_16 (Nat.zero_le _) (Nat.zero_le _) ?_
      refine px_if_ne (tgt := 30) hx hb dX1_work_19 (by decide) (fun hc19 => ?_) (fun hc19 => ?_)
      · rw [if_pos hc19]
        exact wX1_work_22 C this fld hK hP hS (lv_sub hl [0] rfl)
      · rw [if_neg hc19]
        refine lv_aload_n hx hb dX1_work_30 rfl (lv_at hl 0 rfl) ?_
        refine lv_iconst (v := 0) hx hb dX1_work_31 (by decide) ?_
        refine va_put (D := D) (ci := 0) (v := .int (0 : Int32)) (ty := .int) (C := RX1) (T := TX1) (N := 1) hx hb hts (by decide +kernel) tyX1 tyX1_ok nmX1 hown hK hP (ob_D _ _) hS 0 rfl rfl 0 (by decide) (hts (.fieldLink RX1 9 "KindNumbers" "why" "I") (by decide +kernel)) (fun _ h9 => h9) rfl (by decide +kernel) rfl rfl (Nat.le_of_ble_eq_true rfl) dX1_work_32 (fun H locs hP _ hS => ?_)
        have hP : va_P D vwCl [(this, .inr (0, [.int (0 : Int32)]))] H := hP
        refine lv_iload_n hx hb dX1_work_35 rfl (lv_at hl 2 rfl) ?_
        refine lv_iload hx hb dX1_work_36 (lv_at hl 4 rfl) ?_
        refine px_S (As := [.int v2, .int v5]) (rest := []) ⟨hx, hb, hml, hown, hts⟩ (kX1_workKind l v2 v5) (va_cwS 2 hts gX1_work_X1_workKind rfl rfl rfl (by decide +kernel) ⟨Nat.le_of_ble_eq_true rfl, Nat.le_of_ble_eq_true rfl⟩) rfl hl.1 rfl (Nat.le_of_ble_eq_true rfl) dX1_work_38 (Nat.zero_le _) (Nat.zero_le _) ?_
        refine lv_topi (fun v8_41 ev8_41 => ?_)
        rw [← ev8_41]
        refine lv_istore (lv' := [(8, .int v8_41), (0, .ref this), (1, .int v1), (2, .int v2), (3, .long v3), (5, .int v5), (6, .long v6)]) hx hb dX1_work_41 hl (by decide) rfl (fun ls hl => ?_)
        rw [fX1_work_43]
        refine lv_iload_n hx hb dX1_work_43 rfl (lv_at hl 3 rfl) ?_
        refine lv_iload hx hb dX1_work_44 (lv_at hl 0 rfl) ?_
        refine lv_lload_n hx hb dX1_work_46 rfl (lv_at hl 4 rfl) ?_
        refine px_S (As := [.int v2, .int v8_41, .long v3]) (rest := []) ⟨hx, hb, hml, hown, hts⟩ (kX1_converted l v2 v8_41 v3) (va_cwS 3 hts gX1_work_X1_converted rfl rfl rfl (by decide +kernel) ⟨Nat.le_of_ble_eq_true rfl, Nat.le_of_ble_eq_true rfl⟩) rfl hl.1 rfl (Nat.le_of_ble_eq_true rfl) dX1_work_47 (Nat.zero_le _) (Nat.zero_le _) ?_
        refine lv_topl (fun v9_50 ev9_50 => ?_)
        rw [← ev9_50]
        refine lv_lstore (lv' := [(9, .long v9_50), (8, .int v8_41), (0, .ref this), (1, .int v1), (2, .int v2), (3, .long v3), (5, .int v5), (6, .long v6)]) hx hb dX1_work_50 hl (by decide) rfl (fun ls hl => ?_)
        rw [fX1_work_52]
        refine lv_iload hx hb dX1_work_52 (lv_at hl 6 rfl) ?_
        refine lv_iload hx hb dX1_work_54 (lv_at hl 1 rfl) ?_
        refine lv_lload hx hb dX1_work_56 (lv_at hl 7 rfl) ?_
        refine px_S (As := [.int v5, .int v8_41, .long v6]) (rest := []) ⟨hx, hb, hml, hown, hts⟩ (kX1_converted l v5 v8_41 v6) (va_cwS 3 hts gX1_work_X1_converted rfl rfl rfl (by decide +kernel) ⟨Nat.le_of_ble_eq_true rfl, Nat.le_of_ble_eq_true rfl⟩) rfl hl.1 rfl (Nat.le_of_ble_eq_true rfl) dX1_work_58 (Nat.zero_le _) (Nat.zero_le _) ?_
        refine lv_topl (fun v11_61 ev11_61 => ?_)
        rw [← ev11_61]
        refine lv_lstore (lv' := [(11, .long v11_61), (9, .long v9_50), (8, .int v8_41), (0, .ref this), (1, .int v1), (2, .int v2), (3, .long v3), (5, .int v5), (6, .long v6)]) hx hb dX1_work_61 hl (by decide) rfl (fun ls hl => ?_)
        rw [fX1_work_63]
        refine lv_iload hx hb dX1_work_63 (lv_at hl 2 rfl) ?_
        refine lv_bipush (v := 6) hx hb dX1_work_65 (by decide) ?_
        refine px_icmp_lt (tgt := 84) hx hb dX1_work_67 (by decide) (fun hc67 => ?_) (fun hc67 => ?_)
        · rw [if_pos hc67]
          refine lv_aload_n hx hb dX1_work_84 rfl (lv_at hl 3 rfl) ?_
          refine lv_iload_n hx hb dX1_work_85 rfl (lv_at hl 4 rfl) ?_
          refine lv_iload hx hb dX1_work_86 (lv_at hl 2 rfl) ?_
          refine lv_lload hx hb dX1_work_88 (lv_at hl 1 rfl) ?_
          refine lv_lload hx hb dX1_work_90 (lv_at hl 0 rfl) ?_
          refine ob_Vl (As := [.int v1, .int v8_41, .long v9_50, .long v11_61]) (rest := []) ⟨hx, hb, hml, hown, hts⟩ (kX1_workWhole l D this v1 v8_41 v9_50 v11_61 (0 : Int32)) hK hP hS (ci := 0) rfl (cwV 4 hts gX1_work_X1_workWhole rfl rfl rfl (by decide +kernel) ⟨Nat.le_of_ble_eq_true rfl, Nat.le_of_ble_eq_true rfl⟩) rfl hl.1 rfl (Nat.le_of_ble_eq_true rfl) dX1_work_92 (Nat.zero_le _) (Nat.zero_le _) (fun H locs hP hS => ?_)
          exact W.lret hx hb hr (fun t ht hW => ⟨rfl, by rw [ht]; exact hP, hS.F ht⟩) hS.2.2 dX1_work_95
        · rw [if_neg hc67]
          refine lv_aload_n hx hb dX1_work_70 rfl (lv_at hl 3 rfl) ?_
          refine lv_iload_n hx hb dX1_work_71 rfl (lv_at hl 4 rfl) ?_
          refine lv_iload hx hb dX1_work_72 (lv_at hl 2 rfl) ?_
          refine lv_lload hx hb dX1_work_74 (lv_at hl 1 rfl) ?_
          refine lv_lload hx hb dX1_work_76 (lv_at hl 0 rfl) ?_
          refine ob_Vl (As := [.int v1, .int v8_41, .long v9_50, .long v11_61]) (rest := []) ⟨hx, hb, hml, hown, hts⟩ (kX1_workReal l D this v1 v8_41 v9_50 v11_61 (0 : Int32)) hK hP hS (ci := 0) rfl (cwV 4 hts gX1_work_X1_workReal rfl rfl rfl (by decide +kernel) ⟨Nat.le_of_ble_eq_true rfl, Nat.le_of_ble_eq_true rfl⟩) rfl hl.1 rfl (Nat.le_of_ble_eq_true rfl) dX1_work_78 (Nat.zero_le _) (Nat.zero_le _) (fun H locs hP hS => ?_)
          refine lv_goto (tgt := 95) hx hb dX1_work_81 (by decide) ?_
          exact W.lret hx hb hr (fun t ht hW => ⟨rfl, by rw [ht]; exact hP, hS.F ht⟩) hS.2.2 dX1_work_95
set_option maxHeartbeats 4000000 in
set_option maxRecDepth 100000 in
theorem kX1_work (l : Launch) (D : va_G) (this : Nat) (v1 : Int32) (v2 : Int32) (v3 : Int64) (v5 : Int32) (v6 : Int64) (fld : Int32) : Met l yX1_work wsX1_work ({ frames := 6, cells := 0, slots := 0, locals := 157 }) (ob_P D 0 this fld [.ref this, .int v1, .int v2, .long v3, .int v5, .long v6]) (ob_QL D 0 this (fX1_work v1 v2 v3 v5 v6 fld)) 0 0 (fun q => q = this) := by
  refine Met.ofW (cc := cX1_work) (maxL := 13) (ret := (some .long)) (by decide) rfl ?_
  intro p e s m args below meth c s₁ B hml hv
  obtain ⟨rfl, hP, hK⟩ := hv
  have C : px_C p s m _ meth c cX1_work 13 (some .long) RX1 wsX1_work := ⟨B.exec, B.bytes, hml, findClass_of_methodNamed B.named, atoms_spec (ws := wsX1_work) B.pre, B.returns, B.notSynchronized⟩
  have hl := lv_entry ([.ref this, .int v1, .int v2, .long v3, .int v5, .long v6]) (n := 13) (Nat.le_of_ble_eq_true rfl)
  rw [lg_entry_eq]
  generalize (lg_sl ([.ref this, .int v1, .int v2, .long v3, .int v5, .long v6]) ++ List.replicate (13 - (lg_sl ([.ref this, .int v1, .int v2, .long v3, .int v5, .long v6])).length) Slot.unset).toArray = ls at hl ⊢
  have hl : lv_has ls 13 [(0, .ref this), (1, .int v1), (2, .int v2), (3, .long v3), (5, .int v5), (6, .long v6)] := hl
  rw [fX1_work]
  exact wX1_work_0 C this v1 v2 v3 v5 v6 fld hK hP va_S.rf (lv_sub hl [0, 1, 2, 3, 4, 5] rfl)
set_option maxHeartbeats 4000000 in
set_option maxRecDepth 100000 in
theorem wX1_shift_42 {p : Program} {l : Launch} {e : Env} {s : State} {m : MethodId} {args : Array Value} {below : List Frame} {meth : Method} {c : Code} {D : va_G} (C : px_C p s m args meth c cX1_shift 8 (some .long) RX1 wsX1_shift) (this : Nat) (fld : Int32) {H : Heap} {locs : List Loc} (hK : va_K D vwCl [] s) (hP : va_P D vwCl [(this, .inr (0, [.int fld]))] H) (hS : va_S (fun q => q = this) s.heap H locs) {ls : Array Slot} (hl : lv_has ls 8 [(0, .ref this)]) : W p l e { frames := 4, cells := 0, slots := 0, locals := 88 } s m args below meth c H locs 0 0 (MQ below (ob_QL D 0 this (fX1_shift_42 fld)) args s 0 0 (fun q => q = this)) (F0 m 42 ls []) := by
  obtain ⟨hx, hb, hml, hown, hts, hr, hlocks⟩ := id C
  rw [fX1_shift_42]
  refine lv_aload_n hx hb dX1_shift_42 rfl (lv_at hl 0 rfl) ?_
  refine lv_iconst (v := 1) hx hb dX1_shift_43 (by decide) ?_
  refine lv_iconst (v := 0) hx hb dX1_shift_44 (by decide) ?_
  refine ob_Vi (As := [.int (1 : Int32), .int (0 : Int32)]) (rest := []) ⟨hx, hb, hml, hown, hts⟩ (kX1_fails l D this (1 : Int32) (0 : Int32) fld) hK hP hS (ci := 0) rfl (cwV 2 hts gX1_shift_X1_fails rfl rfl rfl (by decide +kernel) ⟨Nat.le_of_ble_eq_true rfl, Nat.le_of_ble_eq_true rfl⟩) rfl hl.1 rfl (Nat.le_of_ble_eq_true rfl) dX1_shift_45 (Nat.zero_le _) (Nat.zero_le _) (fun H locs hP hS => ?_)
  refine px_i2l hx hb dX1_shift_48 ?_
  exact W.lret hx hb hr (fun t ht hW => ⟨rfl, by rw [ht]; exact hP, hS.F ht⟩) hS.2.2 dX1_shift_49
set_option maxHeartbeats 4000000 in
set_option maxRecDepth 100000 in
theorem wX1_shift_17 {p : Program} {l : Launch} {e : Env} {s : State} {m : MethodId} {args : Array Value} {below : List Frame} {meth : Method} {c : Code} {D : va_G} (C : px_C p s m args meth c cX1_shift 8 (some .long) RX1 wsX1_shift) (this : Nat) (v1 : Int32) (v2 : Int32) (v3 : Int64) (v5 : Int64) (s0 : Int32) (fld : Int32) {H : Heap} {locs : List Loc} (hK : va_K D vwCl [] s) (hP : va_P D vwCl [(this, .inr (0, [.int fld]))] H) (hS : va_S (fun q => q = this) s.heap H locs) {ls : Array Slot} (hl : lv_has ls 8 [(0, .ref this), (1, .int v1), (2, .int v2), (3, .long v3), (5, .long v5)]) : W p l e { frames := 4, cells := 0, slots := 0, locals := 88 } s m args below meth c H locs 0 0 (MQ below (ob_QL D 0 this (fX1_shift_17 v1 v2 v3 v5 s0 fld)) args s 0 0 (fun q => q = this)) (F0 m 17 ls [.int s0]) := by
  obtain ⟨hx, hb, hml, hown, hts, hr, hlocks⟩ := id C
  rw [fX1_shift_17]
  refine lv_istore (lv' := [(7, .int s0), (0, .ref this), (1, .int v1), (2, .int v2), (3, .long v3), (5, .long v5)]) hx hb dX1_shift_17 hl (by decide) rfl (fun ls hl => ?_)
  refine lv_iload hx hb dX1_shift_19 (lv_at hl 0 rfl) ?_
  refine px_if_eq (tgt := 42) hx hb dX1_shift_21 (by decide) (fun hc21 => ?_) (fun hc21 => ?_)
  · rw [if_pos hc21]
    exact wX1_shift_42 C this fld hK hP hS (lv_sub hl [1] rfl)
  · rw [if_neg hc21]
    refine lv_iload_n hx hb dX1_shift_24 rfl (lv_at hl 3 rfl) ?_
    refine lv_iconst (v := 1) hx hb dX1_shift_25 (by decide) ?_
    refine px_icmp_lt (tgt := 42) hx hb dX1_shift_26 (by decide) (fun hc26 => ?_) (fun hc26 => ?_)
    · rw [if_pos hc26]
      exact wX1_shift_42 C this fld hK hP hS (lv_sub hl [1] rfl)
    · rw [if_neg hc26]
      refine lv_iload_n hx hb dX1_shift_29 rfl (lv_at hl 3 rfl) ?_
      refine lv_iconst (v := 5) hx hb dX1_shift_30 (by decide) ?_
      refine px_icmp_gt (tgt := 42) hx hb dX1_shift_31 (by decide) (fun hc31 => ?_) (fun hc31 => ?_)
      · rw [if_pos hc31]
        exact wX1_shift_42 C this fld hK hP hS (lv_sub hl [1] rfl)
      · rw [if_neg hc31]
        refine lv_iload_n hx hb dX1_shift_34 rfl (lv_at hl 3 rfl) ?_
        refine lv_lload_n hx hb dX1_shift_35 rfl (lv_at hl 4 rfl) ?_
        refine px_S (As := [.int v2, .long v3]) (rest := []) ⟨hx, hb, hml, hown, hts⟩ (kX1_isValue l v2 v3) (va_cwS 2 hts gX1_shift_X1_isValue rfl rfl rfl (by decide +kernel) ⟨Nat.le_of_ble_eq_true rfl, Nat.le_of_ble_eq_true rfl⟩) rfl hl.1 rfl (Nat.le_of_ble_eq_true rfl) dX1_shift_36 (Nat.zero_le _) (Nat.zero_le _) ?_
        refine px_if_ne (tgt := 50) hx hb dX1_shift_39 (by decide) (fun hc39 => ?_) (fun hc39 => ?_)
        · rw [if_pos hc39]
          exact wX1_shift_42 C this fld hK hP hS (lv_sub hl [1] rfl)
        · rw [if_neg hc39]
          refine lv_aload_n hx hb dX1_shift_50 rfl (lv_at hl 1 rfl) ?_
          refine lv_iconst (v := 0) hx hb dX1_shift_51 (by decide) ?_
          refine va_put (D := D) (ci := 0) (v := .int (0 : Int32)) (ty := .int) (C := RX1) (T := TX1) (N := 1) hx hb hts (by decide +kernel) tyX1 tyX1_ok nmX1 hown hK hP (ob_D _ _) hS 0 rfl rfl 0 (by decide) (hts (.fieldLink RX1 9 "KindNumbers" "why" "I") (by decide +kernel)) (fun _ h9 => h9) rfl (by decide +kernel) rfl rfl (Nat.le_of_ble_eq_true rfl) dX1_shift_52 (fun H locs hP _ hS => ?_)
          have hP : va_P D vwCl [(this, .inr (0, [.int (0 : Int32)]))] H := hP
          refine lv_iload_n hx hb dX1_shift_55 rfl (lv_at hl 3 rfl) ?_
          refine lv_iconst (v := 5) hx hb dX1_shift_56 (by decide) ?_
          refine px_icmp_ne (tgt := 75) hx hb dX1_shift_57 (by decide) (fun hc57 => ?_) (fun hc57 => ?_)
          · rw [if_pos hc57]
            refine lv_iload_n hx hb dX1_shift_60 rfl (lv_at hl 2 rfl) ?_
            refine lv_lload_n hx hb dX1_shift_61 rfl (lv_at hl 4 rfl) ?_
            refine lv_lload hx hb dX1_shift_62 (lv_at hl 5 rfl) ?_
            refine lv_ldc2 hx hb hown (hts (.constantLong RX1 43 (63)) (by decide +kernel)) dX1_shift_64 ?_
            refine lv_land hx hb dX1_shift_67 ?_
            refine px_l2i hx hb dX1_shift_68 ?_
            refine px_S (As := [.int v1, .long v3, .int ((v5 &&& (63 : Int64)).toInt32)]) (rest := []) ⟨hx, hb, hml, hown, hts⟩ (kX1_shiftedLong l v1 v3 ((v5 &&& (63 : Int64)).toInt32)) (va_cwS 3 hts gX1_shift_X1_shiftedLong rfl rfl rfl (by decide +kernel) ⟨Nat.le_of_ble_eq_true rfl, Nat.le_of_ble_eq_true rfl⟩) rfl hl.1 rfl (Nat.le_of_ble_eq_true rfl) dX1_shift_69 (Nat.zero_le _) (Nat.zero_le _) ?_
            refine lv_goto (tgt := 88) hx hb dX1_shift_72 (by decide) ?_
            exact W.lret hx hb hr (fun t ht hW => ⟨rfl, by rw [ht]; exact hP, hS.F ht⟩) hS.2.2 dX1_shift_88
          · rw [if_neg hc57]
            refine lv_iload_n hx hb dX1_shift_75 rfl (lv_at hl 2 rfl) ?_
            refine lv_lload_n hx hb dX1_shift_76 rfl (lv_at hl 4 rfl) ?_
            refine px_l2i hx hb dX1_shift_77 ?_
            refine lv_lload hx hb dX1_shift_78 (lv_at hl 5 rfl) ?_
            refine lv_ldc2 hx hb hown (hts (.constantLong RX1 49 (31)) (by decide +kernel)) dX1_shift_80 ?_
            refine lv_land hx hb dX1_shift_83 ?_
            refine px_l2i hx hb dX1_shift_84 ?_
            refine px_S (As := [.int v1, .int (v3.toInt32), .int ((v5 &&& (31 : Int64)).toInt32)]) (rest := []) ⟨hx, hb, hml, hown, hts⟩ (kX1_shiftedInt l v1 (v3.toInt32) ((v5 &&& (31 : Int64)).toInt32)) (va_cwS 3 hts gX1_shift_X1_shiftedInt rfl rfl rfl (by decide +kernel) ⟨Nat.le_of_ble_eq_true rfl, Nat.le_of_ble_eq_true rfl⟩) rfl hl.1 rfl (Nat.le_of_ble_eq_true rfl) dX1_shift_85 (Nat.zero_le _) (Nat.zero_le _) ?_
            exact W.lret hx hb hr (fun t ht hW => ⟨rfl, by rw [ht]; exact hP, hS.F ht⟩) hS.2.2 dX1_shift_88
set_option maxHeartbeats 4000000 in
set_option maxRecDepth 100000 in
theorem wX1_shift_16 {p : Program} {l : Launch} {e : Env} {s : State} {m : MethodId} {args : Array Value} {below : List Frame} {meth : Method} {c : Code} {D : va_G} (C : px_C p s m args meth c cX1_shift 8 (some .long) RX1 wsX1_shift) (this : Nat) (v1 : Int32) (v2 : Int32) (v3 : Int64) (v5 : Int64) (fld : Int32) {H : Heap} {locs : List Loc} (hK : va_K D vwCl [] s) (hP : va_P D vwCl [(this, .inr (0, [.int fld]))] H) (hS : va_S (fun q => q = this) s.heap H locs) {ls : Array Slot} (hl : lv_has ls 8 [(0, .ref this), (1, .int v1), (2, .int v2), (3, .long v3), (5, .long v5)]) : W p l e { frames := 4, cells := 0, slots := 0, locals := 88 } s m args below meth c H locs 0 0 (MQ below (ob_QL D 0 this (fX1_shift_16 v1 v2 v3 v5 fld)) args s 0 0 (fun q => q = this)) (F0 m 16 ls []) := by
  obtain ⟨hx, hb, hml, hown, hts, hr, hlocks⟩ := id C
  rw [fX1_shift_16]
  refine lv_iconst (v := 0) hx hb dX1_shift_16 (by decide) ?_
  exact wX1_shift_17 C this v1 v2 v3 v5 (0 : Int32) fld hK hP hS (lv_sub hl [0, 1, 2, 3, 4] rfl)
set_option maxHeartbeats 4000000 in
set_option maxRecDepth 100000 in
theorem wX1_shift_0 {p : Program} {l : Launch} {e : Env} {s : State} {m : MethodId} {args : Array Value} {below : List Frame} {meth : Method} {c : Code} {D : va_G} (C : px_C p s m args meth c cX1_shift 8 (some .long) RX1 wsX1_shift) (this : Nat) (v1 : Int32) (v2 : Int32) (v3 : Int64) (v5 : Int64) (fld : Int32) {H : Heap} {locs : List Loc} (hK : va_K D vwCl [] s) (hP : va_P D vwCl [(this, .inr (0, [.int fld]))] H) (hS : va_S (fun q => q = this) s.heap H locs) {ls : Array Slot} (hl : lv_has ls 8 [(0, .ref this), (1, .int v1), (2, .int v2), (3, .long v3), (5, .long v5)]) : W p l e { frames := 4, cells := 0, slots := 0, locals := 88 } s m args below meth c H locs 0 0 (MQ below (ob_QL D 0 this (fX1_shift_0 v1 v2 v3 v5 fld)) args s 0 0 (fun q => q = this)) (F0 m 0 ls []) := by
  obtain ⟨hx, hb, hml, hown, hts, hr, hlocks⟩ := id C
  rw [fX1_shift_0]
  refine lv_iload_n hx hb dX1_shift_0 rfl (lv_at hl 1 rfl) ?_
  refine lv_bipush (v := 6) hx hb dX1_shift_1 (by decide) ?_
  refine px_icmp_lt (tgt := 16) hx hb dX1_shift_3 (by decide) (fun hc3 => ?_) (fun hc3 => ?_)
  · rw [if_pos hc3]
    exact wX1_shift_16 C this v1 v2 v3 v5 fld hK hP hS (lv_sub hl [0, 1, 2, 3, 4] rfl)
  · rw [if_neg hc3]
    refine lv_iload_n hx hb dX1_shift_6 rfl (lv_at hl 1 rfl) ?_
    refine lv_bipush (v := 8) hx hb dX1_shift_7 (by decide) ?_
    refine px_icmp_gt (tgt := 16) hx hb dX1_shift_9 (by decide) (fun hc9 => ?_) (fun hc9 => ?_)
    · rw [if_pos hc9]
      exact wX1_shift_16 C this v1 v2 v3 v5 fld hK hP hS (lv_sub hl [0, 1, 2, 3, 4] rfl)
    · rw [if_neg hc9]
      refine lv_iconst (v := 1) hx hb dX1_shift_12 (by decide) ?_
      refine lv_goto (tgt := 17) hx hb dX1_shift_13 (by decide) ?_
      exact wX1_shift_17 C this v1 v2 v3 v5 (1 : Int32) fld hK hP hS (lv_sub hl [0, 1, 2, 3, 4] rfl)
set_option maxHeartbeats 4000000 in
set_option maxRecDepth 100000 in
theorem kX1_shift (l : Launch) (D : va_G) (this : Nat) (v1 : Int32) (v2 : Int32) (v3 : Int64) (v5 : Int64) (fld : Int32) : Met l yX1_shift wsX1_shift ({ frames := 4, cells := 0, slots := 0, locals := 88 }) (ob_P D 0 this fld [.ref this, .int v1, .int v2, .long v3, .long v5]) (ob_QL D 0 this (fX1_shift v1 v2 v3 v5 fld)) 0 0 (fun q => q = this) := by
  refine Met.ofW (cc := cX1_shift) (maxL := 8) (ret := (some .long)) (by decide) rfl ?_
  intro p e s m args below meth c s₁ B hml hv
  obtain ⟨rfl, hP, hK⟩ := hv
  have C : px_C p s m _ meth c cX1_shift 8 (some .long) RX1 wsX1_shift := ⟨B.exec, B.bytes, hml, findClass_of_methodNamed B.named, atoms_spec (ws := wsX1_shift) B.pre, B.returns, B.notSynchronized⟩
  have hl := lv_entry ([.ref this, .int v1, .int v2, .long v3, .long v5]) (n := 8) (Nat.le_of_ble_eq_true rfl)
  rw [lg_entry_eq]
  generalize (lg_sl ([.ref this, .int v1, .int v2, .long v3, .long v5]) ++ List.replicate (8 - (lg_sl ([.ref this, .int v1, .int v2, .long v3, .long v5])).length) Slot.unset).toArray = ls at hl ⊢
  have hl : lv_has ls 8 [(0, .ref this), (1, .int v1), (2, .int v2), (3, .long v3), (5, .long v5)] := hl
  rw [fX1_shift]
  exact wX1_shift_0 C this v1 v2 v3 v5 fld hK hP va_S.rf (lv_sub hl [0, 1, 2, 3, 4] rfl)
set_option maxHeartbeats 4000000 in
set_option maxRecDepth 100000 in
theorem wX1_compare_0 {p : Program} {l : Launch} {e : Env} {s : State} {m : MethodId} {args : Array Value} {below : List Frame} {meth : Method} {c : Code} {D : va_G} (C : px_C p s m args meth c cX1_compare 12 (some .int) RX1 wsX1_compare) (this : Nat) (v1 : Int32) (v2 : Int64) (v4 : Int32) (v5 : Int64) (fld : Int32) {H : Heap} {locs : List Loc} (hK : va_K D vwCl [] s) (hP : va_P D vwCl [(this, .inr (0, [.int fld]))] H) (hS : va_S (fun q => q = this) s.heap H locs) {ls : Array Slot} (hl : lv_has ls 12 [(0, .ref this), (1, .int v1), (2, .long v2), (4, .int v4), (5, .long v5)]) : W p l e { frames := 5, cells := 0, slots := 0, locals := 121 } s m args below meth c H locs 0 0 (MQ below (ob_QI D 0 this (fX1_compare_0 v1 v2 v4 v5 fld)) args s 0 0 (fun q => q = this)) (F0 m 0 ls []) := by
  obtain ⟨hx, hb, hml, hown, hts, hr, hlocks⟩ := id C
  rw [fX1_compare_0]
  refine lv_iload_n hx hb dX1_compare_0 rfl (lv_at hl 1 rfl) ?_
  refine lv_lload_n hx hb dX1_compare_1 rfl (lv_at hl 2 rfl) ?_
  refine lv_iload hx hb dX1_compare_2 (lv_at hl 3 rfl) ?_
  refine lv_lload hx hb dX1_compare_4 (lv_at hl 4 rfl) ?_
  refine px_S (As := [.int v1, .long v2, .int v4, .long v5]) (rest := []) ⟨hx, hb, hml, hown, hts⟩ (kX1_areNumbers l v1 v2 v4 v5) (va_cwS 4 hts gX1_compare_X1_areNumbers rfl rfl rfl (by decide +kernel) ⟨Nat.le_of_ble_eq_true rfl, Nat.le_of_ble_eq_true rfl⟩) rfl hl.1 rfl (Nat.le_of_ble_eq_true rfl) dX1_compare_6 (Nat.zero_le _) (Nat.zero_le _) ?_
  refine px_if_ne (tgt := 19) hx hb dX1_compare_9 (by decide) (fun hc9 => ?_) (fun hc9 => ?_)
  · rw [if_pos hc9]
    refine lv_aload_n hx hb dX1_compare_12 rfl (lv_at hl 0 rfl) ?_
    refine lv_iconst (v := 1) hx hb dX1_compare_13 (by decide) ?_
    refine lv_iconst (v := 2) hx hb dX1_compare_14 (by decide) ?_
    refine ob_Vi (As := [.int (1 : Int32), .int (2 : Int32)]) (rest := []) ⟨hx, hb, hml, hown, hts⟩ (kX1_fails l D this (1 : Int32) (2 : Int32) fld) hK hP hS (ci := 0) rfl (cwV 2 hts gX1_compare_X1_fails rfl rfl rfl (by decide +kernel) ⟨Nat.le_of_ble_eq_true rfl, Nat.le_of_ble_eq_true rfl⟩) rfl hl.1 rfl (Nat.le_of_ble_eq_true rfl) dX1_compare_15 (Nat.zero_le _) (Nat.zero_le _) (fun H locs hP hS => ?_)
    exact W.iret hx hb hr (fun t ht hW => ⟨rfl, by rw [ht]; exact hP, hS.F ht⟩) hS.2.2 dX1_compare_18
  · rw [if_neg hc9]
    refine lv_aload_n hx hb dX1_compare_19 rfl (lv_at hl 0 rfl) ?_
    refine lv_iconst (v := 0) hx hb dX1_compare_20 (by decide) ?_
    refine va_put (D := D) (ci := 0) (v := .int (0 : Int32)) (ty := .int) (C := RX1) (T := TX1) (N := 1) hx hb hts (by decide +kernel) tyX1 tyX1_ok nmX1 hown hK hP (ob_D _ _) hS 0 rfl rfl 0 (by decide) (hts (.fieldLink RX1 9 "KindNumbers" "why" "I") (by decide +kernel)) (fun _ h9 => h9) rfl (by decide +kernel) rfl rfl (Nat.le_of_ble_eq_true rfl) dX1_compare_21 (fun H locs hP _ hS => ?_)
    have hP : va_P D vwCl [(this, .inr (0, [.int (0 : Int32)]))] H := hP
    refine lv_iload_n hx hb dX1_compare_24 rfl (lv_at hl 1 rfl) ?_
    refine lv_iload hx hb dX1_compare_25 (lv_at hl 3 rfl) ?_
    refine px_S (As := [.int v1, .int v4]) (rest := []) ⟨hx, hb, hml, hown, hts⟩ (kX1_workKind l v1 v4) (va_cwS 2 hts gX1_compare_X1_workKind rfl rfl rfl (by decide +kernel) ⟨Nat.le_of_ble_eq_true rfl, Nat.le_of_ble_eq_true rfl⟩) rfl hl.1 rfl (Nat.le_of_ble_eq_true rfl) dX1_compare_27 (Nat.zero_le _) (Nat.zero_le _) ?_
    refine lv_topi (fun v7_30 ev7_30 => ?_)
    rw [← ev7_30]
    refine lv_istore (lv' := [(7, .int v7_30), (0, .ref this), (1, .int v1), (2, .long v2), (4, .int v4), (5, .long v5)]) hx hb dX1_compare_30 hl (by decide) rfl (fun ls hl => ?_)
    rw [fX1_compare_32]
    refine lv_iload_n hx hb dX1_compare_32 rfl (lv_at hl 2 rfl) ?_
    refine lv_iload hx hb dX1_compare_33 (lv_at hl 0 rfl) ?_
    refine lv_lload_n hx hb dX1_compare_35 rfl (lv_at hl 3 rfl) ?_
    refine px_S (As := [.int v1, .int v7_30, .long v2]) (rest := []) ⟨hx, hb, hml, hown, hts⟩ (kX1_converted l v1 v7_30 v2) (va_cwS 3 hts gX1_compare_X1_converted rfl rfl rfl (by decide +kernel) ⟨Nat.le_of_ble_eq_true rfl, Nat.le_of_ble_eq_true rfl⟩) rfl hl.1 rfl (Nat.le_of_ble_eq_true rfl) dX1_compare_36 (Nat.zero_le _) (Nat.zero_le _) ?_
    refine lv_topl (fun v8_39 ev8_39 => ?_)
    rw [← ev8_39]
    refine lv_lstore (lv' := [(8, .long v8_39), (7, .int v7_30), (0, .ref this), (1, .int v1), (2, .long v2), (4, .int v4), (5, .long v5)]) hx hb dX1_compare_39 hl (by decide) rfl (fun ls hl => ?_)
    rw [fX1_compare_41]
    refine lv_iload hx hb dX1_compare_41 (lv_at hl 5 rfl) ?_
    refine lv_iload hx hb dX1_compare_43 (lv_at hl 1 rfl) ?_
    refine lv_lload hx hb dX1_compare_45 (lv_at hl 6 rfl) ?_
    refine px_S (As := [.int v4, .int v7_30, .long v5]) (rest := []) ⟨hx, hb, hml, hown, hts⟩ (kX1_converted l v4 v7_30 v5) (va_cwS 3 hts gX1_compare_X1_converted rfl rfl rfl (by decide +kernel) ⟨Nat.le_of_ble_eq_true rfl, Nat.le_of_ble_eq_true rfl⟩) rfl hl.1 rfl (Nat.le_of_ble_eq_true rfl) dX1_compare_47 (Nat.zero_le _) (Nat.zero_le _) ?_
    refine lv_topl (fun v10_50 ev10_50 => ?_)
    rw [← ev10_50]
    refine lv_lstore (lv' := [(10, .long v10_50), (8, .long v8_39), (7, .int v7_30), (0, .ref this), (1, .int v1), (2, .long v2), (4, .int v4), (5, .long v5)]) hx hb dX1_compare_50 hl (by decide) rfl (fun ls hl => ?_)
    rw [fX1_compare_52]
    refine lv_iload hx hb dX1_compare_52 (lv_at hl 2 rfl) ?_
    refine lv_bipush (v := 6) hx hb dX1_compare_54 (by decide) ?_
    refine px_icmp_lt (tgt := 77) hx hb dX1_compare_56 (by decide) (fun hc56 => ?_) (fun hc56 => ?_)
    · rw [if_pos hc56]
      refine lv_lload hx hb dX1_compare_77 (lv_at hl 1 rfl) ?_
      refine lv_lload hx hb dX1_compare_79 (lv_at hl 0 rfl) ?_
      refine px_S (As := [.long v8_39, .long v10_50]) (rest := []) ⟨hx, hb, hml, hown, hts⟩ (kX1_sideOf l v8_39 v10_50) (va_cwS 2 hts gX1_compare_X1_sideOf rfl rfl rfl (by decide +kernel) ⟨Nat.le_of_ble_eq_true rfl, Nat.le_of_ble_eq_true rfl⟩) rfl hl.1 rfl (Nat.le_of_ble_eq_true rfl) dX1_compare_81 (Nat.zero_le _) (Nat.zero_le _) ?_
      exact W.iret hx hb hr (fun t ht hW => ⟨rfl, by rw [ht]; exact hP, hS.F ht⟩) hS.2.2 dX1_compare_84
    · rw [if_neg hc56]
      refine lv_iload hx hb dX1_compare_59 (lv_at hl 2 rfl) ?_
      refine lv_lload hx hb dX1_compare_61 (lv_at hl 1 rfl) ?_
      refine px_S (As := [.int v7_30, .long v8_39]) (rest := []) ⟨hx, hb, hml, hown, hts⟩ (kX0_place l v7_30 v8_39) (va_cwS 2 hts gX1_compare_X0_place rfl rfl rfl (by decide +kernel) ⟨Nat.le_of_ble_eq_true rfl, Nat.le_of_ble_eq_true rfl⟩) rfl hl.1 rfl (Nat.le_of_ble_eq_true rfl) dX1_compare_63 (Nat.zero_le _) (Nat.zero_le _) ?_
      refine lv_iload hx hb dX1_compare_66 (lv_at hl 2 rfl) ?_
      refine lv_lload hx hb dX1_compare_68 (lv_at hl 0 rfl) ?_
      refine px_S (As := [.int v7_30, .long v10_50]) (rest := [.long (fX0_place v7_30 v8_39)]) ⟨hx, hb, hml, hown, hts⟩ (kX0_place l v7_30 v10_50) (va_cwS 2 hts gX1_compare_X0_place rfl rfl rfl (by decide +kernel) ⟨Nat.le_of_ble_eq_true rfl, Nat.le_of_ble_eq_true rfl⟩) rfl hl.1 rfl (Nat.le_of_ble_eq_true rfl) dX1_compare_70 (Nat.zero_le _) (Nat.zero_le _) ?_
      refine px_S (As := [.long (fX0_place v7_30 v8_39), .long (fX0_place v7_30 v10_50)]) (rest := []) ⟨hx, hb, hml, hown, hts⟩ (kX1_sideOf l (fX0_place v7_30 v8_39) (fX0_place v7_30 v10_50)) (va_cwS 2 hts gX1_compare_X1_sideOf rfl rfl rfl (by decide +kernel) ⟨Nat.le_of_ble_eq_true rfl, Nat.le_of_ble_eq_true rfl⟩) rfl hl.1 rfl (Nat.le_of_ble_eq_true rfl) dX1_compare_73 (Nat.zero_le _) (Nat.zero_le _) ?_
      exact W.iret hx hb hr (fun t ht hW => ⟨rfl, by rw [ht]; exact hP, hS.F ht⟩) hS.2.2 dX1_compare_76
set_option maxHeartbeats 4000000 in
set_option maxRecDepth 100000 in
theorem kX1_compare (l : Launch) (D : va_G) (this : Nat) (v1 : Int32) (v2 : Int64) (v4 : Int32) (v5 : Int64) (fld : Int32) : Met l yX1_compare wsX1_compare ({ frames := 5, cells := 0, slots := 0, locals := 121 }) (ob_P D 0 this fld [.ref this, .int v1, .long v2, .int v4, .long v5]) (ob_QI D 0 this (fX1_compare v1 v2 v4 v5 fld)) 0 0 (fun q => q = this) := by
  refine Met.ofW (cc := cX1_compare) (maxL := 12) (ret := (some .int)) (by decide) rfl ?_
  intro p e s m args below meth c s₁ B hml hv
  obtain ⟨rfl, hP, hK⟩ := hv
  have C : px_C p s m _ meth c cX1_compare 12 (some .int) RX1 wsX1_compare := ⟨B.exec, B.bytes, hml, findClass_of_methodNamed B.named, atoms_spec (ws := wsX1_compare) B.pre, B.returns, B.notSynchronized⟩
  have hl := lv_entry ([.ref this, .int v1, .long v2, .int v4, .long v5]) (n := 12) (Nat.le_of_ble_eq_true rfl)
  rw [lg_entry_eq]
  generalize (lg_sl ([.ref this, .int v1, .long v2, .int v4, .long v5]) ++ List.replicate (12 - (lg_sl ([.ref this, .int v1, .long v2, .int v4, .long v5])).length) Slot.unset).toArray = ls at hl ⊢
  have hl : lv_has ls 12 [(0, .ref this), (1, .int v1), (2, .long v2), (4, .int v4), (5, .long v5)] := hl
  rw [fX1_compare]
  exact wX1_compare_0 C this v1 v2 v4 v5 fld hK hP va_S.rf (lv_sub hl [0, 1, 2, 3, 4] rfl)
set_option maxHeartbeats 4000000 in
set_option maxRecDepth 100000 in
theorem wX1_order_17 {p : Program} {l : Launch} {e : Env} {s : State} {m : MethodId} {args : Array Value} {below : List Frame} {meth : Method} {c : Code} {D : va_G} (C : px_C p s m args meth c cX1_order 6 (some .int) RX1 wsX1_order) (this : Nat) (fld : Int32) {H : Heap} {locs : List Loc} (hK : va_K D vwCl [] s) (hP : va_P D vwCl [(this, .inr (0, [.int fld]))] H) (hS : va_S (fun q => q = this) s.heap H locs) {ls : Array Slot} (hl : lv_has ls 6 [(0, .ref this)]) : W p l e { frames := 4, cells := 0, slots := 0, locals := 88 } s m args below meth c H locs 0 0 (MQ below (ob_QI D 0 this (fX1_order_17 fld)) args s 0 0 (fun q => q = this)) (F0 m 17 ls []) := by
  obtain ⟨hx, hb, hml, hown, hts, hr, hlocks⟩ := id C
  rw [fX1_order_17]
  refine lv_aload_n hx hb dX1_order_17 rfl (lv_at hl 0 rfl) ?_
  refine lv_iconst (v := 1) hx hb dX1_order_18 (by decide) ?_
  refine lv_iconst (v := 2) hx hb dX1_order_19 (by decide) ?_
  refine ob_Vi (As := [.int (1 : Int32), .int (2 : Int32)]) (rest := []) ⟨hx, hb, hml, hown, hts⟩ (kX1_fails l D this (1 : Int32) (2 : Int32) fld) hK hP hS (ci := 0) rfl (cwV 2 hts gX1_order_X1_fails rfl rfl rfl (by decide +kernel) ⟨Nat.le_of_ble_eq_true rfl, Nat.le_of_ble_eq_true rfl⟩) rfl hl.1 rfl (Nat.le_of_ble_eq_true rfl) dX1_order_20 (Nat.zero_le _) (Nat.zero_le _) (fun H locs hP hS => ?_)
  exact W.iret hx hb hr (fun t ht hW => ⟨rfl, by rw [ht]; exact hP, hS.F ht⟩) hS.2.2 dX1_order_23
set_option maxHeartbeats 4000000 in
set_option maxRecDepth 100000 in
theorem wX1_order_0 {p : Program} {l : Launch} {e : Env} {s : State} {m : MethodId} {args : Array Value} {below : List Frame} {meth : Method} {c : Code} {D : va_G} (C : px_C p s m args meth c cX1_order 6 (some .int) RX1 wsX1_order) (this : Nat) (v1 : Int32) (v2 : Int64) (v4 : Int64) (fld : Int32) {H : Heap} {locs : List Loc} (hK : va_K D vwCl [] s) (hP : va_P D vwCl [(this, .inr (0, [.int fld]))] H) (hS : va_S (fun q => q = this) s.heap H locs) {ls : Array Slot} (hl : lv_has ls 6 [(0, .ref this), (1, .int v1), (2, .long v2), (4, .long v4)]) : W p l e { frames := 4, cells := 0, slots := 0, locals := 88 } s m args below meth c H locs 0 0 (MQ below (ob_QI D 0 this (fX1_order_0 v1 v2 v4 fld)) args s 0 0 (fun q => q = this)) (F0 m 0 ls []) := by
  obtain ⟨hx, hb, hml, hown, hts, hr, hlocks⟩ := id C
  rw [fX1_order_0]
  refine lv_iload_n hx hb dX1_order_0 rfl (lv_at hl 1 rfl) ?_
  refine lv_lload_n hx hb dX1_order_1 rfl (lv_at hl 2 rfl) ?_
  refine px_S (As := [.int v1, .long v2]) (rest := []) ⟨hx, hb, hml, hown, hts⟩ (kX1_isValue l v1 v2) (va_cwS 2 hts gX1_order_X1_isValue rfl rfl rfl (by decide +kernel) ⟨Nat.le_of_ble_eq_true rfl, Nat.le_of_ble_eq_true rfl⟩) rfl hl.1 rfl (Nat.le_of_ble_eq_true rfl) dX1_order_2 (Nat.zero_le _) (Nat.zero_le _) ?_
  refine px_if_eq (tgt := 17) hx hb dX1_order_5 (by decide) (fun hc5 => ?_) (fun hc5 => ?_)
  · rw [if_pos hc5]
    exact wX1_order_17 C this fld hK hP hS (lv_sub hl [0] rfl)
  · rw [if_neg hc5]
    refine lv_iload_n hx hb dX1_order_8 rfl (lv_at hl 1 rfl) ?_
    refine lv_lload hx hb dX1_order_9 (lv_at hl 3 rfl) ?_
    refine px_S (As := [.int v1, .long v4]) (rest := []) ⟨hx, hb, hml, hown, hts⟩ (kX1_isValue l v1 v4) (va_cwS 2 hts gX1_order_X1_isValue rfl rfl rfl (by decide +kernel) ⟨Nat.le_of_ble_eq_true rfl, Nat.le_of_ble_eq_true rfl⟩) rfl hl.1 rfl (Nat.le_of_ble_eq_true rfl) dX1_order_11 (Nat.zero_le _) (Nat.zero_le _) ?_
    refine px_if_ne (tgt := 24) hx hb dX1_order_14 (by decide) (fun hc14 => ?_) (fun hc14 => ?_)
    · rw [if_pos hc14]
      exact wX1_order_17 C this fld hK hP hS (lv_sub hl [0] rfl)
    · rw [if_neg hc14]
      refine lv_aload_n hx hb dX1_order_24 rfl (lv_at hl 0 rfl) ?_
      refine lv_iconst (v := 0) hx hb dX1_order_25 (by decide) ?_
      refine va_put (D := D) (ci := 0) (v := .int (0 : Int32)) (ty := .int) (C := RX1) (T := TX1) (N := 1) hx hb hts (by decide +kernel) tyX1 tyX1_ok nmX1 hown hK hP (ob_D _ _) hS 0 rfl rfl 0 (by decide) (hts (.fieldLink RX1 9 "KindNumbers" "why" "I") (by decide +kernel)) (fun _ h9 => h9) rfl (by decide +kernel) rfl rfl (Nat.le_of_ble_eq_true rfl) dX1_order_26 (fun H locs hP _ hS => ?_)
      have hP : va_P D vwCl [(this, .inr (0, [.int (0 : Int32)]))] H := hP
      refine lv_iload_n hx hb dX1_order_29 rfl (lv_at hl 1 rfl) ?_
      refine lv_bipush (v := 6) hx hb dX1_order_30 (by decide) ?_
      refine px_icmp_lt (tgt := 50) hx hb dX1_order_32 (by decide) (fun hc32 => ?_) (fun hc32 => ?_)
      · rw [if_pos hc32]
        refine lv_lload_n hx hb dX1_order_50 rfl (lv_at hl 2 rfl) ?_
        refine lv_lload hx hb dX1_order_51 (lv_at hl 3 rfl) ?_
        refine px_S (As := [.long v2, .long v4]) (rest := []) ⟨hx, hb, hml, hown, hts⟩ (kX1_sideOf l v2 v4) (va_cwS 2 hts gX1_order_X1_sideOf rfl rfl rfl (by decide +kernel) ⟨Nat.le_of_ble_eq_true rfl, Nat.le_of_ble_eq_true rfl⟩) rfl hl.1 rfl (Nat.le_of_ble_eq_true rfl) dX1_order_53 (Nat.zero_le _) (Nat.zero_le _) ?_
        exact W.iret hx hb hr (fun t ht hW => ⟨rfl, by rw [ht]; exact hP, hS.F ht⟩) hS.2.2 dX1_order_56
      · rw [if_neg hc32]
        refine lv_iload_n hx hb dX1_order_35 rfl (lv_at hl 1 rfl) ?_
        refine lv_lload_n hx hb dX1_order_36 rfl (lv_at hl 2 rfl) ?_
        refine px_S (As := [.int v1, .long v2]) (rest := []) ⟨hx, hb, hml, hown, hts⟩ (kX0_placeWithZerosApart l v1 v2) (va_cwS 2 hts gX1_order_X0_placeWithZerosApart rfl rfl rfl (by decide +kernel) ⟨Nat.le_of_ble_eq_true rfl, Nat.le_of_ble_eq_true rfl⟩) rfl hl.1 rfl (Nat.le_of_ble_eq_true rfl) dX1_order_37 (Nat.zero_le _) (Nat.zero_le _) ?_
        refine lv_iload_n hx hb dX1_order_40 rfl (lv_at hl 1 rfl) ?_
        refine lv_lload hx hb dX1_order_41 (lv_at hl 3 rfl) ?_
        refine px_S (As := [.int v1, .long v4]) (rest := [.long (fX0_placeWithZerosApart v1 v2)]) ⟨hx, hb, hml, hown, hts⟩ (kX0_placeWithZerosApart l v1 v4) (va_cwS 2 hts gX1_order_X0_placeWithZerosApart rfl rfl rfl (by decide +kernel) ⟨Nat.le_of_ble_eq_true rfl, Nat.le_of_ble_eq_true rfl⟩) rfl hl.1 rfl (Nat.le_of_ble_eq_true rfl) dX1_order_43 (Nat.zero_le _) (Nat.zero_le _) ?_
        refine px_S (As := [.long (fX0_placeWithZerosApart v1 v2), .long (fX0_placeWithZerosApart v1 v4)]) (rest := []) ⟨hx, hb, hml, hown, hts⟩ (kX1_sideOf l (fX0_placeWithZerosApart v1 v2) (fX0_placeWithZerosApart v1 v4)) (va_cwS 2 hts gX1_order_X1_sideOf rfl rfl rfl (by decide +kernel) ⟨Nat.le_of_ble_eq_true rfl, Nat.le_of_ble_eq_true rfl⟩) rfl hl.1 rfl (Nat.le_of_ble_eq_true rfl) dX1_order_46 (Nat.zero_le _) (Nat.zero_le _) ?_
        exact W.iret hx hb hr (fun t ht hW => ⟨rfl, by rw [ht]; exact hP, hS.F ht⟩) hS.2.2 dX1_order_49
set_option maxHeartbeats 4000000 in
set_option maxRecDepth 100000 in
theorem kX1_order (l : Launch) (D : va_G) (this : Nat) (v1 : Int32) (v2 : Int64) (v4 : Int64) (fld : Int32) : Met l yX1_order wsX1_order ({ frames := 4, cells := 0, slots := 0, locals := 88 }) (ob_P D 0 this fld [.ref this, .int v1, .long v2, .long v4]) (ob_QI D 0 this (fX1_order v1 v2 v4 fld)) 0 0 (fun q => q = this) := by
  refine Met.ofW (cc := cX1_order) (maxL := 6) (ret := (some .int)) (by decide) rfl ?_
  intro p e s m args below meth c s₁ B hml hv
  obtain ⟨rfl, hP, hK⟩ := hv
  have C : px_C p s m _ meth c cX1_order 6 (some .int) RX1 wsX1_order := ⟨B.exec, B.bytes, hml, findClass_of_methodNamed B.named, atoms_spec (ws := wsX1_order) B.pre, B.returns, B.notSynchronized⟩
  have hl := lv_entry ([.ref this, .int v1, .long v2, .long v4]) (n := 6) (Nat.le_of_ble_eq_true rfl)
  rw [lg_entry_eq]
  generalize (lg_sl ([.ref this, .int v1, .long v2, .long v4]) ++ List.replicate (6 - (lg_sl ([.ref this, .int v1, .long v2, .long v4])).length) Slot.unset).toArray = ls at hl ⊢
  have hl : lv_has ls 6 [(0, .ref this), (1, .int v1), (2, .long v2), (4, .long v4)] := hl
  rw [fX1_order]
  exact wX1_order_0 C this v1 v2 v4 fld hK hP va_S.rf (lv_sub hl [0, 1, 2, 3] rfl)
set_option maxHeartbeats 4000000 in
set_option maxRecDepth 100000 in
theorem wX1_failed_0 {p : Program} {l : Launch} {e : Env} {s : State} {m : MethodId} {args : Array Value} {below : List Frame} {meth : Method} {c : Code} {D : va_G} (C : px_C p s m args meth c cX1_failed 1 (some .int) RX1 wsX1_failed) (this : Nat) (fld : Int32) {H : Heap} {locs : List Loc} (hK : va_K D vwCl [] s) (hP : va_P D vwCl [(this, .inr (0, [.int fld]))] H) (hS : va_S (fun q => q = this) s.heap H locs) {ls : Array Slot} (hl : lv_has ls 1 [(0, .ref this)]) : W p l e { frames := 0, cells := 0, slots := 0, locals := 0 } s m args below meth c H locs 0 0 (MQ below (ob_QI D 0 this (fX1_failed_0 fld)) args s 0 0 (fun q => q = this)) (F0 m 0 ls []) := by
  obtain ⟨hx, hb, hml, hown, hts, hr, hlocks⟩ := id C
  rw [fX1_failed_0]
  refine lv_aload_n hx hb dX1_failed_0 rfl (lv_at hl 0 rfl) ?_
  refine va_get (D := D) (ci := 0) (v := .int fld) (C := RX1) (T := TX1) (N := 1) hx hb hts (by decide +kernel) hown hK hP 0 rfl rfl 0 (by decide) (hts (.fieldLink RX1 9 "KindNumbers" "why" "I") (by decide +kernel)) (fun _ h9 => h9) rfl dX1_failed_1 ?_
  exact W.iret hx hb hr (fun t ht hW => ⟨rfl, by rw [ht]; exact hP, hS.F ht⟩) hS.2.2 dX1_failed_4
set_option maxHeartbeats 4000000 in
set_option maxRecDepth 100000 in
theorem kX1_failed (l : Launch) (D : va_G) (this : Nat)  (fld : Int32) : Met l yX1_failed wsX1_failed ({ frames := 0, cells := 0, slots := 0, locals := 0 }) (ob_P D 0 this fld [.ref this]) (ob_QI D 0 this (fX1_failed fld)) 0 0 (fun q => q = this) := by
  refine Met.ofW (cc := cX1_failed) (maxL := 1) (ret := (some .int)) (by decide) rfl ?_
  intro p e s m args below meth c s₁ B hml hv
  obtain ⟨rfl, hP, hK⟩ := hv
  have C : px_C p s m _ meth c cX1_failed 1 (some .int) RX1 wsX1_failed := ⟨B.exec, B.bytes, hml, findClass_of_methodNamed B.named, atoms_spec (ws := wsX1_failed) B.pre, B.returns, B.notSynchronized⟩
  have hl := lv_entry ([.ref this]) (n := 1) (Nat.le_of_ble_eq_true rfl)
  rw [lg_entry_eq]
  generalize (lg_sl ([.ref this]) ++ List.replicate (1 - (lg_sl ([.ref this])).length) Slot.unset).toArray = ls at hl ⊢
  have hl : lv_has ls 1 [(0, .ref this)] := hl
  rw [fX1_failed]
  exact wX1_failed_0 C this fld hK hP va_S.rf (lv_sub hl [0] rfl)
end
