section
-- ===== PART A: goes FIRST, ahead of the names: the tables' words, and 'selects' of the private methods out of them =====
/-- a private method of a class that the tables say can be made, by its rows of tables_1 -/
def lw_okq (q : MethodName × Nat) : Prop := (q.1.cls ≠ "java/lang/invoke/MethodHandle" ∧ q.1.cls ≠ "java/lang/invoke/VarHandle") ∧ Cond.instantiable q.1.cls q.2 ∈ tables_1 ∧ Cond.privateMethod q.1 ∈ tables_1 ∧ Cond.instanceMethod q.1 ∈ tables_1
theorem lw_p0 : lw_okq (⟨"KindNumbers", "fails", "(II)I"⟩, 1) := ⟨⟨by decide +kernel, by decide +kernel⟩, List.mem_of_getElem? (i := 8) (by decide +kernel), List.mem_of_getElem? (i := 58) (by decide +kernel), List.mem_of_getElem? (i := 59) (by decide +kernel)⟩
theorem lw_p1 : lw_okq (⟨"KindNumbers", "workReal", "(IIJJ)J"⟩, 1) := ⟨⟨by decide +kernel, by decide +kernel⟩, List.mem_of_getElem? (i := 8) (by decide +kernel), List.mem_of_getElem? (i := 137) (by decide +kernel), List.mem_of_getElem? (i := 138) (by decide +kernel)⟩
theorem lw_p2 : lw_okq (⟨"KindNumbers", "workWhole", "(IIJJ)J"⟩, 1) := ⟨⟨by decide +kernel, by decide +kernel⟩, List.mem_of_getElem? (i := 8) (by decide +kernel), List.mem_of_getElem? (i := 181) (by decide +kernel), List.mem_of_getElem? (i := 182) (by decide +kernel)⟩
theorem lw_p3 : lw_okq (⟨"KindNumbersModel", "areNumbers", "(IJIJ)Z"⟩, 1) := ⟨⟨by decide +kernel, by decide +kernel⟩, List.mem_of_getElem? (i := 218) (by decide +kernel), List.mem_of_getElem? (i := 328) (by decide +kernel), List.mem_of_getElem? (i := 329) (by decide +kernel)⟩
theorem lw_p4 : lw_okq (⟨"KindNumbersModel", "whole", "(IIJJ)J"⟩, 1) := ⟨⟨by decide +kernel, by decide +kernel⟩, List.mem_of_getElem? (i := 218) (by decide +kernel), List.mem_of_getElem? (i := 333) (by decide +kernel), List.mem_of_getElem? (i := 334) (by decide +kernel)⟩
theorem lw_p5 : lw_okq (⟨"KindNumbersModel", "floating", "(IJJ)J"⟩, 1) := ⟨⟨by decide +kernel, by decide +kernel⟩, List.mem_of_getElem? (i := 218) (by decide +kernel), List.mem_of_getElem? (i := 338) (by decide +kernel), List.mem_of_getElem? (i := 339) (by decide +kernel)⟩
def lw_privs_1 : List (MethodName × Nat) := [(⟨"KindNumbers", "fails", "(II)I"⟩, 1), (⟨"KindNumbers", "workReal", "(IIJJ)J"⟩, 1), (⟨"KindNumbers", "workWhole", "(IIJJ)J"⟩, 1), (⟨"KindNumbersModel", "areNumbers", "(IJIJ)Z"⟩, 1), (⟨"KindNumbersModel", "whole", "(IIJJ)J"⟩, 1), (⟨"KindNumbersModel", "floating", "(IJJ)J"⟩, 1)]
theorem lw_r1 : ∀ q ∈ lw_privs_1, lw_okq q := List.forall_mem_cons.mpr ⟨lw_p0, List.forall_mem_cons.mpr ⟨lw_p1, List.forall_mem_cons.mpr ⟨lw_p2, List.forall_mem_cons.mpr ⟨lw_p3, List.forall_mem_cons.mpr ⟨lw_p4, List.forall_mem_cons.mpr ⟨lw_p5, fun _ h => absurd h List.not_mem_nil⟩⟩⟩⟩⟩⟩
def lw_privs : List (MethodName × Nat) := lw_privs_1
def lw_tbl : List Cond := k2_sels lw_privs ++ tables_1
theorem lw_privs_ok : ∀ q ∈ lw_privs, lw_okq q := lw_r1
-- ===== end of PART A; then your names; then what follows =====
end
section
/-! ===== BEGIN words of one list among another's, by their places ===== -/
theorem goodIn_r {big : List Cond} (ws : List Cond) (ps : List Nat) (hp : ws = ps.filterMap (fun i => big[i]?)) (h : ws.all goodWord = true) : GoodIn big ws := by
  intro w hw
  have h1 := List.all_eq_true.mp h w hw
  rw [hp] at hw
  obtain ⟨i, -, hi⟩ := List.mem_filterMap.mp hw
  have hm : w ∈ big := by first | exact List.mem_of_getElem? hi | exact List.getElem?_mem hi
  exact ⟨hm, good_of_word h1⟩
theorem goodIn_app {big a b : List Cond} (ha : GoodIn big a) (hb : GoodIn big b) : GoodIn big (a ++ b) := fun w h => (List.mem_append.mp h).elim (ha w) (hb w)
theorem goodIn_ca {big a b : List Cond} {c : Cond} (ha : GoodIn big (c :: a)) (hb : GoodIn big b) : GoodIn big (c :: (a ++ b)) := fun w h => (List.mem_cons.mp h).elim (fun e => ha w (List.mem_cons.mpr (Or.inl e))) (fun h => (List.mem_append.mp h).elim (fun h => ha w (List.mem_cons.mpr (Or.inr h))) (hb w))
theorem goodIn_sub {big ws : List Cond} (hm : ∀ w ∈ ws, w ∈ big) (h : ws.all goodWord = true) : GoodIn big ws := fun w hw => ⟨hm w hw, good_of_word (List.all_eq_true.mp h w hw)⟩
/-! ===== END ===== -/

/-! ===== BEGIN printed: names, fields, word lists, decode rows ===== -/
def RX0 : String := "KindNumbers$Real"
def TX0 : u_T := fun k => match k with
  | _ => ("", "", "", false)
def tyX0 : Nat → FieldType := fun k => match k with
  | _ => .int
abbrev wsX00 : List Cond := u_ws RX0 TX0 0
theorem nmX0 : ∀ a, a < 0 → ∀ b, b < 0 → a ≠ b → (TX0 a).2.1 ≠ (TX0 b).2.1 := by decide +kernel
theorem tyX0_ok : ∀ k, k < 0 → parseFieldDescriptor (TX0 k).2.2.1 = some (tyX0 k) := by decide +kernel
abbrev cX0_fractionBits : ByteArray := prog_2_method_2_code
def yX0_fractionBits : MethodName := ⟨RX0, "fractionBits", "(I)I"⟩
abbrev cX0_leastExponent : ByteArray := prog_2_method_3_code
def yX0_leastExponent : MethodName := ⟨RX0, "leastExponent", "(I)I"⟩
abbrev cX0_greatestAbove : ByteArray := prog_2_method_4_code
def yX0_greatestAbove : MethodName := ⟨RX0, "greatestAbove", "(I)I"⟩
abbrev cX0_infinity : ByteArray := prog_2_method_5_code
def yX0_infinity : MethodName := ⟨RX0, "infinity", "(I)J"⟩
abbrev cX0_notANumber : ByteArray := prog_2_method_6_code
def yX0_notANumber : MethodName := ⟨RX0, "notANumber", "(I)J"⟩
abbrev cX0_signBit : ByteArray := prog_2_method_7_code
def yX0_signBit : MethodName := ⟨RX0, "signBit", "(I)J"⟩
abbrev cX0_size : ByteArray := prog_2_method_8_code
def yX0_size : MethodName := ⟨RX0, "size", "(IJ)J"⟩
abbrev cX0_isNumber : ByteArray := prog_2_method_9_code
def yX0_isNumber : MethodName := ⟨RX0, "isNumber", "(IJ)Z"⟩
abbrev cX0_isNegative : ByteArray := prog_2_method_10_code
def yX0_isNegative : MethodName := ⟨RX0, "isNegative", "(IJ)Z"⟩
abbrev cX0_isInfinite : ByteArray := prog_2_method_11_code
def yX0_isInfinite : MethodName := ⟨RX0, "isInfinite", "(IJ)Z"⟩
abbrev cX0_isZero : ByteArray := prog_2_method_12_code
def yX0_isZero : MethodName := ⟨RX0, "isZero", "(IJ)Z"⟩
abbrev cX0_negated : ByteArray := prog_2_method_13_code
def yX0_negated : MethodName := ⟨RX0, "negated", "(IJ)J"⟩
abbrev cX0_signed : ByteArray := prog_2_method_14_code
def yX0_signed : MethodName := ⟨RX0, "signed", "(IZJ)J"⟩
abbrev cX0_place : ByteArray := prog_2_method_15_code
def yX0_place : MethodName := ⟨RX0, "place", "(IJ)J"⟩
abbrev cX0_placeWithZerosApart : ByteArray := prog_2_method_16_code
def yX0_placeWithZerosApart : MethodName := ⟨RX0, "placeWithZerosApart", "(IJ)J"⟩
abbrev cX0_magnitude : ByteArray := prog_2_method_17_code
def yX0_magnitude : MethodName := ⟨RX0, "magnitude", "(IJ)J"⟩
abbrev cX0_exponent : ByteArray := prog_2_method_18_code
def yX0_exponent : MethodName := ⟨RX0, "exponent", "(IJ)I"⟩
abbrev cX0_roomBelow : ByteArray := prog_2_method_19_code
def yX0_roomBelow : MethodName := ⟨RX0, "roomBelow", "(IJ)I"⟩
abbrev cX0_movedDown : ByteArray := prog_2_method_20_code
def yX0_movedDown : MethodName := ⟨RX0, "movedDown", "(JI)J"⟩
abbrev cX0_ofWhole : ByteArray := prog_2_method_21_code
def yX0_ofWhole : MethodName := ⟨RX0, "ofWhole", "(IJ)J"⟩
abbrev cX0_ofReal : ByteArray := prog_2_method_22_code
def yX0_ofReal : MethodName := ⟨RX0, "ofReal", "(IIJ)J"⟩
abbrev cX0_wholePart : ByteArray := prog_2_method_23_code
def yX0_wholePart : MethodName := ⟨RX0, "wholePart", "(IJ)J"⟩
abbrev cX0_nearest : ByteArray := prog_2_method_24_code
def yX0_nearest : MethodName := ⟨RX0, "nearest", "(IZJI)J"⟩
abbrev cX0_roundedDown : ByteArray := prog_2_method_25_code
def yX0_roundedDown : MethodName := ⟨RX0, "roundedDown", "(JI)J"⟩
abbrev cX0_sum : ByteArray := prog_2_method_26_code
def yX0_sum : MethodName := ⟨RX0, "sum", "(IJJ)J"⟩
abbrev cX0_sumByGreater : ByteArray := prog_2_method_27_code
def yX0_sumByGreater : MethodName := ⟨RX0, "sumByGreater", "(IJJ)J"⟩
abbrev cX0_product : ByteArray := prog_2_method_28_code
def yX0_product : MethodName := ⟨RX0, "product", "(IJJ)J"⟩
abbrev cX0_topOfProduct : ByteArray := prog_2_method_29_code
def yX0_topOfProduct : MethodName := ⟨RX0, "topOfProduct", "(JJ)J"⟩
abbrev cX0_quotient : ByteArray := prog_2_method_30_code
def yX0_quotient : MethodName := ⟨RX0, "quotient", "(IJJ)J"⟩
abbrev cX0_topOfQuotient : ByteArray := prog_2_method_31_code
def yX0_topOfQuotient : MethodName := ⟨RX0, "topOfQuotient", "(JJ)J"⟩
abbrev cX0_rest : ByteArray := prog_2_method_32_code
def yX0_rest : MethodName := ⟨RX0, "rest", "(IJJ)J"⟩
abbrev cX0_restAbove : ByteArray := prog_2_method_33_code
def yX0_restAbove : MethodName := ⟨RX0, "restAbove", "(JIJ)J"⟩
def RX1 : String := "KindNumbers"
def TX1 : u_T := fun k => match k with
  | _ => ("KindNumbers", "why", "I", false)
def tyX1 : Nat → FieldType := fun k => match k with
  | _ => .int
abbrev wsX10 : List Cond := u_ws RX1 TX1 1
theorem nmX1 : ∀ a, a < 1 → ∀ b, b < 1 → a ≠ b → (TX1 a).2.1 ≠ (TX1 b).2.1 := by decide +kernel
theorem tyX1_ok : ∀ k, k < 1 → parseFieldDescriptor (TX1 k).2.2.1 = some (tyX1 k) := by decide +kernel
abbrev cX1_init : ByteArray := prog_1_method_1_code
def yX1_init : MethodName := ⟨RX1, "<init>", "()V"⟩
abbrev cX1_has : ByteArray := prog_1_method_2_code
def yX1_has : MethodName := ⟨RX1, "has", "(IJ)Z"⟩
abbrev cX1_widens : ByteArray := prog_1_method_3_code
def yX1_widens : MethodName := ⟨RX1, "widens", "(II)Z"⟩
abbrev cX1_cast : ByteArray := prog_1_method_4_code
def yX1_cast : MethodName := ⟨RX1, "cast", "(IIJ)J"⟩
abbrev cX1_work : ByteArray := prog_1_method_5_code
def yX1_work : MethodName := ⟨RX1, "work", "(IIJIJ)J"⟩
abbrev cX1_shift : ByteArray := prog_1_method_6_code
def yX1_shift : MethodName := ⟨RX1, "shift", "(IIJJ)J"⟩
abbrev cX1_compare : ByteArray := prog_1_method_7_code
def yX1_compare : MethodName := ⟨RX1, "compare", "(IJIJ)I"⟩
abbrev cX1_order : ByteArray := prog_1_method_8_code
def yX1_order : MethodName := ⟨RX1, "order", "(IJJ)I"⟩
abbrev cX1_failed : ByteArray := prog_1_method_9_code
def yX1_failed : MethodName := ⟨RX1, "failed", "()I"⟩
abbrev cX1_fails : ByteArray := prog_1_method_10_code
def yX1_fails : MethodName := ⟨RX1, "fails", "(II)I"⟩
abbrev cX1_isNumberKind : ByteArray := prog_1_method_11_code
def yX1_isNumberKind : MethodName := ⟨RX1, "isNumberKind", "(I)Z"⟩
abbrev cX1_isValue : ByteArray := prog_1_method_12_code
def yX1_isValue : MethodName := ⟨RX1, "isValue", "(IJ)Z"⟩
abbrev cX1_areNumbers : ByteArray := prog_1_method_13_code
def yX1_areNumbers : MethodName := ⟨RX1, "areNumbers", "(IJIJ)Z"⟩
abbrev cX1_workKind : ByteArray := prog_1_method_14_code
def yX1_workKind : MethodName := ⟨RX1, "workKind", "(II)I"⟩
abbrev cX1_sideOf : ByteArray := prog_1_method_15_code
def yX1_sideOf : MethodName := ⟨RX1, "sideOf", "(JJ)I"⟩
abbrev cX1_narrowed : ByteArray := prog_1_method_16_code
def yX1_narrowed : MethodName := ⟨RX1, "narrowed", "(IJ)J"⟩
abbrev cX1_converted : ByteArray := prog_1_method_17_code
def yX1_converted : MethodName := ⟨RX1, "converted", "(IIJ)J"⟩
abbrev cX1_cutToInt : ByteArray := prog_1_method_18_code
def yX1_cutToInt : MethodName := ⟨RX1, "cutToInt", "(J)J"⟩
abbrev cX1_workWhole : ByteArray := prog_1_method_19_code
def yX1_workWhole : MethodName := ⟨RX1, "workWhole", "(IIJJ)J"⟩
abbrev cX1_workReal : ByteArray := prog_1_method_20_code
def yX1_workReal : MethodName := ⟨RX1, "workReal", "(IIJJ)J"⟩
abbrev cX1_shiftedInt : ByteArray := prog_1_method_21_code
def yX1_shiftedInt : MethodName := ⟨RX1, "shiftedInt", "(III)J"⟩
abbrev cX1_shiftedLong : ByteArray := prog_1_method_22_code
def yX1_shiftedLong : MethodName := ⟨RX1, "shiftedLong", "(IJI)J"⟩
def RX2 : String := "KindNumbersModel$Soft"
def TX2 : u_T := fun k => match k with
  | _ => ("", "", "", false)
def tyX2 : Nat → FieldType := fun k => match k with
  | _ => .int
abbrev wsX20 : List Cond := u_ws RX2 TX2 0
theorem nmX2 : ∀ a, a < 0 → ∀ b, b < 0 → a ≠ b → (TX2 a).2.1 ≠ (TX2 b).2.1 := by decide +kernel
theorem tyX2_ok : ∀ k, k < 0 → parseFieldDescriptor (TX2 k).2.2.1 = some (tyX2 k) := by decide +kernel
abbrev cX2_isNone : ByteArray := prog_5_method_2_code
def yX2_isNone : MethodName := ⟨RX2, "isNone", "(J)Z"⟩
abbrev cX2_isInfinite : ByteArray := prog_5_method_3_code
def yX2_isInfinite : MethodName := ⟨RX2, "isInfinite", "(J)Z"⟩
abbrev cX2_isZero : ByteArray := prog_5_method_4_code
def yX2_isZero : MethodName := ⟨RX2, "isZero", "(J)Z"⟩
abbrev cX2_negative : ByteArray := prog_5_method_5_code
def yX2_negative : MethodName := ⟨RX2, "negative", "(J)J"⟩
abbrev cX2_exponent : ByteArray := prog_5_method_6_code
def yX2_exponent : MethodName := ⟨RX2, "exponent", "(J)I"⟩
abbrev cX2_significand : ByteArray := prog_5_method_7_code
def yX2_significand : MethodName := ⟨RX2, "significand", "(J)J"⟩
abbrev cX2_rounded : ByteArray := prog_5_method_8_code
def yX2_rounded : MethodName := ⟨RX2, "rounded", "(JIZII)J"⟩
abbrev cX2_made : ByteArray := prog_5_method_9_code
def yX2_made : MethodName := ⟨RX2, "made", "(ZJIZ)J"⟩
abbrev cX2_add : ByteArray := prog_5_method_10_code
def yX2_add : MethodName := ⟨RX2, "add", "(JJ)J"⟩
abbrev cX2_multiply : ByteArray := prog_5_method_11_code
def yX2_multiply : MethodName := ⟨RX2, "multiply", "(JJ)J"⟩
abbrev cX2_divide : ByteArray := prog_5_method_12_code
def yX2_divide : MethodName := ⟨RX2, "divide", "(JJ)J"⟩
abbrev cX2_compare : ByteArray := prog_5_method_13_code
def yX2_compare : MethodName := ⟨RX2, "compare", "(JJ)I"⟩
abbrev cX2_of : ByteArray := prog_5_method_14_code
def yX2_of : MethodName := ⟨RX2, "of", "(JZ)J"⟩
abbrev cX2_floatOf : ByteArray := prog_5_method_15_code
def yX2_floatOf : MethodName := ⟨RX2, "floatOf", "(JZ)J"⟩
abbrev cX2_narrow : ByteArray := prog_5_method_16_code
def yX2_narrow : MethodName := ⟨RX2, "narrow", "(J)I"⟩
abbrev cX2_wide : ByteArray := prog_5_method_17_code
def yX2_wide : MethodName := ⟨RX2, "wide", "(I)J"⟩
abbrev cX2_cut : ByteArray := prog_5_method_18_code
def yX2_cut : MethodName := ⟨RX2, "cut", "(J)J"⟩
abbrev cX2_isGreat : ByteArray := prog_5_method_19_code
def yX2_isGreat : MethodName := ⟨RX2, "isGreat", "(J)Z"⟩
def RX3 : String := "KindNumbersModel"
def TX3 : u_T := fun k => match k with
  | _ => ("KindNumbersModel", "failed", "I", false)
def tyX3 : Nat → FieldType := fun k => match k with
  | _ => .int
abbrev wsX30 : List Cond := u_ws RX3 TX3 1
theorem nmX3 : ∀ a, a < 1 → ∀ b, b < 1 → a ≠ b → (TX3 a).2.1 ≠ (TX3 b).2.1 := by decide +kernel
theorem tyX3_ok : ∀ k, k < 1 → parseFieldDescriptor (TX3 k).2.2.1 = some (tyX3 k) := by decide +kernel
abbrev cX3_init : ByteArray := prog_4_method_1_code
def yX3_init : MethodName := ⟨RX3, "<init>", "()V"⟩
abbrev cX3_failed : ByteArray := prog_4_method_3_code
def yX3_failed : MethodName := ⟨RX3, "failed", "()I"⟩
abbrev cX3_isNumber : ByteArray := prog_4_method_4_code
def yX3_isNumber : MethodName := ⟨RX3, "isNumber", "(I)Z"⟩
abbrev cX3_hasBits : ByteArray := prog_4_method_5_code
def yX3_hasBits : MethodName := ⟨RX3, "hasBits", "(IJ)Z"⟩
abbrev cX3_isWider : ByteArray := prog_4_method_6_code
def yX3_isWider : MethodName := ⟨RX3, "isWider", "(II)Z"⟩
abbrev cX3_widened : ByteArray := prog_4_method_7_code
def yX3_widened : MethodName := ⟨RX3, "widened", "(JII)J"⟩
abbrev cX3_casted : ByteArray := prog_4_method_8_code
def yX3_casted : MethodName := ⟨RX3, "casted", "(JII)J"⟩
abbrev cX3_cut : ByteArray := prog_4_method_9_code
def yX3_cut : MethodName := ⟨RX3, "cut", "(JZ)J"⟩
abbrev cX3_rest : ByteArray := prog_4_method_10_code
def yX3_rest : MethodName := ⟨RX3, "rest", "(JJ)J"⟩
abbrev cX3_has : ByteArray := prog_4_method_11_code
def yX3_has : MethodName := ⟨RX3, "has", "(IJ)Z"⟩
abbrev cX3_widens : ByteArray := prog_4_method_12_code
def yX3_widens : MethodName := ⟨RX3, "widens", "(II)Z"⟩
abbrev cX3_cast : ByteArray := prog_4_method_13_code
def yX3_cast : MethodName := ⟨RX3, "cast", "(IIJ)J"⟩
abbrev cX3_areNumbers : ByteArray := prog_4_method_14_code
def yX3_areNumbers : MethodName := ⟨RX3, "areNumbers", "(IJIJ)Z"⟩
abbrev cX3_work : ByteArray := prog_4_method_15_code
def yX3_work : MethodName := ⟨RX3, "work", "(IIJIJ)J"⟩
abbrev cX3_whole : ByteArray := prog_4_method_16_code
def yX3_whole : MethodName := ⟨RX3, "whole", "(IIJJ)J"⟩
abbrev cX3_floating : ByteArray := prog_4_method_17_code
def yX3_floating : MethodName := ⟨RX3, "floating", "(IJJ)J"⟩
abbrev cX3_shift : ByteArray := prog_4_method_18_code
def yX3_shift : MethodName := ⟨RX3, "shift", "(IIJJ)J"⟩
abbrev cX3_compare : ByteArray := prog_4_method_19_code
def yX3_compare : MethodName := ⟨RX3, "compare", "(IJIJ)I"⟩
abbrev cX3_order : ByteArray := prog_4_method_20_code
def yX3_order : MethodName := ⟨RX3, "order", "(IJJ)I"⟩
abbrev cX3_ranked : ByteArray := prog_4_method_21_code
def yX3_ranked : MethodName := ⟨RX3, "ranked", "(IJ)J"⟩
def RJ13 : String := "java/lang/Long"
def TJ13 : u_T := fun k => match k with
  | _ => ("", "", "", false)
def tyJ13 : Nat → FieldType := fun k => match k with
  | _ => .int
abbrev wsJ130 : List Cond := u_ws RJ13 TJ13 0
theorem nmJ13 : ∀ a, a < 0 → ∀ b, b < 0 → a ≠ b → (TJ13 a).2.1 ≠ (TJ13 b).2.1 := by decide +kernel
theorem tyJ13_ok : ∀ k, k < 0 → parseFieldDescriptor (TJ13 k).2.2.1 = some (tyJ13 k) := by decide +kernel
abbrev cJ13_compare_74951 : ByteArray := prog_6_method_42_code
def yJ13_compare_74951 : MethodName := ⟨RJ13, "compare", "(JJ)I"⟩
def RJ9 : String := "java/lang/Math"
def TJ9 : u_T := fun k => match k with
  | _ => ("", "", "", false)
def tyJ9 : Nat → FieldType := fun k => match k with
  | _ => .int
abbrev wsJ90 : List Cond := u_ws RJ9 TJ9 0
theorem nmJ9 : ∀ a, a < 0 → ∀ b, b < 0 → a ≠ b → (TJ9 a).2.1 ≠ (TJ9 b).2.1 := by decide +kernel
theorem tyJ9_ok : ∀ k, k < 0 → parseFieldDescriptor (TJ9 k).2.2.1 = some (tyJ9 k) := by decide +kernel
abbrev cJ9_abs_067f4 : ByteArray := prog_7_method_61_code
def yJ9_abs_067f4 : MethodName := ⟨RJ9, "abs", "(J)J"⟩
abbrev cJ9_max_7cf53 : ByteArray := prog_7_method_65_code
def yJ9_max_7cf53 : MethodName := ⟨RJ9, "max", "(II)I"⟩
abbrev cJ9_max_f86c9 : ByteArray := prog_7_method_66_code
def yJ9_max_f86c9 : MethodName := ⟨RJ9, "max", "(JJ)J"⟩
abbrev cJ9_min_7cf53 : ByteArray := prog_7_method_69_code
def yJ9_min_7cf53 : MethodName := ⟨RJ9, "min", "(II)I"⟩
abbrev cJ9_min_f86c9 : ByteArray := prog_7_method_70_code
def yJ9_min_f86c9 : MethodName := ⟨RJ9, "min", "(JJ)J"⟩
def RL : String := "KindNumbersLaw"
abbrev cL_law : ByteArray := code
def yL_law : MethodName := ⟨RL, "law", "([I)Z"⟩
def wsX0_fractionBits : List Cond := .code yX0_fractionBits cX0_fractionBits 1 (some .int) :: ([])
def wsX0_leastExponent : List Cond := .code yX0_leastExponent cX0_leastExponent 1 (some .int) :: ([])
def wsX0_greatestAbove : List Cond := .code yX0_greatestAbove cX0_greatestAbove 1 (some .int) :: ([])
def wsX0_infinity : List Cond := .code yX0_infinity cX0_infinity 1 (some .long) :: ([.constantLong RX0 9 (2139095040), .constantLong RX0 11 (9218868437227405312)])
def wsX0_notANumber : List Cond := .code yX0_notANumber cX0_notANumber 1 (some .long) :: ([.methodLink RX0 13 yX0_infinity, .static yX0_infinity, .initialized RX0, .code yX0_infinity cX0_infinity 1 (some .long), .constantLong RX0 9 (2139095040), .constantLong RX0 11 (9218868437227405312)])
def wsX0_signBit : List Cond := .code yX0_signBit cX0_signBit 1 (some .long) :: ([.constantLong RX0 19 (2147483648), .constantLong RX0 23 (-9223372036854775808)])
def wsX0_size : List Cond := .code yX0_size cX0_size 3 (some .long) :: ([.constantLong RX0 28 (-1), .methodLink RX0 25 yX0_signBit, .static yX0_signBit, .initialized RX0, .code yX0_signBit cX0_signBit 1 (some .long), .constantLong RX0 19 (2147483648), .constantLong RX0 23 (-9223372036854775808)])
def wsX0_isNumber : List Cond := .code yX0_isNumber cX0_isNumber 5 (some .boolean) :: ([.methodLink RX0 30 yX0_size, .static yX0_size, .initialized RX0, .code yX0_size cX0_size 3 (some .long), .constantLong RX0 28 (-1), .methodLink RX0 25 yX0_signBit, .static yX0_signBit, .code yX0_signBit cX0_signBit 1 (some .long), .constantLong RX0 19 (2147483648), .constantLong RX0 23 (-9223372036854775808), .methodLink RX0 13 yX0_infinity, .static yX0_infinity, .code yX0_infinity cX0_infinity 1 (some .long), .constantLong RX0 9 (2139095040), .constantLong RX0 11 (9218868437227405312)])
def wsX0_isNegative : List Cond := .code yX0_isNegative cX0_isNegative 3 (some .boolean) :: ([.methodLink RX0 25 yX0_signBit, .static yX0_signBit, .initialized RX0, .code yX0_signBit cX0_signBit 1 (some .long), .constantLong RX0 19 (2147483648), .constantLong RX0 23 (-9223372036854775808)])
def wsX0_isInfinite : List Cond := .code yX0_isInfinite cX0_isInfinite 3 (some .boolean) :: ([.methodLink RX0 30 yX0_size, .static yX0_size, .initialized RX0, .code yX0_size cX0_size 3 (some .long), .constantLong RX0 28 (-1), .methodLink RX0 25 yX0_signBit, .static yX0_signBit, .code yX0_signBit cX0_signBit 1 (some .long), .constantLong RX0 19 (2147483648), .constantLong RX0 23 (-9223372036854775808), .methodLink RX0 13 yX0_infinity, .static yX0_infinity, .code yX0_infinity cX0_infinity 1 (some .long), .constantLong RX0 9 (2139095040), .constantLong RX0 11 (9218868437227405312)])
def wsX0_isZero : List Cond := .code yX0_isZero cX0_isZero 3 (some .boolean) :: ([.methodLink RX0 30 yX0_size, .static yX0_size, .initialized RX0, .code yX0_size cX0_size 3 (some .long), .constantLong RX0 28 (-1), .methodLink RX0 25 yX0_signBit, .static yX0_signBit, .code yX0_signBit cX0_signBit 1 (some .long), .constantLong RX0 19 (2147483648), .constantLong RX0 23 (-9223372036854775808)])
def wsX0_negated : List Cond := .code yX0_negated cX0_negated 3 (some .long) :: ([.methodLink RX0 25 yX0_signBit, .static yX0_signBit, .initialized RX0, .code yX0_signBit cX0_signBit 1 (some .long), .constantLong RX0 19 (2147483648), .constantLong RX0 23 (-9223372036854775808)])
def wsX0_signed : List Cond := .code yX0_signed cX0_signed 4 (some .long) :: ([.methodLink RX0 25 yX0_signBit, .static yX0_signBit, .initialized RX0, .code yX0_signBit cX0_signBit 1 (some .long), .constantLong RX0 19 (2147483648), .constantLong RX0 23 (-9223372036854775808)])
def wsX0_place : List Cond := .code yX0_place cX0_place 5 (some .long) :: ([.methodLink RX0 30 yX0_size, .static yX0_size, .initialized RX0, .code yX0_size cX0_size 3 (some .long), .constantLong RX0 28 (-1), .methodLink RX0 25 yX0_signBit, .static yX0_signBit, .code yX0_signBit cX0_signBit 1 (some .long), .constantLong RX0 19 (2147483648), .constantLong RX0 23 (-9223372036854775808), .methodLink RX0 34 yX0_isNegative, .static yX0_isNegative, .code yX0_isNegative cX0_isNegative 3 (some .boolean)])
def wsX0_placeWithZerosApart : List Cond := .code yX0_placeWithZerosApart cX0_placeWithZerosApart 5 (some .long) :: ([.methodLink RX0 30 yX0_size, .static yX0_size, .initialized RX0, .code yX0_size cX0_size 3 (some .long), .constantLong RX0 28 (-1), .methodLink RX0 25 yX0_signBit, .static yX0_signBit, .code yX0_signBit cX0_signBit 1 (some .long), .constantLong RX0 19 (2147483648), .constantLong RX0 23 (-9223372036854775808), .methodLink RX0 34 yX0_isNegative, .static yX0_isNegative, .code yX0_isNegative cX0_isNegative 3 (some .boolean)])
def wsX0_magnitude : List Cond := .code yX0_magnitude cX0_magnitude 7 (some .long) :: ([.methodLink RX0 38 yX0_fractionBits, .static yX0_fractionBits, .initialized RX0, .code yX0_fractionBits cX0_fractionBits 1 (some .int), .methodLink RX0 30 yX0_size, .static yX0_size, .code yX0_size cX0_size 3 (some .long), .constantLong RX0 28 (-1), .methodLink RX0 25 yX0_signBit, .static yX0_signBit, .code yX0_signBit cX0_signBit 1 (some .long), .constantLong RX0 19 (2147483648), .constantLong RX0 23 (-9223372036854775808)])
def wsX0_exponent : List Cond := .code yX0_exponent cX0_exponent 4 (some .int) :: ([.methodLink RX0 45 Lib.Math.max.name, .static Lib.Math.max.name, .initialized "java/lang/Math", .code Lib.Math.max.name Lib.Math.max.code 2 (some .int), .methodLink RX0 30 yX0_size, .static yX0_size, .initialized RX0, .code yX0_size cX0_size 3 (some .long), .constantLong RX0 28 (-1), .methodLink RX0 25 yX0_signBit, .static yX0_signBit, .code yX0_signBit cX0_signBit 1 (some .long), .constantLong RX0 19 (2147483648), .constantLong RX0 23 (-9223372036854775808), .methodLink RX0 38 yX0_fractionBits, .static yX0_fractionBits, .code yX0_fractionBits cX0_fractionBits 1 (some .int), .methodLink RX0 42 yX0_leastExponent, .static yX0_leastExponent, .code yX0_leastExponent cX0_leastExponent 1 (some .int)])
def wsX0_roomBelow : List Cond := .code yX0_roomBelow cX0_roomBelow 4 (some .int) :: ([])
def wsX0_movedDown : List Cond := .code yX0_movedDown cX0_movedDown 5 (some .long) :: ([])
def wsX0_roundedDown : List Cond := .code yX0_roundedDown cX0_roundedDown 10 (some .long) :: ([])
def wsX0_nearest_r1 : List Cond := [Cond.methodLink RX0 64 yX0_signed, Cond.static yX0_signed, Cond.initialized RX0, Cond.code yX0_signed cX0_signed 4 (some .long), Cond.methodLink RX0 25 yX0_signBit, Cond.static yX0_signBit, Cond.code yX0_signBit cX0_signBit 1 (some .long), Cond.constantLong RX0 19 (2147483648), Cond.constantLong RX0 23 (-9223372036854775808), Cond.methodLink RX0 77 yX0_roomBelow, Cond.static yX0_roomBelow, Cond.code yX0_roomBelow cX0_roomBelow 4 (some .int), Cond.methodLink RX0 38 yX0_fractionBits, Cond.static yX0_fractionBits, Cond.code yX0_fractionBits cX0_fractionBits 1 (some .int), Cond.methodLink RX0 42 yX0_leastExponent, Cond.static yX0_leastExponent, Cond.code yX0_leastExponent cX0_leastExponent 1 (some .int), Cond.methodLink RX0 80 yX0_greatestAbove, Cond.static yX0_greatestAbove, Cond.code yX0_greatestAbove cX0_greatestAbove 1 (some .int), Cond.methodLink RX0 13 yX0_infinity, Cond.static yX0_infinity, Cond.code yX0_infinity cX0_infinity 1 (some .long)]
def wsX0_nearest_r2 : List Cond := [Cond.constantLong RX0 9 (2139095040), Cond.constantLong RX0 11 (9218868437227405312), Cond.methodLink RX0 83 yX0_roundedDown, Cond.static yX0_roundedDown, Cond.code yX0_roundedDown cX0_roundedDown 10 (some .long)]
def wsX0_nearest : List Cond := .code yX0_nearest cX0_nearest 10 (some .long) :: ((wsX0_nearest_r1 ++ wsX0_nearest_r2))
def wsX0_ofWhole_r1 : List Cond := [Cond.constantLong RX0 23 (-9223372036854775808), Cond.constantLong RX0 51 (4611686018427387904), Cond.methodLink RX0 57 Lib.MathLoose.abs_long.x, Cond.static Lib.MathLoose.abs_long.x, Cond.initialized "java/lang/Math", Cond.code Lib.MathLoose.abs_long.x Lib.MathLoose.abs_long.code 2 (some .long), Cond.methodLink RX0 53 yX0_nearest, Cond.static yX0_nearest, Cond.initialized RX0, Cond.code yX0_nearest cX0_nearest 10 (some .long), Cond.methodLink RX0 64 yX0_signed, Cond.static yX0_signed, Cond.code yX0_signed cX0_signed 4 (some .long), Cond.methodLink RX0 25 yX0_signBit, Cond.static yX0_signBit, Cond.code yX0_signBit cX0_signBit 1 (some .long), Cond.constantLong RX0 19 (2147483648), Cond.methodLink RX0 77 yX0_roomBelow, Cond.static yX0_roomBelow, Cond.code yX0_roomBelow cX0_roomBelow 4 (some .int), Cond.methodLink RX0 38 yX0_fractionBits, Cond.static yX0_fractionBits, Cond.code yX0_fractionBits cX0_fractionBits 1 (some .int), Cond.methodLink RX0 42 yX0_leastExponent]
def wsX0_ofWhole_r2 : List Cond := [Cond.static yX0_leastExponent, Cond.code yX0_leastExponent cX0_leastExponent 1 (some .int), Cond.methodLink RX0 80 yX0_greatestAbove, Cond.static yX0_greatestAbove, Cond.code yX0_greatestAbove cX0_greatestAbove 1 (some .int), Cond.methodLink RX0 13 yX0_infinity, Cond.static yX0_infinity, Cond.code yX0_infinity cX0_infinity 1 (some .long), Cond.constantLong RX0 9 (2139095040), Cond.constantLong RX0 11 (9218868437227405312), Cond.methodLink RX0 83 yX0_roundedDown, Cond.static yX0_roundedDown, Cond.code yX0_roundedDown cX0_roundedDown 10 (some .long)]
def wsX0_ofWhole : List Cond := .code yX0_ofWhole cX0_ofWhole 3 (some .long) :: ((wsX0_ofWhole_r1 ++ wsX0_ofWhole_r2))
def wsX0_ofReal_r1 : List Cond := [Cond.methodLink RX0 34 yX0_isNegative, Cond.static yX0_isNegative, Cond.initialized RX0, Cond.code yX0_isNegative cX0_isNegative 3 (some .boolean), Cond.methodLink RX0 25 yX0_signBit, Cond.static yX0_signBit, Cond.code yX0_signBit cX0_signBit 1 (some .long), Cond.constantLong RX0 19 (2147483648), Cond.constantLong RX0 23 (-9223372036854775808), Cond.methodLink RX0 61 yX0_isInfinite, Cond.static yX0_isInfinite, Cond.code yX0_isInfinite cX0_isInfinite 3 (some .boolean), Cond.methodLink RX0 30 yX0_size, Cond.static yX0_size, Cond.code yX0_size cX0_size 3 (some .long), Cond.constantLong RX0 28 (-1), Cond.methodLink RX0 13 yX0_infinity, Cond.static yX0_infinity, Cond.code yX0_infinity cX0_infinity 1 (some .long), Cond.constantLong RX0 9 (2139095040), Cond.constantLong RX0 11 (9218868437227405312), Cond.methodLink RX0 64 yX0_signed, Cond.static yX0_signed, Cond.code yX0_signed cX0_signed 4 (some .long)]
def wsX0_ofReal_r2 : List Cond := [Cond.methodLink RX0 68 yX0_magnitude, Cond.static yX0_magnitude, Cond.code yX0_magnitude cX0_magnitude 7 (some .long), Cond.methodLink RX0 38 yX0_fractionBits, Cond.static yX0_fractionBits, Cond.code yX0_fractionBits cX0_fractionBits 1 (some .int), Cond.methodLink RX0 71 yX0_exponent, Cond.static yX0_exponent, Cond.code yX0_exponent cX0_exponent 4 (some .int), Cond.methodLink RX0 45 Lib.Math.max.name, Cond.static Lib.Math.max.name, Cond.initialized "java/lang/Math", Cond.code Lib.Math.max.name Lib.Math.max.code 2 (some .int), Cond.methodLink RX0 42 yX0_leastExponent, Cond.static yX0_leastExponent, Cond.code yX0_leastExponent cX0_leastExponent 1 (some .int), Cond.methodLink RX0 53 yX0_nearest, Cond.static yX0_nearest, Cond.code yX0_nearest cX0_nearest 10 (some .long), Cond.methodLink RX0 77 yX0_roomBelow, Cond.static yX0_roomBelow, Cond.code yX0_roomBelow cX0_roomBelow 4 (some .int), Cond.methodLink RX0 80 yX0_greatestAbove, Cond.static yX0_greatestAbove]
def wsX0_ofReal_r3 : List Cond := [Cond.code yX0_greatestAbove cX0_greatestAbove 1 (some .int), Cond.methodLink RX0 83 yX0_roundedDown, Cond.static yX0_roundedDown, Cond.code yX0_roundedDown cX0_roundedDown 10 (some .long)]
def wsX0_ofReal : List Cond := .code yX0_ofReal cX0_ofReal 5 (some .long) :: ((wsX0_ofReal_r1 ++ (wsX0_ofReal_r2 ++ wsX0_ofReal_r3)))
def wsX0_wholePart_r1 : List Cond := [Cond.constantLong RX0 75 (9223372036854775807), Cond.constantLong RX0 23 (-9223372036854775808), Cond.methodLink RX0 34 yX0_isNegative, Cond.static yX0_isNegative, Cond.initialized RX0, Cond.code yX0_isNegative cX0_isNegative 3 (some .boolean), Cond.methodLink RX0 25 yX0_signBit, Cond.static yX0_signBit, Cond.code yX0_signBit cX0_signBit 1 (some .long), Cond.constantLong RX0 19 (2147483648), Cond.methodLink RX0 68 yX0_magnitude, Cond.static yX0_magnitude, Cond.code yX0_magnitude cX0_magnitude 7 (some .long), Cond.methodLink RX0 38 yX0_fractionBits, Cond.static yX0_fractionBits, Cond.code yX0_fractionBits cX0_fractionBits 1 (some .int), Cond.methodLink RX0 30 yX0_size, Cond.static yX0_size, Cond.code yX0_size cX0_size 3 (some .long), Cond.constantLong RX0 28 (-1), Cond.methodLink RX0 71 yX0_exponent, Cond.static yX0_exponent, Cond.code yX0_exponent cX0_exponent 4 (some .int), Cond.methodLink RX0 45 Lib.Math.max.name]
def wsX0_wholePart_r2 : List Cond := [Cond.static Lib.Math.max.name, Cond.initialized "java/lang/Math", Cond.code Lib.Math.max.name Lib.Math.max.code 2 (some .int), Cond.methodLink RX0 42 yX0_leastExponent, Cond.static yX0_leastExponent, Cond.code yX0_leastExponent cX0_leastExponent 1 (some .int)]
def wsX0_wholePart : List Cond := .code yX0_wholePart cX0_wholePart 9 (some .long) :: ((wsX0_wholePart_r1 ++ wsX0_wholePart_r2))
def wsX0_sumByGreater_r1 : List Cond := [Cond.methodLink RX0 68 yX0_magnitude, Cond.static yX0_magnitude, Cond.initialized RX0, Cond.code yX0_magnitude cX0_magnitude 7 (some .long), Cond.methodLink RX0 38 yX0_fractionBits, Cond.static yX0_fractionBits, Cond.code yX0_fractionBits cX0_fractionBits 1 (some .int), Cond.methodLink RX0 30 yX0_size, Cond.static yX0_size, Cond.code yX0_size cX0_size 3 (some .long), Cond.constantLong RX0 28 (-1), Cond.methodLink RX0 25 yX0_signBit, Cond.static yX0_signBit, Cond.code yX0_signBit cX0_signBit 1 (some .long), Cond.constantLong RX0 19 (2147483648), Cond.constantLong RX0 23 (-9223372036854775808), Cond.methodLink RX0 77 yX0_roomBelow, Cond.static yX0_roomBelow, Cond.code yX0_roomBelow cX0_roomBelow 4 (some .int), Cond.methodLink RX0 71 yX0_exponent, Cond.static yX0_exponent, Cond.code yX0_exponent cX0_exponent 4 (some .int), Cond.methodLink RX0 45 Lib.Math.max.name, Cond.static Lib.Math.max.name]
def wsX0_sumByGreater_r2 : List Cond := [Cond.initialized "java/lang/Math", Cond.code Lib.Math.max.name Lib.Math.max.code 2 (some .int), Cond.methodLink RX0 42 yX0_leastExponent, Cond.static yX0_leastExponent, Cond.code yX0_leastExponent cX0_leastExponent 1 (some .int), Cond.methodLink RX0 97 yX0_movedDown, Cond.static yX0_movedDown, Cond.code yX0_movedDown cX0_movedDown 5 (some .long), Cond.methodLink RX0 34 yX0_isNegative, Cond.static yX0_isNegative, Cond.code yX0_isNegative cX0_isNegative 3 (some .boolean), Cond.methodLink RX0 53 yX0_nearest, Cond.static yX0_nearest, Cond.code yX0_nearest cX0_nearest 10 (some .long), Cond.methodLink RX0 64 yX0_signed, Cond.static yX0_signed, Cond.code yX0_signed cX0_signed 4 (some .long), Cond.methodLink RX0 80 yX0_greatestAbove, Cond.static yX0_greatestAbove, Cond.code yX0_greatestAbove cX0_greatestAbove 1 (some .int), Cond.methodLink RX0 13 yX0_infinity, Cond.static yX0_infinity, Cond.code yX0_infinity cX0_infinity 1 (some .long), Cond.constantLong RX0 9 (2139095040)]
def wsX0_sumByGreater_r3 : List Cond := [Cond.constantLong RX0 11 (9218868437227405312), Cond.methodLink RX0 83 yX0_roundedDown, Cond.static yX0_roundedDown, Cond.code yX0_roundedDown cX0_roundedDown 10 (some .long)]
def wsX0_sumByGreater : List Cond := .code yX0_sumByGreater cX0_sumByGreater 13 (some .long) :: ((wsX0_sumByGreater_r1 ++ (wsX0_sumByGreater_r2 ++ wsX0_sumByGreater_r3)))
def wsX0_sum_r1 : List Cond := [Cond.methodLink RX0 61 yX0_isInfinite, Cond.static yX0_isInfinite, Cond.initialized RX0, Cond.code yX0_isInfinite cX0_isInfinite 3 (some .boolean), Cond.methodLink RX0 30 yX0_size, Cond.static yX0_size, Cond.code yX0_size cX0_size 3 (some .long), Cond.constantLong RX0 28 (-1), Cond.methodLink RX0 25 yX0_signBit, Cond.static yX0_signBit, Cond.code yX0_signBit cX0_signBit 1 (some .long), Cond.constantLong RX0 19 (2147483648), Cond.constantLong RX0 23 (-9223372036854775808), Cond.methodLink RX0 13 yX0_infinity, Cond.static yX0_infinity, Cond.code yX0_infinity cX0_infinity 1 (some .long), Cond.constantLong RX0 9 (2139095040), Cond.constantLong RX0 11 (9218868437227405312), Cond.methodLink RX0 87 yX0_notANumber, Cond.static yX0_notANumber, Cond.code yX0_notANumber cX0_notANumber 1 (some .long), Cond.methodLink RX0 90 yX0_isZero, Cond.static yX0_isZero, Cond.code yX0_isZero cX0_isZero 3 (some .boolean)]
def wsX0_sum_r2 : List Cond := [Cond.methodLink RX0 93 yX0_sumByGreater, Cond.static yX0_sumByGreater, Cond.code yX0_sumByGreater cX0_sumByGreater 13 (some .long), Cond.methodLink RX0 68 yX0_magnitude, Cond.static yX0_magnitude, Cond.code yX0_magnitude cX0_magnitude 7 (some .long), Cond.methodLink RX0 38 yX0_fractionBits, Cond.static yX0_fractionBits, Cond.code yX0_fractionBits cX0_fractionBits 1 (some .int), Cond.methodLink RX0 77 yX0_roomBelow, Cond.static yX0_roomBelow, Cond.code yX0_roomBelow cX0_roomBelow 4 (some .int), Cond.methodLink RX0 71 yX0_exponent, Cond.static yX0_exponent, Cond.code yX0_exponent cX0_exponent 4 (some .int), Cond.methodLink RX0 45 Lib.Math.max.name, Cond.static Lib.Math.max.name, Cond.initialized "java/lang/Math", Cond.code Lib.Math.max.name Lib.Math.max.code 2 (some .int), Cond.methodLink RX0 42 yX0_leastExponent, Cond.static yX0_leastExponent, Cond.code yX0_leastExponent cX0_leastExponent 1 (some .int), Cond.methodLink RX0 97 yX0_movedDown, Cond.static yX0_movedDown]
def wsX0_sum_r3 : List Cond := [Cond.code yX0_movedDown cX0_movedDown 5 (some .long), Cond.methodLink RX0 34 yX0_isNegative, Cond.static yX0_isNegative, Cond.code yX0_isNegative cX0_isNegative 3 (some .boolean), Cond.methodLink RX0 53 yX0_nearest, Cond.static yX0_nearest, Cond.code yX0_nearest cX0_nearest 10 (some .long), Cond.methodLink RX0 64 yX0_signed, Cond.static yX0_signed, Cond.code yX0_signed cX0_signed 4 (some .long), Cond.methodLink RX0 80 yX0_greatestAbove, Cond.static yX0_greatestAbove, Cond.code yX0_greatestAbove cX0_greatestAbove 1 (some .int), Cond.methodLink RX0 83 yX0_roundedDown, Cond.static yX0_roundedDown, Cond.code yX0_roundedDown cX0_roundedDown 10 (some .long)]
def wsX0_sum : List Cond := .code yX0_sum cX0_sum 6 (some .long) :: ((wsX0_sum_r1 ++ (wsX0_sum_r2 ++ wsX0_sum_r3)))
def wsX0_topOfProduct : List Cond := .code yX0_topOfProduct cX0_topOfProduct 22 (some .long) :: ([.constantLong RX0 104 (134217727), .methodLink RX0 97 yX0_movedDown, .static yX0_movedDown, .initialized RX0, .code yX0_movedDown cX0_movedDown 5 (some .long)])
def wsX0_product_r1 : List Cond := [Cond.methodLink RX0 34 yX0_isNegative, Cond.static yX0_isNegative, Cond.initialized RX0, Cond.code yX0_isNegative cX0_isNegative 3 (some .boolean), Cond.methodLink RX0 25 yX0_signBit, Cond.static yX0_signBit, Cond.code yX0_signBit cX0_signBit 1 (some .long), Cond.constantLong RX0 19 (2147483648), Cond.constantLong RX0 23 (-9223372036854775808), Cond.methodLink RX0 61 yX0_isInfinite, Cond.static yX0_isInfinite, Cond.code yX0_isInfinite cX0_isInfinite 3 (some .boolean), Cond.methodLink RX0 30 yX0_size, Cond.static yX0_size, Cond.code yX0_size cX0_size 3 (some .long), Cond.constantLong RX0 28 (-1), Cond.methodLink RX0 13 yX0_infinity, Cond.static yX0_infinity, Cond.code yX0_infinity cX0_infinity 1 (some .long), Cond.constantLong RX0 9 (2139095040), Cond.constantLong RX0 11 (9218868437227405312), Cond.methodLink RX0 90 yX0_isZero, Cond.static yX0_isZero, Cond.code yX0_isZero cX0_isZero 3 (some .boolean)]
def wsX0_product_r2 : List Cond := [Cond.methodLink RX0 87 yX0_notANumber, Cond.static yX0_notANumber, Cond.code yX0_notANumber cX0_notANumber 1 (some .long), Cond.methodLink RX0 64 yX0_signed, Cond.static yX0_signed, Cond.code yX0_signed cX0_signed 4 (some .long), Cond.methodLink RX0 68 yX0_magnitude, Cond.static yX0_magnitude, Cond.code yX0_magnitude cX0_magnitude 7 (some .long), Cond.methodLink RX0 38 yX0_fractionBits, Cond.static yX0_fractionBits, Cond.code yX0_fractionBits cX0_fractionBits 1 (some .int), Cond.methodLink RX0 77 yX0_roomBelow, Cond.static yX0_roomBelow, Cond.code yX0_roomBelow cX0_roomBelow 4 (some .int), Cond.methodLink RX0 100 yX0_topOfProduct, Cond.static yX0_topOfProduct, Cond.code yX0_topOfProduct cX0_topOfProduct 22 (some .long), Cond.constantLong RX0 104 (134217727), Cond.methodLink RX0 97 yX0_movedDown, Cond.static yX0_movedDown, Cond.code yX0_movedDown cX0_movedDown 5 (some .long), Cond.methodLink RX0 71 yX0_exponent, Cond.static yX0_exponent]
def wsX0_product_r3 : List Cond := [Cond.code yX0_exponent cX0_exponent 4 (some .int), Cond.methodLink RX0 45 Lib.Math.max.name, Cond.static Lib.Math.max.name, Cond.initialized "java/lang/Math", Cond.code Lib.Math.max.name Lib.Math.max.code 2 (some .int), Cond.methodLink RX0 42 yX0_leastExponent, Cond.static yX0_leastExponent, Cond.code yX0_leastExponent cX0_leastExponent 1 (some .int), Cond.methodLink RX0 53 yX0_nearest, Cond.static yX0_nearest, Cond.code yX0_nearest cX0_nearest 10 (some .long), Cond.methodLink RX0 80 yX0_greatestAbove, Cond.static yX0_greatestAbove, Cond.code yX0_greatestAbove cX0_greatestAbove 1 (some .int), Cond.methodLink RX0 83 yX0_roundedDown, Cond.static yX0_roundedDown, Cond.code yX0_roundedDown cX0_roundedDown 10 (some .long)]
def wsX0_product : List Cond := .code yX0_product cX0_product 11 (some .long) :: ((wsX0_product_r1 ++ (wsX0_product_r2 ++ wsX0_product_r3)))
def wsX0_topOfQuotient : List Cond := .code yX0_topOfQuotient cX0_topOfQuotient 9 (some .long) :: ([])
def wsX0_quotient_r1 : List Cond := [Cond.methodLink RX0 61 yX0_isInfinite, Cond.static yX0_isInfinite, Cond.initialized RX0, Cond.code yX0_isInfinite cX0_isInfinite 3 (some .boolean), Cond.methodLink RX0 30 yX0_size, Cond.static yX0_size, Cond.code yX0_size cX0_size 3 (some .long), Cond.constantLong RX0 28 (-1), Cond.methodLink RX0 25 yX0_signBit, Cond.static yX0_signBit, Cond.code yX0_signBit cX0_signBit 1 (some .long), Cond.constantLong RX0 19 (2147483648), Cond.constantLong RX0 23 (-9223372036854775808), Cond.methodLink RX0 13 yX0_infinity, Cond.static yX0_infinity, Cond.code yX0_infinity cX0_infinity 1 (some .long), Cond.constantLong RX0 9 (2139095040), Cond.constantLong RX0 11 (9218868437227405312), Cond.methodLink RX0 90 yX0_isZero, Cond.static yX0_isZero, Cond.code yX0_isZero cX0_isZero 3 (some .boolean), Cond.methodLink RX0 87 yX0_notANumber, Cond.static yX0_notANumber, Cond.code yX0_notANumber cX0_notANumber 1 (some .long)]
def wsX0_quotient_r2 : List Cond := [Cond.methodLink RX0 34 yX0_isNegative, Cond.static yX0_isNegative, Cond.code yX0_isNegative cX0_isNegative 3 (some .boolean), Cond.methodLink RX0 64 yX0_signed, Cond.static yX0_signed, Cond.code yX0_signed cX0_signed 4 (some .long), Cond.methodLink RX0 68 yX0_magnitude, Cond.static yX0_magnitude, Cond.code yX0_magnitude cX0_magnitude 7 (some .long), Cond.methodLink RX0 38 yX0_fractionBits, Cond.static yX0_fractionBits, Cond.code yX0_fractionBits cX0_fractionBits 1 (some .int), Cond.methodLink RX0 77 yX0_roomBelow, Cond.static yX0_roomBelow, Cond.code yX0_roomBelow cX0_roomBelow 4 (some .int), Cond.methodLink RX0 106 yX0_topOfQuotient, Cond.static yX0_topOfQuotient, Cond.code yX0_topOfQuotient cX0_topOfQuotient 9 (some .long), Cond.methodLink RX0 71 yX0_exponent, Cond.static yX0_exponent, Cond.code yX0_exponent cX0_exponent 4 (some .int), Cond.methodLink RX0 45 Lib.Math.max.name, Cond.static Lib.Math.max.name, Cond.initialized "java/lang/Math"]
def wsX0_quotient_r3 : List Cond := [Cond.code Lib.Math.max.name Lib.Math.max.code 2 (some .int), Cond.methodLink RX0 42 yX0_leastExponent, Cond.static yX0_leastExponent, Cond.code yX0_leastExponent cX0_leastExponent 1 (some .int), Cond.methodLink RX0 53 yX0_nearest, Cond.static yX0_nearest, Cond.code yX0_nearest cX0_nearest 10 (some .long), Cond.methodLink RX0 80 yX0_greatestAbove, Cond.static yX0_greatestAbove, Cond.code yX0_greatestAbove cX0_greatestAbove 1 (some .int), Cond.methodLink RX0 83 yX0_roundedDown, Cond.static yX0_roundedDown, Cond.code yX0_roundedDown cX0_roundedDown 10 (some .long)]
def wsX0_quotient : List Cond := .code yX0_quotient cX0_quotient 14 (some .long) :: ((wsX0_quotient_r1 ++ (wsX0_quotient_r2 ++ wsX0_quotient_r3)))
def wsX0_restAbove : List Cond := .code yX0_restAbove cX0_restAbove 8 (some .long) :: ([.methodLink RX0 113 Lib.Math.min.name, .static Lib.Math.min.name, .initialized "java/lang/Math", .code Lib.Math.min.name Lib.Math.min.code 2 (some .int)])
def wsX0_rest_r1 : List Cond := [Cond.methodLink RX0 61 yX0_isInfinite, Cond.static yX0_isInfinite, Cond.initialized RX0, Cond.code yX0_isInfinite cX0_isInfinite 3 (some .boolean), Cond.methodLink RX0 30 yX0_size, Cond.static yX0_size, Cond.code yX0_size cX0_size 3 (some .long), Cond.constantLong RX0 28 (-1), Cond.methodLink RX0 25 yX0_signBit, Cond.static yX0_signBit, Cond.code yX0_signBit cX0_signBit 1 (some .long), Cond.constantLong RX0 19 (2147483648), Cond.constantLong RX0 23 (-9223372036854775808), Cond.methodLink RX0 13 yX0_infinity, Cond.static yX0_infinity, Cond.code yX0_infinity cX0_infinity 1 (some .long), Cond.constantLong RX0 9 (2139095040), Cond.constantLong RX0 11 (9218868437227405312), Cond.methodLink RX0 90 yX0_isZero, Cond.static yX0_isZero, Cond.code yX0_isZero cX0_isZero 3 (some .boolean), Cond.methodLink RX0 87 yX0_notANumber, Cond.static yX0_notANumber, Cond.code yX0_notANumber cX0_notANumber 1 (some .long)]
def wsX0_rest_r2 : List Cond := [Cond.methodLink RX0 68 yX0_magnitude, Cond.static yX0_magnitude, Cond.code yX0_magnitude cX0_magnitude 7 (some .long), Cond.methodLink RX0 38 yX0_fractionBits, Cond.static yX0_fractionBits, Cond.code yX0_fractionBits cX0_fractionBits 1 (some .int), Cond.methodLink RX0 77 yX0_roomBelow, Cond.static yX0_roomBelow, Cond.code yX0_roomBelow cX0_roomBelow 4 (some .int), Cond.methodLink RX0 71 yX0_exponent, Cond.static yX0_exponent, Cond.code yX0_exponent cX0_exponent 4 (some .int), Cond.methodLink RX0 45 Lib.Math.max.name, Cond.static Lib.Math.max.name, Cond.initialized "java/lang/Math", Cond.code Lib.Math.max.name Lib.Math.max.code 2 (some .int), Cond.methodLink RX0 42 yX0_leastExponent, Cond.static yX0_leastExponent, Cond.code yX0_leastExponent cX0_leastExponent 1 (some .int), Cond.methodLink RX0 109 yX0_restAbove, Cond.static yX0_restAbove, Cond.code yX0_restAbove cX0_restAbove 8 (some .long), Cond.methodLink RX0 113 Lib.Math.min.name, Cond.static Lib.Math.min.name]
def wsX0_rest_r3 : List Cond := [Cond.code Lib.Math.min.name Lib.Math.min.code 2 (some .int), Cond.methodLink RX0 34 yX0_isNegative, Cond.static yX0_isNegative, Cond.code yX0_isNegative cX0_isNegative 3 (some .boolean), Cond.methodLink RX0 53 yX0_nearest, Cond.static yX0_nearest, Cond.code yX0_nearest cX0_nearest 10 (some .long), Cond.methodLink RX0 64 yX0_signed, Cond.static yX0_signed, Cond.code yX0_signed cX0_signed 4 (some .long), Cond.methodLink RX0 80 yX0_greatestAbove, Cond.static yX0_greatestAbove, Cond.code yX0_greatestAbove cX0_greatestAbove 1 (some .int), Cond.methodLink RX0 83 yX0_roundedDown, Cond.static yX0_roundedDown, Cond.code yX0_roundedDown cX0_roundedDown 10 (some .long)]
def wsX0_rest : List Cond := .code yX0_rest cX0_rest 11 (some .long) :: ((wsX0_rest_r1 ++ (wsX0_rest_r2 ++ wsX0_rest_r3)))
def wsX1_init : List Cond := .code yX1_init cX1_init 1 none :: ([.methodLink RX1 1 objectInit, .instanceMethod objectInit, .code objectInit ⟨#[0xb1]⟩ 1 none, .fieldLink RX1 9 "KindNumbers" "why" "I"] ++ wsX10)
def wsX1_narrowed : List Cond := .code yX1_narrowed cX1_narrowed 3 (some .long) :: ([])
def wsX1_isValue : List Cond := .code yX1_isValue cX1_isValue 3 (some .boolean) :: ([.methodLink RX1 68 yX1_narrowed, .static yX1_narrowed, .initialized RX1, .code yX1_narrowed cX1_narrowed 3 (some .long), .methodLink RX1 71 yX0_isNumber, .static yX0_isNumber, .initialized RX0, .code yX0_isNumber cX0_isNumber 5 (some .boolean), .methodLink RX0 30 yX0_size, .static yX0_size, .code yX0_size cX0_size 3 (some .long), .constantLong RX0 28 (-1), .methodLink RX0 25 yX0_signBit, .static yX0_signBit, .code yX0_signBit cX0_signBit 1 (some .long), .constantLong RX0 19 (2147483648), .constantLong RX0 23 (-9223372036854775808), .methodLink RX0 13 yX0_infinity, .static yX0_infinity, .code yX0_infinity cX0_infinity 1 (some .long), .constantLong RX0 9 (2139095040), .constantLong RX0 11 (9218868437227405312)])
def wsX1_has_r1 : List Cond := [Cond.methodLink RX1 13 yX1_isValue, Cond.static yX1_isValue, Cond.initialized RX1, Cond.code yX1_isValue cX1_isValue 3 (some .boolean), Cond.methodLink RX1 68 yX1_narrowed, Cond.static yX1_narrowed, Cond.code yX1_narrowed cX1_narrowed 3 (some .long), Cond.methodLink RX1 71 yX0_isNumber, Cond.static yX0_isNumber, Cond.initialized RX0, Cond.code yX0_isNumber cX0_isNumber 5 (some .boolean), Cond.methodLink RX0 30 yX0_size, Cond.static yX0_size, Cond.code yX0_size cX0_size 3 (some .long), Cond.constantLong RX0 28 (-1), Cond.methodLink RX0 25 yX0_signBit, Cond.static yX0_signBit, Cond.code yX0_signBit cX0_signBit 1 (some .long), Cond.constantLong RX0 19 (2147483648), Cond.constantLong RX0 23 (-9223372036854775808), Cond.methodLink RX0 13 yX0_infinity, Cond.static yX0_infinity, Cond.code yX0_infinity cX0_infinity 1 (some .long), Cond.constantLong RX0 9 (2139095040)]
def wsX1_has_r2 : List Cond := [Cond.constantLong RX0 11 (9218868437227405312)]
def wsX1_has : List Cond := .code yX1_has cX1_has 4 (some .boolean) :: ((wsX1_has_r1 ++ wsX1_has_r2))
def wsX1_isNumberKind : List Cond := .code yX1_isNumberKind cX1_isNumberKind 1 (some .boolean) :: ([])
def wsX1_widens : List Cond := .code yX1_widens cX1_widens 3 (some .boolean) :: ([.methodLink RX1 17 yX1_isNumberKind, .static yX1_isNumberKind, .initialized RX1, .code yX1_isNumberKind cX1_isNumberKind 1 (some .boolean)])
def wsX1_fails : List Cond := .code yX1_fails cX1_fails 3 (some .int) :: ([.fieldLink RX1 9 "KindNumbers" "why" "I"] ++ wsX10)
def wsX1_cutToInt : List Cond := .code yX1_cutToInt cX1_cutToInt 2 (some .long) :: ([.constantLong RX1 94 (-2147483648), .constantLong RX1 96 (2147483647), .methodLink RX1 98 Lib.MathLoose.min_long.x, .static Lib.MathLoose.min_long.x, .initialized "java/lang/Math", .code Lib.MathLoose.min_long.x Lib.MathLoose.min_long.code 4 (some .long), .methodLink RX1 102 Lib.MathLoose.max_long.x, .static Lib.MathLoose.max_long.x, .code Lib.MathLoose.max_long.x Lib.MathLoose.max_long.code 4 (some .long)])
def wsX1_converted_r1 : List Cond := [Cond.methodLink RX1 79 yX0_ofReal, Cond.static yX0_ofReal, Cond.initialized RX0, Cond.code yX0_ofReal cX0_ofReal 5 (some .long), Cond.methodLink RX0 34 yX0_isNegative, Cond.static yX0_isNegative, Cond.code yX0_isNegative cX0_isNegative 3 (some .boolean), Cond.methodLink RX0 25 yX0_signBit, Cond.static yX0_signBit, Cond.code yX0_signBit cX0_signBit 1 (some .long), Cond.constantLong RX0 19 (2147483648), Cond.constantLong RX0 23 (-9223372036854775808), Cond.methodLink RX0 61 yX0_isInfinite, Cond.static yX0_isInfinite, Cond.code yX0_isInfinite cX0_isInfinite 3 (some .boolean), Cond.methodLink RX0 30 yX0_size, Cond.static yX0_size, Cond.code yX0_size cX0_size 3 (some .long), Cond.constantLong RX0 28 (-1), Cond.methodLink RX0 13 yX0_infinity, Cond.static yX0_infinity, Cond.code yX0_infinity cX0_infinity 1 (some .long), Cond.constantLong RX0 9 (2139095040), Cond.constantLong RX0 11 (9218868437227405312)]
def wsX1_converted_r2 : List Cond := [Cond.methodLink RX0 64 yX0_signed, Cond.static yX0_signed, Cond.code yX0_signed cX0_signed 4 (some .long), Cond.methodLink RX0 68 yX0_magnitude, Cond.static yX0_magnitude, Cond.code yX0_magnitude cX0_magnitude 7 (some .long), Cond.methodLink RX0 38 yX0_fractionBits, Cond.static yX0_fractionBits, Cond.code yX0_fractionBits cX0_fractionBits 1 (some .int), Cond.methodLink RX0 71 yX0_exponent, Cond.static yX0_exponent, Cond.code yX0_exponent cX0_exponent 4 (some .int), Cond.methodLink RX0 45 Lib.Math.max.name, Cond.static Lib.Math.max.name, Cond.initialized "java/lang/Math", Cond.code Lib.Math.max.name Lib.Math.max.code 2 (some .int), Cond.methodLink RX0 42 yX0_leastExponent, Cond.static yX0_leastExponent, Cond.code yX0_leastExponent cX0_leastExponent 1 (some .int), Cond.methodLink RX0 53 yX0_nearest, Cond.static yX0_nearest, Cond.code yX0_nearest cX0_nearest 10 (some .long), Cond.methodLink RX0 77 yX0_roomBelow, Cond.static yX0_roomBelow]
def wsX1_converted_r3 : List Cond := [Cond.code yX0_roomBelow cX0_roomBelow 4 (some .int), Cond.methodLink RX0 80 yX0_greatestAbove, Cond.static yX0_greatestAbove, Cond.code yX0_greatestAbove cX0_greatestAbove 1 (some .int), Cond.methodLink RX0 83 yX0_roundedDown, Cond.static yX0_roundedDown, Cond.code yX0_roundedDown cX0_roundedDown 10 (some .long), Cond.methodLink RX1 82 yX0_ofWhole, Cond.static yX0_ofWhole, Cond.code yX0_ofWhole cX0_ofWhole 3 (some .long), Cond.constantLong RX0 51 (4611686018427387904), Cond.methodLink RX0 57 Lib.MathLoose.abs_long.x, Cond.static Lib.MathLoose.abs_long.x, Cond.code Lib.MathLoose.abs_long.x Lib.MathLoose.abs_long.code 2 (some .long), Cond.methodLink RX1 68 yX1_narrowed, Cond.static yX1_narrowed, Cond.initialized RX1, Cond.code yX1_narrowed cX1_narrowed 3 (some .long), Cond.methodLink RX1 85 yX0_wholePart, Cond.static yX0_wholePart, Cond.code yX0_wholePart cX0_wholePart 9 (some .long), Cond.constantLong RX0 75 (9223372036854775807), Cond.methodLink RX1 88 yX1_cutToInt, Cond.static yX1_cutToInt]
def wsX1_converted_r4 : List Cond := [Cond.code yX1_cutToInt cX1_cutToInt 2 (some .long), Cond.constantLong RX1 94 (-2147483648), Cond.constantLong RX1 96 (2147483647), Cond.methodLink RX1 98 Lib.MathLoose.min_long.x, Cond.static Lib.MathLoose.min_long.x, Cond.code Lib.MathLoose.min_long.x Lib.MathLoose.min_long.code 4 (some .long), Cond.methodLink RX1 102 Lib.MathLoose.max_long.x, Cond.static Lib.MathLoose.max_long.x, Cond.code Lib.MathLoose.max_long.x Lib.MathLoose.max_long.code 4 (some .long)]
def wsX1_converted : List Cond := .code yX1_converted cX1_converted 6 (some .long) :: ((wsX1_converted_r1 ++ (wsX1_converted_r2 ++ (wsX1_converted_r3 ++ wsX1_converted_r4))))
def wsX1_cast_r1 : List Cond := [Cond.fieldLink RX1 9 "KindNumbers" "why" "I", Cond.methodLink RX1 17 yX1_isNumberKind, Cond.static yX1_isNumberKind, Cond.initialized RX1, Cond.code yX1_isNumberKind cX1_isNumberKind 1 (some .boolean), Cond.methodLink RX1 13 yX1_isValue, Cond.static yX1_isValue, Cond.code yX1_isValue cX1_isValue 3 (some .boolean), Cond.methodLink RX1 68 yX1_narrowed, Cond.static yX1_narrowed, Cond.code yX1_narrowed cX1_narrowed 3 (some .long), Cond.methodLink RX1 71 yX0_isNumber, Cond.static yX0_isNumber, Cond.initialized RX0, Cond.code yX0_isNumber cX0_isNumber 5 (some .boolean), Cond.methodLink RX0 30 yX0_size, Cond.static yX0_size, Cond.code yX0_size cX0_size 3 (some .long), Cond.constantLong RX0 28 (-1), Cond.methodLink RX0 25 yX0_signBit, Cond.static yX0_signBit, Cond.code yX0_signBit cX0_signBit 1 (some .long), Cond.constantLong RX0 19 (2147483648), Cond.constantLong RX0 23 (-9223372036854775808)]
def wsX1_cast_r2 : List Cond := [Cond.methodLink RX0 13 yX0_infinity, Cond.static yX0_infinity, Cond.code yX0_infinity cX0_infinity 1 (some .long), Cond.constantLong RX0 9 (2139095040), Cond.constantLong RX0 11 (9218868437227405312), Cond.methodLink RX1 21 yX1_fails, Cond.instanceMethod yX1_fails, Cond.selects RX1 yX1_fails yX1_fails, Cond.code yX1_fails cX1_fails 3 (some .int), Cond.methodLink RX1 25 yX1_converted, Cond.static yX1_converted, Cond.code yX1_converted cX1_converted 6 (some .long), Cond.methodLink RX1 79 yX0_ofReal, Cond.static yX0_ofReal, Cond.code yX0_ofReal cX0_ofReal 5 (some .long), Cond.methodLink RX0 34 yX0_isNegative, Cond.static yX0_isNegative, Cond.code yX0_isNegative cX0_isNegative 3 (some .boolean), Cond.methodLink RX0 61 yX0_isInfinite, Cond.static yX0_isInfinite, Cond.code yX0_isInfinite cX0_isInfinite 3 (some .boolean), Cond.methodLink RX0 64 yX0_signed, Cond.static yX0_signed, Cond.code yX0_signed cX0_signed 4 (some .long)]
def wsX1_cast_r3 : List Cond := [Cond.methodLink RX0 68 yX0_magnitude, Cond.static yX0_magnitude, Cond.code yX0_magnitude cX0_magnitude 7 (some .long), Cond.methodLink RX0 38 yX0_fractionBits, Cond.static yX0_fractionBits, Cond.code yX0_fractionBits cX0_fractionBits 1 (some .int), Cond.methodLink RX0 71 yX0_exponent, Cond.static yX0_exponent, Cond.code yX0_exponent cX0_exponent 4 (some .int), Cond.methodLink RX0 45 Lib.Math.max.name, Cond.static Lib.Math.max.name, Cond.initialized "java/lang/Math", Cond.code Lib.Math.max.name Lib.Math.max.code 2 (some .int), Cond.methodLink RX0 42 yX0_leastExponent, Cond.static yX0_leastExponent, Cond.code yX0_leastExponent cX0_leastExponent 1 (some .int), Cond.methodLink RX0 53 yX0_nearest, Cond.static yX0_nearest, Cond.code yX0_nearest cX0_nearest 10 (some .long), Cond.methodLink RX0 77 yX0_roomBelow, Cond.static yX0_roomBelow, Cond.code yX0_roomBelow cX0_roomBelow 4 (some .int), Cond.methodLink RX0 80 yX0_greatestAbove, Cond.static yX0_greatestAbove]
def wsX1_cast_r4 : List Cond := [Cond.code yX0_greatestAbove cX0_greatestAbove 1 (some .int), Cond.methodLink RX0 83 yX0_roundedDown, Cond.static yX0_roundedDown, Cond.code yX0_roundedDown cX0_roundedDown 10 (some .long), Cond.methodLink RX1 82 yX0_ofWhole, Cond.static yX0_ofWhole, Cond.code yX0_ofWhole cX0_ofWhole 3 (some .long), Cond.constantLong RX0 51 (4611686018427387904), Cond.methodLink RX0 57 Lib.MathLoose.abs_long.x, Cond.static Lib.MathLoose.abs_long.x, Cond.code Lib.MathLoose.abs_long.x Lib.MathLoose.abs_long.code 2 (some .long), Cond.methodLink RX1 85 yX0_wholePart, Cond.static yX0_wholePart, Cond.code yX0_wholePart cX0_wholePart 9 (some .long), Cond.constantLong RX0 75 (9223372036854775807), Cond.methodLink RX1 88 yX1_cutToInt, Cond.static yX1_cutToInt, Cond.code yX1_cutToInt cX1_cutToInt 2 (some .long), Cond.constantLong RX1 94 (-2147483648), Cond.constantLong RX1 96 (2147483647), Cond.methodLink RX1 98 Lib.MathLoose.min_long.x, Cond.static Lib.MathLoose.min_long.x, Cond.code Lib.MathLoose.min_long.x Lib.MathLoose.min_long.code 4 (some .long), Cond.methodLink RX1 102 Lib.MathLoose.max_long.x]
def wsX1_cast_r5 : List Cond := [Cond.static Lib.MathLoose.max_long.x, Cond.code Lib.MathLoose.max_long.x Lib.MathLoose.max_long.code 4 (some .long)]
def wsX1_cast : List Cond := .code yX1_cast cX1_cast 6 (some .long) :: ((wsX1_cast_r1 ++ (wsX1_cast_r2 ++ (wsX1_cast_r3 ++ (wsX1_cast_r4 ++ wsX1_cast_r5)))) ++ wsX10)
def wsX1_areNumbers_r1 : List Cond := [Cond.methodLink RX1 17 yX1_isNumberKind, Cond.static yX1_isNumberKind, Cond.initialized RX1, Cond.code yX1_isNumberKind cX1_isNumberKind 1 (some .boolean), Cond.methodLink RX1 13 yX1_isValue, Cond.static yX1_isValue, Cond.code yX1_isValue cX1_isValue 3 (some .boolean), Cond.methodLink RX1 68 yX1_narrowed, Cond.static yX1_narrowed, Cond.code yX1_narrowed cX1_narrowed 3 (some .long), Cond.methodLink RX1 71 yX0_isNumber, Cond.static yX0_isNumber, Cond.initialized RX0, Cond.code yX0_isNumber cX0_isNumber 5 (some .boolean), Cond.methodLink RX0 30 yX0_size, Cond.static yX0_size, Cond.code yX0_size cX0_size 3 (some .long), Cond.constantLong RX0 28 (-1), Cond.methodLink RX0 25 yX0_signBit, Cond.static yX0_signBit, Cond.code yX0_signBit cX0_signBit 1 (some .long), Cond.constantLong RX0 19 (2147483648), Cond.constantLong RX0 23 (-9223372036854775808), Cond.methodLink RX0 13 yX0_infinity]
def wsX1_areNumbers_r2 : List Cond := [Cond.static yX0_infinity, Cond.code yX0_infinity cX0_infinity 1 (some .long), Cond.constantLong RX0 9 (2139095040), Cond.constantLong RX0 11 (9218868437227405312)]
def wsX1_areNumbers : List Cond := .code yX1_areNumbers cX1_areNumbers 6 (some .boolean) :: ((wsX1_areNumbers_r1 ++ wsX1_areNumbers_r2))
def wsX1_workKind : List Cond := .code yX1_workKind cX1_workKind 2 (some .int) :: ([.methodLink RX1 74 Lib.Math.max.name, .static Lib.Math.max.name, .initialized "java/lang/Math", .code Lib.Math.max.name Lib.Math.max.code 2 (some .int)])
def wsX1_workReal_r1 : List Cond := [Cond.methodLink RX1 104 yX0_sum, Cond.static yX0_sum, Cond.initialized RX0, Cond.code yX0_sum cX0_sum 6 (some .long), Cond.methodLink RX0 61 yX0_isInfinite, Cond.static yX0_isInfinite, Cond.code yX0_isInfinite cX0_isInfinite 3 (some .boolean), Cond.methodLink RX0 30 yX0_size, Cond.static yX0_size, Cond.code yX0_size cX0_size 3 (some .long), Cond.constantLong RX0 28 (-1), Cond.methodLink RX0 25 yX0_signBit, Cond.static yX0_signBit, Cond.code yX0_signBit cX0_signBit 1 (some .long), Cond.constantLong RX0 19 (2147483648), Cond.constantLong RX0 23 (-9223372036854775808), Cond.methodLink RX0 13 yX0_infinity, Cond.static yX0_infinity, Cond.code yX0_infinity cX0_infinity 1 (some .long), Cond.constantLong RX0 9 (2139095040), Cond.constantLong RX0 11 (9218868437227405312), Cond.methodLink RX0 87 yX0_notANumber, Cond.static yX0_notANumber, Cond.code yX0_notANumber cX0_notANumber 1 (some .long)]
def wsX1_workReal_r2 : List Cond := [Cond.methodLink RX0 90 yX0_isZero, Cond.static yX0_isZero, Cond.code yX0_isZero cX0_isZero 3 (some .boolean), Cond.methodLink RX0 93 yX0_sumByGreater, Cond.static yX0_sumByGreater, Cond.code yX0_sumByGreater cX0_sumByGreater 13 (some .long), Cond.methodLink RX0 68 yX0_magnitude, Cond.static yX0_magnitude, Cond.code yX0_magnitude cX0_magnitude 7 (some .long), Cond.methodLink RX0 38 yX0_fractionBits, Cond.static yX0_fractionBits, Cond.code yX0_fractionBits cX0_fractionBits 1 (some .int), Cond.methodLink RX0 77 yX0_roomBelow, Cond.static yX0_roomBelow, Cond.code yX0_roomBelow cX0_roomBelow 4 (some .int), Cond.methodLink RX0 71 yX0_exponent, Cond.static yX0_exponent, Cond.code yX0_exponent cX0_exponent 4 (some .int), Cond.methodLink RX0 45 Lib.Math.max.name, Cond.static Lib.Math.max.name, Cond.initialized "java/lang/Math", Cond.code Lib.Math.max.name Lib.Math.max.code 2 (some .int), Cond.methodLink RX0 42 yX0_leastExponent, Cond.static yX0_leastExponent]
def wsX1_workReal_r3 : List Cond := [Cond.code yX0_leastExponent cX0_leastExponent 1 (some .int), Cond.methodLink RX0 97 yX0_movedDown, Cond.static yX0_movedDown, Cond.code yX0_movedDown cX0_movedDown 5 (some .long), Cond.methodLink RX0 34 yX0_isNegative, Cond.static yX0_isNegative, Cond.code yX0_isNegative cX0_isNegative 3 (some .boolean), Cond.methodLink RX0 53 yX0_nearest, Cond.static yX0_nearest, Cond.code yX0_nearest cX0_nearest 10 (some .long), Cond.methodLink RX0 64 yX0_signed, Cond.static yX0_signed, Cond.code yX0_signed cX0_signed 4 (some .long), Cond.methodLink RX0 80 yX0_greatestAbove, Cond.static yX0_greatestAbove, Cond.code yX0_greatestAbove cX0_greatestAbove 1 (some .int), Cond.methodLink RX0 83 yX0_roundedDown, Cond.static yX0_roundedDown, Cond.code yX0_roundedDown cX0_roundedDown 10 (some .long), Cond.methodLink RX1 108 yX0_negated, Cond.static yX0_negated, Cond.code yX0_negated cX0_negated 3 (some .long), Cond.methodLink RX1 111 yX0_product, Cond.static yX0_product]
def wsX1_workReal_r4 : List Cond := [Cond.code yX0_product cX0_product 11 (some .long), Cond.methodLink RX0 100 yX0_topOfProduct, Cond.static yX0_topOfProduct, Cond.code yX0_topOfProduct cX0_topOfProduct 22 (some .long), Cond.constantLong RX0 104 (134217727), Cond.methodLink RX1 114 yX0_quotient, Cond.static yX0_quotient, Cond.code yX0_quotient cX0_quotient 14 (some .long), Cond.methodLink RX0 106 yX0_topOfQuotient, Cond.static yX0_topOfQuotient, Cond.code yX0_topOfQuotient cX0_topOfQuotient 9 (some .long), Cond.methodLink RX1 117 yX0_rest, Cond.static yX0_rest, Cond.code yX0_rest cX0_rest 11 (some .long), Cond.methodLink RX0 109 yX0_restAbove, Cond.static yX0_restAbove, Cond.code yX0_restAbove cX0_restAbove 8 (some .long), Cond.methodLink RX0 113 Lib.Math.min.name, Cond.static Lib.Math.min.name, Cond.code Lib.Math.min.name Lib.Math.min.code 2 (some .int), Cond.methodLink RX1 71 yX0_isNumber, Cond.static yX0_isNumber, Cond.code yX0_isNumber cX0_isNumber 5 (some .boolean), Cond.methodLink RX1 21 yX1_fails]
def wsX1_workReal_r5 : List Cond := [Cond.instanceMethod yX1_fails, Cond.selects RX1 yX1_fails yX1_fails, Cond.initialized RX1, Cond.code yX1_fails cX1_fails 3 (some .int), Cond.fieldLink RX1 9 "KindNumbers" "why" "I"]
def wsX1_workReal : List Cond := .code yX1_workReal cX1_workReal 9 (some .long) :: ((wsX1_workReal_r1 ++ (wsX1_workReal_r2 ++ (wsX1_workReal_r3 ++ (wsX1_workReal_r4 ++ wsX1_workReal_r5)))) ++ wsX10)
def wsX1_workWhole : List Cond := .code yX1_workWhole cX1_workWhole 7 (some .long) :: ([.methodLink RX1 68 yX1_narrowed, .static yX1_narrowed, .initialized RX1, .code yX1_narrowed cX1_narrowed 3 (some .long), .methodLink RX1 21 yX1_fails, .instanceMethod yX1_fails, .selects RX1 yX1_fails yX1_fails, .code yX1_fails cX1_fails 3 (some .int), .fieldLink RX1 9 "KindNumbers" "why" "I"] ++ wsX10)
def wsX1_work_r1 : List Cond := [Cond.fieldLink RX1 9 "KindNumbers" "why" "I", Cond.methodLink RX1 29 yX1_areNumbers, Cond.static yX1_areNumbers, Cond.initialized RX1, Cond.code yX1_areNumbers cX1_areNumbers 6 (some .boolean), Cond.methodLink RX1 17 yX1_isNumberKind, Cond.static yX1_isNumberKind, Cond.code yX1_isNumberKind cX1_isNumberKind 1 (some .boolean), Cond.methodLink RX1 13 yX1_isValue, Cond.static yX1_isValue, Cond.code yX1_isValue cX1_isValue 3 (some .boolean), Cond.methodLink RX1 68 yX1_narrowed, Cond.static yX1_narrowed, Cond.code yX1_narrowed cX1_narrowed 3 (some .long), Cond.methodLink RX1 71 yX0_isNumber, Cond.static yX0_isNumber, Cond.initialized RX0, Cond.code yX0_isNumber cX0_isNumber 5 (some .boolean), Cond.methodLink RX0 30 yX0_size, Cond.static yX0_size, Cond.code yX0_size cX0_size 3 (some .long), Cond.constantLong RX0 28 (-1), Cond.methodLink RX0 25 yX0_signBit, Cond.static yX0_signBit]
def wsX1_work_r2 : List Cond := [Cond.code yX0_signBit cX0_signBit 1 (some .long), Cond.constantLong RX0 19 (2147483648), Cond.constantLong RX0 23 (-9223372036854775808), Cond.methodLink RX0 13 yX0_infinity, Cond.static yX0_infinity, Cond.code yX0_infinity cX0_infinity 1 (some .long), Cond.constantLong RX0 9 (2139095040), Cond.constantLong RX0 11 (9218868437227405312), Cond.methodLink RX1 21 yX1_fails, Cond.instanceMethod yX1_fails, Cond.selects RX1 yX1_fails yX1_fails, Cond.code yX1_fails cX1_fails 3 (some .int), Cond.methodLink RX1 33 yX1_workKind, Cond.static yX1_workKind, Cond.code yX1_workKind cX1_workKind 2 (some .int), Cond.methodLink RX1 74 Lib.Math.max.name, Cond.static Lib.Math.max.name, Cond.initialized "java/lang/Math", Cond.code Lib.Math.max.name Lib.Math.max.code 2 (some .int), Cond.methodLink RX1 25 yX1_converted, Cond.static yX1_converted, Cond.code yX1_converted cX1_converted 6 (some .long), Cond.methodLink RX1 79 yX0_ofReal, Cond.static yX0_ofReal]
def wsX1_work_r3 : List Cond := [Cond.code yX0_ofReal cX0_ofReal 5 (some .long), Cond.methodLink RX0 34 yX0_isNegative, Cond.static yX0_isNegative, Cond.code yX0_isNegative cX0_isNegative 3 (some .boolean), Cond.methodLink RX0 61 yX0_isInfinite, Cond.static yX0_isInfinite, Cond.code yX0_isInfinite cX0_isInfinite 3 (some .boolean), Cond.methodLink RX0 64 yX0_signed, Cond.static yX0_signed, Cond.code yX0_signed cX0_signed 4 (some .long), Cond.methodLink RX0 68 yX0_magnitude, Cond.static yX0_magnitude, Cond.code yX0_magnitude cX0_magnitude 7 (some .long), Cond.methodLink RX0 38 yX0_fractionBits, Cond.static yX0_fractionBits, Cond.code yX0_fractionBits cX0_fractionBits 1 (some .int), Cond.methodLink RX0 71 yX0_exponent, Cond.static yX0_exponent, Cond.code yX0_exponent cX0_exponent 4 (some .int), Cond.methodLink RX0 45 Lib.Math.max.name, Cond.methodLink RX0 42 yX0_leastExponent, Cond.static yX0_leastExponent, Cond.code yX0_leastExponent cX0_leastExponent 1 (some .int), Cond.methodLink RX0 53 yX0_nearest]
def wsX1_work_r4 : List Cond := [Cond.static yX0_nearest, Cond.code yX0_nearest cX0_nearest 10 (some .long), Cond.methodLink RX0 77 yX0_roomBelow, Cond.static yX0_roomBelow, Cond.code yX0_roomBelow cX0_roomBelow 4 (some .int), Cond.methodLink RX0 80 yX0_greatestAbove, Cond.static yX0_greatestAbove, Cond.code yX0_greatestAbove cX0_greatestAbove 1 (some .int), Cond.methodLink RX0 83 yX0_roundedDown, Cond.static yX0_roundedDown, Cond.code yX0_roundedDown cX0_roundedDown 10 (some .long), Cond.methodLink RX1 82 yX0_ofWhole, Cond.static yX0_ofWhole, Cond.code yX0_ofWhole cX0_ofWhole 3 (some .long), Cond.constantLong RX0 51 (4611686018427387904), Cond.methodLink RX0 57 Lib.MathLoose.abs_long.x, Cond.static Lib.MathLoose.abs_long.x, Cond.code Lib.MathLoose.abs_long.x Lib.MathLoose.abs_long.code 2 (some .long), Cond.methodLink RX1 85 yX0_wholePart, Cond.static yX0_wholePart, Cond.code yX0_wholePart cX0_wholePart 9 (some .long), Cond.constantLong RX0 75 (9223372036854775807), Cond.methodLink RX1 88 yX1_cutToInt, Cond.static yX1_cutToInt]
def wsX1_work_r5 : List Cond := [Cond.code yX1_cutToInt cX1_cutToInt 2 (some .long), Cond.constantLong RX1 94 (-2147483648), Cond.constantLong RX1 96 (2147483647), Cond.methodLink RX1 98 Lib.MathLoose.min_long.x, Cond.static Lib.MathLoose.min_long.x, Cond.code Lib.MathLoose.min_long.x Lib.MathLoose.min_long.code 4 (some .long), Cond.methodLink RX1 102 Lib.MathLoose.max_long.x, Cond.static Lib.MathLoose.max_long.x, Cond.code Lib.MathLoose.max_long.x Lib.MathLoose.max_long.code 4 (some .long), Cond.methodLink RX1 36 yX1_workReal, Cond.instanceMethod yX1_workReal, Cond.selects RX1 yX1_workReal yX1_workReal, Cond.code yX1_workReal cX1_workReal 9 (some .long), Cond.methodLink RX1 104 yX0_sum, Cond.static yX0_sum, Cond.code yX0_sum cX0_sum 6 (some .long), Cond.methodLink RX0 87 yX0_notANumber, Cond.static yX0_notANumber, Cond.code yX0_notANumber cX0_notANumber 1 (some .long), Cond.methodLink RX0 90 yX0_isZero, Cond.static yX0_isZero, Cond.code yX0_isZero cX0_isZero 3 (some .boolean), Cond.methodLink RX0 93 yX0_sumByGreater, Cond.static yX0_sumByGreater]
def wsX1_work_r6 : List Cond := [Cond.code yX0_sumByGreater cX0_sumByGreater 13 (some .long), Cond.methodLink RX0 97 yX0_movedDown, Cond.static yX0_movedDown, Cond.code yX0_movedDown cX0_movedDown 5 (some .long), Cond.methodLink RX1 108 yX0_negated, Cond.static yX0_negated, Cond.code yX0_negated cX0_negated 3 (some .long), Cond.methodLink RX1 111 yX0_product, Cond.static yX0_product, Cond.code yX0_product cX0_product 11 (some .long), Cond.methodLink RX0 100 yX0_topOfProduct, Cond.static yX0_topOfProduct, Cond.code yX0_topOfProduct cX0_topOfProduct 22 (some .long), Cond.constantLong RX0 104 (134217727), Cond.methodLink RX1 114 yX0_quotient, Cond.static yX0_quotient, Cond.code yX0_quotient cX0_quotient 14 (some .long), Cond.methodLink RX0 106 yX0_topOfQuotient, Cond.static yX0_topOfQuotient, Cond.code yX0_topOfQuotient cX0_topOfQuotient 9 (some .long), Cond.methodLink RX1 117 yX0_rest, Cond.static yX0_rest, Cond.code yX0_rest cX0_rest 11 (some .long), Cond.methodLink RX0 109 yX0_restAbove]
def wsX1_work_r7 : List Cond := [Cond.static yX0_restAbove, Cond.code yX0_restAbove cX0_restAbove 8 (some .long), Cond.methodLink RX0 113 Lib.Math.min.name, Cond.static Lib.Math.min.name, Cond.code Lib.Math.min.name Lib.Math.min.code 2 (some .int), Cond.methodLink RX1 40 yX1_workWhole, Cond.instanceMethod yX1_workWhole, Cond.selects RX1 yX1_workWhole yX1_workWhole, Cond.code yX1_workWhole cX1_workWhole 7 (some .long)]
def wsX1_work : List Cond := .code yX1_work cX1_work 13 (some .long) :: ((wsX1_work_r1 ++ (wsX1_work_r2 ++ (wsX1_work_r3 ++ (wsX1_work_r4 ++ (wsX1_work_r5 ++ (wsX1_work_r6 ++ wsX1_work_r7)))))) ++ wsX10)
def wsX1_shiftedLong : List Cond := .code yX1_shiftedLong cX1_shiftedLong 4 (some .long) :: ([])
def wsX1_shiftedInt : List Cond := .code yX1_shiftedInt cX1_shiftedInt 3 (some .long) :: ([])
def wsX1_shift_r1 : List Cond := [Cond.fieldLink RX1 9 "KindNumbers" "why" "I", Cond.constantLong RX1 43 (63), Cond.constantLong RX1 49 (31), Cond.methodLink RX1 13 yX1_isValue, Cond.static yX1_isValue, Cond.initialized RX1, Cond.code yX1_isValue cX1_isValue 3 (some .boolean), Cond.methodLink RX1 68 yX1_narrowed, Cond.static yX1_narrowed, Cond.code yX1_narrowed cX1_narrowed 3 (some .long), Cond.methodLink RX1 71 yX0_isNumber, Cond.static yX0_isNumber, Cond.initialized RX0, Cond.code yX0_isNumber cX0_isNumber 5 (some .boolean), Cond.methodLink RX0 30 yX0_size, Cond.static yX0_size, Cond.code yX0_size cX0_size 3 (some .long), Cond.constantLong RX0 28 (-1), Cond.methodLink RX0 25 yX0_signBit, Cond.static yX0_signBit, Cond.code yX0_signBit cX0_signBit 1 (some .long), Cond.constantLong RX0 19 (2147483648), Cond.constantLong RX0 23 (-9223372036854775808), Cond.methodLink RX0 13 yX0_infinity]
def wsX1_shift_r2 : List Cond := [Cond.static yX0_infinity, Cond.code yX0_infinity cX0_infinity 1 (some .long), Cond.constantLong RX0 9 (2139095040), Cond.constantLong RX0 11 (9218868437227405312), Cond.methodLink RX1 21 yX1_fails, Cond.instanceMethod yX1_fails, Cond.selects RX1 yX1_fails yX1_fails, Cond.code yX1_fails cX1_fails 3 (some .int), Cond.methodLink RX1 45 yX1_shiftedLong, Cond.static yX1_shiftedLong, Cond.code yX1_shiftedLong cX1_shiftedLong 4 (some .long), Cond.methodLink RX1 51 yX1_shiftedInt, Cond.static yX1_shiftedInt, Cond.code yX1_shiftedInt cX1_shiftedInt 3 (some .long)]
def wsX1_shift : List Cond := .code yX1_shift cX1_shift 8 (some .long) :: ((wsX1_shift_r1 ++ wsX1_shift_r2) ++ wsX10)
def wsX1_sideOf : List Cond := .code yX1_sideOf cX1_sideOf 4 (some .int) :: ([])
def wsX1_compare_r1 : List Cond := [Cond.fieldLink RX1 9 "KindNumbers" "why" "I", Cond.methodLink RX1 29 yX1_areNumbers, Cond.static yX1_areNumbers, Cond.initialized RX1, Cond.code yX1_areNumbers cX1_areNumbers 6 (some .boolean), Cond.methodLink RX1 17 yX1_isNumberKind, Cond.static yX1_isNumberKind, Cond.code yX1_isNumberKind cX1_isNumberKind 1 (some .boolean), Cond.methodLink RX1 13 yX1_isValue, Cond.static yX1_isValue, Cond.code yX1_isValue cX1_isValue 3 (some .boolean), Cond.methodLink RX1 68 yX1_narrowed, Cond.static yX1_narrowed, Cond.code yX1_narrowed cX1_narrowed 3 (some .long), Cond.methodLink RX1 71 yX0_isNumber, Cond.static yX0_isNumber, Cond.initialized RX0, Cond.code yX0_isNumber cX0_isNumber 5 (some .boolean), Cond.methodLink RX0 30 yX0_size, Cond.static yX0_size, Cond.code yX0_size cX0_size 3 (some .long), Cond.constantLong RX0 28 (-1), Cond.methodLink RX0 25 yX0_signBit, Cond.static yX0_signBit]
def wsX1_compare_r2 : List Cond := [Cond.code yX0_signBit cX0_signBit 1 (some .long), Cond.constantLong RX0 19 (2147483648), Cond.constantLong RX0 23 (-9223372036854775808), Cond.methodLink RX0 13 yX0_infinity, Cond.static yX0_infinity, Cond.code yX0_infinity cX0_infinity 1 (some .long), Cond.constantLong RX0 9 (2139095040), Cond.constantLong RX0 11 (9218868437227405312), Cond.methodLink RX1 21 yX1_fails, Cond.instanceMethod yX1_fails, Cond.selects RX1 yX1_fails yX1_fails, Cond.code yX1_fails cX1_fails 3 (some .int), Cond.methodLink RX1 33 yX1_workKind, Cond.static yX1_workKind, Cond.code yX1_workKind cX1_workKind 2 (some .int), Cond.methodLink RX1 74 Lib.Math.max.name, Cond.static Lib.Math.max.name, Cond.initialized "java/lang/Math", Cond.code Lib.Math.max.name Lib.Math.max.code 2 (some .int), Cond.methodLink RX1 25 yX1_converted, Cond.static yX1_converted, Cond.code yX1_converted cX1_converted 6 (some .long), Cond.methodLink RX1 79 yX0_ofReal, Cond.static yX0_ofReal]
def wsX1_compare_r3 : List Cond := [Cond.code yX0_ofReal cX0_ofReal 5 (some .long), Cond.methodLink RX0 34 yX0_isNegative, Cond.static yX0_isNegative, Cond.code yX0_isNegative cX0_isNegative 3 (some .boolean), Cond.methodLink RX0 61 yX0_isInfinite, Cond.static yX0_isInfinite, Cond.code yX0_isInfinite cX0_isInfinite 3 (some .boolean), Cond.methodLink RX0 64 yX0_signed, Cond.static yX0_signed, Cond.code yX0_signed cX0_signed 4 (some .long), Cond.methodLink RX0 68 yX0_magnitude, Cond.static yX0_magnitude, Cond.code yX0_magnitude cX0_magnitude 7 (some .long), Cond.methodLink RX0 38 yX0_fractionBits, Cond.static yX0_fractionBits, Cond.code yX0_fractionBits cX0_fractionBits 1 (some .int), Cond.methodLink RX0 71 yX0_exponent, Cond.static yX0_exponent, Cond.code yX0_exponent cX0_exponent 4 (some .int), Cond.methodLink RX0 45 Lib.Math.max.name, Cond.methodLink RX0 42 yX0_leastExponent, Cond.static yX0_leastExponent, Cond.code yX0_leastExponent cX0_leastExponent 1 (some .int), Cond.methodLink RX0 53 yX0_nearest]
def wsX1_compare_r4 : List Cond := [Cond.static yX0_nearest, Cond.code yX0_nearest cX0_nearest 10 (some .long), Cond.methodLink RX0 77 yX0_roomBelow, Cond.static yX0_roomBelow, Cond.code yX0_roomBelow cX0_roomBelow 4 (some .int), Cond.methodLink RX0 80 yX0_greatestAbove, Cond.static yX0_greatestAbove, Cond.code yX0_greatestAbove cX0_greatestAbove 1 (some .int), Cond.methodLink RX0 83 yX0_roundedDown, Cond.static yX0_roundedDown, Cond.code yX0_roundedDown cX0_roundedDown 10 (some .long), Cond.methodLink RX1 82 yX0_ofWhole, Cond.static yX0_ofWhole, Cond.code yX0_ofWhole cX0_ofWhole 3 (some .long), Cond.constantLong RX0 51 (4611686018427387904), Cond.methodLink RX0 57 Lib.MathLoose.abs_long.x, Cond.static Lib.MathLoose.abs_long.x, Cond.code Lib.MathLoose.abs_long.x Lib.MathLoose.abs_long.code 2 (some .long), Cond.methodLink RX1 85 yX0_wholePart, Cond.static yX0_wholePart, Cond.code yX0_wholePart cX0_wholePart 9 (some .long), Cond.constantLong RX0 75 (9223372036854775807), Cond.methodLink RX1 88 yX1_cutToInt, Cond.static yX1_cutToInt]
def wsX1_compare_r5 : List Cond := [Cond.code yX1_cutToInt cX1_cutToInt 2 (some .long), Cond.constantLong RX1 94 (-2147483648), Cond.constantLong RX1 96 (2147483647), Cond.methodLink RX1 98 Lib.MathLoose.min_long.x, Cond.static Lib.MathLoose.min_long.x, Cond.code Lib.MathLoose.min_long.x Lib.MathLoose.min_long.code 4 (some .long), Cond.methodLink RX1 102 Lib.MathLoose.max_long.x, Cond.static Lib.MathLoose.max_long.x, Cond.code Lib.MathLoose.max_long.x Lib.MathLoose.max_long.code 4 (some .long), Cond.methodLink RX1 55 yX0_place, Cond.static yX0_place, Cond.code yX0_place cX0_place 5 (some .long), Cond.methodLink RX1 61 yX1_sideOf, Cond.static yX1_sideOf, Cond.code yX1_sideOf cX1_sideOf 4 (some .int)]
def wsX1_compare : List Cond := .code yX1_compare cX1_compare 12 (some .int) :: ((wsX1_compare_r1 ++ (wsX1_compare_r2 ++ (wsX1_compare_r3 ++ (wsX1_compare_r4 ++ wsX1_compare_r5)))) ++ wsX10)
def wsX1_order_r1 : List Cond := [Cond.fieldLink RX1 9 "KindNumbers" "why" "I", Cond.methodLink RX1 13 yX1_isValue, Cond.static yX1_isValue, Cond.initialized RX1, Cond.code yX1_isValue cX1_isValue 3 (some .boolean), Cond.methodLink RX1 68 yX1_narrowed, Cond.static yX1_narrowed, Cond.code yX1_narrowed cX1_narrowed 3 (some .long), Cond.methodLink RX1 71 yX0_isNumber, Cond.static yX0_isNumber, Cond.initialized RX0, Cond.code yX0_isNumber cX0_isNumber 5 (some .boolean), Cond.methodLink RX0 30 yX0_size, Cond.static yX0_size, Cond.code yX0_size cX0_size 3 (some .long), Cond.constantLong RX0 28 (-1), Cond.methodLink RX0 25 yX0_signBit, Cond.static yX0_signBit, Cond.code yX0_signBit cX0_signBit 1 (some .long), Cond.constantLong RX0 19 (2147483648), Cond.constantLong RX0 23 (-9223372036854775808), Cond.methodLink RX0 13 yX0_infinity, Cond.static yX0_infinity, Cond.code yX0_infinity cX0_infinity 1 (some .long)]
def wsX1_order_r2 : List Cond := [Cond.constantLong RX0 9 (2139095040), Cond.constantLong RX0 11 (9218868437227405312), Cond.methodLink RX1 21 yX1_fails, Cond.instanceMethod yX1_fails, Cond.selects RX1 yX1_fails yX1_fails, Cond.code yX1_fails cX1_fails 3 (some .int), Cond.methodLink RX1 65 yX0_placeWithZerosApart, Cond.static yX0_placeWithZerosApart, Cond.code yX0_placeWithZerosApart cX0_placeWithZerosApart 5 (some .long), Cond.methodLink RX0 34 yX0_isNegative, Cond.static yX0_isNegative, Cond.code yX0_isNegative cX0_isNegative 3 (some .boolean), Cond.methodLink RX1 61 yX1_sideOf, Cond.static yX1_sideOf, Cond.code yX1_sideOf cX1_sideOf 4 (some .int)]
def wsX1_order : List Cond := .code yX1_order cX1_order 6 (some .int) :: ((wsX1_order_r1 ++ wsX1_order_r2) ++ wsX10)
def wsX1_failed : List Cond := .code yX1_failed cX1_failed 1 (some .int) :: ([.fieldLink RX1 9 "KindNumbers" "why" "I"] ++ wsX10)
def wsX2_isNone : List Cond := .code yX2_isNone cX2_isNone 2 (some .boolean) :: ([.constantLong RX2 9 (9223372036854775807), .constantLong RX2 13 (9218868437227405312)])
def wsX2_isInfinite : List Cond := .code yX2_isInfinite cX2_isInfinite 2 (some .boolean) :: ([.constantLong RX2 9 (9223372036854775807), .constantLong RX2 13 (9218868437227405312)])
def wsX2_isZero : List Cond := .code yX2_isZero cX2_isZero 2 (some .boolean) :: ([.constantLong RX2 9 (9223372036854775807)])
def wsX2_negative : List Cond := .code yX2_negative cX2_negative 2 (some .long) :: ([.constantLong RX2 15 (-9223372036854775808)])
def wsX2_exponent : List Cond := .code yX2_exponent cX2_exponent 6 (some .int) :: ([.constantLong RX2 17 (2047), .constantLong RX2 19 (4503599627370495), .constantLong RX2 21 (4503599627370496)])
def wsX2_significand : List Cond := .code yX2_significand cX2_significand 4 (some .long) :: ([.constantLong RX2 19 (4503599627370495), .constantLong RX2 17 (2047), .constantLong RX2 21 (4503599627370496)])
def wsX2_rounded : List Cond := .code yX2_rounded cX2_rounded 18 (some .long) :: ([.constantLong RX2 23 (2305843009213693952)])
def wsX2_made : List Cond := .code yX2_made cX2_made 7 (some .long) :: ([.constantLong RX2 15 (-9223372036854775808), .methodLink RX2 25 yX2_rounded, .static yX2_rounded, .initialized RX2, .code yX2_rounded cX2_rounded 18 (some .long), .constantLong RX2 23 (2305843009213693952)])
def wsX2_add_r1 : List Cond := [Cond.methodLink RX2 29 yX2_isInfinite, Cond.static yX2_isInfinite, Cond.initialized RX2, Cond.code yX2_isInfinite cX2_isInfinite 2 (some .boolean), Cond.constantLong RX2 9 (9223372036854775807), Cond.constantLong RX2 13 (9218868437227405312), Cond.methodLink RX2 33 yX2_isZero, Cond.static yX2_isZero, Cond.code yX2_isZero cX2_isZero 2 (some .boolean), Cond.methodLink RX2 36 yX2_exponent, Cond.static yX2_exponent, Cond.code yX2_exponent cX2_exponent 6 (some .int), Cond.constantLong RX2 17 (2047), Cond.constantLong RX2 19 (4503599627370495), Cond.constantLong RX2 21 (4503599627370496), Cond.methodLink RX2 40 yX2_significand, Cond.static yX2_significand, Cond.code yX2_significand cX2_significand 4 (some .long), Cond.methodLink RX2 44 yX2_made, Cond.static yX2_made, Cond.code yX2_made cX2_made 7 (some .long), Cond.constantLong RX2 15 (-9223372036854775808), Cond.methodLink RX2 25 yX2_rounded, Cond.static yX2_rounded]
def wsX2_add_r2 : List Cond := [Cond.code yX2_rounded cX2_rounded 18 (some .long), Cond.constantLong RX2 23 (2305843009213693952)]
def wsX2_add : List Cond := .code yX2_add cX2_add 20 (some .long) :: ((wsX2_add_r1 ++ wsX2_add_r2))
def wsX2_multiply_r1 : List Cond := [Cond.constantLong RX2 15 (-9223372036854775808), Cond.constantLong RX2 13 (9218868437227405312), Cond.constantLong RX2 48 (134217727), Cond.constantLong RX2 50 (524287), Cond.methodLink RX2 29 yX2_isInfinite, Cond.static yX2_isInfinite, Cond.initialized RX2, Cond.code yX2_isInfinite cX2_isInfinite 2 (some .boolean), Cond.constantLong RX2 9 (9223372036854775807), Cond.methodLink RX2 33 yX2_isZero, Cond.static yX2_isZero, Cond.code yX2_isZero cX2_isZero 2 (some .boolean), Cond.methodLink RX2 40 yX2_significand, Cond.static yX2_significand, Cond.code yX2_significand cX2_significand 4 (some .long), Cond.constantLong RX2 19 (4503599627370495), Cond.constantLong RX2 17 (2047), Cond.constantLong RX2 21 (4503599627370496), Cond.methodLink RX2 36 yX2_exponent, Cond.static yX2_exponent, Cond.code yX2_exponent cX2_exponent 6 (some .int), Cond.methodLink RX2 44 yX2_made, Cond.static yX2_made, Cond.code yX2_made cX2_made 7 (some .long)]
def wsX2_multiply_r2 : List Cond := [Cond.methodLink RX2 25 yX2_rounded, Cond.static yX2_rounded, Cond.code yX2_rounded cX2_rounded 18 (some .long), Cond.constantLong RX2 23 (2305843009213693952)]
def wsX2_multiply : List Cond := .code yX2_multiply cX2_multiply 21 (some .long) :: ((wsX2_multiply_r1 ++ wsX2_multiply_r2))
def wsX2_divide_r1 : List Cond := [Cond.constantLong RX2 15 (-9223372036854775808), Cond.constantLong RX2 13 (9218868437227405312), Cond.methodLink RX2 29 yX2_isInfinite, Cond.static yX2_isInfinite, Cond.initialized RX2, Cond.code yX2_isInfinite cX2_isInfinite 2 (some .boolean), Cond.constantLong RX2 9 (9223372036854775807), Cond.methodLink RX2 33 yX2_isZero, Cond.static yX2_isZero, Cond.code yX2_isZero cX2_isZero 2 (some .boolean), Cond.methodLink RX2 40 yX2_significand, Cond.static yX2_significand, Cond.code yX2_significand cX2_significand 4 (some .long), Cond.constantLong RX2 19 (4503599627370495), Cond.constantLong RX2 17 (2047), Cond.constantLong RX2 21 (4503599627370496), Cond.methodLink RX2 36 yX2_exponent, Cond.static yX2_exponent, Cond.code yX2_exponent cX2_exponent 6 (some .int), Cond.methodLink RX2 44 yX2_made, Cond.static yX2_made, Cond.code yX2_made cX2_made 7 (some .long), Cond.methodLink RX2 25 yX2_rounded, Cond.static yX2_rounded]
def wsX2_divide_r2 : List Cond := [Cond.code yX2_rounded cX2_rounded 18 (some .long), Cond.constantLong RX2 23 (2305843009213693952)]
def wsX2_divide : List Cond := .code yX2_divide cX2_divide 13 (some .long) :: ((wsX2_divide_r1 ++ wsX2_divide_r2))
def wsX2_compare : List Cond := .code yX2_compare cX2_compare 8 (some .int) :: ([.constantLong RX2 9 (9223372036854775807), .methodLink RX2 33 yX2_isZero, .static yX2_isZero, .initialized RX2, .code yX2_isZero cX2_isZero 2 (some .boolean)])
def wsX2_of : List Cond := .code yX2_of cX2_of 6 (some .long) :: ([.constantLong RX2 52 (4611686018427387904), .constantLong RX2 54 (3), .methodLink RX2 44 yX2_made, .static yX2_made, .initialized RX2, .code yX2_made cX2_made 7 (some .long), .constantLong RX2 15 (-9223372036854775808), .methodLink RX2 25 yX2_rounded, .static yX2_rounded, .code yX2_rounded cX2_rounded 18 (some .long), .constantLong RX2 23 (2305843009213693952)])
def wsX2_wide : List Cond := .code yX2_wide cX2_wide 8 (some .long) :: ([.constantLong RX2 15 (-9223372036854775808), .constant RX2 64 (8388607), .constantLong RX2 13 (9218868437227405312), .constantLong RX2 65 (8388608), .methodLink RX2 25 yX2_rounded, .static yX2_rounded, .initialized RX2, .code yX2_rounded cX2_rounded 18 (some .long), .constantLong RX2 23 (2305843009213693952)])
def wsX2_floatOf : List Cond := .code yX2_floatOf cX2_floatOf 9 (some .long) :: ([.constantLong RX2 52 (4611686018427387904), .constantLong RX2 54 (3), .constant RX2 58 (-2147483648), .methodLink RX2 25 yX2_rounded, .static yX2_rounded, .initialized RX2, .code yX2_rounded cX2_rounded 18 (some .long), .constantLong RX2 23 (2305843009213693952), .methodLink RX2 59 yX2_wide, .static yX2_wide, .code yX2_wide cX2_wide 8 (some .long), .constantLong RX2 15 (-9223372036854775808), .constant RX2 64 (8388607), .constantLong RX2 13 (9218868437227405312), .constantLong RX2 65 (8388608)])
def wsX2_narrow : List Cond := .code yX2_narrow cX2_narrow 3 (some .int) :: ([.constant RX2 58 (-2147483648), .constant RX2 63 (2139095040), .methodLink RX2 29 yX2_isInfinite, .static yX2_isInfinite, .initialized RX2, .code yX2_isInfinite cX2_isInfinite 2 (some .boolean), .constantLong RX2 9 (9223372036854775807), .constantLong RX2 13 (9218868437227405312), .methodLink RX2 33 yX2_isZero, .static yX2_isZero, .code yX2_isZero cX2_isZero 2 (some .boolean), .methodLink RX2 40 yX2_significand, .static yX2_significand, .code yX2_significand cX2_significand 4 (some .long), .constantLong RX2 19 (4503599627370495), .constantLong RX2 17 (2047), .constantLong RX2 21 (4503599627370496), .methodLink RX2 36 yX2_exponent, .static yX2_exponent, .code yX2_exponent cX2_exponent 6 (some .int), .methodLink RX2 25 yX2_rounded, .static yX2_rounded, .code yX2_rounded cX2_rounded 18 (some .long), .constantLong RX2 23 (2305843009213693952)])
def wsX2_cut : List Cond := .code yX2_cut cX2_cut 5 (some .long) :: ([.methodLink RX2 33 yX2_isZero, .static yX2_isZero, .initialized RX2, .code yX2_isZero cX2_isZero 2 (some .boolean), .constantLong RX2 9 (9223372036854775807), .methodLink RX2 36 yX2_exponent, .static yX2_exponent, .code yX2_exponent cX2_exponent 6 (some .int), .constantLong RX2 17 (2047), .constantLong RX2 19 (4503599627370495), .constantLong RX2 21 (4503599627370496), .methodLink RX2 40 yX2_significand, .static yX2_significand, .code yX2_significand cX2_significand 4 (some .long)])
def wsX2_isGreat : List Cond := .code yX2_isGreat cX2_isGreat 2 (some .boolean) :: ([.methodLink RX2 29 yX2_isInfinite, .static yX2_isInfinite, .initialized RX2, .code yX2_isInfinite cX2_isInfinite 2 (some .boolean), .constantLong RX2 9 (9223372036854775807), .constantLong RX2 13 (9218868437227405312), .methodLink RX2 33 yX2_isZero, .static yX2_isZero, .code yX2_isZero cX2_isZero 2 (some .boolean), .methodLink RX2 36 yX2_exponent, .static yX2_exponent, .code yX2_exponent cX2_exponent 6 (some .int), .constantLong RX2 17 (2047), .constantLong RX2 19 (4503599627370495), .constantLong RX2 21 (4503599627370496)])
def wsX3_init : List Cond := .code yX3_init cX3_init 1 none :: ([.methodLink RX3 1 objectInit, .instanceMethod objectInit, .code objectInit ⟨#[0xb1]⟩ 1 none])
def wsX3_failed : List Cond := .code yX3_failed cX3_failed 1 (some .int) :: ([.fieldLink RX3 7 "KindNumbersModel" "failed" "I"] ++ wsX30)
def wsX3_isNumber : List Cond := .code yX3_isNumber cX3_isNumber 1 (some .boolean) :: ([])
def wsX3_hasBits : List Cond := .code yX3_hasBits cX3_hasBits 3 (some .boolean) :: ([.constantLong RX3 13 (-128), .constantLong RX3 15 (127), .constantLong RX3 17 (-32768), .constantLong RX3 19 (32767), .constantLong RX3 21 (65535), .constantLong RX3 25 (-2147483648), .constantLong RX3 27 (2147483647), .constantLong RX3 29 (4294967295), .methodLink RX3 31 yX2_wide, .static yX2_wide, .initialized RX2, .code yX2_wide cX2_wide 8 (some .long), .constantLong RX2 15 (-9223372036854775808), .constant RX2 64 (8388607), .constantLong RX2 13 (9218868437227405312), .constantLong RX2 65 (8388608), .methodLink RX2 25 yX2_rounded, .static yX2_rounded, .code yX2_rounded cX2_rounded 18 (some .long), .constantLong RX2 23 (2305843009213693952), .methodLink RX3 37 yX2_isNone, .static yX2_isNone, .code yX2_isNone cX2_isNone 2 (some .boolean), .constantLong RX2 9 (9223372036854775807)])
def wsX3_isWider : List Cond := .code yX3_isWider cX3_isWider 2 (some .boolean) :: ([])
def wsX3_widened_r1 : List Cond := [Cond.constantLong RX3 29 (4294967295), Cond.methodLink RX3 31 yX2_wide, Cond.static yX2_wide, Cond.initialized RX2, Cond.code yX2_wide cX2_wide 8 (some .long), Cond.constantLong RX2 15 (-9223372036854775808), Cond.constant RX2 64 (8388607), Cond.constantLong RX2 13 (9218868437227405312), Cond.constantLong RX2 65 (8388608), Cond.methodLink RX2 25 yX2_rounded, Cond.static yX2_rounded, Cond.code yX2_rounded cX2_rounded 18 (some .long), Cond.constantLong RX2 23 (2305843009213693952), Cond.methodLink RX3 41 yX2_of, Cond.static yX2_of, Cond.code yX2_of cX2_of 6 (some .long), Cond.constantLong RX2 52 (4611686018427387904), Cond.constantLong RX2 54 (3), Cond.methodLink RX2 44 yX2_made, Cond.static yX2_made, Cond.code yX2_made cX2_made 7 (some .long), Cond.methodLink RX3 45 yX2_floatOf, Cond.static yX2_floatOf, Cond.code yX2_floatOf cX2_floatOf 9 (some .long)]
def wsX3_widened_r2 : List Cond := [Cond.constant RX2 58 (-2147483648), Cond.methodLink RX2 59 yX2_wide, Cond.methodLink RX3 48 yX2_narrow, Cond.static yX2_narrow, Cond.code yX2_narrow cX2_narrow 3 (some .int), Cond.constant RX2 63 (2139095040), Cond.methodLink RX2 29 yX2_isInfinite, Cond.static yX2_isInfinite, Cond.code yX2_isInfinite cX2_isInfinite 2 (some .boolean), Cond.constantLong RX2 9 (9223372036854775807), Cond.methodLink RX2 33 yX2_isZero, Cond.static yX2_isZero, Cond.code yX2_isZero cX2_isZero 2 (some .boolean), Cond.methodLink RX2 40 yX2_significand, Cond.static yX2_significand, Cond.code yX2_significand cX2_significand 4 (some .long), Cond.constantLong RX2 19 (4503599627370495), Cond.constantLong RX2 17 (2047), Cond.constantLong RX2 21 (4503599627370496), Cond.methodLink RX2 36 yX2_exponent, Cond.static yX2_exponent, Cond.code yX2_exponent cX2_exponent 6 (some .int)]
def wsX3_widened : List Cond := .code yX3_widened cX3_widened 4 (some .long) :: ((wsX3_widened_r1 ++ wsX3_widened_r2))
def wsX3_cut_r1 : List Cond := [Cond.constantLong RX3 61 (9223372036854775807), Cond.constantLong RX3 27 (2147483647), Cond.methodLink RX3 63 yX2_isGreat, Cond.static yX2_isGreat, Cond.initialized RX2, Cond.code yX2_isGreat cX2_isGreat 2 (some .boolean), Cond.methodLink RX2 29 yX2_isInfinite, Cond.static yX2_isInfinite, Cond.code yX2_isInfinite cX2_isInfinite 2 (some .boolean), Cond.constantLong RX2 9 (9223372036854775807), Cond.constantLong RX2 13 (9218868437227405312), Cond.methodLink RX2 33 yX2_isZero, Cond.static yX2_isZero, Cond.code yX2_isZero cX2_isZero 2 (some .boolean), Cond.methodLink RX2 36 yX2_exponent, Cond.static yX2_exponent, Cond.code yX2_exponent cX2_exponent 6 (some .int), Cond.constantLong RX2 17 (2047), Cond.constantLong RX2 19 (4503599627370495), Cond.constantLong RX2 21 (4503599627370496), Cond.methodLink RX3 66 yX2_cut, Cond.static yX2_cut, Cond.code yX2_cut cX2_cut 5 (some .long), Cond.methodLink RX2 40 yX2_significand]
def wsX3_cut_r2 : List Cond := [Cond.static yX2_significand, Cond.code yX2_significand cX2_significand 4 (some .long)]
def wsX3_cut : List Cond := .code yX3_cut cX3_cut 9 (some .long) :: ((wsX3_cut_r1 ++ wsX3_cut_r2))
def wsX3_casted_r1 : List Cond := [Cond.constantLong RX3 29 (4294967295), Cond.methodLink RX3 52 yX3_widened, Cond.static yX3_widened, Cond.initialized RX3, Cond.code yX3_widened cX3_widened 4 (some .long), Cond.methodLink RX3 31 yX2_wide, Cond.static yX2_wide, Cond.initialized RX2, Cond.code yX2_wide cX2_wide 8 (some .long), Cond.constantLong RX2 15 (-9223372036854775808), Cond.constant RX2 64 (8388607), Cond.constantLong RX2 13 (9218868437227405312), Cond.constantLong RX2 65 (8388608), Cond.methodLink RX2 25 yX2_rounded, Cond.static yX2_rounded, Cond.code yX2_rounded cX2_rounded 18 (some .long), Cond.constantLong RX2 23 (2305843009213693952), Cond.methodLink RX3 41 yX2_of, Cond.static yX2_of, Cond.code yX2_of cX2_of 6 (some .long), Cond.constantLong RX2 52 (4611686018427387904), Cond.constantLong RX2 54 (3), Cond.methodLink RX2 44 yX2_made, Cond.static yX2_made]
def wsX3_casted_r2 : List Cond := [Cond.code yX2_made cX2_made 7 (some .long), Cond.methodLink RX3 45 yX2_floatOf, Cond.static yX2_floatOf, Cond.code yX2_floatOf cX2_floatOf 9 (some .long), Cond.constant RX2 58 (-2147483648), Cond.methodLink RX2 59 yX2_wide, Cond.methodLink RX3 48 yX2_narrow, Cond.static yX2_narrow, Cond.code yX2_narrow cX2_narrow 3 (some .int), Cond.constant RX2 63 (2139095040), Cond.methodLink RX2 29 yX2_isInfinite, Cond.static yX2_isInfinite, Cond.code yX2_isInfinite cX2_isInfinite 2 (some .boolean), Cond.constantLong RX2 9 (9223372036854775807), Cond.methodLink RX2 33 yX2_isZero, Cond.static yX2_isZero, Cond.code yX2_isZero cX2_isZero 2 (some .boolean), Cond.methodLink RX2 40 yX2_significand, Cond.static yX2_significand, Cond.code yX2_significand cX2_significand 4 (some .long), Cond.constantLong RX2 19 (4503599627370495), Cond.constantLong RX2 17 (2047), Cond.constantLong RX2 21 (4503599627370496), Cond.methodLink RX2 36 yX2_exponent]
def wsX3_casted_r3 : List Cond := [Cond.static yX2_exponent, Cond.code yX2_exponent cX2_exponent 6 (some .int), Cond.methodLink RX3 56 yX3_cut, Cond.static yX3_cut, Cond.code yX3_cut cX3_cut 9 (some .long), Cond.constantLong RX3 61 (9223372036854775807), Cond.constantLong RX3 27 (2147483647), Cond.methodLink RX3 63 yX2_isGreat, Cond.static yX2_isGreat, Cond.code yX2_isGreat cX2_isGreat 2 (some .boolean), Cond.methodLink RX3 66 yX2_cut, Cond.static yX2_cut, Cond.code yX2_cut cX2_cut 5 (some .long)]
def wsX3_casted : List Cond := .code yX3_casted cX3_casted 6 (some .long) :: ((wsX3_casted_r1 ++ (wsX3_casted_r2 ++ wsX3_casted_r3)))
def wsX3_rest : List Cond := .code yX3_rest cX3_rest 15 (some .long) :: ([.constantLong RX3 81 (-9223372036854775808), .methodLink RX3 69 yX2_isInfinite, .static yX2_isInfinite, .initialized RX2, .code yX2_isInfinite cX2_isInfinite 2 (some .boolean), .constantLong RX2 9 (9223372036854775807), .constantLong RX2 13 (9218868437227405312), .methodLink RX3 72 yX2_isZero, .static yX2_isZero, .code yX2_isZero cX2_isZero 2 (some .boolean), .static yX2_significand, .code yX2_significand cX2_significand 4 (some .long), .constantLong RX2 19 (4503599627370495), .constantLong RX2 17 (2047), .constantLong RX2 21 (4503599627370496), .static yX2_exponent, .code yX2_exponent cX2_exponent 6 (some .int), .static yX2_made, .code yX2_made cX2_made 7 (some .long), .constantLong RX2 15 (-9223372036854775808), .methodLink RX2 25 yX2_rounded, .static yX2_rounded, .code yX2_rounded cX2_rounded 18 (some .long), .constantLong RX2 23 (2305843009213693952)])
def wsX3_has_r1 : List Cond := [Cond.methodLink RX3 87 yX3_hasBits, Cond.static yX3_hasBits, Cond.initialized RX3, Cond.code yX3_hasBits cX3_hasBits 3 (some .boolean), Cond.constantLong RX3 13 (-128), Cond.constantLong RX3 15 (127), Cond.constantLong RX3 17 (-32768), Cond.constantLong RX3 19 (32767), Cond.constantLong RX3 21 (65535), Cond.constantLong RX3 25 (-2147483648), Cond.constantLong RX3 27 (2147483647), Cond.constantLong RX3 29 (4294967295), Cond.methodLink RX3 31 yX2_wide, Cond.static yX2_wide, Cond.initialized RX2, Cond.code yX2_wide cX2_wide 8 (some .long), Cond.constantLong RX2 15 (-9223372036854775808), Cond.constant RX2 64 (8388607), Cond.constantLong RX2 13 (9218868437227405312), Cond.constantLong RX2 65 (8388608), Cond.methodLink RX2 25 yX2_rounded, Cond.static yX2_rounded, Cond.code yX2_rounded cX2_rounded 18 (some .long), Cond.constantLong RX2 23 (2305843009213693952)]
def wsX3_has_r2 : List Cond := [Cond.methodLink RX3 37 yX2_isNone, Cond.static yX2_isNone, Cond.code yX2_isNone cX2_isNone 2 (some .boolean), Cond.constantLong RX2 9 (9223372036854775807)]
def wsX3_has : List Cond := .code yX3_has cX3_has 4 (some .boolean) :: ((wsX3_has_r1 ++ wsX3_has_r2))
def wsX3_widens : List Cond := .code yX3_widens cX3_widens 3 (some .boolean) :: ([.methodLink RX3 91 yX3_isWider, .static yX3_isWider, .initialized RX3, .code yX3_isWider cX3_isWider 2 (some .boolean)])
def wsX3_cast_r1 : List Cond := [Cond.fieldLink RX3 7 "KindNumbersModel" "failed" "I", Cond.methodLink RX3 95 yX3_isNumber, Cond.static yX3_isNumber, Cond.initialized RX3, Cond.code yX3_isNumber cX3_isNumber 1 (some .boolean), Cond.methodLink RX3 87 yX3_hasBits, Cond.static yX3_hasBits, Cond.code yX3_hasBits cX3_hasBits 3 (some .boolean), Cond.constantLong RX3 13 (-128), Cond.constantLong RX3 15 (127), Cond.constantLong RX3 17 (-32768), Cond.constantLong RX3 19 (32767), Cond.constantLong RX3 21 (65535), Cond.constantLong RX3 25 (-2147483648), Cond.constantLong RX3 27 (2147483647), Cond.constantLong RX3 29 (4294967295), Cond.methodLink RX3 31 yX2_wide, Cond.static yX2_wide, Cond.initialized RX2, Cond.code yX2_wide cX2_wide 8 (some .long), Cond.constantLong RX2 15 (-9223372036854775808), Cond.constant RX2 64 (8388607), Cond.constantLong RX2 13 (9218868437227405312), Cond.constantLong RX2 65 (8388608)]
def wsX3_cast_r2 : List Cond := [Cond.methodLink RX2 25 yX2_rounded, Cond.static yX2_rounded, Cond.code yX2_rounded cX2_rounded 18 (some .long), Cond.constantLong RX2 23 (2305843009213693952), Cond.methodLink RX3 37 yX2_isNone, Cond.static yX2_isNone, Cond.code yX2_isNone cX2_isNone 2 (some .boolean), Cond.constantLong RX2 9 (9223372036854775807), Cond.methodLink RX3 99 yX3_casted, Cond.static yX3_casted, Cond.code yX3_casted cX3_casted 6 (some .long), Cond.methodLink RX3 52 yX3_widened, Cond.static yX3_widened, Cond.code yX3_widened cX3_widened 4 (some .long), Cond.methodLink RX3 41 yX2_of, Cond.static yX2_of, Cond.code yX2_of cX2_of 6 (some .long), Cond.constantLong RX2 52 (4611686018427387904), Cond.constantLong RX2 54 (3), Cond.methodLink RX2 44 yX2_made, Cond.static yX2_made, Cond.code yX2_made cX2_made 7 (some .long), Cond.methodLink RX3 45 yX2_floatOf, Cond.static yX2_floatOf]
def wsX3_cast_r3 : List Cond := [Cond.code yX2_floatOf cX2_floatOf 9 (some .long), Cond.constant RX2 58 (-2147483648), Cond.methodLink RX2 59 yX2_wide, Cond.methodLink RX3 48 yX2_narrow, Cond.static yX2_narrow, Cond.code yX2_narrow cX2_narrow 3 (some .int), Cond.constant RX2 63 (2139095040), Cond.methodLink RX2 29 yX2_isInfinite, Cond.static yX2_isInfinite, Cond.code yX2_isInfinite cX2_isInfinite 2 (some .boolean), Cond.methodLink RX2 33 yX2_isZero, Cond.static yX2_isZero, Cond.code yX2_isZero cX2_isZero 2 (some .boolean), Cond.methodLink RX2 40 yX2_significand, Cond.static yX2_significand, Cond.code yX2_significand cX2_significand 4 (some .long), Cond.constantLong RX2 19 (4503599627370495), Cond.constantLong RX2 17 (2047), Cond.constantLong RX2 21 (4503599627370496), Cond.methodLink RX2 36 yX2_exponent, Cond.static yX2_exponent, Cond.code yX2_exponent cX2_exponent 6 (some .int), Cond.methodLink RX3 56 yX3_cut, Cond.static yX3_cut]
def wsX3_cast_r4 : List Cond := [Cond.code yX3_cut cX3_cut 9 (some .long), Cond.constantLong RX3 61 (9223372036854775807), Cond.methodLink RX3 63 yX2_isGreat, Cond.static yX2_isGreat, Cond.code yX2_isGreat cX2_isGreat 2 (some .boolean), Cond.methodLink RX3 66 yX2_cut, Cond.static yX2_cut, Cond.code yX2_cut cX2_cut 5 (some .long)]
def wsX3_cast : List Cond := .code yX3_cast cX3_cast 6 (some .long) :: ((wsX3_cast_r1 ++ (wsX3_cast_r2 ++ (wsX3_cast_r3 ++ wsX3_cast_r4))) ++ wsX30)
def wsX3_areNumbers_r1 : List Cond := [Cond.methodLink RX3 95 yX3_isNumber, Cond.static yX3_isNumber, Cond.initialized RX3, Cond.code yX3_isNumber cX3_isNumber 1 (some .boolean), Cond.methodLink RX3 87 yX3_hasBits, Cond.static yX3_hasBits, Cond.code yX3_hasBits cX3_hasBits 3 (some .boolean), Cond.constantLong RX3 13 (-128), Cond.constantLong RX3 15 (127), Cond.constantLong RX3 17 (-32768), Cond.constantLong RX3 19 (32767), Cond.constantLong RX3 21 (65535), Cond.constantLong RX3 25 (-2147483648), Cond.constantLong RX3 27 (2147483647), Cond.constantLong RX3 29 (4294967295), Cond.methodLink RX3 31 yX2_wide, Cond.static yX2_wide, Cond.initialized RX2, Cond.code yX2_wide cX2_wide 8 (some .long), Cond.constantLong RX2 15 (-9223372036854775808), Cond.constant RX2 64 (8388607), Cond.constantLong RX2 13 (9218868437227405312), Cond.constantLong RX2 65 (8388608), Cond.methodLink RX2 25 yX2_rounded]
def wsX3_areNumbers_r2 : List Cond := [Cond.static yX2_rounded, Cond.code yX2_rounded cX2_rounded 18 (some .long), Cond.constantLong RX2 23 (2305843009213693952), Cond.methodLink RX3 37 yX2_isNone, Cond.static yX2_isNone, Cond.code yX2_isNone cX2_isNone 2 (some .boolean), Cond.constantLong RX2 9 (9223372036854775807)]
def wsX3_areNumbers : List Cond := .code yX3_areNumbers cX3_areNumbers 7 (some .boolean) :: ((wsX3_areNumbers_r1 ++ wsX3_areNumbers_r2))
def wsX3_whole : List Cond := .code yX3_whole cX3_whole 9 (some .long) :: ([.fieldLink RX3 7 "KindNumbersModel" "failed" "I", .constantLong RX3 120 (-1)] ++ wsX30)
def wsX3_floating_r1 : List Cond := [Cond.fieldLink RX3 7 "KindNumbersModel" "failed" "I", Cond.methodLink RX3 69 yX2_isInfinite, Cond.static yX2_isInfinite, Cond.initialized RX2, Cond.code yX2_isInfinite cX2_isInfinite 2 (some .boolean), Cond.constantLong RX2 9 (9223372036854775807), Cond.constantLong RX2 13 (9218868437227405312), Cond.methodLink RX3 122 yX2_negative, Cond.static yX2_negative, Cond.code yX2_negative cX2_negative 2 (some .long), Cond.constantLong RX2 15 (-9223372036854775808), Cond.methodLink RX3 72 yX2_isZero, Cond.static yX2_isZero, Cond.code yX2_isZero cX2_isZero 2 (some .boolean), Cond.methodLink RX3 125 yX2_add, Cond.static yX2_add, Cond.code yX2_add cX2_add 20 (some .long), Cond.methodLink RX2 29 yX2_isInfinite, Cond.methodLink RX2 33 yX2_isZero, Cond.methodLink RX2 36 yX2_exponent, Cond.static yX2_exponent, Cond.code yX2_exponent cX2_exponent 6 (some .int), Cond.constantLong RX2 17 (2047), Cond.constantLong RX2 19 (4503599627370495)]
def wsX3_floating_r2 : List Cond := [Cond.constantLong RX2 21 (4503599627370496), Cond.methodLink RX2 40 yX2_significand, Cond.static yX2_significand, Cond.code yX2_significand cX2_significand 4 (some .long), Cond.methodLink RX2 44 yX2_made, Cond.static yX2_made, Cond.code yX2_made cX2_made 7 (some .long), Cond.methodLink RX2 25 yX2_rounded, Cond.static yX2_rounded, Cond.code yX2_rounded cX2_rounded 18 (some .long), Cond.constantLong RX2 23 (2305843009213693952), Cond.methodLink RX3 129 yX2_multiply, Cond.static yX2_multiply, Cond.code yX2_multiply cX2_multiply 21 (some .long), Cond.constantLong RX2 48 (134217727), Cond.constantLong RX2 50 (524287), Cond.methodLink RX3 132 yX2_divide, Cond.static yX2_divide, Cond.code yX2_divide cX2_divide 13 (some .long), Cond.methodLink RX3 135 yX3_rest, Cond.static yX3_rest, Cond.initialized RX3, Cond.code yX3_rest cX3_rest 15 (some .long), Cond.constantLong RX3 81 (-9223372036854775808)]
def wsX3_floating : List Cond := .code yX3_floating cX3_floating 11 (some .long) :: ((wsX3_floating_r1 ++ wsX3_floating_r2) ++ wsX30)
def wsX3_work_r1 : List Cond := [Cond.fieldLink RX3 7 "KindNumbersModel" "failed" "I", Cond.methodLink RX3 106 Lib.Math.max.name, Cond.static Lib.Math.max.name, Cond.initialized "java/lang/Math", Cond.code Lib.Math.max.name Lib.Math.max.code 2 (some .int), Cond.constantLong RX3 29 (4294967295), Cond.methodLink RX3 102 yX3_areNumbers, Cond.instanceMethod yX3_areNumbers, Cond.selects RX3 yX3_areNumbers yX3_areNumbers, Cond.initialized RX3, Cond.code yX3_areNumbers cX3_areNumbers 7 (some .boolean), Cond.methodLink RX3 95 yX3_isNumber, Cond.static yX3_isNumber, Cond.code yX3_isNumber cX3_isNumber 1 (some .boolean), Cond.methodLink RX3 87 yX3_hasBits, Cond.static yX3_hasBits, Cond.code yX3_hasBits cX3_hasBits 3 (some .boolean), Cond.constantLong RX3 13 (-128), Cond.constantLong RX3 15 (127), Cond.constantLong RX3 17 (-32768), Cond.constantLong RX3 19 (32767), Cond.constantLong RX3 21 (65535), Cond.constantLong RX3 25 (-2147483648), Cond.constantLong RX3 27 (2147483647)]
def wsX3_work_r2 : List Cond := [Cond.methodLink RX3 31 yX2_wide, Cond.static yX2_wide, Cond.initialized RX2, Cond.code yX2_wide cX2_wide 8 (some .long), Cond.constantLong RX2 15 (-9223372036854775808), Cond.constant RX2 64 (8388607), Cond.constantLong RX2 13 (9218868437227405312), Cond.constantLong RX2 65 (8388608), Cond.methodLink RX2 25 yX2_rounded, Cond.static yX2_rounded, Cond.code yX2_rounded cX2_rounded 18 (some .long), Cond.constantLong RX2 23 (2305843009213693952), Cond.methodLink RX3 37 yX2_isNone, Cond.static yX2_isNone, Cond.code yX2_isNone cX2_isNone 2 (some .boolean), Cond.constantLong RX2 9 (9223372036854775807), Cond.methodLink RX3 52 yX3_widened, Cond.static yX3_widened, Cond.code yX3_widened cX3_widened 4 (some .long), Cond.methodLink RX3 41 yX2_of, Cond.static yX2_of, Cond.code yX2_of cX2_of 6 (some .long), Cond.constantLong RX2 52 (4611686018427387904), Cond.constantLong RX2 54 (3)]
def wsX3_work_r3 : List Cond := [Cond.methodLink RX2 44 yX2_made, Cond.static yX2_made, Cond.code yX2_made cX2_made 7 (some .long), Cond.methodLink RX3 45 yX2_floatOf, Cond.static yX2_floatOf, Cond.code yX2_floatOf cX2_floatOf 9 (some .long), Cond.constant RX2 58 (-2147483648), Cond.methodLink RX2 59 yX2_wide, Cond.methodLink RX3 48 yX2_narrow, Cond.static yX2_narrow, Cond.code yX2_narrow cX2_narrow 3 (some .int), Cond.constant RX2 63 (2139095040), Cond.methodLink RX2 29 yX2_isInfinite, Cond.static yX2_isInfinite, Cond.code yX2_isInfinite cX2_isInfinite 2 (some .boolean), Cond.methodLink RX2 33 yX2_isZero, Cond.static yX2_isZero, Cond.code yX2_isZero cX2_isZero 2 (some .boolean), Cond.methodLink RX2 40 yX2_significand, Cond.static yX2_significand, Cond.code yX2_significand cX2_significand 4 (some .long), Cond.constantLong RX2 19 (4503599627370495), Cond.constantLong RX2 17 (2047), Cond.constantLong RX2 21 (4503599627370496)]
def wsX3_work_r4 : List Cond := [Cond.methodLink RX2 36 yX2_exponent, Cond.static yX2_exponent, Cond.code yX2_exponent cX2_exponent 6 (some .int), Cond.methodLink RX3 112 yX3_whole, Cond.instanceMethod yX3_whole, Cond.selects RX3 yX3_whole yX3_whole, Cond.code yX3_whole cX3_whole 9 (some .long), Cond.constantLong RX3 120 (-1), Cond.methodLink RX3 116 yX3_floating, Cond.instanceMethod yX3_floating, Cond.selects RX3 yX3_floating yX3_floating, Cond.code yX3_floating cX3_floating 11 (some .long), Cond.methodLink RX3 69 yX2_isInfinite, Cond.methodLink RX3 122 yX2_negative, Cond.static yX2_negative, Cond.code yX2_negative cX2_negative 2 (some .long), Cond.methodLink RX3 72 yX2_isZero, Cond.methodLink RX3 125 yX2_add, Cond.static yX2_add, Cond.code yX2_add cX2_add 20 (some .long), Cond.methodLink RX3 129 yX2_multiply, Cond.static yX2_multiply, Cond.code yX2_multiply cX2_multiply 21 (some .long), Cond.constantLong RX2 48 (134217727)]
def wsX3_work_r5 : List Cond := [Cond.constantLong RX2 50 (524287), Cond.methodLink RX3 132 yX2_divide, Cond.static yX2_divide, Cond.code yX2_divide cX2_divide 13 (some .long), Cond.methodLink RX3 135 yX3_rest, Cond.static yX3_rest, Cond.code yX3_rest cX3_rest 15 (some .long), Cond.constantLong RX3 81 (-9223372036854775808)]
def wsX3_work : List Cond := .code yX3_work cX3_work 15 (some .long) :: ((wsX3_work_r1 ++ (wsX3_work_r2 ++ (wsX3_work_r3 ++ (wsX3_work_r4 ++ wsX3_work_r5)))) ++ wsX30)
def wsX3_shift_r1 : List Cond := [Cond.fieldLink RX3 7 "KindNumbersModel" "failed" "I", Cond.methodLink RX3 87 yX3_hasBits, Cond.static yX3_hasBits, Cond.initialized RX3, Cond.code yX3_hasBits cX3_hasBits 3 (some .boolean), Cond.constantLong RX3 13 (-128), Cond.constantLong RX3 15 (127), Cond.constantLong RX3 17 (-32768), Cond.constantLong RX3 19 (32767), Cond.constantLong RX3 21 (65535), Cond.constantLong RX3 25 (-2147483648), Cond.constantLong RX3 27 (2147483647), Cond.constantLong RX3 29 (4294967295), Cond.methodLink RX3 31 yX2_wide, Cond.static yX2_wide, Cond.initialized RX2, Cond.code yX2_wide cX2_wide 8 (some .long), Cond.constantLong RX2 15 (-9223372036854775808), Cond.constant RX2 64 (8388607), Cond.constantLong RX2 13 (9218868437227405312), Cond.constantLong RX2 65 (8388608), Cond.methodLink RX2 25 yX2_rounded, Cond.static yX2_rounded, Cond.code yX2_rounded cX2_rounded 18 (some .long)]
def wsX3_shift_r2 : List Cond := [Cond.constantLong RX2 23 (2305843009213693952), Cond.methodLink RX3 37 yX2_isNone, Cond.static yX2_isNone, Cond.code yX2_isNone cX2_isNone 2 (some .boolean), Cond.constantLong RX2 9 (9223372036854775807)]
def wsX3_shift : List Cond := .code yX3_shift cX3_shift 9 (some .long) :: ((wsX3_shift_r1 ++ wsX3_shift_r2) ++ wsX30)
def wsJ13_compare_74951 : List Cond := .code yJ13_compare_74951 cJ13_compare_74951 4 (some .int) :: ([])
def wsX3_compare_r1 : List Cond := [Cond.fieldLink RX3 7 "KindNumbersModel" "failed" "I", Cond.methodLink RX3 106 Lib.Math.max.name, Cond.static Lib.Math.max.name, Cond.initialized "java/lang/Math", Cond.code Lib.Math.max.name Lib.Math.max.code 2 (some .int), Cond.methodLink RX3 102 yX3_areNumbers, Cond.instanceMethod yX3_areNumbers, Cond.selects RX3 yX3_areNumbers yX3_areNumbers, Cond.initialized RX3, Cond.code yX3_areNumbers cX3_areNumbers 7 (some .boolean), Cond.methodLink RX3 95 yX3_isNumber, Cond.static yX3_isNumber, Cond.code yX3_isNumber cX3_isNumber 1 (some .boolean), Cond.methodLink RX3 87 yX3_hasBits, Cond.static yX3_hasBits, Cond.code yX3_hasBits cX3_hasBits 3 (some .boolean), Cond.constantLong RX3 13 (-128), Cond.constantLong RX3 15 (127), Cond.constantLong RX3 17 (-32768), Cond.constantLong RX3 19 (32767), Cond.constantLong RX3 21 (65535), Cond.constantLong RX3 25 (-2147483648), Cond.constantLong RX3 27 (2147483647), Cond.constantLong RX3 29 (4294967295)]
def wsX3_compare_r2 : List Cond := [Cond.methodLink RX3 31 yX2_wide, Cond.static yX2_wide, Cond.initialized RX2, Cond.code yX2_wide cX2_wide 8 (some .long), Cond.constantLong RX2 15 (-9223372036854775808), Cond.constant RX2 64 (8388607), Cond.constantLong RX2 13 (9218868437227405312), Cond.constantLong RX2 65 (8388608), Cond.methodLink RX2 25 yX2_rounded, Cond.static yX2_rounded, Cond.code yX2_rounded cX2_rounded 18 (some .long), Cond.constantLong RX2 23 (2305843009213693952), Cond.methodLink RX3 37 yX2_isNone, Cond.static yX2_isNone, Cond.code yX2_isNone cX2_isNone 2 (some .boolean), Cond.constantLong RX2 9 (9223372036854775807), Cond.methodLink RX3 52 yX3_widened, Cond.static yX3_widened, Cond.code yX3_widened cX3_widened 4 (some .long), Cond.methodLink RX3 41 yX2_of, Cond.static yX2_of, Cond.code yX2_of cX2_of 6 (some .long), Cond.constantLong RX2 52 (4611686018427387904), Cond.constantLong RX2 54 (3)]
def wsX3_compare_r3 : List Cond := [Cond.methodLink RX2 44 yX2_made, Cond.static yX2_made, Cond.code yX2_made cX2_made 7 (some .long), Cond.methodLink RX3 45 yX2_floatOf, Cond.static yX2_floatOf, Cond.code yX2_floatOf cX2_floatOf 9 (some .long), Cond.constant RX2 58 (-2147483648), Cond.methodLink RX2 59 yX2_wide, Cond.methodLink RX3 48 yX2_narrow, Cond.static yX2_narrow, Cond.code yX2_narrow cX2_narrow 3 (some .int), Cond.constant RX2 63 (2139095040), Cond.methodLink RX2 29 yX2_isInfinite, Cond.static yX2_isInfinite, Cond.code yX2_isInfinite cX2_isInfinite 2 (some .boolean), Cond.methodLink RX2 33 yX2_isZero, Cond.static yX2_isZero, Cond.code yX2_isZero cX2_isZero 2 (some .boolean), Cond.methodLink RX2 40 yX2_significand, Cond.static yX2_significand, Cond.code yX2_significand cX2_significand 4 (some .long), Cond.constantLong RX2 19 (4503599627370495), Cond.constantLong RX2 17 (2047), Cond.constantLong RX2 21 (4503599627370496)]
def wsX3_compare_r4 : List Cond := [Cond.methodLink RX2 36 yX2_exponent, Cond.static yX2_exponent, Cond.code yX2_exponent cX2_exponent 6 (some .int), Cond.methodLink RX3 138 yJ13_compare_74951, Cond.static yJ13_compare_74951, Cond.initialized RJ13, Cond.code yJ13_compare_74951 cJ13_compare_74951 4 (some .int), Cond.methodLink RX3 142 yX2_compare, Cond.static yX2_compare, Cond.code yX2_compare cX2_compare 8 (some .int)]
def wsX3_compare : List Cond := .code yX3_compare cX3_compare 12 (some .int) :: ((wsX3_compare_r1 ++ (wsX3_compare_r2 ++ (wsX3_compare_r3 ++ wsX3_compare_r4))) ++ wsX30)
def wsX3_ranked : List Cond := .code yX3_ranked cX3_ranked 5 (some .long) :: ([.constantLong RX3 61 (9223372036854775807), .methodLink RX3 31 yX2_wide, .static yX2_wide, .initialized RX2, .code yX2_wide cX2_wide 8 (some .long), .constantLong RX2 15 (-9223372036854775808), .constant RX2 64 (8388607), .constantLong RX2 13 (9218868437227405312), .constantLong RX2 65 (8388608), .methodLink RX2 25 yX2_rounded, .static yX2_rounded, .code yX2_rounded cX2_rounded 18 (some .long), .constantLong RX2 23 (2305843009213693952)])
def wsX3_order_r1 : List Cond := [Cond.fieldLink RX3 7 "KindNumbersModel" "failed" "I", Cond.methodLink RX3 87 yX3_hasBits, Cond.static yX3_hasBits, Cond.initialized RX3, Cond.code yX3_hasBits cX3_hasBits 3 (some .boolean), Cond.constantLong RX3 13 (-128), Cond.constantLong RX3 15 (127), Cond.constantLong RX3 17 (-32768), Cond.constantLong RX3 19 (32767), Cond.constantLong RX3 21 (65535), Cond.constantLong RX3 25 (-2147483648), Cond.constantLong RX3 27 (2147483647), Cond.constantLong RX3 29 (4294967295), Cond.methodLink RX3 31 yX2_wide, Cond.static yX2_wide, Cond.initialized RX2, Cond.code yX2_wide cX2_wide 8 (some .long), Cond.constantLong RX2 15 (-9223372036854775808), Cond.constant RX2 64 (8388607), Cond.constantLong RX2 13 (9218868437227405312), Cond.constantLong RX2 65 (8388608), Cond.methodLink RX2 25 yX2_rounded, Cond.static yX2_rounded, Cond.code yX2_rounded cX2_rounded 18 (some .long)]
def wsX3_order_r2 : List Cond := [Cond.constantLong RX2 23 (2305843009213693952), Cond.methodLink RX3 37 yX2_isNone, Cond.static yX2_isNone, Cond.code yX2_isNone cX2_isNone 2 (some .boolean), Cond.constantLong RX2 9 (9223372036854775807), Cond.methodLink RX3 143 yX3_ranked, Cond.static yX3_ranked, Cond.code yX3_ranked cX3_ranked 5 (some .long), Cond.constantLong RX3 61 (9223372036854775807), Cond.methodLink RX3 138 yJ13_compare_74951, Cond.static yJ13_compare_74951, Cond.initialized RJ13, Cond.code yJ13_compare_74951 cJ13_compare_74951 4 (some .int)]
def wsX3_order : List Cond := .code yX3_order cX3_order 6 (some .int) :: ((wsX3_order_r1 ++ wsX3_order_r2) ++ wsX30)
def wsJ9_abs_067f4 : List Cond := .code yJ9_abs_067f4 cJ9_abs_067f4 2 (some .long) :: ([])
def wsJ9_max_7cf53 : List Cond := .code yJ9_max_7cf53 cJ9_max_7cf53 2 (some .int) :: ([])
def wsJ9_max_f86c9 : List Cond := .code yJ9_max_f86c9 cJ9_max_f86c9 4 (some .long) :: ([])
def wsJ9_min_7cf53 : List Cond := .code yJ9_min_7cf53 cJ9_min_7cf53 2 (some .int) :: ([])
def wsJ9_min_f86c9 : List Cond := .code yJ9_min_f86c9 cJ9_min_f86c9 4 (some .long) :: ([])
def wsL_law_r1 : List Cond := [Cond.classLink RL 7 RX1, Cond.instantiable RX1 1, Cond.initialized RX1, Cond.classLink RL 10 RX3, Cond.instantiable RX3 1, Cond.initialized RX3, Cond.constantLong RL 13 (4294967295), Cond.methodLink RL 9 yX1_init, Cond.instanceMethod yX1_init, Cond.code yX1_init cX1_init 1 none, Cond.methodLink RX1 1 objectInit, Cond.instanceMethod objectInit, Cond.code objectInit ⟨#[0xb1]⟩ 1 none, Cond.fieldLink RX1 9 "KindNumbers" "why" "I", Cond.methodLink RL 12 yX3_init, Cond.instanceMethod yX3_init, Cond.code yX3_init cX3_init 1 none, Cond.methodLink RX3 1 objectInit, Cond.methodLink RL 15 yX1_has, Cond.instanceMethod yX1_has, Cond.selects RX1 yX1_has yX1_has, Cond.code yX1_has cX1_has 4 (some .boolean), Cond.methodLink RX1 13 yX1_isValue, Cond.static yX1_isValue]
def wsL_law_r2 : List Cond := [Cond.code yX1_isValue cX1_isValue 3 (some .boolean), Cond.methodLink RX1 68 yX1_narrowed, Cond.static yX1_narrowed, Cond.code yX1_narrowed cX1_narrowed 3 (some .long), Cond.methodLink RX1 71 yX0_isNumber, Cond.static yX0_isNumber, Cond.initialized RX0, Cond.code yX0_isNumber cX0_isNumber 5 (some .boolean), Cond.methodLink RX0 30 yX0_size, Cond.static yX0_size, Cond.code yX0_size cX0_size 3 (some .long), Cond.constantLong RX0 28 (-1), Cond.methodLink RX0 25 yX0_signBit, Cond.static yX0_signBit, Cond.code yX0_signBit cX0_signBit 1 (some .long), Cond.constantLong RX0 19 (2147483648), Cond.constantLong RX0 23 (-9223372036854775808), Cond.methodLink RX0 13 yX0_infinity, Cond.static yX0_infinity, Cond.code yX0_infinity cX0_infinity 1 (some .long), Cond.constantLong RX0 9 (2139095040), Cond.constantLong RX0 11 (9218868437227405312), Cond.methodLink RL 19 yX3_has, Cond.instanceMethod yX3_has]
def wsL_law_r3 : List Cond := [Cond.selects RX3 yX3_has yX3_has, Cond.code yX3_has cX3_has 4 (some .boolean), Cond.methodLink RX3 87 yX3_hasBits, Cond.static yX3_hasBits, Cond.code yX3_hasBits cX3_hasBits 3 (some .boolean), Cond.constantLong RX3 13 (-128), Cond.constantLong RX3 15 (127), Cond.constantLong RX3 17 (-32768), Cond.constantLong RX3 19 (32767), Cond.constantLong RX3 21 (65535), Cond.constantLong RX3 25 (-2147483648), Cond.constantLong RX3 27 (2147483647), Cond.constantLong RX3 29 (4294967295), Cond.methodLink RX3 31 yX2_wide, Cond.static yX2_wide, Cond.initialized RX2, Cond.code yX2_wide cX2_wide 8 (some .long), Cond.constantLong RX2 15 (-9223372036854775808), Cond.constant RX2 64 (8388607), Cond.constantLong RX2 13 (9218868437227405312), Cond.constantLong RX2 65 (8388608), Cond.methodLink RX2 25 yX2_rounded, Cond.static yX2_rounded, Cond.code yX2_rounded cX2_rounded 18 (some .long)]
def wsL_law_r4 : List Cond := [Cond.constantLong RX2 23 (2305843009213693952), Cond.methodLink RX3 37 yX2_isNone, Cond.static yX2_isNone, Cond.code yX2_isNone cX2_isNone 2 (some .boolean), Cond.constantLong RX2 9 (9223372036854775807), Cond.methodLink RL 20 yX1_widens, Cond.instanceMethod yX1_widens, Cond.selects RX1 yX1_widens yX1_widens, Cond.code yX1_widens cX1_widens 3 (some .boolean), Cond.methodLink RX1 17 yX1_isNumberKind, Cond.static yX1_isNumberKind, Cond.code yX1_isNumberKind cX1_isNumberKind 1 (some .boolean), Cond.methodLink RL 24 yX3_widens, Cond.instanceMethod yX3_widens, Cond.selects RX3 yX3_widens yX3_widens, Cond.code yX3_widens cX3_widens 3 (some .boolean), Cond.methodLink RX3 91 yX3_isWider, Cond.static yX3_isWider, Cond.code yX3_isWider cX3_isWider 2 (some .boolean), Cond.methodLink RL 25 yX1_cast, Cond.instanceMethod yX1_cast, Cond.selects RX1 yX1_cast yX1_cast, Cond.code yX1_cast cX1_cast 6 (some .long), Cond.methodLink RX1 21 yX1_fails]
def wsL_law_r5 : List Cond := [Cond.instanceMethod yX1_fails, Cond.selects RX1 yX1_fails yX1_fails, Cond.code yX1_fails cX1_fails 3 (some .int), Cond.methodLink RX1 25 yX1_converted, Cond.static yX1_converted, Cond.code yX1_converted cX1_converted 6 (some .long), Cond.methodLink RX1 79 yX0_ofReal, Cond.static yX0_ofReal, Cond.code yX0_ofReal cX0_ofReal 5 (some .long), Cond.methodLink RX0 34 yX0_isNegative, Cond.static yX0_isNegative, Cond.code yX0_isNegative cX0_isNegative 3 (some .boolean), Cond.methodLink RX0 61 yX0_isInfinite, Cond.static yX0_isInfinite, Cond.code yX0_isInfinite cX0_isInfinite 3 (some .boolean), Cond.methodLink RX0 64 yX0_signed, Cond.static yX0_signed, Cond.code yX0_signed cX0_signed 4 (some .long), Cond.methodLink RX0 68 yX0_magnitude, Cond.static yX0_magnitude, Cond.code yX0_magnitude cX0_magnitude 7 (some .long), Cond.methodLink RX0 38 yX0_fractionBits, Cond.static yX0_fractionBits, Cond.code yX0_fractionBits cX0_fractionBits 1 (some .int)]
def wsL_law_r6 : List Cond := [Cond.methodLink RX0 71 yX0_exponent, Cond.static yX0_exponent, Cond.code yX0_exponent cX0_exponent 4 (some .int), Cond.methodLink RX0 45 Lib.Math.max.name, Cond.static Lib.Math.max.name, Cond.initialized "java/lang/Math", Cond.code Lib.Math.max.name Lib.Math.max.code 2 (some .int), Cond.methodLink RX0 42 yX0_leastExponent, Cond.static yX0_leastExponent, Cond.code yX0_leastExponent cX0_leastExponent 1 (some .int), Cond.methodLink RX0 53 yX0_nearest, Cond.static yX0_nearest, Cond.code yX0_nearest cX0_nearest 10 (some .long), Cond.methodLink RX0 77 yX0_roomBelow, Cond.static yX0_roomBelow, Cond.code yX0_roomBelow cX0_roomBelow 4 (some .int), Cond.methodLink RX0 80 yX0_greatestAbove, Cond.static yX0_greatestAbove, Cond.code yX0_greatestAbove cX0_greatestAbove 1 (some .int), Cond.methodLink RX0 83 yX0_roundedDown, Cond.static yX0_roundedDown, Cond.code yX0_roundedDown cX0_roundedDown 10 (some .long), Cond.methodLink RX1 82 yX0_ofWhole, Cond.static yX0_ofWhole]
def wsL_law_r7 : List Cond := [Cond.code yX0_ofWhole cX0_ofWhole 3 (some .long), Cond.constantLong RX0 51 (4611686018427387904), Cond.methodLink RX0 57 Lib.MathLoose.abs_long.x, Cond.static Lib.MathLoose.abs_long.x, Cond.code Lib.MathLoose.abs_long.x Lib.MathLoose.abs_long.code 2 (some .long), Cond.methodLink RX1 85 yX0_wholePart, Cond.static yX0_wholePart, Cond.code yX0_wholePart cX0_wholePart 9 (some .long), Cond.constantLong RX0 75 (9223372036854775807), Cond.methodLink RX1 88 yX1_cutToInt, Cond.static yX1_cutToInt, Cond.code yX1_cutToInt cX1_cutToInt 2 (some .long), Cond.constantLong RX1 94 (-2147483648), Cond.constantLong RX1 96 (2147483647), Cond.methodLink RX1 98 Lib.MathLoose.min_long.x, Cond.static Lib.MathLoose.min_long.x, Cond.code Lib.MathLoose.min_long.x Lib.MathLoose.min_long.code 4 (some .long), Cond.methodLink RX1 102 Lib.MathLoose.max_long.x, Cond.static Lib.MathLoose.max_long.x, Cond.code Lib.MathLoose.max_long.x Lib.MathLoose.max_long.code 4 (some .long), Cond.methodLink RL 29 yX3_cast, Cond.instanceMethod yX3_cast, Cond.selects RX3 yX3_cast yX3_cast, Cond.code yX3_cast cX3_cast 6 (some .long)]
def wsL_law_r8 : List Cond := [Cond.fieldLink RX3 7 "KindNumbersModel" "failed" "I", Cond.methodLink RX3 95 yX3_isNumber, Cond.static yX3_isNumber, Cond.code yX3_isNumber cX3_isNumber 1 (some .boolean), Cond.methodLink RX3 99 yX3_casted, Cond.static yX3_casted, Cond.code yX3_casted cX3_casted 6 (some .long), Cond.methodLink RX3 52 yX3_widened, Cond.static yX3_widened, Cond.code yX3_widened cX3_widened 4 (some .long), Cond.methodLink RX3 41 yX2_of, Cond.static yX2_of, Cond.code yX2_of cX2_of 6 (some .long), Cond.constantLong RX2 52 (4611686018427387904), Cond.constantLong RX2 54 (3), Cond.methodLink RX2 44 yX2_made, Cond.static yX2_made, Cond.code yX2_made cX2_made 7 (some .long), Cond.methodLink RX3 45 yX2_floatOf, Cond.static yX2_floatOf, Cond.code yX2_floatOf cX2_floatOf 9 (some .long), Cond.constant RX2 58 (-2147483648), Cond.methodLink RX2 59 yX2_wide, Cond.methodLink RX3 48 yX2_narrow]
def wsL_law_r9 : List Cond := [Cond.static yX2_narrow, Cond.code yX2_narrow cX2_narrow 3 (some .int), Cond.constant RX2 63 (2139095040), Cond.methodLink RX2 29 yX2_isInfinite, Cond.static yX2_isInfinite, Cond.code yX2_isInfinite cX2_isInfinite 2 (some .boolean), Cond.methodLink RX2 33 yX2_isZero, Cond.static yX2_isZero, Cond.code yX2_isZero cX2_isZero 2 (some .boolean), Cond.methodLink RX2 40 yX2_significand, Cond.static yX2_significand, Cond.code yX2_significand cX2_significand 4 (some .long), Cond.constantLong RX2 19 (4503599627370495), Cond.constantLong RX2 17 (2047), Cond.constantLong RX2 21 (4503599627370496), Cond.methodLink RX2 36 yX2_exponent, Cond.static yX2_exponent, Cond.code yX2_exponent cX2_exponent 6 (some .int), Cond.methodLink RX3 56 yX3_cut, Cond.static yX3_cut, Cond.code yX3_cut cX3_cut 9 (some .long), Cond.constantLong RX3 61 (9223372036854775807), Cond.methodLink RX3 63 yX2_isGreat, Cond.static yX2_isGreat]
def wsL_law_r10 : List Cond := [Cond.code yX2_isGreat cX2_isGreat 2 (some .boolean), Cond.methodLink RX3 66 yX2_cut, Cond.static yX2_cut, Cond.code yX2_cut cX2_cut 5 (some .long), Cond.methodLink RL 30 yX1_work, Cond.instanceMethod yX1_work, Cond.selects RX1 yX1_work yX1_work, Cond.code yX1_work cX1_work 13 (some .long), Cond.methodLink RX1 29 yX1_areNumbers, Cond.static yX1_areNumbers, Cond.code yX1_areNumbers cX1_areNumbers 6 (some .boolean), Cond.methodLink RX1 33 yX1_workKind, Cond.static yX1_workKind, Cond.code yX1_workKind cX1_workKind 2 (some .int), Cond.methodLink RX1 74 Lib.Math.max.name, Cond.methodLink RX1 36 yX1_workReal, Cond.instanceMethod yX1_workReal, Cond.selects RX1 yX1_workReal yX1_workReal, Cond.code yX1_workReal cX1_workReal 9 (some .long), Cond.methodLink RX1 104 yX0_sum, Cond.static yX0_sum, Cond.code yX0_sum cX0_sum 6 (some .long), Cond.methodLink RX0 87 yX0_notANumber, Cond.static yX0_notANumber]
def wsL_law_r11 : List Cond := [Cond.code yX0_notANumber cX0_notANumber 1 (some .long), Cond.methodLink RX0 90 yX0_isZero, Cond.static yX0_isZero, Cond.code yX0_isZero cX0_isZero 3 (some .boolean), Cond.methodLink RX0 93 yX0_sumByGreater, Cond.static yX0_sumByGreater, Cond.code yX0_sumByGreater cX0_sumByGreater 13 (some .long), Cond.methodLink RX0 97 yX0_movedDown, Cond.static yX0_movedDown, Cond.code yX0_movedDown cX0_movedDown 5 (some .long), Cond.methodLink RX1 108 yX0_negated, Cond.static yX0_negated, Cond.code yX0_negated cX0_negated 3 (some .long), Cond.methodLink RX1 111 yX0_product, Cond.static yX0_product, Cond.code yX0_product cX0_product 11 (some .long), Cond.methodLink RX0 100 yX0_topOfProduct, Cond.static yX0_topOfProduct, Cond.code yX0_topOfProduct cX0_topOfProduct 22 (some .long), Cond.constantLong RX0 104 (134217727), Cond.methodLink RX1 114 yX0_quotient, Cond.static yX0_quotient, Cond.code yX0_quotient cX0_quotient 14 (some .long), Cond.methodLink RX0 106 yX0_topOfQuotient]
def wsL_law_r12 : List Cond := [Cond.static yX0_topOfQuotient, Cond.code yX0_topOfQuotient cX0_topOfQuotient 9 (some .long), Cond.methodLink RX1 117 yX0_rest, Cond.static yX0_rest, Cond.code yX0_rest cX0_rest 11 (some .long), Cond.methodLink RX0 109 yX0_restAbove, Cond.static yX0_restAbove, Cond.code yX0_restAbove cX0_restAbove 8 (some .long), Cond.methodLink RX0 113 Lib.Math.min.name, Cond.static Lib.Math.min.name, Cond.code Lib.Math.min.name Lib.Math.min.code 2 (some .int), Cond.methodLink RX1 40 yX1_workWhole, Cond.instanceMethod yX1_workWhole, Cond.selects RX1 yX1_workWhole yX1_workWhole, Cond.code yX1_workWhole cX1_workWhole 7 (some .long), Cond.methodLink RL 34 yX3_work, Cond.instanceMethod yX3_work, Cond.selects RX3 yX3_work yX3_work, Cond.code yX3_work cX3_work 15 (some .long), Cond.methodLink RX3 106 Lib.Math.max.name, Cond.methodLink RX3 102 yX3_areNumbers, Cond.instanceMethod yX3_areNumbers, Cond.selects RX3 yX3_areNumbers yX3_areNumbers, Cond.code yX3_areNumbers cX3_areNumbers 7 (some .boolean)]
def wsL_law_r13 : List Cond := [Cond.methodLink RX3 112 yX3_whole, Cond.instanceMethod yX3_whole, Cond.selects RX3 yX3_whole yX3_whole, Cond.code yX3_whole cX3_whole 9 (some .long), Cond.constantLong RX3 120 (-1), Cond.methodLink RX3 116 yX3_floating, Cond.instanceMethod yX3_floating, Cond.selects RX3 yX3_floating yX3_floating, Cond.code yX3_floating cX3_floating 11 (some .long), Cond.methodLink RX3 69 yX2_isInfinite, Cond.methodLink RX3 122 yX2_negative, Cond.static yX2_negative, Cond.code yX2_negative cX2_negative 2 (some .long), Cond.methodLink RX3 72 yX2_isZero, Cond.methodLink RX3 125 yX2_add, Cond.static yX2_add, Cond.code yX2_add cX2_add 20 (some .long), Cond.methodLink RX3 129 yX2_multiply, Cond.static yX2_multiply, Cond.code yX2_multiply cX2_multiply 21 (some .long), Cond.constantLong RX2 48 (134217727), Cond.constantLong RX2 50 (524287), Cond.methodLink RX3 132 yX2_divide, Cond.static yX2_divide]
def wsL_law_r14 : List Cond := [Cond.code yX2_divide cX2_divide 13 (some .long), Cond.methodLink RX3 135 yX3_rest, Cond.static yX3_rest, Cond.code yX3_rest cX3_rest 15 (some .long), Cond.constantLong RX3 81 (-9223372036854775808), Cond.methodLink RL 35 yX1_shift, Cond.instanceMethod yX1_shift, Cond.selects RX1 yX1_shift yX1_shift, Cond.code yX1_shift cX1_shift 8 (some .long), Cond.constantLong RX1 43 (63), Cond.constantLong RX1 49 (31), Cond.methodLink RX1 45 yX1_shiftedLong, Cond.static yX1_shiftedLong, Cond.code yX1_shiftedLong cX1_shiftedLong 4 (some .long), Cond.methodLink RX1 51 yX1_shiftedInt, Cond.static yX1_shiftedInt, Cond.code yX1_shiftedInt cX1_shiftedInt 3 (some .long), Cond.methodLink RL 39 yX3_shift, Cond.instanceMethod yX3_shift, Cond.selects RX3 yX3_shift yX3_shift, Cond.code yX3_shift cX3_shift 9 (some .long), Cond.methodLink RL 40 yX1_compare, Cond.instanceMethod yX1_compare, Cond.selects RX1 yX1_compare yX1_compare]
def wsL_law_r15 : List Cond := [Cond.code yX1_compare cX1_compare 12 (some .int), Cond.methodLink RX1 55 yX0_place, Cond.static yX0_place, Cond.code yX0_place cX0_place 5 (some .long), Cond.methodLink RX1 61 yX1_sideOf, Cond.static yX1_sideOf, Cond.code yX1_sideOf cX1_sideOf 4 (some .int), Cond.methodLink RL 44 yX3_compare, Cond.instanceMethod yX3_compare, Cond.selects RX3 yX3_compare yX3_compare, Cond.code yX3_compare cX3_compare 12 (some .int), Cond.methodLink RX3 138 yJ13_compare_74951, Cond.static yJ13_compare_74951, Cond.initialized RJ13, Cond.code yJ13_compare_74951 cJ13_compare_74951 4 (some .int), Cond.methodLink RX3 142 yX2_compare, Cond.static yX2_compare, Cond.code yX2_compare cX2_compare 8 (some .int), Cond.methodLink RL 45 yX1_order, Cond.instanceMethod yX1_order, Cond.selects RX1 yX1_order yX1_order, Cond.code yX1_order cX1_order 6 (some .int), Cond.methodLink RX1 65 yX0_placeWithZerosApart, Cond.static yX0_placeWithZerosApart]
def wsL_law_r16 : List Cond := [Cond.code yX0_placeWithZerosApart cX0_placeWithZerosApart 5 (some .long), Cond.methodLink RL 49 yX3_order, Cond.instanceMethod yX3_order, Cond.selects RX3 yX3_order yX3_order, Cond.code yX3_order cX3_order 6 (some .int), Cond.methodLink RX3 143 yX3_ranked, Cond.static yX3_ranked, Cond.code yX3_ranked cX3_ranked 5 (some .long), Cond.methodLink RL 50 yX1_failed, Cond.instanceMethod yX1_failed, Cond.selects RX1 yX1_failed yX1_failed, Cond.code yX1_failed cX1_failed 1 (some .int), Cond.methodLink RL 54 yX3_failed, Cond.instanceMethod yX3_failed, Cond.selects RX3 yX3_failed yX3_failed, Cond.code yX3_failed cX3_failed 1 (some .int)]
def wsL_law : List Cond := (wsL_law_r1 ++ (wsL_law_r2 ++ (wsL_law_r3 ++ (wsL_law_r4 ++ (wsL_law_r5 ++ (wsL_law_r6 ++ (wsL_law_r7 ++ (wsL_law_r8 ++ (wsL_law_r9 ++ (wsL_law_r10 ++ (wsL_law_r11 ++ (wsL_law_r12 ++ (wsL_law_r13 ++ (wsL_law_r14 ++ (wsL_law_r15 ++ wsL_law_r16))))))))))))))) ++ wsX10 ++ wsX30 ++ ([] : List Cond)
abbrev vwCl : List vw_C := [(RX1, TX1, 1), (RX3, TX3, 1)]
end
section
/-! a method that only computes: its answer is r, the heap stays -/
def px_P (av : List Value) : Array Value → State → Prop := fun v _ => v = av.toArray
def px_Q (r : Value) : Array Value → State → Outcome → State → Prop := fun _ st o t => o = .returned (some r) ∧ t.heap = st.heap
theorem px_blind (av : List Value) : FrameBlind (px_P av) := fun _ _ _ _ h => h
abbrev px_M (l : Launch) (y : MethodName) (ws : List Cond) (rm : Room) (av : List Value) (r : Value) : Prop := Met l y ws rm (px_P av) (px_Q r) 0 0 (fun _ => False)
section PXC
variable {p : Program} {l : Launch} {e : Env} {R : Room} {s : State} {m : MethodId} {args : Array Value} {below : List Frame} {meth : Method} {c : Code} {H : Heap} {locs : List Loc} {cells slots : Nat} {Q : State → Prop}
variable {pc : Nat} {ls : Array Slot} {rest st0 : List Value} {a : Array Value}
theorem px_go {r : Value} (hr : va_Run p l e R s m args below meth c H locs cells slots 0 0 (F0 m pc ls st0) rest (px_Q r a) (fun _ => False))
    (kk : W p l e R s m args below meth c H locs cells slots Q (F0 m (pc + 3) ls (r :: rest))) : W p l e R s m args below meth c H locs cells slots Q (F0 m pc ls st0) := by
  intro T hT X
  obtain ⟨v, st₀, t, T', L, h0, X', hL, e1, e2, ⟨hv, hh⟩, st⟩ := hr T hT X
  cases hv
  obtain ⟨t2, a1, b1⟩ := kk T' (by rw [e1, hh, h0]) (Stand.forget X' (fun q h => (hL q h).elim))
  exact ⟨t2, st t2 a1, b1⟩
variable {y : MethodName} {bytes cc : ByteArray} {maxL nL n index : Nat} {ret : Option FieldType} {ws : List Cond} {rm : Room} {Ts : List Cond} {own : String} {As : List Value} {r : Value}
/-- a static call of a method that only computes -/
theorem px_S (S : CallFix p m c cc nL s args Ts own) (hM : px_M l y ws rm As r) (cw : CallB R s args own index y bytes maxL ret ws rm 0 0 n ∧ (Cond.static y).before args s = true)
    (hn : As.length = n) (hsize : ls.size = nL) (hstack : st0 = As.reverse ++ rest) (hW : (rest.map fun v => v.category).sum ≤ 8) (hdg : decode cc pc = .ok (.invokestatic index, 3)) (hc : cells ≤ R.cells) (hs : slots ≤ R.slots)
    (kk : W p l e R s m args below meth c H locs cells slots Q (F0 m (pc + 3) ls (r :: rest))) : W p l e R s m args below meth c H locs cells slots Q (F0 m pc ls st0) :=
  px_go (va_runS (g := F0 m pc ls st0) S hM cw ⟨px_blind As, fun _ _ _ => rfl⟩ rfl hn hsize hstack (lv_room hW) hdg ⟨hc, hs⟩) kk
/-- the same of a nest mate's private method -/
theorem px_N {host : String} (S : CallFix p m c cc nL s args Ts own) (hM : px_M l y ws rm As r) (cw : va_CN R s args own index y host bytes maxL ret ws rm 0 0 n) (hst : (Cond.static y).before args s = true)
    (hn : As.length = n) (hsize : ls.size = nL) (hstack : st0 = As.reverse ++ rest) (hW : (rest.map fun v => v.category).sum ≤ 8) (hdg : decode cc pc = .ok (.invokestatic index, 3)) (hc : cells ≤ R.cells) (hs : slots ≤ R.slots)
    (kk : W p l e R s m args below meth c H locs cells slots Q (F0 m (pc + 3) ls (r :: rest))) : W p l e R s m args below meth c H locs cells slots Q (F0 m pc ls st0) :=
  px_go (va_runSN (g := F0 m pc ls st0) S hM ⟨cw, hst, trivial⟩ ⟨px_blind As, fun _ _ _ => rfl⟩ rfl hn hsize hstack (lv_room hW) hdg ⟨hc, hs⟩) kk
end PXC
def jshl (x : Int64) (y : Int32) : Int64 := x <<< (y.toInt64 &&& 63)
def jshr (x : Int64) (y : Int32) : Int64 := x >>> (y.toInt64 &&& 63)
def jushr (x : Int64) (y : Int32) : Int64 := (x.toUInt64 >>> (y.toInt64.toUInt64 &&& Int64.toUInt64 63)).toInt64
def jrem (x y : Int64) : Int64 := x - x / y * y
def ishl (x y : Int32) : Int32 := x <<< (y &&& 31)
def ishr (x y : Int32) : Int32 := x >>> (y &&& 31)
def iushr (x y : Int32) : Int32 := (x.toUInt32 >>> (y.toUInt32 &&& Int32.toUInt32 31)).toInt32
def jchar (x : Int32) : Int32 := (x.toUInt32 % 65536).toInt32
def jbyte (x : Int32) : Int32 := x.toInt8.toInt32
def jshort (x : Int32) : Int32 := x.toInt16.toInt32
def imax (x y : Int32) : Int32 := if x < y then y else x
def imin (x y : Int32) : Int32 := if y < x then y else x
def jmax (x y : Int64) : Int64 := if y < x then x else y
def jmin (x y : Int64) : Int64 := if y < x then y else x
def jabs (x : Int64) : Int64 := if 0 < x then x else -x
/-- what a method's blocks share -/
abbrev px_C (p : Program) (s : State) (m : MethodId) (args : Array Value) (meth : Method) (c : Code) (cc : ByteArray) (n : Nat) (ret : Option FieldType) (own : String) (ws : List Cond) : Prop :=
  p.tables.exec = Jvm.exec ∧ c.code = cc ∧ c.maxLocals = n ∧ s.vm.findClass own = some m.cls ∧ (∀ w ∈ ws, w.before args s = true) ∧ meth.sig.returnType = ret ∧ meth.locks = false
section PXB
variable {p : Program} {l : Launch} {e : Env} {R : Room} {s : State} {m : MethodId} {args : Array Value} {below : List Frame} {meth : Method} {c : Code} {H : Heap} {locs : List Loc} {cells slots : Nat} {Q : State → Prop}
variable {pc : Nat} {ls : Array Slot} {rest : List Value} {cc : ByteArray}

theorem px_if_eq (hexec : p.tables.exec = Jvm.exec) (hb : c.code = cc) {x : Int32} {off : Int} {tgt : Nat} (hdg : decode cc pc = .ok (.ifCond .eq off, 3)) (ht : (pc : Int) + off = (tgt : Int))
    (ka : x = 0 → W p l e R s m args below meth c H locs cells slots Q (F0 m tgt ls rest)) (kb : ¬ x = 0 → W p l e R s m args below meth c H locs cells slots Q (F0 m (pc + 3) ls rest)) : W p l e R s m args below meth c H locs cells slots Q (F0 m pc ls (.int x :: rest)) := lv_if_eq hexec hb hdg ht ka kb
theorem px_if_ne (hexec : p.tables.exec = Jvm.exec) (hb : c.code = cc) {x : Int32} {off : Int} {tgt : Nat} (hdg : decode cc pc = .ok (.ifCond .ne off, 3)) (ht : (pc : Int) + off = (tgt : Int))
    (ka : x = 0 → W p l e R s m args below meth c H locs cells slots Q (F0 m (pc + 3) ls rest)) (kb : ¬ x = 0 → W p l e R s m args below meth c H locs cells slots Q (F0 m tgt ls rest)) : W p l e R s m args below meth c H locs cells slots Q (F0 m pc ls (.int x :: rest)) := lv_if_ne hexec hb hdg ht kb ka
theorem px_if_lt (hexec : p.tables.exec = Jvm.exec) (hb : c.code = cc) {x : Int32} {off : Int} {tgt : Nat} (hdg : decode cc pc = .ok (.ifCond .lt off, 3)) (ht : (pc : Int) + off = (tgt : Int))
    (ka : x < 0 → W p l e R s m args below meth c H locs cells slots Q (F0 m tgt ls rest)) (kb : ¬ x < 0 → W p l e R s m args below meth c H locs cells slots Q (F0 m (pc + 3) ls rest)) : W p l e R s m args below meth c H locs cells slots Q (F0 m pc ls (.int x :: rest)) := lv_if_lt hexec hb hdg ht ka kb
theorem px_if_ge (hexec : p.tables.exec = Jvm.exec) (hb : c.code = cc) {x : Int32} {off : Int} {tgt : Nat} (hdg : decode cc pc = .ok (.ifCond .ge off, 3)) (ht : (pc : Int) + off = (tgt : Int))
    (ka : x < 0 → W p l e R s m args below meth c H locs cells slots Q (F0 m (pc + 3) ls rest)) (kb : ¬ x < 0 → W p l e R s m args below meth c H locs cells slots Q (F0 m tgt ls rest)) : W p l e R s m args below meth c H locs cells slots Q (F0 m pc ls (.int x :: rest)) := lv_if_ge hexec hb hdg ht (fun h => kb (Int32.not_lt.mpr h)) (fun h => ka (Int32.not_le.mp h))
theorem px_if_gt (hexec : p.tables.exec = Jvm.exec) (hb : c.code = cc) {x : Int32} {off : Int} {tgt : Nat} (hdg : decode cc pc = .ok (.ifCond .gt off, 3)) (ht : (pc : Int) + off = (tgt : Int))
    (ka : 0 < x → W p l e R s m args below meth c H locs cells slots Q (F0 m tgt ls rest)) (kb : ¬ 0 < x → W p l e R s m args below meth c H locs cells slots Q (F0 m (pc + 3) ls rest)) : W p l e R s m args below meth c H locs cells slots Q (F0 m pc ls (.int x :: rest)) := lv_if_gt hexec hb hdg ht ka kb
theorem px_if_le (hexec : p.tables.exec = Jvm.exec) (hb : c.code = cc) {x : Int32} {off : Int} {tgt : Nat} (hdg : decode cc pc = .ok (.ifCond .le off, 3)) (ht : (pc : Int) + off = (tgt : Int))
    (ka : 0 < x → W p l e R s m args below meth c H locs cells slots Q (F0 m (pc + 3) ls rest)) (kb : ¬ 0 < x → W p l e R s m args below meth c H locs cells slots Q (F0 m tgt ls rest)) : W p l e R s m args below meth c H locs cells slots Q (F0 m pc ls (.int x :: rest)) := lv_if_le hexec hb hdg ht (fun h => kb (Int32.not_lt.mpr h)) (fun h => ka (Int32.not_le.mp h))
theorem px_icmp_eq (hexec : p.tables.exec = Jvm.exec) (hb : c.code = cc) {x y : Int32} {off : Int} {tgt : Nat} (hdg : decode cc pc = .ok (.if_icmp .eq off, 3)) (ht : (pc : Int) + off = (tgt : Int))
    (ka : x = y → W p l e R s m args below meth c H locs cells slots Q (F0 m tgt ls rest)) (kb : ¬ x = y → W p l e R s m args below meth c H locs cells slots Q (F0 m (pc + 3) ls rest)) : W p l e R s m args below meth c H locs cells slots Q (F0 m pc ls (.int y :: .int x :: rest)) := lv_icmp_eq hexec hb hdg ht ka kb
theorem px_icmp_ne (hexec : p.tables.exec = Jvm.exec) (hb : c.code = cc) {x y : Int32} {off : Int} {tgt : Nat} (hdg : decode cc pc = .ok (.if_icmp .ne off, 3)) (ht : (pc : Int) + off = (tgt : Int))
    (ka : x = y → W p l e R s m args below meth c H locs cells slots Q (F0 m (pc + 3) ls rest)) (kb : ¬ x = y → W p l e R s m args below meth c H locs cells slots Q (F0 m tgt ls rest)) : W p l e R s m args below meth c H locs cells slots Q (F0 m pc ls (.int y :: .int x :: rest)) := lv_icmp_ne hexec hb hdg ht kb ka
theorem px_icmp_lt (hexec : p.tables.exec = Jvm.exec) (hb : c.code = cc) {x y : Int32} {off : Int} {tgt : Nat} (hdg : decode cc pc = .ok (.if_icmp .lt off, 3)) (ht : (pc : Int) + off = (tgt : Int))
    (ka : x < y → W p l e R s m args below meth c H locs cells slots Q (F0 m tgt ls rest)) (kb : ¬ x < y → W p l e R s m args below meth c H locs cells slots Q (F0 m (pc + 3) ls rest)) : W p l e R s m args below meth c H locs cells slots Q (F0 m pc ls (.int y :: .int x :: rest)) := lv_icmp_lt hexec hb hdg ht ka kb
theorem px_icmp_ge (hexec : p.tables.exec = Jvm.exec) (hb : c.code = cc) {x y : Int32} {off : Int} {tgt : Nat} (hdg : decode cc pc = .ok (.if_icmp .ge off, 3)) (ht : (pc : Int) + off = (tgt : Int))
    (ka : x < y → W p l e R s m args below meth c H locs cells slots Q (F0 m (pc + 3) ls rest)) (kb : ¬ x < y → W p l e R s m args below meth c H locs cells slots Q (F0 m tgt ls rest)) : W p l e R s m args below meth c H locs cells slots Q (F0 m pc ls (.int y :: .int x :: rest)) := lv_icmp_ge hexec hb hdg ht (fun h => kb (Int32.not_lt.mpr h)) (fun h => ka (Int32.not_le.mp h))
theorem px_icmp_gt (hexec : p.tables.exec = Jvm.exec) (hb : c.code = cc) {x y : Int32} {off : Int} {tgt : Nat} (hdg : decode cc pc = .ok (.if_icmp .gt off, 3)) (ht : (pc : Int) + off = (tgt : Int))
    (ka : y < x → W p l e R s m args below meth c H locs cells slots Q (F0 m tgt ls rest)) (kb : ¬ y < x → W p l e R s m args below meth c H locs cells slots Q (F0 m (pc + 3) ls rest)) : W p l e R s m args below meth c H locs cells slots Q (F0 m pc ls (.int y :: .int x :: rest)) := lv_icmp_gt hexec hb hdg ht ka kb
theorem px_icmp_le (hexec : p.tables.exec = Jvm.exec) (hb : c.code = cc) {x y : Int32} {off : Int} {tgt : Nat} (hdg : decode cc pc = .ok (.if_icmp .le off, 3)) (ht : (pc : Int) + off = (tgt : Int))
    (ka : y < x → W p l e R s m args below meth c H locs cells slots Q (F0 m (pc + 3) ls rest)) (kb : ¬ y < x → W p l e R s m args below meth c H locs cells slots Q (F0 m tgt ls rest)) : W p l e R s m args below meth c H locs cells slots Q (F0 m pc ls (.int y :: .int x :: rest)) := lv_icmp_le hexec hb hdg ht (fun h => kb (Int32.not_lt.mpr h)) (fun h => ka (Int32.not_le.mp h))
theorem px_lcmp_eq (hexec : p.tables.exec = Jvm.exec) (hb : c.code = cc) {x y : Int64} {off : Int} {tgt : Nat} (hd0 : decode cc pc = .ok (.lcmp, 1)) (hdg : decode cc (pc + 1) = .ok (.ifCond .eq off, 3)) (ht : ((pc + 1 : Nat) : Int) + off = (tgt : Int))
    (ka : x = y → W p l e R s m args below meth c H locs cells slots Q (F0 m tgt ls rest)) (kb : ¬ x = y → W p l e R s m args below meth c H locs cells slots Q (F0 m (pc + 4) ls rest)) : W p l e R s m args below meth c H locs cells slots Q (F0 m pc ls (.long y :: .long x :: rest)) :=
  W.lcmp hexec hb hd0 (px_if_eq hexec hb hdg ht (fun h => ka ((lg_cmp_eq x y).mp h)) (fun h => kb (fun h2 => h ((lg_cmp_eq x y).mpr h2))))
theorem px_lcmp_ne (hexec : p.tables.exec = Jvm.exec) (hb : c.code = cc) {x y : Int64} {off : Int} {tgt : Nat} (hd0 : decode cc pc = .ok (.lcmp, 1)) (hdg : decode cc (pc + 1) = .ok (.ifCond .ne off, 3)) (ht : ((pc + 1 : Nat) : Int) + off = (tgt : Int))
    (ka : x = y → W p l e R s m args below meth c H locs cells slots Q (F0 m (pc + 4) ls rest)) (kb : ¬ x = y → W p l e R s m args below meth c H locs cells slots Q (F0 m tgt ls rest)) : W p l e R s m args below meth c H locs cells slots Q (F0 m pc ls (.long y :: .long x :: rest)) :=
  W.lcmp hexec hb hd0 (px_if_ne hexec hb hdg ht (fun h => ka ((lg_cmp_eq x y).mp h)) (fun h => kb (fun h2 => h ((lg_cmp_eq x y).mpr h2))))
theorem px_lcmp_lt (hexec : p.tables.exec = Jvm.exec) (hb : c.code = cc) {x y : Int64} {off : Int} {tgt : Nat} (hd0 : decode cc pc = .ok (.lcmp, 1)) (hdg : decode cc (pc + 1) = .ok (.ifCond .lt off, 3)) (ht : ((pc + 1 : Nat) : Int) + off = (tgt : Int))
    (ka : x < y → W p l e R s m args below meth c H locs cells slots Q (F0 m tgt ls rest)) (kb : ¬ x < y → W p l e R s m args below meth c H locs cells slots Q (F0 m (pc + 4) ls rest)) : W p l e R s m args below meth c H locs cells slots Q (F0 m pc ls (.long y :: .long x :: rest)) :=
  W.lcmp hexec hb hd0 (px_if_lt hexec hb hdg ht (fun h => ka ((lg_cmp_lt x y).mp h)) (fun h => kb (fun h2 => h ((lg_cmp_lt x y).mpr h2))))
theorem px_lcmp_ge (hexec : p.tables.exec = Jvm.exec) (hb : c.code = cc) {x y : Int64} {off : Int} {tgt : Nat} (hd0 : decode cc pc = .ok (.lcmp, 1)) (hdg : decode cc (pc + 1) = .ok (.ifCond .ge off, 3)) (ht : ((pc + 1 : Nat) : Int) + off = (tgt : Int))
    (ka : x < y → W p l e R s m args below meth c H locs cells slots Q (F0 m (pc + 4) ls rest)) (kb : ¬ x < y → W p l e R s m args below meth c H locs cells slots Q (F0 m tgt ls rest)) : W p l e R s m args below meth c H locs cells slots Q (F0 m pc ls (.long y :: .long x :: rest)) :=
  W.lcmp hexec hb hd0 (px_if_ge hexec hb hdg ht (fun h => ka ((lg_cmp_lt x y).mp h)) (fun h => kb (fun h2 => h ((lg_cmp_lt x y).mpr h2))))
theorem px_lcmp_gt (hexec : p.tables.exec = Jvm.exec) (hb : c.code = cc) {x y : Int64} {off : Int} {tgt : Nat} (hd0 : decode cc pc = .ok (.lcmp, 1)) (hdg : decode cc (pc + 1) = .ok (.ifCond .gt off, 3)) (ht : ((pc + 1 : Nat) : Int) + off = (tgt : Int))
    (ka : y < x → W p l e R s m args below meth c H locs cells slots Q (F0 m tgt ls rest)) (kb : ¬ y < x → W p l e R s m args below meth c H locs cells slots Q (F0 m (pc + 4) ls rest)) : W p l e R s m args below meth c H locs cells slots Q (F0 m pc ls (.long y :: .long x :: rest)) :=
  W.lcmp hexec hb hd0 (px_if_gt hexec hb hdg ht (fun h => ka ((lg_cmp_gt x y).mp h)) (fun h => kb (fun h2 => h ((lg_cmp_gt x y).mpr h2))))
theorem px_lcmp_le (hexec : p.tables.exec = Jvm.exec) (hb : c.code = cc) {x y : Int64} {off : Int} {tgt : Nat} (hd0 : decode cc pc = .ok (.lcmp, 1)) (hdg : decode cc (pc + 1) = .ok (.ifCond .le off, 3)) (ht : ((pc + 1 : Nat) : Int) + off = (tgt : Int))
    (ka : y < x → W p l e R s m args below meth c H locs cells slots Q (F0 m (pc + 4) ls rest)) (kb : ¬ y < x → W p l e R s m args below meth c H locs cells slots Q (F0 m tgt ls rest)) : W p l e R s m args below meth c H locs cells slots Q (F0 m pc ls (.long y :: .long x :: rest)) :=
  W.lcmp hexec hb hd0 (px_if_le hexec hb hdg ht (fun h => ka ((lg_cmp_gt x y).mp h)) (fun h => kb (fun h2 => h ((lg_cmp_gt x y).mpr h2))))
theorem px_lshl (hexec : p.tables.exec = Jvm.exec) (hb : c.code = cc) {x : Int64} {y : Int32} (hdg : decode cc pc = .ok (.lshl, 1))
    (k : W p l e R s m args below meth c H locs cells slots Q (F0 m (pc + 1) ls (.long (jshl x y) :: rest))) : W p l e R s m args below meth c H locs cells slots Q (F0 m pc ls (.int y :: .long x :: rest)) := lv_lshl hexec hb hdg rfl k
theorem px_lshr (hexec : p.tables.exec = Jvm.exec) (hb : c.code = cc) {x : Int64} {y : Int32} (hdg : decode cc pc = .ok (.lshr, 1))
    (k : W p l e R s m args below meth c H locs cells slots Q (F0 m (pc + 1) ls (.long (jshr x y) :: rest))) : W p l e R s m args below meth c H locs cells slots Q (F0 m pc ls (.int y :: .long x :: rest)) := lv_lshr hexec hb hdg rfl k
theorem px_lushr (hexec : p.tables.exec = Jvm.exec) (hb : c.code = cc) {x : Int64} {y : Int32} (hdg : decode cc pc = .ok (.lushr, 1))
    (k : W p l e R s m args below meth c H locs cells slots Q (F0 m (pc + 1) ls (.long (jushr x y) :: rest))) : W p l e R s m args below meth c H locs cells slots Q (F0 m pc ls (.int y :: .long x :: rest)) := lv_lushr hexec hb hdg rfl k
theorem px_lrem (hexec : p.tables.exec = Jvm.exec) (hb : c.code = cc) {x y : Int64} (hdg : decode cc pc = .ok (.lrem, 1)) (hne : ¬ y = 0)
    (k : W p l e R s m args below meth c H locs cells slots Q (F0 m (pc + 1) ls (.long (jrem x y) :: rest))) : W p l e R s m args below meth c H locs cells slots Q (F0 m pc ls (.long y :: .long x :: rest)) := lv_lrem hexec hb hdg hne k
theorem px_ishl (hexec : p.tables.exec = Jvm.exec) (hb : c.code = cc) {x y : Int32} (hdg : decode cc pc = .ok (.ishl, 1))
    (k : W p l e R s m args below meth c H locs cells slots Q (F0 m (pc + 1) ls (.int (ishl x y) :: rest))) : W p l e R s m args below meth c H locs cells slots Q (F0 m pc ls (.int y :: .int x :: rest)) := lv_ishl hexec hb hdg k
theorem px_ishr (hexec : p.tables.exec = Jvm.exec) (hb : c.code = cc) {x y : Int32} (hdg : decode cc pc = .ok (.ishr, 1))
    (k : W p l e R s m args below meth c H locs cells slots Q (F0 m (pc + 1) ls (.int (ishr x y) :: rest))) : W p l e R s m args below meth c H locs cells slots Q (F0 m pc ls (.int y :: .int x :: rest)) := lv_ishr hexec hb hdg k
theorem px_iushr (hexec : p.tables.exec = Jvm.exec) (hb : c.code = cc) {x y : Int32} (hdg : decode cc pc = .ok (.iushr, 1))
    (k : W p l e R s m args below meth c H locs cells slots Q (F0 m (pc + 1) ls (.int (iushr x y) :: rest))) : W p l e R s m args below meth c H locs cells slots Q (F0 m pc ls (.int y :: .int x :: rest)) := lv_iushr hexec hb hdg rfl k
theorem px_i2c (hexec : p.tables.exec = Jvm.exec) (hb : c.code = cc) {x : Int32} (hdg : decode cc pc = .ok (.i2c, 1))
    (k : W p l e R s m args below meth c H locs cells slots Q (F0 m (pc + 1) ls (.int (jchar x) :: rest))) : W p l e R s m args below meth c H locs cells slots Q (F0 m pc ls (.int x :: rest)) := lv_i2c hexec hb hdg rfl k
theorem px_i2b (hexec : p.tables.exec = Jvm.exec) (hb : c.code = cc) {x : Int32} (hdg : decode cc pc = .ok (.i2b, 1))
    (k : W p l e R s m args below meth c H locs cells slots Q (F0 m (pc + 1) ls (.int (jbyte x) :: rest))) : W p l e R s m args below meth c H locs cells slots Q (F0 m pc ls (.int x :: rest)) := lv_i2b hexec hb hdg rfl k
theorem px_i2s (hexec : p.tables.exec = Jvm.exec) (hb : c.code = cc) {x : Int32} (hdg : decode cc pc = .ok (.i2s, 1))
    (k : W p l e R s m args below meth c H locs cells slots Q (F0 m (pc + 1) ls (.int (jshort x) :: rest))) : W p l e R s m args below meth c H locs cells slots Q (F0 m pc ls (.int x :: rest)) := lv_i2s hexec hb hdg rfl k
theorem px_i2l (hexec : p.tables.exec = Jvm.exec) (hb : c.code = cc) {x : Int32} (hdg : decode cc pc = .ok (.i2l, 1))
    (k : W p l e R s m args below meth c H locs cells slots Q (F0 m (pc + 1) ls (.long x.toInt64 :: rest))) : W p l e R s m args below meth c H locs cells slots Q (F0 m pc ls (.int x :: rest)) := lv_i2l hexec hb hdg rfl k
theorem px_l2i (hexec : p.tables.exec = Jvm.exec) (hb : c.code = cc) {x : Int64} (hdg : decode cc pc = .ok (.l2i, 1))
    (k : W p l e R s m args below meth c H locs cells slots Q (F0 m (pc + 1) ls (.int x.toInt32 :: rest))) : W p l e R s m args below meth c H locs cells slots Q (F0 m pc ls (.long x :: rest)) := lv_l2i hexec hb hdg rfl k
theorem px_mmax (hexec : p.tables.exec = Jvm.exec) (hb : c.code = cc) (hml : c.maxLocals = ls.size) {own : String} {index : Nat} (hown : s.vm.findClass own = some m.cls) (hlink : (Cond.methodLink own index Lib.Math.max.name).before args s = true) (hstat : (Cond.static Lib.Math.max.name).before args s = true) (hini : (Cond.initialized "java/lang/Math").before args s = true) (hcode : (Cond.code Lib.Math.max.name Lib.Math.max.code 2 (some .int)).before args s = true)
    (hframes : 1 ≤ R.frames) (hlocals : (rest.map fun v => v.category).sum + 13 ≤ R.locals) (hc : cells ≤ R.cells) (hs : slots ≤ R.slots) {x y : Int32} (hdg : decode cc pc = .ok (.invokestatic index, 3))
    (kk : W p l e R s m args below meth c H locs cells slots Q (F0 m (pc + 3) ls (.int (imax x y) :: rest))) : W p l e R s m args below meth c H locs cells slots Q (F0 m pc ls (.int y :: .int x :: rest)) := va_mmax hexec hb hml hown hlink hstat hini hcode hframes hlocals hc hs hdg kk
theorem px_mmin (hexec : p.tables.exec = Jvm.exec) (hb : c.code = cc) (hml : c.maxLocals = ls.size) {own : String} {index : Nat} (hown : s.vm.findClass own = some m.cls) (hlink : (Cond.methodLink own index Lib.Math.min.name).before args s = true) (hstat : (Cond.static Lib.Math.min.name).before args s = true) (hini : (Cond.initialized "java/lang/Math").before args s = true) (hcode : (Cond.code Lib.Math.min.name Lib.Math.min.code 2 (some .int)).before args s = true)
    (hframes : 1 ≤ R.frames) (hlocals : (rest.map fun v => v.category).sum + 13 ≤ R.locals) (hc : cells ≤ R.cells) (hs : slots ≤ R.slots) {x y : Int32} (hdg : decode cc pc = .ok (.invokestatic index, 3))
    (kk : W p l e R s m args below meth c H locs cells slots Q (F0 m (pc + 3) ls (.int (imin x y) :: rest))) : W p l e R s m args below meth c H locs cells slots Q (F0 m pc ls (.int y :: .int x :: rest)) := va_mmin hexec hb hml hown hlink hstat hini hcode hframes hlocals hc hs hdg kk
theorem px_mmaxl (hexec : p.tables.exec = Jvm.exec) (hb : c.code = cc) (hml : c.maxLocals = ls.size) {own : String} {index : Nat} (hown : s.vm.findClass own = some m.cls) (hlink : (Cond.methodLink own index Lib.MathLoose.max_long.x).before args s = true) (hstat : (Cond.static Lib.MathLoose.max_long.x).before args s = true) (hini : (Cond.initialized "java/lang/Math").before args s = true) (hcode : (Cond.code Lib.MathLoose.max_long.x Lib.MathLoose.max_long.code 4 (some .long)).before args s = true)
    (hframes : 1 ≤ R.frames) (hlocals : (rest.map fun v => v.category).sum + 15 ≤ R.locals) (hc : cells ≤ R.cells) (hs : slots ≤ R.slots) {x y : Int64} (hdg : decode cc pc = .ok (.invokestatic index, 3))
    (kk : W p l e R s m args below meth c H locs cells slots Q (F0 m (pc + 3) ls (.long (jmax x y) :: rest))) : W p l e R s m args below meth c H locs cells slots Q (F0 m pc ls (.long y :: .long x :: rest)) := va_mmax_long hexec hb hml hown hlink hstat hini hcode hframes hlocals hc hs hdg kk
theorem px_mminl (hexec : p.tables.exec = Jvm.exec) (hb : c.code = cc) (hml : c.maxLocals = ls.size) {own : String} {index : Nat} (hown : s.vm.findClass own = some m.cls) (hlink : (Cond.methodLink own index Lib.MathLoose.min_long.x).before args s = true) (hstat : (Cond.static Lib.MathLoose.min_long.x).before args s = true) (hini : (Cond.initialized "java/lang/Math").before args s = true) (hcode : (Cond.code Lib.MathLoose.min_long.x Lib.MathLoose.min_long.code 4 (some .long)).before args s = true)
    (hframes : 1 ≤ R.frames) (hlocals : (rest.map fun v => v.category).sum + 15 ≤ R.locals) (hc : cells ≤ R.cells) (hs : slots ≤ R.slots) {x y : Int64} (hdg : decode cc pc = .ok (.invokestatic index, 3))
    (kk : W p l e R s m args below meth c H locs cells slots Q (F0 m (pc + 3) ls (.long (jmin x y) :: rest))) : W p l e R s m args below meth c H locs cells slots Q (F0 m pc ls (.long y :: .long x :: rest)) := va_mmin_long hexec hb hml hown hlink hstat hini hcode hframes hlocals hc hs hdg kk
theorem px_mabsl (hexec : p.tables.exec = Jvm.exec) (hb : c.code = cc) (hml : c.maxLocals = ls.size) {own : String} {index : Nat} (hown : s.vm.findClass own = some m.cls) (hlink : (Cond.methodLink own index Lib.MathLoose.abs_long.x).before args s = true) (hstat : (Cond.static Lib.MathLoose.abs_long.x).before args s = true) (hini : (Cond.initialized "java/lang/Math").before args s = true) (hcode : (Cond.code Lib.MathLoose.abs_long.x Lib.MathLoose.abs_long.code 2 (some .long)).before args s = true)
    (hframes : 1 ≤ R.frames) (hlocals : (rest.map fun v => v.category).sum + 13 ≤ R.locals) (hc : cells ≤ R.cells) (hs : slots ≤ R.slots) {x : Int64} (hdg : decode cc pc = .ok (.invokestatic index, 3))
    (kk : W p l e R s m args below meth c H locs cells slots Q (F0 m (pc + 3) ls (.long (jabs x) :: rest))) : W p l e R s m args below meth c H locs cells slots Q (F0 m pc ls (.long x :: rest)) := va_mabs_long hexec hb hml hown hlink hstat hini hcode hframes hlocals hc hs hdg kk
end PXB
end
section
/-! ===== lN n to 2^64: shifts, and, or, masks, one bit ===== -/
theorem wb_tb (n : Nat) : (lN n).toBitVec = BitVec.ofNat 64 n := rfl
theorem wb_inj {a b : Int64} (h : a.toBitVec = b.toBitVec) : a = b := Int64.toBitVec_inj.mp h
theorem wb_tn {n : Nat} (h : n < 2 ^ 64) : (lN n).toBitVec.toNat = n := by rw [wb_tb, BitVec.toNat_ofNat, Nat.mod_eq_of_lt h]
theorem wb_of (x : Int64) : ∃ n, n < 2 ^ 64 ∧ x = lN n := ⟨x.toBitVec.toNat, x.toBitVec.isLt, wb_inj (by rw [wb_tb]; simp)⟩
theorem wb_of32 (x : Int32) : ∃ n, n < 2 ^ 32 ∧ x = nI n := ⟨x.toBitVec.toNat, x.toBitVec.isLt, Int32.toBitVec_inj.mp (by show _ = BitVec.ofNat 32 _; simp)⟩
theorem wb_c : ∀ k, k < 64 → ((nI k).toInt64 &&& 63) = lN k := by decide +kernel
theorem wb_cu : ∀ k, k < 64 → ((nI k).toInt64.toUInt64 &&& Int64.toUInt64 63) = UInt64.ofNat k := by decide +kernel
theorem wb_sm : ∀ k, k < 64 → (BitVec.ofNat 64 k).smod 64 = BitVec.ofNat 64 k := by decide +kernel
theorem wb_pw {a b : Nat} (h : a ≤ b) : 2 ^ b = 2 ^ a * 2 ^ (b - a) := by rw [← Nat.pow_add]; congr 1; omega
theorem wb_lt2 {a b : Nat} (h : a < b) : 2 ^ a < 2 ^ b := Nat.pow_lt_pow_right (by decide) h
theorem wb_mod (n : Nat) : lN n = lN (n % 2 ^ 64) := wb_inj (by rw [wb_tb, wb_tb]; apply BitVec.eq_of_toNat_eq; rw [BitVec.toNat_ofNat, BitVec.toNat_ofNat, Nat.mod_mod])
theorem wb_shr {n k : Nat} (hn : n < 2 ^ 64) (hk : k < 64) : ((lN n).toUInt64 >>> ((nI k).toInt64.toUInt64 &&& Int64.toUInt64 63)).toInt64 = lN (n / 2 ^ k) := by
  rw [wb_cu k hk]
  apply wb_inj
  apply BitVec.eq_of_toNat_eq
  show ((lN n).toUInt64 >>> UInt64.ofNat k).toNat = (BitVec.ofNat 64 _).toNat
  have h1 : (UInt64.ofNat k).toNat = k := by
    show (BitVec.ofNat 64 k).toNat = k
    rw [BitVec.toNat_ofNat, Nat.mod_eq_of_lt (by omega)]
  have h2 : (lN n).toUInt64.toNat = n := wb_tn hn
  rw [UInt64.toNat_shiftRight, h1, h2, Nat.mod_eq_of_lt hk, Nat.shiftRight_eq_div_pow, BitVec.toNat_ofNat, Nat.mod_eq_of_lt (Nat.lt_of_le_of_lt (Nat.div_le_self _ _) hn)]
theorem wb_shl (n : Nat) {k : Nat} (hk : k < 64) : lN n <<< ((nI k).toInt64 &&& 63) = lN (n * 2 ^ k) := by
  rw [wb_c k hk]
  apply wb_inj
  rw [Int64.toBitVec_shiftLeft, wb_tb, wb_tb, wb_tb, wb_sm k hk]
  apply BitVec.eq_of_toNat_eq
  rw [BitVec.shiftLeft_eq', BitVec.toNat_shiftLeft, BitVec.toNat_ofNat, BitVec.toNat_ofNat, BitVec.toNat_ofNat, Nat.mod_eq_of_lt (show k < 2 ^ 64 by omega), Nat.shiftLeft_eq, Nat.mul_mod, Nat.mod_mod, ← Nat.mul_mod]
theorem wb_and {a b : Nat} (ha : a < 2 ^ 64) (hb : b < 2 ^ 64) : lN a &&& lN b = lN (a &&& b) := by
  apply wb_inj
  rw [Int64.toBitVec_and, wb_tb, wb_tb, wb_tb]
  apply BitVec.eq_of_toNat_eq
  rw [BitVec.toNat_and, BitVec.toNat_ofNat, BitVec.toNat_ofNat, BitVec.toNat_ofNat, Nat.mod_eq_of_lt ha, Nat.mod_eq_of_lt hb, Nat.mod_eq_of_lt (Nat.and_lt_two_pow _ hb)]
theorem wb_or {a b : Nat} (ha : a < 2 ^ 64) (hb : b < 2 ^ 64) : lN a ||| lN b = lN (a ||| b) := by
  apply wb_inj
  rw [Int64.toBitVec_or, wb_tb, wb_tb, wb_tb]
  apply BitVec.eq_of_toNat_eq
  rw [BitVec.toNat_or, BitVec.toNat_ofNat, BitVec.toNat_ofNat, BitVec.toNat_ofNat, Nat.mod_eq_of_lt ha, Nat.mod_eq_of_lt hb, Nat.mod_eq_of_lt (Nat.or_lt_two_pow ha hb)]
theorem wb_mask {n k : Nat} (hn : n < 2 ^ 64) (hk : k < 64) : lN n &&& lN (2 ^ k - 1) = lN (n % 2 ^ k) := by
  rw [wb_and hn (by have := wb_lt2 hk; omega), Nat.and_two_pow_sub_one_eq_mod]
theorem wb_a1 {n : Nat} (hn : n < 2 ^ 64) : lN n &&& 1 = lN (n % 2) := wb_mask (k := 1) hn (by decide)
theorem wb_bit {n k : Nat} (hn : n < 2 ^ 64) (hk : k < 64) : ((lN n).toUInt64 >>> ((nI k).toInt64.toUInt64 &&& Int64.toUInt64 63)).toInt64 &&& 1 = lN (n / 2 ^ k % 2) := by
  rw [wb_shr hn hk, wb_a1 (Nat.lt_of_le_of_lt (Nat.div_le_self _ _) hn)]
theorem wb_xor {q k : Nat} (hk : k < 63) (h : 2 ^ k ≤ q) (h2 : q < 2 ^ (k + 1)) : lN q ^^^ lN (2 ^ k) = lN (q - 2 ^ k) := by
  obtain ⟨r, rfl⟩ : ∃ r, q = 2 ^ k + r := ⟨q - 2 ^ k, by omega⟩
  have hr : r < 2 ^ k := by rw [Nat.pow_succ] at h2; omega
  have hx : (2 ^ k + r) ^^^ 2 ^ k = r := by
    apply Nat.eq_of_testBit_eq
    intro i
    rw [Nat.testBit_xor, Nat.testBit_two_pow]
    rcases Nat.lt_trichotomy i k with h | h | h
    · rw [Nat.testBit_two_pow_add_gt h]
      simp [show ¬ k = i by omega]
    · subst h
      rw [Nat.testBit_two_pow_add_eq]
      simp
    · have a1 : 2 ^ (k + 1) ≤ 2 ^ i := Nat.pow_le_pow_right (by decide) h
      rw [Nat.testBit_lt_two_pow (show 2 ^ k + r < 2 ^ i by omega), Nat.testBit_lt_two_pow (show r < 2 ^ i by omega)]
      simp [show ¬ k = i by omega]
  have b1 := wb_lt2 (show k + 1 < 64 by omega)
  have b2 := wb_lt2 (show k < 64 by omega)
  apply wb_inj
  rw [Int64.toBitVec_xor, wb_tb, wb_tb, wb_tb]
  apply BitVec.eq_of_toNat_eq
  rw [BitVec.toNat_xor, BitVec.toNat_ofNat, BitVec.toNat_ofNat, BitVec.toNat_ofNat, Nat.mod_eq_of_lt (by omega : 2 ^ k + r < 2 ^ 64), Nat.mod_eq_of_lt b2, hx, Nat.add_sub_cancel_left, Nat.mod_eq_of_lt (by omega)]
/-! ===== lN: masks, 'or' of parts that don't overlap is a sum ===== -/
theorem u_tn {n : Nat} (h : n < 2 ^ 64) : (UInt64.ofNat n).toNat = n := Nat.mod_eq_of_lt h
theorem g_and {a b c : Nat} (ha : a < 2 ^ 64) (hb : b < 2 ^ 64) (hc : a &&& b = c) : lN a &&& lN b = lN c := by
  subst hc
  have h : UInt64.ofNat a &&& UInt64.ofNat b = UInt64.ofNat (a &&& b) := UInt64.toNat_inj.mp (by rw [UInt64.toNat_and, u_tn ha, u_tn hb, u_tn (Nat.and_lt_two_pow a hb)])
  have h2 := congrArg UInt64.toInt64 h
  exact h2
theorem g_and1 {a : Nat} (ha : a < 2 ^ 64) : lN a &&& 1 = lN (a % 2) := g_and (b := 1) ha (by decide) (Nat.and_two_pow_sub_one_eq_mod a 1)
theorem g_mask {a s p : Nat} (hp : 2 ^ s = p) (hs : s < 64) (ha : a < 2 ^ 64) : lN a &&& lN (p - 1) = lN (a % p) := by
  subst hp
  have := Nat.pow_lt_pow_right (show 1 < 2 by decide) hs
  exact g_and ha (by omega) (Nat.and_two_pow_sub_one_eq_mod a s)
theorem g_or {k p a b : Nat} (hp : 2 ^ k = p) (ha : a < p) (h : b * p + a < 2 ^ 64) : lN (b * p) ||| lN a = lN (b * p + a) := by
  subst hp
  have h1 : b * 2 ^ k ||| a = b * 2 ^ k + a := by rw [← Nat.shiftLeft_eq, Nat.shiftLeft_add_eq_or_of_lt ha]
  have h3 : UInt64.ofNat (b * 2 ^ k) ||| UInt64.ofNat a = UInt64.ofNat (b * 2 ^ k + a) := UInt64.toNat_inj.mp (by rw [UInt64.toNat_or, u_tn (by omega), u_tn (by omega), u_tn h, h1])
  have h2 := congrArg UInt64.toInt64 h3
  exact h2
theorem g_or' {k p a b : Nat} (hp : 2 ^ k = p) (ha : a < p) (h : a + b * p < 2 ^ 64) : lN a ||| lN (b * p) = lN (a + b * p) := by
  rw [Int64.or_comm, g_or hp ha (by omega), Nat.add_comm]
theorem g_ushr {a k p : Nat} {y : UInt64} (hy : y = UInt64.ofNat k) (hk : k < 64) (hp : 2 ^ k = p) (ha : a < 2 ^ 64) : ((lN a).toUInt64 >>> y).toInt64 = lN (a / p) := by
  subst hy hp
  have h : UInt64.ofNat a >>> UInt64.ofNat k = UInt64.ofNat (a / 2 ^ k) := UInt64.toNat_inj.mp (by rw [UInt64.toNat_shiftRight, u_tn ha, u_tn (by omega), u_tn (Nat.lt_of_le_of_lt (Nat.div_le_self _ _) ha), Nat.mod_eq_of_lt hk, Nat.shiftRight_eq_div_pow])
  have h2 := congrArg UInt64.toInt64 h
  exact h2
theorem g_shl {a k p : Nat} {y : Int64} (hy : y.toBitVec.smod 64 = BitVec.ofNat 64 k) (hk : k < 64) (hp : 2 ^ k = p) (ha : a < 2 ^ 64) : lN a <<< y = lN (a * p) := by
  subst hp
  apply Int64.toBitVec_inj.mp
  rw [Int64.toBitVec_shiftLeft, hy]
  apply BitVec.eq_of_toNat_eq
  have hb : (lN a).toBitVec.toNat = a := Nat.mod_eq_of_lt ha
  have hk' : (BitVec.ofNat 64 k).toNat = k := Nat.mod_eq_of_lt (by omega)
  have h : ((lN a).toBitVec <<< BitVec.ofNat 64 k).toNat = (a * 2 ^ k) % 2 ^ 64 := by simp only [BitVec.shiftLeft_eq', BitVec.toNat_shiftLeft, hb, hk', Nat.shiftLeft_eq]
  exact h
/-! ===== Int64 as an unsigned number: uN x ===== -/
def uN (x : Int64) : Nat := x.toUInt64.toNat
theorem uN_lt (x : Int64) : uN x < 18446744073709551616 := x.toUInt64.toNat_lt
theorem uN_inj {x y : Int64} (h : uN x = uN y) : x = y := congrArg UInt64.toInt64 (UInt64.toNat_inj.mp h)
theorem uN_add (x y : Int64) : uN (x + y) = (uN x + uN y) % 18446744073709551616 := by
  show (x.toUInt64 + y.toUInt64).toNat = _
  exact UInt64.toNat_add _ _
theorem uN_mul (x y : Int64) : uN (x * y) = (uN x * uN y) % 18446744073709551616 := by
  show (x.toUInt64 * y.toUInt64).toNat = _
  exact UInt64.toNat_mul _ _
theorem uN_shl (x : Int64) : uN (x <<< ((1 : Int32).toInt64 &&& 63)) = (2 * uN x) % 18446744073709551616 := by
  have h : (((1 : Int32).toInt64 &&& 63).toBitVec.smod 64).toNat = 1 := by decide
  show (x.toBitVec <<< (((1 : Int32).toInt64 &&& 63).toBitVec.smod 64).toNat).toNat = _
  rw [h, BitVec.toNat_shiftLeft, Nat.shiftLeft_eq, Nat.mul_comm]
  rfl
theorem uN_shr (x : Int64) (s : UInt64) : uN (x.toUInt64 >>> s).toInt64 = uN x / 2 ^ (s.toNat % 64) := by
  show (x.toUInt64 >>> s).toNat = _
  rw [UInt64.toNat_shiftRight, Nat.shiftRight_eq_div_pow]
  rfl
theorem uN_s32 (x : Int64) : uN (x.toUInt64 >>> ((32 : Int32).toInt64.toUInt64 &&& Int64.toUInt64 63)).toInt64 = uN x / 4294967296 := by
  have h : ((32 : Int32).toInt64.toUInt64 &&& Int64.toUInt64 63).toNat % 64 = 32 := by decide
  rw [uN_shr, h]
theorem uN_s63 (x : Int64) : uN (x.toUInt64 >>> ((63 : Int32).toInt64.toUInt64 &&& Int64.toUInt64 63)).toInt64 = uN x / 9223372036854775808 := by
  have h : ((63 : Int32).toInt64.toUInt64 &&& Int64.toUInt64 63).toNat % 64 = 63 := by decide
  rw [uN_shr, h]
theorem uN_lo (x : Int64) : uN (x &&& 4294967295) = uN x % 4294967296 := by
  show (x.toUInt64 &&& Int64.toUInt64 4294967295).toNat = _
  rw [UInt64.toNat_and]
  exact Nat.and_two_pow_sub_one_eq_mod _ 32
theorem uN_bit (x : Int64) : (x &&& 1) = 0 ↔ uN x % 2 = 0 := by
  have h : uN (x &&& 1) = uN x % 2 := by
    show (x.toUInt64 &&& Int64.toUInt64 1).toNat = _
    rw [UInt64.toNat_and]
    exact Nat.and_two_pow_sub_one_eq_mod _ 1
  rw [← h]
  exact ⟨fun z => by rw [z]; rfl, fun z => uN_inj (z.trans rfl)⟩
theorem uN_or {x y : Int64} (hy : uN y < 2) : uN ((x <<< ((1 : Int32).toInt64 &&& 63)) ||| y) = (2 * uN x) % 18446744073709551616 + uN y := by
  have h1 : uN ((x <<< ((1 : Int32).toInt64 &&& 63)) ||| y) = uN (x <<< ((1 : Int32).toInt64 &&& 63)) ||| uN y := UInt64.toNat_or _ _
  have h2 : (2 * uN x) % 18446744073709551616 = 2 ^ 1 * (uN x % 9223372036854775808) := by omega
  rw [h1, uN_shl, h2]
  exact (Nat.two_pow_add_eq_or_of_lt (i := 1) hy _).symm
theorem nat_xor {a : Nat} (h : a < 18446744073709551616) : a ^^^ 2 ^ 63 = (a + 9223372036854775808) % 18446744073709551616 := by
  have h1 : (a ^^^ 2 ^ 63) % 2 ^ 63 = a % 2 ^ 63 := by rw [Nat.xor_mod_two_pow, Nat.mod_self, Nat.xor_zero]
  have h2 : (a ^^^ 2 ^ 63) / 2 ^ 63 = (a / 2 ^ 63) ^^^ 1 := by rw [Nat.xor_div_two_pow, Nat.div_self (Nat.two_pow_pos 63)]
  have h3 : a / 2 ^ 63 = 0 ∨ a / 2 ^ 63 = 1 := by omega
  generalize a ^^^ 2 ^ 63 = t at h1 h2
  rcases h3 with h3 | h3
  · rw [h3] at h2
    have h2 : t / 2 ^ 63 = 1 := h2
    omega
  · rw [h3] at h2
    have h2 : t / 2 ^ 63 = 0 := h2
    omega
theorem uN_xor (x : Int64) : uN (x ^^^ (-9223372036854775808)) = (uN x + 9223372036854775808) % 18446744073709551616 := by
  rw [← nat_xor (uN_lt x)]
  exact UInt64.toNat_xor _ _
theorem uN_int (x : Int64) : x.toInt = if 2 * uN x < 18446744073709551616 then (uN x : Int) else (uN x : Int) - 18446744073709551616 := BitVec.toInt_eq_toNat_cond _
theorem uN_le (x y : Int64) : (x ^^^ (-9223372036854775808)) ≤ (y ^^^ (-9223372036854775808)) ↔ uN x ≤ uN y := by
  have hx := uN_lt x
  have hy := uN_lt y
  rw [Int64.le_iff_toInt_le, uN_int, uN_int, uN_xor, uN_xor]
  omega
theorem uN_sk (x : Int64) {k : Nat} (hk : k < 64) : uN (x.toUInt64 >>> ((nI k).toInt64.toUInt64 &&& Int64.toUInt64 63)).toInt64 = uN x / 2 ^ k := by
  have h : ((nI k).toInt64.toUInt64 &&& Int64.toUInt64 63).toNat % 64 = k := by
    rw [nI_l (by omega), UInt64.toNat_and]
    have e : (lN k).toUInt64.toNat = k % 2 ^ 64 := rfl
    have e2 : (Int64.toUInt64 63).toNat = 2 ^ 6 - 1 := by decide
    rw [e, e2, Nat.and_two_pow_sub_one_eq_mod]
    omega
  rw [uN_shr, h]
/-! ===== unsigned comparison by xor with the least ===== -/
theorem lN_bv (n : Nat) : (lN n).toBitVec = BitVec.ofNat 64 n := rfl
theorem lN_nat {n : Nat} (h : n < 2 ^ 64) : (lN n).toBitVec.toNat = n := by rw [lN_bv, BitVec.toNat_ofNat]; exact Nat.mod_eq_of_lt h
theorem lN_xor (a b : Nat) : lN a ^^^ lN b = lN (a ^^^ b) := by
  apply Int64.toBitVec_inj.mp; rw [Int64.toBitVec_xor, lN_bv, lN_bv, lN_bv]; apply BitVec.eq_of_getLsbD_eq; intro i hi; simp [BitVec.getLsbD_ofNat, Nat.testBit_xor, hi]
theorem lN_ti {m : Nat} (h : m < 2 ^ 64) : (lN m).toInt = if m < 2 ^ 63 then (m : Int) else (m : Int) - 2 ^ 64 := by
  have c := BitVec.toInt_eq_toNat_cond (lN m).toBitVec
  rw [lN_nat h] at c
  show (lN m).toBitVec.toInt = _
  rw [c]
  split <;> split <;> omega
theorem xor63 {x : Nat} (h : x < 2 ^ 63) : x ^^^ 2 ^ 63 = 2 ^ 63 + x := by
  apply Nat.eq_of_testBit_eq
  intro i
  rw [Nat.testBit_xor, Nat.testBit_two_pow]
  rcases Nat.lt_trichotomy i 63 with z | z | z
  · rw [Nat.testBit_two_pow_add_gt z, decide_eq_false (by omega)]; simp
  · subst z; rw [Nat.testBit_two_pow_add_eq]; simp
  · have hp : 2 ^ 64 ≤ 2 ^ i := Nat.pow_le_pow_right (by decide) z
    rw [Nat.testBit_lt_two_pow (show x < 2 ^ i by omega), Nat.testBit_lt_two_pow (show 2 ^ 63 + x < 2 ^ i by omega), decide_eq_false (by omega)]; rfl
theorem xorS {a : Nat} (h : a < 2 ^ 64) : (lN a ^^^ (-9223372036854775808)).toInt = (a : Int) - 2 ^ 63 := by
  rw [show (-9223372036854775808 : Int64) = lN (2 ^ 63) from by decide +kernel, lN_xor]
  rcases Nat.lt_or_ge a (2 ^ 63) with z | z
  · rw [xor63 z, lN_ti (by omega), if_neg (by omega)]; omega
  · obtain ⟨x, rfl⟩ : ∃ x, a = 2 ^ 63 + x := ⟨a - 2 ^ 63, by omega⟩
    rw [← xor63 (by omega), Nat.xor_assoc, Nat.xor_self, Nat.xor_zero, lN_ti (by omega), if_pos (by omega), xor63 (by omega)]; omega
theorem ultL {a b : Nat} (ha : a < 2 ^ 64) (hb : b < 2 ^ 64) : ((lN b ^^^ (-9223372036854775808)) ≤ (lN a ^^^ (-9223372036854775808))) ↔ b ≤ a := by
  rw [Int64.le_iff_toInt_le, xorS ha, xorS hb]; omega
/-! ===== signed ints as whole numbers, within bounds ===== -/
theorem fb_rng (x : Int32) : -2147483648 ≤ x.toInt ∧ x.toInt < 2147483648 := by
  have h1 := Int32.le_toInt x
  have h2 := Int32.toInt_lt x
  omega
theorem fb_bmod {z : Int} (h1 : -2147483648 ≤ z) (h2 : z < 2147483648) : z.bmod (2 ^ 32) = z := by
  rw [Int.bmod_eq_of_le (by omega) (by omega)]
theorem fb_addI {x y : Int32} (h1 : -2147483648 ≤ x.toInt + y.toInt) (h2 : x.toInt + y.toInt < 2147483648) : (x + y).toInt = x.toInt + y.toInt := by
  rw [Int32.toInt_add, fb_bmod h1 h2]
theorem fb_subI {x y : Int32} (h1 : -2147483648 ≤ x.toInt - y.toInt) (h2 : x.toInt - y.toInt < 2147483648) : (x - y).toInt = x.toInt - y.toInt := by
  rw [Int32.toInt_sub, fb_bmod h1 h2]
theorem fb_mulI {x y : Int32} (h1 : -2147483648 ≤ x.toInt * y.toInt) (h2 : x.toInt * y.toInt < 2147483648) : (x * y).toInt = x.toInt * y.toInt := by
  rw [Int32.toInt_mul, fb_bmod h1 h2]
theorem fb_negI {x : Int32} (h : x.toInt ≠ -2147483648) : (-x).toInt = -x.toInt := by
  have := fb_rng x
  rw [Int32.toInt_neg, fb_bmod (by omega) (by omega)]
theorem fb_ofI {z : Int} (h1 : -2147483648 ≤ z) (h2 : z < 2147483648) : (Int32.ofInt z).toInt = z := by
  rw [Int32.toInt_ofInt, fb_bmod h1 h2]
theorem fb_asI (x : Int32) : Int32.ofInt x.toInt = x := Int32.ofInt_toInt x
theorem fb_rngL (x : Int64) : -9223372036854775808 ≤ x.toInt ∧ x.toInt < 9223372036854775808 := by
  have h1 := Int64.le_toInt x
  have h2 := Int64.toInt_lt x
  omega
theorem fb_bmodL {z : Int} (h1 : -9223372036854775808 ≤ z) (h2 : z < 9223372036854775808) : z.bmod (2 ^ 64) = z := by
  rw [Int.bmod_eq_of_le (by omega) (by omega)]
theorem fb_addL {x y : Int64} (h1 : -9223372036854775808 ≤ x.toInt + y.toInt) (h2 : x.toInt + y.toInt < 9223372036854775808) : (x + y).toInt = x.toInt + y.toInt := by
  rw [Int64.toInt_add, fb_bmodL h1 h2]
theorem fb_subL {x y : Int64} (h1 : -9223372036854775808 ≤ x.toInt - y.toInt) (h2 : x.toInt - y.toInt < 9223372036854775808) : (x - y).toInt = x.toInt - y.toInt := by
  rw [Int64.toInt_sub, fb_bmodL h1 h2]
theorem fb_mulL {x y : Int64} (h1 : -9223372036854775808 ≤ x.toInt * y.toInt) (h2 : x.toInt * y.toInt < 9223372036854775808) : (x * y).toInt = x.toInt * y.toInt := by
  rw [Int64.toInt_mul, fb_bmodL h1 h2]
/-! ===== cuts of what is narrow already ===== -/
theorem fb_byte {x : Int32} (h1 : -128 ≤ x.toInt) (h2 : x.toInt < 128) : x.toInt8.toInt32 = x := by
  apply Int32.toInt_inj.1
  rw [Int8.toInt_toInt32, Int32.toInt_toInt8, Int.bmod_eq_of_le (by omega) (by omega)]
theorem fb_short {x : Int32} (h1 : -32768 ≤ x.toInt) (h2 : x.toInt < 32768) : x.toInt16.toInt32 = x := by
  apply Int32.toInt_inj.1
  rw [Int16.toInt_toInt32, Int32.toInt_toInt16, Int.bmod_eq_of_le (by omega) (by omega)]
theorem fb_byte_rng (x : Int32) : -128 ≤ x.toInt8.toInt32.toInt ∧ x.toInt8.toInt32.toInt < 128 := by
  rw [Int8.toInt_toInt32]
  have h1 := Int8.le_toInt x.toInt8
  have h2 := Int8.toInt_lt x.toInt8
  omega
theorem fb_short_rng (x : Int32) : -32768 ≤ x.toInt16.toInt32.toInt ∧ x.toInt16.toInt32.toInt < 32768 := by
  rw [Int16.toInt_toInt32]
  have h1 := Int16.le_toInt x.toInt16
  have h2 := Int16.toInt_lt x.toInt16
  omega
theorem fb_byte_twice (x : Int32) : x.toInt8.toInt32.toInt8.toInt32 = x.toInt8.toInt32 := fb_byte (fb_byte_rng x).1 (fb_byte_rng x).2
theorem fb_short_twice (x : Int32) : x.toInt16.toInt32.toInt16.toInt32 = x.toInt16.toInt32 := fb_short (fb_short_rng x).1 (fb_short_rng x).2
theorem fb_char {n : Nat} (h : n < 65536) : (nI n).toUInt32.toUInt16.toUInt32.toInt32 = nI n := by
  apply Int32.toBitVec_inj.1
  apply BitVec.eq_of_toNat_eq
  have e1 : (nI n).toBitVec.toNat = n := by
    show (BitVec.ofNat 32 n).toNat = n
    rw [BitVec.toNat_ofNat, Nat.mod_eq_of_lt (by omega)]
  have e2 : ((nI n).toUInt32.toUInt16.toUInt32).toNat = n := by
    rw [UInt16.toNat_toUInt32, UInt32.toNat_toUInt16]
    show (nI n).toBitVec.toNat % 2 ^ 16 = n
    rw [e1, Nat.mod_eq_of_lt (by omega)]
  rw [e1]
  exact e2
/-! ===== order of ints, in all its forms, and through longs ===== -/
theorem fa_lt (a b : Int32) : a < b ↔ a.toInt < b.toInt := Int32.lt_iff_toInt_lt
theorem fa_le (a b : Int32) : a ≤ b ↔ a.toInt ≤ b.toInt := Int32.le_iff_toInt_le
theorem fa_eq (a b : Int32) : a = b ↔ a.toInt = b.toInt := Int32.toInt_inj.symm
theorem fa_lt64 (a b : Int64) : a < b ↔ a.toInt < b.toInt := Int64.lt_iff_toInt_lt
theorem fa_le64 (a b : Int64) : a ≤ b ↔ a.toInt ≤ b.toInt := Int64.le_iff_toInt_le
theorem fa_eq64 (a b : Int64) : a = b ↔ a.toInt = b.toInt := Int64.toInt_inj.symm
/-- a comparison of two ints taken as longs -/
theorem fa_wide_lt (a b : Int32) : a.toInt64 < b.toInt64 ↔ a < b := by rw [fa_lt64, fa_lt, Int32.toInt_toInt64, Int32.toInt_toInt64]
theorem fa_wide_le (a b : Int32) : a.toInt64 ≤ b.toInt64 ↔ a ≤ b := by rw [fa_le64, fa_le, Int32.toInt_toInt64, Int32.toInt_toInt64]
theorem fa_wide_eq (a b : Int32) : a.toInt64 = b.toInt64 ↔ a = b := by rw [fa_eq64, fa_eq, Int32.toInt_toInt64, Int32.toInt_toInt64]
/-- one strict comparison gives all the others -/
theorem fa_of_lt {a b : Int32} (h : a < b) : a ≤ b ∧ ¬ b ≤ a ∧ ¬ b < a ∧ a ≠ b ∧ b ≠ a := by
  rw [fa_lt] at h
  refine ⟨?_, ?_, ?_, ?_, ?_⟩
  · rw [fa_le]; omega
  · rw [fa_le]; omega
  · rw [fa_lt]; omega
  · intro e; rw [fa_eq] at e; omega
  · intro e; rw [fa_eq] at e; omega
theorem fa_of_nlt {a b : Int32} (h : ¬ a < b) : b ≤ a := by
  rw [fa_lt] at h
  rw [fa_le]
  omega
theorem fa_of_nle {a b : Int32} (h : ¬ a ≤ b) : b < a := by
  rw [fa_le] at h
  rw [fa_lt]
  omega
theorem fa_le_ne {a b : Int32} (h : a ≤ b) (h2 : a ≠ b) : a < b := by
  rw [fa_le] at h
  rw [fa_lt]
  have h3 : a.toInt ≠ b.toInt := fun e => h2 ((fa_eq a b).mpr e)
  omega
theorem fa_three (a b : Int32) : a < b ∨ a = b ∨ b < a := by
  rw [fa_lt, fa_lt, fa_eq]
  omega
theorem fa_trans {a b c : Int32} (h : a < b) (h2 : b ≤ c) : a < c := by
  rw [fa_lt] at *
  rw [fa_le] at h2
  omega
end
section
def fX0_fractionBits_0 (v0 : Int32) : Int32 := (if v0 = (6 : Int32) then (23 : Int32) else (52 : Int32))
def fX0_fractionBits (v0 : Int32) : Int32 := fX0_fractionBits_0 v0
def fX0_leastExponent_0 (v0 : Int32) : Int32 := (if v0 = (6 : Int32) then (-149 : Int32) else (-1074 : Int32))
def fX0_leastExponent (v0 : Int32) : Int32 := fX0_leastExponent_0 v0
def fX0_greatestAbove_0 (v0 : Int32) : Int32 := (if v0 = (6 : Int32) then (253 : Int32) else (2045 : Int32))
def fX0_greatestAbove (v0 : Int32) : Int32 := fX0_greatestAbove_0 v0
def fX0_infinity_0 (v0 : Int32) : Int64 := (if v0 = (6 : Int32) then (2139095040 : Int64) else (9218868437227405312 : Int64))
def fX0_infinity (v0 : Int32) : Int64 := fX0_infinity_0 v0
def fX0_notANumber_0 (v0 : Int32) : Int64 := ((fX0_infinity v0) + (1 : Int64))
def fX0_notANumber (v0 : Int32) : Int64 := fX0_notANumber_0 v0
def fX0_signBit_0 (v0 : Int32) : Int64 := (if v0 = (6 : Int32) then (2147483648 : Int64) else (-9223372036854775808 : Int64))
def fX0_signBit (v0 : Int32) : Int64 := fX0_signBit_0 v0
def fX0_size_0 (v0 : Int32) (v1 : Int64) : Int64 := (v1 &&& ((fX0_signBit v0) ^^^ (-1 : Int64)))
def fX0_size (v0 : Int32) (v1 : Int64) : Int64 := fX0_size_0 v0 v1
def fX0_isNumber_6 (v0 : Int32) (v3 : Int64) : Int32 := (if v3 < (0 : Int64) then (0 : Int32) else (if (fX0_infinity v0) < v3 then (0 : Int32) else (1 : Int32)))
def fX0_isNumber_0 (v0 : Int32) (v1 : Int64) : Int32 := fX0_isNumber_6 v0 (fX0_size v0 v1)
def fX0_isNumber (v0 : Int32) (v1 : Int64) : Int32 := fX0_isNumber_0 v0 v1
def fX0_isNegative_0 (v0 : Int32) (v1 : Int64) : Int32 := (if (v1 &&& (fX0_signBit v0)) = (0 : Int64) then (0 : Int32) else (1 : Int32))
def fX0_isNegative (v0 : Int32) (v1 : Int64) : Int32 := fX0_isNegative_0 v0 v1
def fX0_isInfinite_0 (v0 : Int32) (v1 : Int64) : Int32 := (if (fX0_size v0 v1) = (fX0_infinity v0) then (1 : Int32) else (0 : Int32))
def fX0_isInfinite (v0 : Int32) (v1 : Int64) : Int32 := fX0_isInfinite_0 v0 v1
def fX0_isZero_0 (v0 : Int32) (v1 : Int64) : Int32 := (if (fX0_size v0 v1) = (0 : Int64) then (1 : Int32) else (0 : Int32))
def fX0_isZero (v0 : Int32) (v1 : Int64) : Int32 := fX0_isZero_0 v0 v1
def fX0_negated_0 (v0 : Int32) (v1 : Int64) : Int64 := (v1 ^^^ (fX0_signBit v0))
def fX0_negated (v0 : Int32) (v1 : Int64) : Int64 := fX0_negated_0 v0 v1
def fX0_signed_0 (v0 : Int32) (v1 : Int32) (v2 : Int64) : Int64 := (if v1 = (0) then v2 else (v2 ||| (fX0_signBit v0)))
def fX0_signed (v0 : Int32) (v1 : Int32) (v2 : Int64) : Int64 := fX0_signed_0 v0 v1 v2
def fX0_place_6 (v0 : Int32) (v1 : Int64) (v3 : Int64) : Int64 := (if (fX0_isNegative v0 v1) = (0) then v3 else (-v3))
def fX0_place_0 (v0 : Int32) (v1 : Int64) : Int64 := fX0_place_6 v0 v1 (fX0_size v0 v1)
def fX0_place (v0 : Int32) (v1 : Int64) : Int64 := fX0_place_0 v0 v1
def fX0_placeWithZerosApart_6 (v0 : Int32) (v1 : Int64) (v3 : Int64) : Int64 := (if (fX0_isNegative v0 v1) = (0) then v3 else ((-v3) - (1 : Int64)))
def fX0_placeWithZerosApart_0 (v0 : Int32) (v1 : Int64) : Int64 := fX0_placeWithZerosApart_6 v0 v1 (fX0_size v0 v1)
def fX0_placeWithZerosApart (v0 : Int32) (v1 : Int64) : Int64 := fX0_placeWithZerosApart_0 v0 v1
def fX0_magnitude_14 (v0 : Int32) (v1 : Int64) (v3 : Int64) (v5 : Int64) : Int64 := (if (fX0_size v0 v1) < v3 then v5 else (v5 + v3))
def fX0_magnitude_7 (v0 : Int32) (v1 : Int64) (v3 : Int64) : Int64 := fX0_magnitude_14 v0 v1 v3 (v1 &&& (v3 - (1 : Int64)))
def fX0_magnitude_0 (v0 : Int32) (v1 : Int64) : Int64 := fX0_magnitude_7 v0 v1 (jshl (1 : Int64) (fX0_fractionBits v0))
def fX0_magnitude (v0 : Int32) (v1 : Int64) : Int64 := fX0_magnitude_0 v0 v1
def fX0_exponent_12 (v0 : Int32) (v3 : Int32) : Int32 := (((fX0_leastExponent v0) + (imax v3 (1 : Int32))) - (1 : Int32))
def fX0_exponent_0 (v0 : Int32) (v1 : Int64) : Int32 := fX0_exponent_12 v0 ((jushr (fX0_size v0 v1) (fX0_fractionBits v0)).toInt32)
def fX0_exponent (v0 : Int32) (v1 : Int64) : Int32 := fX0_exponent_0 v0 v1
def fX0_roomBelow_2 : Nat → Int32 → Int64 → Int32 → Int32
  | 0, _, _, _ => 0
  | fuel + 1, v0, v1, v3 => (if v3 < v0 then (if (jshl v1 v3) < (jshl (1 : Int64) v0) then fX0_roomBelow_2 fuel v0 v1 (v3 + (1 : Int32)) else v3) else v3)
def okX0_roomBelow_2 : Nat → Int32 → Int64 → Int32 → Prop
  | 0, _, _, _ => False
  | fuel + 1, v0, v1, v3 => ((v3 < v0 → (((jshl v1 v3) < (jshl (1 : Int64) v0) → okX0_roomBelow_2 fuel v0 v1 (v3 + (1 : Int32))) ∧ (¬ (jshl v1 v3) < (jshl (1 : Int64) v0) → True))) ∧ (¬ v3 < v0 → True))
def fX0_roomBelow_0 (v0 : Int32) (v1 : Int64) : Int32 := fX0_roomBelow_2 (v0.toNatClampNeg + 1) v0 v1 (0 : Int32)
def okX0_roomBelow_0 (v0 : Int32) (v1 : Int64) : Prop := okX0_roomBelow_2 (v0.toNatClampNeg + 1) v0 v1 (0 : Int32)
def fX0_roomBelow (v0 : Int32) (v1 : Int64) : Int32 := fX0_roomBelow_0 v0 v1
def okX0_roomBelow (v0 : Int32) (v1 : Int64) : Prop := okX0_roomBelow_0 v0 v1
def fX0_movedDown_22 (v0 : Int64) (v2 : Int32) (v3 : Int64) : Int64 := (if (jshl v3 v2) = v0 then v3 else (v3 ||| (1 : Int64)))
def fX0_movedDown_0 (v0 : Int64) (v2 : Int32) : Int64 := (if (63 : Int32) < v2 then (if v0 = (0 : Int64) then (0 : Int64) else (1 : Int64)) else fX0_movedDown_22 v0 v2 (jushr v0 v2))
def fX0_movedDown (v0 : Int64) (v2 : Int32) : Int64 := fX0_movedDown_0 v0 v2
def fX0_roundedDown_57 (v3 : Int64) (s0 : Int32) : Int64 := (if s0 = (0) then v3 else (v3 + (1 : Int64)))
def fX0_roundedDown_52 (v3 : Int64) : Int64 := fX0_roundedDown_57 v3 (1 : Int32)
def fX0_roundedDown_56 (v3 : Int64) : Int64 := fX0_roundedDown_57 v3 (0 : Int32)
def fX0_roundedDown_28 (v3 : Int64) (v5 : Int64) (v7 : Int64) : Int64 := (if v7 < v5 then fX0_roundedDown_52 v3 else (if v5 = v7 then (if (v3 &&& (1 : Int64)) = (1 : Int64) then fX0_roundedDown_52 v3 else fX0_roundedDown_56 v3) else fX0_roundedDown_56 v3))
def fX0_roundedDown_21 (v2 : Int32) (v3 : Int64) (v5 : Int64) : Int64 := fX0_roundedDown_28 v3 v5 (jshl (1 : Int64) (v2 - (1 : Int32)))
def fX0_roundedDown_12 (v0 : Int64) (v2 : Int32) (v3 : Int64) : Int64 := fX0_roundedDown_21 v2 v3 (v0 &&& ((jshl (1 : Int64) v2) - (1 : Int64)))
def fX0_roundedDown_0 (v0 : Int64) (v2 : Int32) : Int64 := (if (63 : Int32) < v2 then (0 : Int64) else fX0_roundedDown_12 v0 v2 (jushr v0 v2))
def fX0_roundedDown (v0 : Int64) (v2 : Int32) : Int64 := fX0_roundedDown_0 v0 v2
def fX0_nearest_90 (v0 : Int32) (v1 : Int32) (v7 : Int32) (v8 : Int64) : Int64 := (fX0_signed v0 v1 ((jshl (v7.toInt64) (fX0_fractionBits v0)) + v8))
def fX0_nearest_79 (v0 : Int32) (v1 : Int32) (v2 : Int64) (v5 : Int32) (v6 : Int32) (v7 : Int32) : Int64 := fX0_nearest_90 v0 v1 v7 (fX0_roundedDown (jshl v2 v5) v6)
def fX0_nearest_76 (v0 : Int32) (v1 : Int32) (v2 : Int64) (v5 : Int32) (v6 : Int32) : Int64 := fX0_nearest_79 v0 v1 v2 v5 v6 (0 : Int32)
def fX0_nearest_45 (v0 : Int32) (v1 : Int32) (v2 : Int64) (v5 : Int32) (v6 : Int32) (v7 : Int32) : Int64 := (if (fX0_greatestAbove v0) < v7 then (fX0_signed v0 v1 (fX0_infinity v0)) else (if v7 < (0) then fX0_nearest_76 v0 v1 v2 v5 (v6 - v7) else fX0_nearest_79 v0 v1 v2 v5 v6 v7))
def fX0_nearest_30 (v0 : Int32) (v1 : Int32) (v2 : Int64) (v4 : Int32) (v5 : Int32) (v6 : Int32) : Int64 := fX0_nearest_45 v0 v1 v2 v5 v6 (((v4 - v5) + v6) - (fX0_leastExponent v0))
def fX0_nearest_21 (v0 : Int32) (v1 : Int32) (v2 : Int64) (v4 : Int32) (v5 : Int32) : Int64 := fX0_nearest_30 v0 v1 v2 v4 v5 ((62 : Int32) - (fX0_fractionBits v0))
def fX0_nearest_0 (v0 : Int32) (v1 : Int32) (v2 : Int64) (v4 : Int32) : Int64 := (if v2 = (0 : Int64) then (fX0_signed v0 v1 (0 : Int64)) else fX0_nearest_21 v0 v1 v2 v4 (fX0_roomBelow (62 : Int32) v2))
def fX0_nearest (v0 : Int32) (v1 : Int32) (v2 : Int64) (v4 : Int32) : Int64 := fX0_nearest_0 v0 v1 v2 v4
def fX0_ofWhole_30 (v1 : Int64) (s0 : Int32) (s1 : Int32) : Int64 := (fX0_nearest s0 s1 (jabs v1) (0 : Int32))
def fX0_ofWhole_0 (v0 : Int32) (v1 : Int64) : Int64 := (if v1 = (-9223372036854775808 : Int64) then (fX0_nearest v0 (1 : Int32) (4611686018427387904 : Int64) (1 : Int32)) else (if v1 < (0 : Int64) then fX0_ofWhole_30 v1 v0 (1 : Int32) else fX0_ofWhole_30 v1 v0 (0 : Int32)))
def fX0_ofWhole (v0 : Int32) (v1 : Int64) : Int64 := fX0_ofWhole_0 v0 v1
def fX0_ofReal_7 (v0 : Int32) (v1 : Int32) (v2 : Int64) (v4 : Int32) : Int64 := (if (fX0_isInfinite v1 v2) = (0) then (fX0_nearest v0 v4 (fX0_magnitude v1 v2) (fX0_exponent v1 v2)) else (fX0_signed v0 v4 (fX0_infinity v0)))
def fX0_ofReal_0 (v0 : Int32) (v1 : Int32) (v2 : Int64) : Int64 := fX0_ofReal_7 v0 v1 v2 (fX0_isNegative v1 v2)
def fX0_ofReal (v0 : Int32) (v1 : Int32) (v2 : Int64) : Int64 := fX0_ofReal_0 v0 v1 v2
def fX0_wholePart_42 (v3 : Int32) (s0 : Int64) : Int64 := (if v3 = (0) then s0 else (-s0))
def fX0_wholePart_76 (v3 : Int32) : Int64 := (if v3 = (0) then (9223372036854775807 : Int64) else (-9223372036854775808 : Int64))
def fX0_wholePart_20 (v3 : Int32) (v4 : Int64) (v6 : Int32) : Int64 := (if (0) < v6 then (if (63 : Int32) < v6 then fX0_wholePart_76 v3 else (if (jushr (9223372036854775807 : Int64) v6) < v4 then fX0_wholePart_76 v3 else (if v3 = (0) then (jshl v4 v6) else (-(jshl v4 v6))))) else (if v6 < (-63 : Int32) then fX0_wholePart_42 v3 (0 : Int64) else fX0_wholePart_42 v3 (jushr v4 (-v6))))
def fX0_wholePart_13 (v0 : Int32) (v1 : Int64) (v3 : Int32) (v4 : Int64) : Int64 := fX0_wholePart_20 v3 v4 (fX0_exponent v0 v1)
def fX0_wholePart_6 (v0 : Int32) (v1 : Int64) (v3 : Int32) : Int64 := fX0_wholePart_13 v0 v1 v3 (fX0_magnitude v0 v1)
def fX0_wholePart_0 (v0 : Int32) (v1 : Int64) : Int64 := fX0_wholePart_6 v0 v1 (fX0_isNegative v0 v1)
def fX0_wholePart (v0 : Int32) (v1 : Int64) : Int64 := fX0_wholePart_0 v0 v1
def fX0_sumByGreater_79 (v0 : Int32) (v3 : Int64) (v6 : Int64) (v8 : Int32) (v9 : Int64) (v12 : Int32) : Int64 := (if v12 = (fX0_isNegative v0 v3) then (fX0_nearest v0 v12 (v6 + v9) v8) else (if v6 = v9 then (0 : Int64) else (fX0_nearest v0 v12 (v6 - v9) v8)))
def fX0_sumByGreater_70 (v0 : Int32) (v1 : Int64) (v3 : Int64) (v6 : Int64) (v8 : Int32) (s0 : Int64) : Int64 := fX0_sumByGreater_79 v0 v3 v6 v8 s0 (fX0_isNegative v0 v1)
def fX0_sumByGreater_49 (v0 : Int32) (v1 : Int64) (v3 : Int64) (v6 : Int64) (v8 : Int32) (v9 : Int64) (v11 : Int32) : Int64 := (if v11 < (0) then fX0_sumByGreater_70 v0 v1 v3 v6 v8 (fX0_movedDown v9 (-v11)) else fX0_sumByGreater_70 v0 v1 v3 v6 v8 (jshl v9 v11))
def fX0_sumByGreater_39 (v0 : Int32) (v1 : Int64) (v3 : Int64) (v6 : Int64) (v8 : Int32) (v9 : Int64) : Int64 := fX0_sumByGreater_49 v0 v1 v3 v6 v8 v9 ((fX0_exponent v0 v3) - v8)
def fX0_sumByGreater_32 (v0 : Int32) (v1 : Int64) (v3 : Int64) (v6 : Int64) (v8 : Int32) : Int64 := fX0_sumByGreater_39 v0 v1 v3 v6 v8 (fX0_magnitude v0 v3)
def fX0_sumByGreater_22 (v0 : Int32) (v1 : Int64) (v3 : Int64) (v5 : Int32) (v6 : Int64) : Int64 := fX0_sumByGreater_32 v0 v1 v3 v6 ((fX0_exponent v0 v1) - v5)
def fX0_sumByGreater_12 (v0 : Int32) (v1 : Int64) (v3 : Int64) (v5 : Int32) : Int64 := fX0_sumByGreater_22 v0 v1 v3 v5 (jshl (fX0_magnitude v0 v1) v5)
def fX0_sumByGreater_0 (v0 : Int32) (v1 : Int64) (v3 : Int64) : Int64 := fX0_sumByGreater_12 v0 v1 v3 (fX0_roomBelow (61 : Int32) (fX0_magnitude v0 v1))
def fX0_sumByGreater (v0 : Int32) (v1 : Int64) (v3 : Int64) : Int64 := fX0_sumByGreater_0 v0 v1 v3
def fX0_sum_80 (v0 : Int32) (v1 : Int64) (v3 : Int64) (s0 : Int32) : Int64 := (if s0 = (0) then (fX0_sumByGreater v0 v3 v1) else (fX0_sumByGreater v0 v1 v3))
def fX0_sum_61 (v0 : Int32) (v1 : Int64) (v3 : Int64) : Int64 := (if (fX0_size v0 v1) < (fX0_size v0 v3) then fX0_sum_80 v0 v1 v3 (0 : Int32) else fX0_sum_80 v0 v1 v3 (1 : Int32))
def fX0_sum_0 (v0 : Int32) (v1 : Int64) (v3 : Int64) : Int64 := (if (fX0_isInfinite v0 v1) = (0) then (if (fX0_isInfinite v0 v3) = (0) then (if (fX0_isZero v0 v1) = (0) then fX0_sum_61 v0 v1 v3 else (if (fX0_isZero v0 v3) = (0) then fX0_sum_61 v0 v1 v3 else (v1 &&& v3))) else v3) else (if (fX0_isInfinite v0 v3) = (0) then v1 else (if v1 = v3 then v1 else (fX0_notANumber v0))))
def fX0_sum (v0 : Int32) (v1 : Int64) (v3 : Int64) : Int64 := fX0_sum_0 v0 v1 v3
def fX0_topOfProduct_84 (v18 : Int64) (v20 : Int64) : Int64 := ((jshl v18 (10 : Int32)) ||| (fX0_movedDown v20 (44 : Int32)))
def fX0_topOfProduct_68 (v4 : Int64) (v14 : Int64) (v16 : Int64) (v18 : Int64) : Int64 := fX0_topOfProduct_84 v18 ((jshl (v16 &&& v4) (27 : Int32)) ||| (v14 &&& v4))
def fX0_topOfProduct_55 (v4 : Int64) (v6 : Int64) (v10 : Int64) (v14 : Int64) (v16 : Int64) : Int64 := fX0_topOfProduct_68 v4 v14 v16 ((v6 * v10) + (jushr v16 (27 : Int32)))
def fX0_topOfProduct_36 (v4 : Int64) (v6 : Int64) (v8 : Int64) (v10 : Int64) (v12 : Int64) (v14 : Int64) : Int64 := fX0_topOfProduct_55 v4 v6 v10 v14 (((v6 * v12) + (v8 * v10)) + (jushr v14 (27 : Int32)))
def fX0_topOfProduct_29 (v4 : Int64) (v6 : Int64) (v8 : Int64) (v10 : Int64) (v12 : Int64) : Int64 := fX0_topOfProduct_36 v4 v6 v8 v10 v12 (v8 * v12)
def fX0_topOfProduct_23 (v2 : Int64) (v4 : Int64) (v6 : Int64) (v8 : Int64) (v10 : Int64) : Int64 := fX0_topOfProduct_29 v4 v6 v8 v10 (v2 &&& v4)
def fX0_topOfProduct_17 (v2 : Int64) (v4 : Int64) (v6 : Int64) (v8 : Int64) : Int64 := fX0_topOfProduct_23 v2 v4 v6 v8 (jushr v2 (27 : Int32))
def fX0_topOfProduct_11 (v0 : Int64) (v2 : Int64) (v4 : Int64) (v6 : Int64) : Int64 := fX0_topOfProduct_17 v2 v4 v6 (v0 &&& v4)
def fX0_topOfProduct_0 (v0 : Int64) (v2 : Int64) : Int64 := fX0_topOfProduct_11 v0 v2 (134217727 : Int64) (jushr v0 (27 : Int32))
def fX0_topOfProduct (v0 : Int64) (v2 : Int64) : Int64 := fX0_topOfProduct_0 v0 v2
def fX0_product_57 (v0 : Int32) (v5 : Int32) (s0 : Int32) : Int64 := (if s0 = (0) then (fX0_signed v0 v5 (fX0_infinity v0)) else (fX0_notANumber v0))
def fX0_product_52 (v0 : Int32) (v5 : Int32) : Int64 := fX0_product_57 v0 v5 (1 : Int32)
def fX0_product_36 (v0 : Int32) (v1 : Int64) (v3 : Int64) (v5 : Int32) : Int64 := (if (fX0_isZero v0 v1) = (0) then (if (fX0_isZero v0 v3) = (0) then fX0_product_57 v0 v5 (0 : Int32) else fX0_product_52 v0 v5) else fX0_product_52 v0 v5)
def fX0_product_146 (v0 : Int32) (v5 : Int32) (v8 : Int64) (v10 : Int32) : Int64 := (fX0_nearest v0 v5 v8 ((v10 + (54 : Int32)) - (10 : Int32)))
def fX0_product_127 (v0 : Int32) (v1 : Int64) (v3 : Int64) (v5 : Int32) (v6 : Int32) (v7 : Int32) (v8 : Int64) : Int64 := fX0_product_146 v0 v5 v8 ((((fX0_exponent v0 v1) - v6) + (fX0_exponent v0 v3)) - v7)
def fX0_product_106 (v0 : Int32) (v1 : Int64) (v3 : Int64) (v5 : Int32) (v6 : Int32) (v7 : Int32) : Int64 := fX0_product_127 v0 v1 v3 v5 v6 v7 (fX0_topOfProduct (jshl (fX0_magnitude v0 v1) v6) (jshl (fX0_magnitude v0 v3) v7))
def fX0_product_94 (v0 : Int32) (v1 : Int64) (v3 : Int64) (v5 : Int32) (v6 : Int32) : Int64 := fX0_product_106 v0 v1 v3 v5 v6 (fX0_roomBelow (52 : Int32) (fX0_magnitude v0 v3))
def fX0_product_18 (v0 : Int32) (v1 : Int64) (v3 : Int64) (s0 : Int32) : Int64 := (if (fX0_isInfinite v0 v1) = (0) then (if (fX0_isInfinite v0 v3) = (0) then fX0_product_94 v0 v1 v3 s0 (fX0_roomBelow (52 : Int32) (fX0_magnitude v0 v1)) else fX0_product_36 v0 v1 v3 s0) else fX0_product_36 v0 v1 v3 s0)
def fX0_product_0 (v0 : Int32) (v1 : Int64) (v3 : Int64) : Int64 := (if (fX0_isNegative v0 v1) = (fX0_isNegative v0 v3) then fX0_product_18 v0 v1 v3 (0 : Int32) else fX0_product_18 v0 v1 v3 (1 : Int32))
def fX0_product (v0 : Int32) (v1 : Int64) (v3 : Int64) : Int64 := fX0_product_0 v0 v1 v3
def fX0_topOfQuotient_59 (v4 : Int64) (v6 : Int64) : Int64 := (if v6 = (0 : Int64) then v4 else (v4 ||| (1 : Int64)))
def fX0_topOfQuotient_21 : Nat → Int64 → Int64 → Int64 → Int32 → Int64
  | 0, _, _, _, _ => 0
  | fuel + 1, v2, v4, v6, v8 => (if v8 < (6 : Int32) then fX0_topOfQuotient_21 fuel v2 ((jshl v4 (10 : Int32)) + ((jshl v6 (10 : Int32)) / v2)) (jrem (jshl v6 (10 : Int32)) v2) (v8 + (1 : Int32)) else fX0_topOfQuotient_59 v4 v6)
def okX0_topOfQuotient_21 : Nat → Int64 → Int64 → Int64 → Int32 → Prop
  | 0, _, _, _, _ => False
  | fuel + 1, v2, v4, v6, v8 => ((v8 < (6 : Int32) → ¬ v2 = 0 ∧ ¬ v2 = 0 ∧ okX0_topOfQuotient_21 fuel v2 ((jshl v4 (10 : Int32)) + ((jshl v6 (10 : Int32)) / v2)) (jrem (jshl v6 (10 : Int32)) v2) (v8 + (1 : Int32))) ∧ (¬ v8 < (6 : Int32) → True))
def fX0_topOfQuotient_18 (v2 : Int64) (v4 : Int64) (v6 : Int64) : Int64 := fX0_topOfQuotient_21 64 v2 v4 v6 (0 : Int32)
def okX0_topOfQuotient_18 (v2 : Int64) (v4 : Int64) (v6 : Int64) : Prop := okX0_topOfQuotient_21 64 v2 v4 v6 (0 : Int32)
def fX0_topOfQuotient_13 (v0 : Int64) (v2 : Int64) (v4 : Int64) : Int64 := fX0_topOfQuotient_18 v2 v4 (jrem v0 v2)
def okX0_topOfQuotient_13 (v0 : Int64) (v2 : Int64) (v4 : Int64) : Prop := ¬ v2 = 0 ∧ okX0_topOfQuotient_18 v2 v4 (jrem v0 v2)
def fX0_topOfQuotient_0 (v0 : Int64) (v2 : Int64) : Int64 := (if v2 = (0 : Int64) then (0 : Int64) else fX0_topOfQuotient_13 v0 v2 (v0 / v2))
def okX0_topOfQuotient_0 (v0 : Int64) (v2 : Int64) : Prop := ((v2 = (0 : Int64) → True) ∧ (¬ v2 = (0 : Int64) → ¬ v2 = 0 ∧ okX0_topOfQuotient_13 v0 v2 (v0 / v2)))
def fX0_topOfQuotient (v0 : Int64) (v2 : Int64) : Int64 := fX0_topOfQuotient_0 v0 v2
def okX0_topOfQuotient (v0 : Int64) (v2 : Int64) : Prop := okX0_topOfQuotient_0 v0 v2
def fX0_quotient_44 (v0 : Int32) : Int64 := (fX0_notANumber v0)
def fX0_quotient_85 (v0 : Int32) (v6 : Int32) : Int64 := (fX0_signed v0 v6 (fX0_infinity v0))
def fX0_quotient_180 (v0 : Int32) (v6 : Int32) (v11 : Int64) (v13 : Int32) : Int64 := (fX0_nearest v0 v6 v11 (v13 - (60 : Int32)))
def fX0_quotient_161 (v0 : Int32) (v1 : Int64) (v3 : Int64) (v6 : Int32) (v7 : Int32) (v8 : Int32) (v11 : Int64) : Int64 := fX0_quotient_180 v0 v6 v11 ((((fX0_exponent v0 v1) - v7) - (fX0_exponent v0 v3)) + v8)
def fX0_quotient_146 (v0 : Int32) (v1 : Int64) (v3 : Int64) (v6 : Int32) (v7 : Int32) (v8 : Int32) (v9 : Int64) : Int64 := fX0_quotient_161 v0 v1 v3 v6 v7 v8 (fX0_topOfQuotient (jshl (fX0_magnitude v0 v1) v7) v9)
def fX0_quotient_136 (v0 : Int32) (v1 : Int64) (v3 : Int64) (v6 : Int32) (v7 : Int32) (v8 : Int32) : Int64 := fX0_quotient_146 v0 v1 v3 v6 v7 v8 (jshl (fX0_magnitude v0 v3) v8)
def fX0_quotient_124 (v0 : Int32) (v1 : Int64) (v3 : Int64) (v6 : Int32) (v7 : Int32) : Int64 := fX0_quotient_136 v0 v1 v3 v6 v7 (fX0_roomBelow (52 : Int32) (fX0_magnitude v0 v3))
def fX0_quotient_67 (v0 : Int32) (v1 : Int64) (v3 : Int64) (s0 : Int32) : Int64 := (if (fX0_isInfinite v0 v1) = (0) then (if (fX0_isZero v0 v3) = (0) then (if (fX0_isInfinite v0 v3) = (0) then fX0_quotient_124 v0 v1 v3 s0 (fX0_roomBelow (52 : Int32) (fX0_magnitude v0 v1)) else (fX0_signed v0 s0 (0 : Int64))) else fX0_quotient_85 v0 s0) else fX0_quotient_85 v0 s0)
def fX0_quotient_49 (v0 : Int32) (v1 : Int64) (v3 : Int64) : Int64 := (if (fX0_isNegative v0 v1) = (fX0_isNegative v0 v3) then fX0_quotient_67 v0 v1 v3 (0 : Int32) else fX0_quotient_67 v0 v1 v3 (1 : Int32))
def fX0_quotient_21 (v0 : Int32) (v1 : Int64) (v3 : Int64) (s0 : Int32) : Int64 := (if s0 = (0) then (if (fX0_isZero v0 v1) = (0) then fX0_quotient_49 v0 v1 v3 else (if (fX0_isZero v0 v3) = (0) then fX0_quotient_49 v0 v1 v3 else fX0_quotient_44 v0)) else fX0_quotient_44 v0)
def fX0_quotient_20 (v0 : Int32) (v1 : Int64) (v3 : Int64) : Int64 := fX0_quotient_21 v0 v1 v3 (0 : Int32)
def fX0_quotient_0 (v0 : Int32) (v1 : Int64) (v3 : Int64) : Int64 := (if (fX0_isInfinite v0 v1) = (0) then fX0_quotient_20 v0 v1 v3 else (if (fX0_isInfinite v0 v3) = (0) then fX0_quotient_20 v0 v1 v3 else fX0_quotient_21 v0 v1 v3 (1 : Int32)))
def fX0_quotient (v0 : Int32) (v1 : Int64) (v3 : Int64) : Int64 := fX0_quotient_0 v0 v1 v3
def fX0_restAbove_16 : Nat → Int64 → Int64 → Int32 → Int64
  | 0, _, _, _ => 0
  | fuel + 1, v3, v5, v7 => (if (0) < v7 then fX0_restAbove_16 fuel v3 (jrem (jshl v5 (imin v7 (10 : Int32))) v3) (v7 + (-10 : Int32)) else v5)
def okX0_restAbove_16 : Nat → Int64 → Int64 → Int32 → Prop
  | 0, _, _, _ => False
  | fuel + 1, v3, v5, v7 => (((0) < v7 → ¬ v3 = 0 ∧ okX0_restAbove_16 fuel v3 (jrem (jshl v5 (imin v7 (10 : Int32))) v3) (v7 + (-10 : Int32))) ∧ (¬ (0) < v7 → True))
def fX0_restAbove_13 (v2 : Int32) (v3 : Int64) (v5 : Int64) : Int64 := fX0_restAbove_16 (v2.toNatClampNeg + 1) v3 v5 v2
def okX0_restAbove_13 (v2 : Int32) (v3 : Int64) (v5 : Int64) : Prop := okX0_restAbove_16 (v2.toNatClampNeg + 1) v3 v5 v2
def fX0_restAbove_0 (v0 : Int64) (v2 : Int32) (v3 : Int64) : Int64 := (if v3 = (0 : Int64) then (0 : Int64) else fX0_restAbove_13 v2 v3 (jrem v0 v3))
def okX0_restAbove_0 (v0 : Int64) (v2 : Int32) (v3 : Int64) : Prop := ((v3 = (0 : Int64) → True) ∧ (¬ v3 = (0 : Int64) → ¬ v3 = 0 ∧ okX0_restAbove_13 v2 v3 (jrem v0 v3)))
def fX0_restAbove (v0 : Int64) (v2 : Int32) (v3 : Int64) : Int64 := fX0_restAbove_0 v0 v2 v3
def okX0_restAbove (v0 : Int64) (v2 : Int32) (v3 : Int64) : Prop := okX0_restAbove_0 v0 v2 v3
def fX0_rest_16 (v0 : Int32) : Int64 := (fX0_notANumber v0)
def fX0_rest_107 (v0 : Int32) (v1 : Int64) (v7 : Int32) (v9 : Int64) : Int64 := (fX0_nearest v0 (fX0_isNegative v0 v1) v9 v7)
def fX0_rest_84 (v0 : Int32) (v1 : Int64) (v3 : Int64) (v5 : Int32) (v6 : Int32) (v7 : Int32) (v8 : Int32) : Int64 := fX0_rest_107 v0 v1 v7 (fX0_restAbove (jshl (fX0_magnitude v0 v1) v5) v8 (jshl (fX0_magnitude v0 v3) v6))
def fX0_rest_71 (v0 : Int32) (v1 : Int64) (v3 : Int64) (v5 : Int32) (v6 : Int32) (v7 : Int32) : Int64 := fX0_rest_84 v0 v1 v3 v5 v6 v7 (((fX0_exponent v0 v1) - v5) - v7)
def fX0_rest_61 (v0 : Int32) (v1 : Int64) (v3 : Int64) (v5 : Int32) (v6 : Int32) : Int64 := fX0_rest_71 v0 v1 v3 v5 v6 ((fX0_exponent v0 v3) - v6)
def fX0_rest_49 (v0 : Int32) (v1 : Int64) (v3 : Int64) (v5 : Int32) : Int64 := fX0_rest_61 v0 v1 v3 v5 (fX0_roomBelow (52 : Int32) (fX0_magnitude v0 v3))
def fX0_rest_0 (v0 : Int32) (v1 : Int64) (v3 : Int64) : Int64 := (if (fX0_isInfinite v0 v1) = (0) then (if (fX0_isZero v0 v3) = (0) then (if (fX0_size v0 v1) < (fX0_size v0 v3) then v1 else fX0_rest_49 v0 v1 v3 (fX0_roomBelow (52 : Int32) (fX0_magnitude v0 v1))) else fX0_rest_16 v0) else fX0_rest_16 v0)
def fX0_rest (v0 : Int32) (v1 : Int64) (v3 : Int64) : Int64 := fX0_rest_0 v0 v1 v3
def fX1_init_0 (fld : Int32) : Int32 := (0 : Int32)
def fX1_init  (fld : Int32) : Int32 := fX1_init_0 fld
def fX1_narrowed_0 (v0 : Int32) (v1 : Int64) : Int64 := (if v0 = (1 : Int32) then (jbyte (v1.toInt32)).toInt64 else (if v0 = (2 : Int32) then (jshort (v1.toInt32)).toInt64 else (if v0 = (3 : Int32) then (jchar (v1.toInt32)).toInt64 else (if v0 = (4 : Int32) then (v1.toInt32).toInt64 else v1))))
def fX1_narrowed (v0 : Int32) (v1 : Int64) : Int64 := fX1_narrowed_0 v0 v1
def fX1_isValue_66 (v0 : Int32) (v1 : Int64) : Int32 := (if (fX1_narrowed v0 v1) = v1 then (1 : Int32) else (0 : Int32))
def fX1_isValue_82 (v0 : Int32) (v1 : Int64) : Int32 := (fX0_isNumber v0 v1)
def fX1_isValue_0 (v0 : Int32) (v1 : Int64) : Int32 := (if v0 = (0 : Int32) then (if v1 = (0 : Int64) then (1 : Int32) else (if v1 = (1 : Int64) then (1 : Int32) else (0 : Int32))) else (if v0 = (1 : Int32) then fX1_isValue_66 v0 v1 else (if v0 = (2 : Int32) then fX1_isValue_66 v0 v1 else (if v0 = (3 : Int32) then fX1_isValue_66 v0 v1 else (if v0 = (4 : Int32) then fX1_isValue_66 v0 v1 else (if v0 = (5 : Int32) then fX1_isValue_66 v0 v1 else (if v0 = (6 : Int32) then fX1_isValue_82 v0 v1 else (if v0 = (7 : Int32) then fX1_isValue_82 v0 v1 else (0 : Int32)))))))))
def fX1_isValue (v0 : Int32) (v1 : Int64) : Int32 := fX1_isValue_0 v0 v1
def fX1_has_0 (v1 : Int32) (v2 : Int64) (fld : Int32) : Int32 × Int32 := ((fX1_isValue v1 v2), fld)
def fX1_has (v1 : Int32) (v2 : Int64) (fld : Int32) : Int32 × Int32 := fX1_has_0 v1 v2 fld
def fX1_isNumberKind_0 (v0 : Int32) : Int32 := (if v0 < (1 : Int32) then (0 : Int32) else (if (7 : Int32) < v0 then (0 : Int32) else (1 : Int32)))
def fX1_isNumberKind (v0 : Int32) : Int32 := fX1_isNumberKind_0 v0
def fX1_widens_0 (v1 : Int32) (v2 : Int32) (fld : Int32) : Int32 × Int32 := (if v1 = v2 then (if v1 < (0) then ((0 : Int32), fld) else (if (7 : Int32) < v1 then ((0 : Int32), fld) else ((1 : Int32), fld))) else (if (fX1_isNumberKind v1) = (0) then ((0 : Int32), fld) else (if (fX1_isNumberKind v2) = (0) then ((0 : Int32), fld) else (if v2 = (3 : Int32) then ((0 : Int32), fld) else (if v1 < v2 then ((1 : Int32), fld) else ((0 : Int32), fld))))))
def fX1_widens (v1 : Int32) (v2 : Int32) (fld : Int32) : Int32 × Int32 := fX1_widens_0 v1 v2 fld
def fX1_cutToInt_0 (v0 : Int64) : Int64 := (jmax (-2147483648 : Int64) (jmin (2147483647 : Int64) v0))
def fX1_cutToInt (v0 : Int64) : Int64 := fX1_cutToInt_0 v0
def fX1_converted_53 (v1 : Int32) (v4 : Int64) : Int64 := (if v1 = (5 : Int32) then v4 else (fX1_narrowed v1 (fX1_cutToInt v4)))
def fX1_converted_0 (v0 : Int32) (v1 : Int32) (v2 : Int64) : Int64 := (if v0 = v1 then v2 else (if v1 < (6 : Int32) then (if v0 < (6 : Int32) then (fX1_narrowed v1 v2) else fX1_converted_53 v1 (fX0_wholePart v0 v2)) else (if v0 < (6 : Int32) then (fX0_ofWhole v1 v2) else (fX0_ofReal v1 v0 v2))))
def fX1_converted (v0 : Int32) (v1 : Int32) (v2 : Int64) : Int64 := fX1_converted_0 v0 v1 v2
def fX1_fails_0 (v1 : Int32) (v2 : Int32) (fld : Int32) : Int32 × Int32 := (v2, v1)
def fX1_fails (v1 : Int32) (v2 : Int32) (fld : Int32) : Int32 × Int32 := fX1_fails_0 v1 v2 fld
def fX1_cast_39 (fld : Int32) : Int64 × Int32 := (((fX1_fails (1 : Int32) (0 : Int32) fld).1).toInt64, (fX1_fails (1 : Int32) (0 : Int32) fld).2)
def fX1_cast_24 (v1 : Int32) (v2 : Int32) (v3 : Int64) (s0 : Int32) (fld : Int32) : Int64 × Int32 := (if s0 = (0) then fX1_cast_39 fld else (if (fX1_isValue v1 v3) = (0) then fX1_cast_39 fld else ((fX1_converted v1 v2 v3), (0 : Int32))))
def fX1_cast_19 (v1 : Int32) (v2 : Int32) (v3 : Int64) (fld : Int32) : Int64 × Int32 := fX1_cast_24 v1 v2 v3 (1 : Int32) fld
def fX1_cast_23 (v1 : Int32) (v2 : Int32) (v3 : Int64) (fld : Int32) : Int64 × Int32 := fX1_cast_24 v1 v2 v3 (0 : Int32) fld
def fX1_cast_0 (v1 : Int32) (v2 : Int32) (v3 : Int64) (fld : Int32) : Int64 × Int32 := (if v1 = v2 then fX1_cast_19 v1 v2 v3 fld else (if (fX1_isNumberKind v1) = (0) then fX1_cast_23 v1 v2 v3 fld else (if (fX1_isNumberKind v2) = (0) then fX1_cast_23 v1 v2 v3 fld else fX1_cast_19 v1 v2 v3 fld)))
def fX1_cast (v1 : Int32) (v2 : Int32) (v3 : Int64) (fld : Int32) : Int64 × Int32 := fX1_cast_0 v1 v2 v3 fld
def fX1_areNumbers_0 (v0 : Int32) (v1 : Int64) (v3 : Int32) (v4 : Int64) : Int32 := (if (fX1_isNumberKind v0) = (0) then (0 : Int32) else (if (fX1_isNumberKind v3) = (0) then (0 : Int32) else (if (fX1_isValue v0 v1) = (0) then (0 : Int32) else (if (fX1_isValue v3 v4) = (0) then (0 : Int32) else (1 : Int32)))))
def fX1_areNumbers (v0 : Int32) (v1 : Int64) (v3 : Int32) (v4 : Int64) : Int32 := fX1_areNumbers_0 v0 v1 v3 v4
def fX1_workKind_0 (v0 : Int32) (v1 : Int32) : Int32 := (imax (4 : Int32) (imax v0 v1))
def fX1_workKind (v0 : Int32) (v1 : Int32) : Int32 := fX1_workKind_0 v0 v1
def fX1_workWhole_0 (v1 : Int32) (v2 : Int32) (v3 : Int64) (v5 : Int64) (fld : Int32) : Int64 × Int32 := (if v1 = (1 : Int32) then ((fX1_narrowed v2 (v3 + v5)), fld) else (if v1 = (2 : Int32) then ((fX1_narrowed v2 (v3 - v5)), fld) else (if v1 = (3 : Int32) then ((fX1_narrowed v2 (v3 * v5)), fld) else (if v1 = (4 : Int32) then (if v5 = (0 : Int64) then (((fX1_fails (8 : Int32) (0 : Int32) fld).1).toInt64, (fX1_fails (8 : Int32) (0 : Int32) fld).2) else ((fX1_narrowed v2 (v3 / v5)), fld)) else (if v5 = (0 : Int64) then (((fX1_fails (8 : Int32) (0 : Int32) fld).1).toInt64, (fX1_fails (8 : Int32) (0 : Int32) fld).2) else ((fX1_narrowed v2 (jrem v3 v5)), fld))))))
def fX1_workWhole (v1 : Int32) (v2 : Int32) (v3 : Int64) (v5 : Int64) (fld : Int32) : Int64 × Int32 := fX1_workWhole_0 v1 v2 v3 v5 fld
def fX1_workReal_93 (v2 : Int32) (v7 : Int64) (fld : Int32) : Int64 × Int32 := (if (fX0_isNumber v2 v7) = (0) then (((fX1_fails (8 : Int32) (0 : Int32) fld).1).toInt64, (fX1_fails (8 : Int32) (0 : Int32) fld).2) else (v7, fld))
def fX1_workReal_41 (v2 : Int32) (v7 : Int64) (fld : Int32) : Int64 × Int32 := fX1_workReal_93 v2 v7 fld
def fX1_workReal_57 (v2 : Int32) (v7 : Int64) (fld : Int32) : Int64 × Int32 := fX1_workReal_93 v2 v7 fld
def fX1_workReal_69 (v2 : Int32) (v7 : Int64) (fld : Int32) : Int64 × Int32 := fX1_workReal_93 v2 v7 fld
def fX1_workReal_81 (v2 : Int32) (v7 : Int64) (fld : Int32) : Int64 × Int32 := fX1_workReal_93 v2 v7 fld
def fX1_workReal_0 (v1 : Int32) (v2 : Int32) (v3 : Int64) (v5 : Int64) (fld : Int32) : Int64 × Int32 := (if v1 = (1 : Int32) then fX1_workReal_41 v2 (fX0_sum v2 v3 v5) fld else (if v1 = (2 : Int32) then fX1_workReal_57 v2 (fX0_sum v2 v3 (fX0_negated v2 v5)) fld else (if v1 = (3 : Int32) then fX1_workReal_69 v2 (fX0_product v2 v3 v5) fld else (if v1 = (4 : Int32) then fX1_workReal_81 v2 (fX0_quotient v2 v3 v5) fld else fX1_workReal_93 v2 (fX0_rest v2 v3 v5) fld))))
def fX1_workReal (v1 : Int32) (v2 : Int32) (v3 : Int64) (v5 : Int64) (fld : Int32) : Int64 × Int32 := fX1_workReal_0 v1 v2 v3 v5 fld
def fX1_work_22 (fld : Int32) : Int64 × Int32 := (((fX1_fails (1 : Int32) (0 : Int32) fld).1).toInt64, (fX1_fails (1 : Int32) (0 : Int32) fld).2)
def fX1_work_63 (v1 : Int32) (v8 : Int32) (v9 : Int64) (v11 : Int64) (fld : Int32) : Int64 × Int32 := (if v8 < (6 : Int32) then ((fX1_workWhole v1 v8 v9 v11 fld).1, (fX1_workWhole v1 v8 v9 v11 fld).2) else ((fX1_workReal v1 v8 v9 v11 fld).1, (fX1_workReal v1 v8 v9 v11 fld).2))
def fX1_work_52 (v1 : Int32) (v5 : Int32) (v6 : Int64) (v8 : Int32) (v9 : Int64) (fld : Int32) : Int64 × Int32 := fX1_work_63 v1 v8 v9 (fX1_converted v5 v8 v6) fld
def fX1_work_43 (v1 : Int32) (v2 : Int32) (v3 : Int64) (v5 : Int32) (v6 : Int64) (v8 : Int32) (fld : Int32) : Int64 × Int32 := fX1_work_52 v1 v5 v6 v8 (fX1_converted v2 v8 v3) fld
def fX1_work_0 (v1 : Int32) (v2 : Int32) (v3 : Int64) (v5 : Int32) (v6 : Int64) (fld : Int32) : Int64 × Int32 := (if v1 < (1 : Int32) then fX1_work_22 fld else (if (5 : Int32) < v1 then fX1_work_22 fld else (if (fX1_areNumbers v2 v3 v5 v6) = (0) then fX1_work_22 fld else fX1_work_43 v1 v2 v3 v5 v6 (fX1_workKind v2 v5) (0 : Int32))))
def fX1_work (v1 : Int32) (v2 : Int32) (v3 : Int64) (v5 : Int32) (v6 : Int64) (fld : Int32) : Int64 × Int32 := fX1_work_0 v1 v2 v3 v5 v6 fld
def fX1_shiftedLong_0 (v0 : Int32) (v1 : Int64) (v3 : Int32) : Int64 := (if v0 = (6 : Int32) then (jshl v1 v3) else (if v0 = (7 : Int32) then (jshr v1 v3) else (jushr v1 v3)))
def fX1_shiftedLong (v0 : Int32) (v1 : Int64) (v3 : Int32) : Int64 := fX1_shiftedLong_0 v0 v1 v3
def fX1_shiftedInt_0 (v0 : Int32) (v1 : Int32) (v2 : Int32) : Int64 := (if v0 = (6 : Int32) then (ishl v1 v2).toInt64 else (if v0 = (7 : Int32) then (ishr v1 v2).toInt64 else (iushr v1 v2).toInt64))
def fX1_shiftedInt (v0 : Int32) (v1 : Int32) (v2 : Int32) : Int64 := fX1_shiftedInt_0 v0 v1 v2
def fX1_shift_42 (fld : Int32) : Int64 × Int32 := (((fX1_fails (1 : Int32) (0 : Int32) fld).1).toInt64, (fX1_fails (1 : Int32) (0 : Int32) fld).2)
def fX1_shift_17 (v1 : Int32) (v2 : Int32) (v3 : Int64) (v5 : Int64) (s0 : Int32) (fld : Int32) : Int64 × Int32 := (if s0 = (0) then fX1_shift_42 fld else (if v2 < (1 : Int32) then fX1_shift_42 fld else (if (5 : Int32) < v2 then fX1_shift_42 fld else (if (fX1_isValue v2 v3) = (0) then fX1_shift_42 fld else (if v2 = (5 : Int32) then ((fX1_shiftedLong v1 v3 ((v5 &&& (63 : Int64)).toInt32)), (0 : Int32)) else ((fX1_shiftedInt v1 (v3.toInt32) ((v5 &&& (31 : Int64)).toInt32)), (0 : Int32)))))))
def fX1_shift_16 (v1 : Int32) (v2 : Int32) (v3 : Int64) (v5 : Int64) (fld : Int32) : Int64 × Int32 := fX1_shift_17 v1 v2 v3 v5 (0 : Int32) fld
def fX1_shift_0 (v1 : Int32) (v2 : Int32) (v3 : Int64) (v5 : Int64) (fld : Int32) : Int64 × Int32 := (if v1 < (6 : Int32) then fX1_shift_16 v1 v2 v3 v5 fld else (if (8 : Int32) < v1 then fX1_shift_16 v1 v2 v3 v5 fld else fX1_shift_17 v1 v2 v3 v5 (1 : Int32) fld))
def fX1_shift (v1 : Int32) (v2 : Int32) (v3 : Int64) (v5 : Int64) (fld : Int32) : Int64 × Int32 := fX1_shift_0 v1 v2 v3 v5 fld
def fX1_sideOf_0 (v0 : Int64) (v2 : Int64) : Int32 := (if v0 = v2 then (0 : Int32) else (if v0 < v2 then (-1 : Int32) else (1 : Int32)))
def fX1_sideOf (v0 : Int64) (v2 : Int64) : Int32 := fX1_sideOf_0 v0 v2
def fX1_compare_52 (v7 : Int32) (v8 : Int64) (v10 : Int64) (fld : Int32) : Int32 × Int32 := (if v7 < (6 : Int32) then ((fX1_sideOf v8 v10), fld) else ((fX1_sideOf (fX0_place v7 v8) (fX0_place v7 v10)), fld))
def fX1_compare_41 (v4 : Int32) (v5 : Int64) (v7 : Int32) (v8 : Int64) (fld : Int32) : Int32 × Int32 := fX1_compare_52 v7 v8 (fX1_converted v4 v7 v5) fld
def fX1_compare_32 (v1 : Int32) (v2 : Int64) (v4 : Int32) (v5 : Int64) (v7 : Int32) (fld : Int32) : Int32 × Int32 := fX1_compare_41 v4 v5 v7 (fX1_converted v1 v7 v2) fld
def fX1_compare_0 (v1 : Int32) (v2 : Int64) (v4 : Int32) (v5 : Int64) (fld : Int32) : Int32 × Int32 := (if (fX1_areNumbers v1 v2 v4 v5) = (0) then ((fX1_fails (1 : Int32) (2 : Int32) fld).1, (fX1_fails (1 : Int32) (2 : Int32) fld).2) else fX1_compare_32 v1 v2 v4 v5 (fX1_workKind v1 v4) (0 : Int32))
def fX1_compare (v1 : Int32) (v2 : Int64) (v4 : Int32) (v5 : Int64) (fld : Int32) : Int32 × Int32 := fX1_compare_0 v1 v2 v4 v5 fld
def fX1_order_17 (fld : Int32) : Int32 × Int32 := ((fX1_fails (1 : Int32) (2 : Int32) fld).1, (fX1_fails (1 : Int32) (2 : Int32) fld).2)
def fX1_order_0 (v1 : Int32) (v2 : Int64) (v4 : Int64) (fld : Int32) : Int32 × Int32 := (if (fX1_isValue v1 v2) = (0) then fX1_order_17 fld else (if (fX1_isValue v1 v4) = (0) then fX1_order_17 fld else (if v1 < (6 : Int32) then ((fX1_sideOf v2 v4), (0 : Int32)) else ((fX1_sideOf (fX0_placeWithZerosApart v1 v2) (fX0_placeWithZerosApart v1 v4)), (0 : Int32)))))
def fX1_order (v1 : Int32) (v2 : Int64) (v4 : Int64) (fld : Int32) : Int32 × Int32 := fX1_order_0 v1 v2 v4 fld
def fX1_failed_0 (fld : Int32) : Int32 × Int32 := (fld, fld)
def fX1_failed  (fld : Int32) : Int32 × Int32 := fX1_failed_0 fld
def fX2_isNone_0 (v0 : Int64) : Int32 := (if (9218868437227405312 : Int64) < (v0 &&& (9223372036854775807 : Int64)) then (1 : Int32) else (0 : Int32))
def fX2_isNone (v0 : Int64) : Int32 := fX2_isNone_0 v0
def fX2_isInfinite_0 (v0 : Int64) : Int32 := (if (v0 &&& (9223372036854775807 : Int64)) = (9218868437227405312 : Int64) then (1 : Int32) else (0 : Int32))
def fX2_isInfinite (v0 : Int64) : Int32 := fX2_isInfinite_0 v0
def fX2_isZero_0 (v0 : Int64) : Int32 := (if (v0 &&& (9223372036854775807 : Int64)) = (0 : Int64) then (1 : Int32) else (0 : Int32))
def fX2_isZero (v0 : Int64) : Int32 := fX2_isZero_0 v0
def fX2_negative_0 (v0 : Int64) : Int64 := (v0 ^^^ (-9223372036854775808 : Int64))
def fX2_negative (v0 : Int64) : Int64 := fX2_negative_0 v0
def fX2_exponent_31 : Nat → Int32 → Int64 → Int32
  | 0, _, _ => 0
  | fuel + 1, v3, v4 => (if v4 < (4503599627370496 : Int64) then fX2_exponent_31 fuel (v3 + (-1 : Int32)) (jshl v4 (1 : Int32)) else v3)
def okX2_exponent_31 : Nat → Int32 → Int64 → Prop
  | 0, _, _ => False
  | fuel + 1, v3, v4 => ((v4 < (4503599627370496 : Int64) → okX2_exponent_31 fuel (v3 + (-1 : Int32)) (jshl v4 (1 : Int32))) ∧ (¬ v4 < (4503599627370496 : Int64) → True))
def fX2_exponent_10 (v0 : Int64) (v2 : Int32) : Int32 := (if (0) < v2 then (v2 - (1075 : Int32)) else fX2_exponent_31 64 (-1074 : Int32) (v0 &&& (4503599627370495 : Int64)))
def okX2_exponent_10 (v0 : Int64) (v2 : Int32) : Prop := (((0) < v2 → True) ∧ (¬ (0) < v2 → okX2_exponent_31 64 (-1074 : Int32) (v0 &&& (4503599627370495 : Int64))))
def fX2_exponent_0 (v0 : Int64) : Int32 := fX2_exponent_10 v0 (((jshr v0 (52 : Int32)) &&& (2047 : Int64)).toInt32)
def okX2_exponent_0 (v0 : Int64) : Prop := okX2_exponent_10 v0 (((jshr v0 (52 : Int32)) &&& (2047 : Int64)).toInt32)
def fX2_exponent (v0 : Int64) : Int32 := fX2_exponent_0 v0
def okX2_exponent (v0 : Int64) : Prop := okX2_exponent_0 v0
def fX2_significand_25 : Nat → Int64 → Int64
  | 0, _ => 0
  | fuel + 1, v2 => (if v2 < (4503599627370496 : Int64) then fX2_significand_25 fuel (jshl v2 (1 : Int32)) else v2)
def okX2_significand_25 : Nat → Int64 → Prop
  | 0, _ => False
  | fuel + 1, v2 => ((v2 < (4503599627370496 : Int64) → okX2_significand_25 fuel (jshl v2 (1 : Int32))) ∧ (¬ v2 < (4503599627370496 : Int64) → True))
def fX2_significand_6 (v0 : Int64) (v2 : Int64) : Int64 := (if (0 : Int64) < ((jshr v0 (52 : Int32)) &&& (2047 : Int64)) then (v2 ||| (4503599627370496 : Int64)) else fX2_significand_25 64 v2)
def okX2_significand_6 (v0 : Int64) (v2 : Int64) : Prop := (((0 : Int64) < ((jshr v0 (52 : Int32)) &&& (2047 : Int64)) → True) ∧ (¬ (0 : Int64) < ((jshr v0 (52 : Int32)) &&& (2047 : Int64)) → okX2_significand_25 64 v2))
def fX2_significand_0 (v0 : Int64) : Int64 := fX2_significand_6 v0 (v0 &&& (4503599627370495 : Int64))
def okX2_significand_0 (v0 : Int64) : Prop := okX2_significand_6 v0 (v0 &&& (4503599627370495 : Int64))
def fX2_significand (v0 : Int64) : Int64 := fX2_significand_0 v0
def okX2_significand (v0 : Int64) : Prop := okX2_significand_0 v0
def fX2_rounded_152 (v4 : Int32) (v9 : Int32) (v12 : Int64) : Int64 := (if (0) < v9 then ((jshl ((v9 - (1 : Int32)).toInt64) (v4 - (1 : Int32))) + v12) else v12)
def fX2_rounded_146 (v4 : Int32) (v9 : Int32) (v12 : Int64) : Int64 := fX2_rounded_152 v4 v9 (v12 + (1 : Int64))
def fX2_rounded_117 (v3 : Int32) (v4 : Int32) (v9 : Int32) (v12 : Int64) (v14 : Int64) (v16 : Int64) : Int64 := (if v16 < v14 then fX2_rounded_146 v4 v9 v12 else (if v14 = v16 then (if v3 = (0) then (if (v12 &&& (1 : Int64)) = (1 : Int64) then fX2_rounded_146 v4 v9 v12 else fX2_rounded_152 v4 v9 v12) else fX2_rounded_146 v4 v9 v12) else fX2_rounded_152 v4 v9 v12))
def fX2_rounded_109 (v3 : Int32) (v4 : Int32) (v9 : Int32) (v11 : Int32) (v12 : Int64) (v14 : Int64) : Int64 := fX2_rounded_117 v3 v4 v9 v12 v14 (jshl (1 : Int64) (v11 - (1 : Int32)))
def fX2_rounded_98 (v3 : Int32) (v4 : Int32) (v6 : Int64) (v9 : Int32) (v11 : Int32) (v12 : Int64) : Int64 := fX2_rounded_109 v3 v4 v9 v11 v12 (v6 &&& ((jshl (1 : Int64) v11) - (1 : Int64)))
def fX2_rounded_82 (v3 : Int32) (v4 : Int32) (v6 : Int64) (v9 : Int32) (v11 : Int32) : Int64 := (if (62 : Int32) < v11 then (0 : Int64) else fX2_rounded_98 v3 v4 v6 v9 v11 (jushr v6 v11))
def fX2_rounded_68 (v3 : Int32) (v4 : Int32) (v6 : Int64) (v9 : Int32) (v11 : Int32) : Int64 := (if (0) < v9 then fX2_rounded_82 v3 v4 v6 v9 v11 else fX2_rounded_82 v3 v4 v6 v9 ((v11 + (1 : Int32)) - v9))
def fX2_rounded_45 (v3 : Int32) (v4 : Int32) (v6 : Int64) (v9 : Int32) (v10 : Int32) : Int64 := (if v9 < v10 then fX2_rounded_68 v3 v4 v6 v9 ((62 : Int32) - v4) else (jshl (v10.toInt64) (v4 - (1 : Int32))))
def fX2_rounded_37 (v3 : Int32) (v4 : Int32) (v5 : Int32) (v6 : Int64) (v9 : Int32) : Int64 := fX2_rounded_45 v3 v4 v6 v9 (((2 : Int32) * v5) + (1 : Int32))
def fX2_rounded_27 (v3 : Int32) (v4 : Int32) (v5 : Int32) (v6 : Int64) (v8 : Int32) : Int64 := fX2_rounded_37 v3 v4 v5 v6 ((v8 + (61 : Int32)) + v5)
def fX2_rounded_6 : Nat → Int32 → Int32 → Int32 → Int64 → Int32 → Int64
  | 0, _, _, _, _, _ => 0
  | fuel + 1, v3, v4, v5, v6, v8 => (if v6 < (2305843009213693952 : Int64) then fX2_rounded_6 fuel v3 v4 v5 (jshl v6 (1 : Int32)) (v8 + (-1 : Int32)) else fX2_rounded_27 v3 v4 v5 v6 v8)
def okX2_rounded_6 : Nat → Int32 → Int32 → Int32 → Int64 → Int32 → Prop
  | 0, _, _, _, _, _ => False
  | fuel + 1, v3, v4, v5, v6, v8 => ((v6 < (2305843009213693952 : Int64) → okX2_rounded_6 fuel v3 v4 v5 (jshl v6 (1 : Int32)) (v8 + (-1 : Int32))) ∧ (¬ v6 < (2305843009213693952 : Int64) → True))
def fX2_rounded_0 (v0 : Int64) (v2 : Int32) (v3 : Int32) (v4 : Int32) (v5 : Int32) : Int64 := fX2_rounded_6 64 v3 v4 v5 v0 v2
def okX2_rounded_0 (v0 : Int64) (v2 : Int32) (v3 : Int32) (v4 : Int32) (v5 : Int32) : Prop := okX2_rounded_6 64 v3 v4 v5 v0 v2
def fX2_rounded (v0 : Int64) (v2 : Int32) (v3 : Int32) (v4 : Int32) (v5 : Int32) : Int64 := fX2_rounded_0 v0 v2 v3 v4 v5
def okX2_rounded (v0 : Int64) (v2 : Int32) (v3 : Int32) (v4 : Int32) (v5 : Int32) : Prop := okX2_rounded_0 v0 v2 v3 v4 v5
def fX2_made_14 (v0 : Int32) (v5 : Int64) : Int64 := (if v0 = (0) then v5 else (v5 ||| (-9223372036854775808 : Int64)))
def fX2_made_0 (v0 : Int32) (v1 : Int64) (v3 : Int32) (v4 : Int32) : Int64 := fX2_made_14 v0 (fX2_rounded v1 v3 v4 (53 : Int32) (1023 : Int32))
def okX2_made_0 (v0 : Int32) (v1 : Int64) (v3 : Int32) (v4 : Int32) : Prop := (okX2_rounded v1 v3 v4 (53 : Int32) (1023 : Int32)) ∧ True
def fX2_made (v0 : Int32) (v1 : Int64) (v3 : Int32) (v4 : Int32) : Int64 := fX2_made_0 v0 v1 v3 v4
def okX2_made (v0 : Int32) (v1 : Int64) (v3 : Int32) (v4 : Int32) : Prop := okX2_made_0 v0 v1 v3 v4
def fX2_add_14 (v0 : Int64) (v2 : Int64) : Int64 := (if (fX2_isZero v0) = (0) then v0 else (if (fX2_isZero v2) = (0) then v0 else (v0 &&& v2)))
def fX2_add_242 (v9 : Int32) (v11 : Int64) (v15 : Int64) (v17 : Int32) (s0 : Int32) : Int64 := (fX2_made s0 (v11 + v15) v9 v17)
def okX2_add_242 (v9 : Int32) (v11 : Int64) (v15 : Int64) (v17 : Int32) (s0 : Int32) : Prop := (okX2_made s0 (v11 + v15) v9 v17) ∧ True
def fX2_add_302 (v9 : Int32) (v17 : Int32) (v18 : Int64) (s0 : Int32) : Int64 := (fX2_made s0 v18 v9 v17)
def okX2_add_302 (v9 : Int32) (v17 : Int32) (v18 : Int64) (s0 : Int32) : Prop := (okX2_made s0 v18 v9 v17) ∧ True
def fX2_add_290 (v5 : Int64) (v9 : Int32) (v17 : Int32) (v18 : Int64) : Int64 := (if v5 < (0 : Int64) then fX2_add_302 v9 v17 v18 (1 : Int32) else fX2_add_302 v9 v17 v18 (0 : Int32))
def okX2_add_290 (v5 : Int64) (v9 : Int32) (v17 : Int32) (v18 : Int64) : Prop := ((v5 < (0 : Int64) → okX2_add_302 v9 v17 v18 (1 : Int32)) ∧ (¬ v5 < (0 : Int64) → okX2_add_302 v9 v17 v18 (0 : Int32)))
def fX2_add_274 (v5 : Int64) (v9 : Int32) (v17 : Int32) (v18 : Int64) : Int64 := (if v18 = (0 : Int64) then (if v17 = (0) then (0 : Int64) else fX2_add_290 v5 v9 v17 v18) else fX2_add_290 v5 v9 v17 v18)
def okX2_add_274 (v5 : Int64) (v9 : Int32) (v17 : Int32) (v18 : Int64) : Prop := ((v18 = (0 : Int64) → ((v17 = (0) → True) ∧ (¬ v17 = (0) → okX2_add_290 v5 v9 v17 v18))) ∧ (¬ v18 = (0 : Int64) → okX2_add_290 v5 v9 v17 v18))
def fX2_add_270 (v5 : Int64) (v9 : Int32) (v17 : Int32) (s0 : Int64) (s1 : Int32) : Int64 := fX2_add_274 v5 v9 v17 (s0 - (s1.toInt64))
def okX2_add_270 (v5 : Int64) (v9 : Int32) (v17 : Int32) (s0 : Int64) (s1 : Int32) : Prop := okX2_add_274 v5 v9 v17 (s0 - (s1.toInt64))
def fX2_add_227 (v5 : Int64) (v9 : Int32) (v11 : Int64) (v15 : Int64) (v17 : Int32) (s0 : Int32) (s1 : Int32) : Int64 := (if s0 = s1 then (if v5 < (0 : Int64) then fX2_add_242 v9 v11 v15 v17 (1 : Int32) else fX2_add_242 v9 v11 v15 v17 (0 : Int32)) else (if v17 = (0) then fX2_add_270 v5 v9 v17 (v11 - v15) (0 : Int32) else fX2_add_270 v5 v9 v17 (v11 - v15) (1 : Int32)))
def okX2_add_227 (v5 : Int64) (v9 : Int32) (v11 : Int64) (v15 : Int64) (v17 : Int32) (s0 : Int32) (s1 : Int32) : Prop := ((s0 = s1 → ((v5 < (0 : Int64) → okX2_add_242 v9 v11 v15 v17 (1 : Int32)) ∧ (¬ v5 < (0 : Int64) → okX2_add_242 v9 v11 v15 v17 (0 : Int32)))) ∧ (¬ s0 = s1 → ((v17 = (0) → okX2_add_270 v5 v9 v17 (v11 - v15) (0 : Int32)) ∧ (¬ v17 = (0) → okX2_add_270 v5 v9 v17 (v11 - v15) (1 : Int32)))))
def fX2_add_215 (v5 : Int64) (v7 : Int64) (v9 : Int32) (v11 : Int64) (v15 : Int64) (v17 : Int32) (s0 : Int32) : Int64 := (if v7 < (0 : Int64) then fX2_add_227 v5 v9 v11 v15 v17 s0 (1 : Int32) else fX2_add_227 v5 v9 v11 v15 v17 s0 (0 : Int32))
def okX2_add_215 (v5 : Int64) (v7 : Int64) (v9 : Int32) (v11 : Int64) (v15 : Int64) (v17 : Int32) (s0 : Int32) : Prop := ((v7 < (0 : Int64) → okX2_add_227 v5 v9 v11 v15 v17 s0 (1 : Int32)) ∧ (¬ v7 < (0 : Int64) → okX2_add_227 v5 v9 v11 v15 v17 s0 (0 : Int32)))
def fX2_add_201 (v5 : Int64) (v7 : Int64) (v9 : Int32) (v11 : Int64) (v15 : Int64) (s0 : Int32) : Int64 := (if v5 < (0 : Int64) then fX2_add_215 v5 v7 v9 v11 v15 s0 (1 : Int32) else fX2_add_215 v5 v7 v9 v11 v15 s0 (0 : Int32))
def okX2_add_201 (v5 : Int64) (v7 : Int64) (v9 : Int32) (v11 : Int64) (v15 : Int64) (s0 : Int32) : Prop := ((v5 < (0 : Int64) → okX2_add_215 v5 v7 v9 v11 v15 s0 (1 : Int32)) ∧ (¬ v5 < (0 : Int64) → okX2_add_215 v5 v7 v9 v11 v15 s0 (0 : Int32)))
def fX2_add_196 (v5 : Int64) (v7 : Int64) (v9 : Int32) (v11 : Int64) (v15 : Int64) : Int64 := fX2_add_201 v5 v7 v9 v11 v15 (1 : Int32)
def okX2_add_196 (v5 : Int64) (v7 : Int64) (v9 : Int32) (v11 : Int64) (v15 : Int64) : Prop := okX2_add_201 v5 v7 v9 v11 v15 (1 : Int32)
def fX2_add_176 (v5 : Int64) (v7 : Int64) (v9 : Int32) (v10 : Int32) (v11 : Int64) (v13 : Int64) (s0 : Int64) : Int64 := (if (62 : Int32) < v10 then fX2_add_196 v5 v7 v9 v11 s0 else (if (jshl s0 v10) = v13 then fX2_add_201 v5 v7 v9 v11 s0 (0 : Int32) else fX2_add_196 v5 v7 v9 v11 s0))
def okX2_add_176 (v5 : Int64) (v7 : Int64) (v9 : Int32) (v10 : Int32) (v11 : Int64) (v13 : Int64) (s0 : Int64) : Prop := (((62 : Int32) < v10 → okX2_add_196 v5 v7 v9 v11 s0) ∧ (¬ (62 : Int32) < v10 → (((jshl s0 v10) = v13 → okX2_add_201 v5 v7 v9 v11 s0 (0 : Int32)) ∧ (¬ (jshl s0 v10) = v13 → okX2_add_196 v5 v7 v9 v11 s0))))
def fX2_add_160 (v5 : Int64) (v7 : Int64) (v9 : Int32) (v10 : Int32) (v11 : Int64) (v13 : Int64) : Int64 := (if (62 : Int32) < v10 then fX2_add_176 v5 v7 v9 v10 v11 v13 (0 : Int64) else fX2_add_176 v5 v7 v9 v10 v11 v13 (jushr v13 v10))
def okX2_add_160 (v5 : Int64) (v7 : Int64) (v9 : Int32) (v10 : Int32) (v11 : Int64) (v13 : Int64) : Prop := (((62 : Int32) < v10 → okX2_add_176 v5 v7 v9 v10 v11 v13 (0 : Int64)) ∧ (¬ (62 : Int32) < v10 → okX2_add_176 v5 v7 v9 v10 v11 v13 (jushr v13 v10)))
def fX2_add_150 (v5 : Int64) (v7 : Int64) (v9 : Int32) (v10 : Int32) (v11 : Int64) : Int64 := fX2_add_160 v5 v7 v9 v10 v11 (jshl (fX2_significand v7) (8 : Int32))
def okX2_add_150 (v5 : Int64) (v7 : Int64) (v9 : Int32) (v10 : Int32) (v11 : Int64) : Prop := (okX2_significand v7) ∧ okX2_add_160 v5 v7 v9 v10 v11 (jshl (fX2_significand v7) (8 : Int32))
def fX2_add_140 (v5 : Int64) (v7 : Int64) (v9 : Int32) (v10 : Int32) : Int64 := fX2_add_150 v5 v7 v9 v10 (jshl (fX2_significand v5) (8 : Int32))
def okX2_add_140 (v5 : Int64) (v7 : Int64) (v9 : Int32) (v10 : Int32) : Prop := (okX2_significand v5) ∧ okX2_add_150 v5 v7 v9 v10 (jshl (fX2_significand v5) (8 : Int32))
def fX2_add_127 (v5 : Int64) (v7 : Int64) (v9 : Int32) : Int64 := fX2_add_140 v5 v7 v9 ((fX2_exponent v5) - (fX2_exponent v7))
def okX2_add_127 (v5 : Int64) (v7 : Int64) (v9 : Int32) : Prop := (okX2_exponent v5) ∧ (okX2_exponent v7) ∧ okX2_add_140 v5 v7 v9 ((fX2_exponent v5) - (fX2_exponent v7))
def fX2_add_115 (v5 : Int64) (s0 : Int64) : Int64 := fX2_add_127 v5 s0 ((fX2_exponent v5) - (8 : Int32))
def okX2_add_115 (v5 : Int64) (s0 : Int64) : Prop := (okX2_exponent v5) ∧ okX2_add_127 v5 s0 ((fX2_exponent v5) - (8 : Int32))
def fX2_add_103 (v0 : Int64) (v2 : Int64) (v4 : Int32) (s0 : Int64) : Int64 := (if v4 = (0) then fX2_add_115 s0 v0 else fX2_add_115 s0 v2)
def okX2_add_103 (v0 : Int64) (v2 : Int64) (v4 : Int32) (s0 : Int64) : Prop := ((v4 = (0) → okX2_add_115 s0 v0) ∧ (¬ v4 = (0) → okX2_add_115 s0 v2))
def fX2_add_91 (v0 : Int64) (v2 : Int64) (s0 : Int32) : Int64 := (if s0 = (0) then fX2_add_103 v0 v2 s0 v2 else fX2_add_103 v0 v2 s0 v0)
def okX2_add_91 (v0 : Int64) (v2 : Int64) (s0 : Int32) : Prop := ((s0 = (0) → okX2_add_103 v0 v2 s0 v2) ∧ (¬ s0 = (0) → okX2_add_103 v0 v2 s0 v0))
def fX2_add_86 (v0 : Int64) (v2 : Int64) : Int64 := fX2_add_91 v0 v2 (1 : Int32)
def okX2_add_86 (v0 : Int64) (v2 : Int64) : Prop := okX2_add_91 v0 v2 (1 : Int32)
def fX2_add_90 (v0 : Int64) (v2 : Int64) : Int64 := fX2_add_91 v0 v2 (0 : Int32)
def okX2_add_90 (v0 : Int64) (v2 : Int64) : Prop := okX2_add_91 v0 v2 (0 : Int32)
def fX2_add_0 (v0 : Int64) (v2 : Int64) : Int64 := (if (fX2_isInfinite v0) = (0) then (if (fX2_isZero v2) = (0) then (if (fX2_isInfinite v2) = (0) then (if (fX2_isZero v0) = (0) then (if (fX2_exponent v2) < (fX2_exponent v0) then fX2_add_86 v0 v2 else (if (fX2_exponent v0) = (fX2_exponent v2) then (if (fX2_significand v0) < (fX2_significand v2) then fX2_add_90 v0 v2 else fX2_add_86 v0 v2) else fX2_add_90 v0 v2)) else v2) else v2) else fX2_add_14 v0 v2) else fX2_add_14 v0 v2)
def okX2_add_0 (v0 : Int64) (v2 : Int64) : Prop := (((fX2_isInfinite v0) = (0) → (((fX2_isZero v2) = (0) → (((fX2_isInfinite v2) = (0) → (((fX2_isZero v0) = (0) → (okX2_exponent v0) ∧ (okX2_exponent v2) ∧ (((fX2_exponent v2) < (fX2_exponent v0) → okX2_add_86 v0 v2) ∧ (¬ (fX2_exponent v2) < (fX2_exponent v0) → (okX2_exponent v0) ∧ (okX2_exponent v2) ∧ (((fX2_exponent v0) = (fX2_exponent v2) → (okX2_significand v0) ∧ (okX2_significand v2) ∧ (((fX2_significand v0) < (fX2_significand v2) → okX2_add_90 v0 v2) ∧ (¬ (fX2_significand v0) < (fX2_significand v2) → okX2_add_86 v0 v2))) ∧ (¬ (fX2_exponent v0) = (fX2_exponent v2) → okX2_add_90 v0 v2))))) ∧ (¬ (fX2_isZero v0) = (0) → True))) ∧ (¬ (fX2_isInfinite v2) = (0) → True))) ∧ (¬ (fX2_isZero v2) = (0) → True))) ∧ (¬ (fX2_isInfinite v0) = (0) → True))
def fX2_add (v0 : Int64) (v2 : Int64) : Int64 := fX2_add_0 v0 v2
def okX2_add (v0 : Int64) (v2 : Int64) : Prop := okX2_add_0 v0 v2
def fX2_multiply_174 (v0 : Int64) (v2 : Int64) (v16 : Int64) (v18 : Int64) (v20 : Int32) (s0 : Int32) : Int64 := (fX2_made s0 ((jshl v16 (8 : Int32)) ||| (jushr v18 (19 : Int32))) (((fX2_exponent v0) + (fX2_exponent v2)) + (46 : Int32)) v20)
def okX2_multiply_174 (v0 : Int64) (v2 : Int64) (v16 : Int64) (v18 : Int64) (v20 : Int32) (s0 : Int32) : Prop := (okX2_exponent v0) ∧ (okX2_exponent v2) ∧ (okX2_made s0 ((jshl v16 (8 : Int32)) ||| (jushr v18 (19 : Int32))) (((fX2_exponent v0) + (fX2_exponent v2)) + (46 : Int32)) v20) ∧ True
def fX2_multiply_160 (v0 : Int64) (v2 : Int64) (v4 : Int64) (v16 : Int64) (v18 : Int64) (s0 : Int32) : Int64 := (if v4 = (0 : Int64) then fX2_multiply_174 v0 v2 v16 v18 s0 (0 : Int32) else fX2_multiply_174 v0 v2 v16 v18 s0 (1 : Int32))
def okX2_multiply_160 (v0 : Int64) (v2 : Int64) (v4 : Int64) (v16 : Int64) (v18 : Int64) (s0 : Int32) : Prop := ((v4 = (0 : Int64) → okX2_multiply_174 v0 v2 v16 v18 s0 (0 : Int32)) ∧ (¬ v4 = (0 : Int64) → okX2_multiply_174 v0 v2 v16 v18 s0 (1 : Int32)))
def fX2_multiply_155 (v0 : Int64) (v2 : Int64) (v4 : Int64) (v16 : Int64) (v18 : Int64) : Int64 := fX2_multiply_160 v0 v2 v4 v16 v18 (1 : Int32)
def okX2_multiply_155 (v0 : Int64) (v2 : Int64) (v4 : Int64) (v16 : Int64) (v18 : Int64) : Prop := okX2_multiply_160 v0 v2 v4 v16 v18 (1 : Int32)
def fX2_multiply_134 (v0 : Int64) (v2 : Int64) (v4 : Int64) (v10 : Int64) (v12 : Int64) (v16 : Int64) (v18 : Int64) : Int64 := (if (v12 &&& v10) = (0 : Int64) then (if (v18 &&& (524287 : Int64)) = (0 : Int64) then fX2_multiply_160 v0 v2 v4 v16 v18 (0 : Int32) else fX2_multiply_155 v0 v2 v4 v16 v18) else fX2_multiply_155 v0 v2 v4 v16 v18)
def okX2_multiply_134 (v0 : Int64) (v2 : Int64) (v4 : Int64) (v10 : Int64) (v12 : Int64) (v16 : Int64) (v18 : Int64) : Prop := (((v12 &&& v10) = (0 : Int64) → (((v18 &&& (524287 : Int64)) = (0 : Int64) → okX2_multiply_160 v0 v2 v4 v16 v18 (0 : Int32)) ∧ (¬ (v18 &&& (524287 : Int64)) = (0 : Int64) → okX2_multiply_155 v0 v2 v4 v16 v18))) ∧ (¬ (v12 &&& v10) = (0 : Int64) → okX2_multiply_155 v0 v2 v4 v16 v18))
def fX2_multiply_127 (v0 : Int64) (v2 : Int64) (v4 : Int64) (v10 : Int64) (v12 : Int64) (v14 : Int64) (v16 : Int64) : Int64 := fX2_multiply_134 v0 v2 v4 v10 v12 v16 (v14 &&& v10)
def okX2_multiply_127 (v0 : Int64) (v2 : Int64) (v4 : Int64) (v10 : Int64) (v12 : Int64) (v14 : Int64) (v16 : Int64) : Prop := okX2_multiply_134 v0 v2 v4 v10 v12 v16 (v14 &&& v10)
def fX2_multiply_108 (v0 : Int64) (v2 : Int64) (v4 : Int64) (v6 : Int64) (v8 : Int64) (v10 : Int64) (v12 : Int64) (v14 : Int64) : Int64 := fX2_multiply_127 v0 v2 v4 v10 v12 v14 (((jushr v6 (27 : Int32)) * (jushr v8 (27 : Int32))) + (jushr v14 (27 : Int32)))
def okX2_multiply_108 (v0 : Int64) (v2 : Int64) (v4 : Int64) (v6 : Int64) (v8 : Int64) (v10 : Int64) (v12 : Int64) (v14 : Int64) : Prop := okX2_multiply_127 v0 v2 v4 v10 v12 v14 (((jushr v6 (27 : Int32)) * (jushr v8 (27 : Int32))) + (jushr v14 (27 : Int32)))
def fX2_multiply_77 (v0 : Int64) (v2 : Int64) (v4 : Int64) (v6 : Int64) (v8 : Int64) (v10 : Int64) (v12 : Int64) : Int64 := fX2_multiply_108 v0 v2 v4 v6 v8 v10 v12 ((((jushr v6 (27 : Int32)) * (v8 &&& v10)) + ((v6 &&& v10) * (jushr v8 (27 : Int32)))) + (jushr v12 (27 : Int32)))
def okX2_multiply_77 (v0 : Int64) (v2 : Int64) (v4 : Int64) (v6 : Int64) (v8 : Int64) (v10 : Int64) (v12 : Int64) : Prop := okX2_multiply_108 v0 v2 v4 v6 v8 v10 v12 ((((jushr v6 (27 : Int32)) * (v8 &&& v10)) + ((v6 &&& v10) * (jushr v8 (27 : Int32)))) + (jushr v12 (27 : Int32)))
def fX2_multiply_59 (v0 : Int64) (v2 : Int64) (v4 : Int64) (v6 : Int64) (v8 : Int64) : Int64 := fX2_multiply_77 v0 v2 v4 v6 v8 (134217727 : Int64) ((v6 &&& (134217727 : Int64)) * (v8 &&& (134217727 : Int64)))
def okX2_multiply_59 (v0 : Int64) (v2 : Int64) (v4 : Int64) (v6 : Int64) (v8 : Int64) : Prop := okX2_multiply_77 v0 v2 v4 v6 v8 (134217727 : Int64) ((v6 &&& (134217727 : Int64)) * (v8 &&& (134217727 : Int64)))
def fX2_multiply_53 (v0 : Int64) (v2 : Int64) (v4 : Int64) (v6 : Int64) : Int64 := fX2_multiply_59 v0 v2 v4 v6 (fX2_significand v2)
def okX2_multiply_53 (v0 : Int64) (v2 : Int64) (v4 : Int64) (v6 : Int64) : Prop := (okX2_significand v2) ∧ okX2_multiply_59 v0 v2 v4 v6 (fX2_significand v2)
def fX2_multiply_9 (v0 : Int64) (v2 : Int64) (v4 : Int64) : Int64 := (if (fX2_isInfinite v0) = (0) then (if (fX2_isInfinite v2) = (0) then (if (fX2_isZero v0) = (0) then (if (fX2_isZero v2) = (0) then fX2_multiply_53 v0 v2 v4 (fX2_significand v0) else v4) else v4) else (v4 ||| (9218868437227405312 : Int64))) else (v4 ||| (9218868437227405312 : Int64)))
def okX2_multiply_9 (v0 : Int64) (v2 : Int64) (v4 : Int64) : Prop := (((fX2_isInfinite v0) = (0) → (((fX2_isInfinite v2) = (0) → (((fX2_isZero v0) = (0) → (((fX2_isZero v2) = (0) → (okX2_significand v0) ∧ okX2_multiply_53 v0 v2 v4 (fX2_significand v0)) ∧ (¬ (fX2_isZero v2) = (0) → True))) ∧ (¬ (fX2_isZero v0) = (0) → True))) ∧ (¬ (fX2_isInfinite v2) = (0) → True))) ∧ (¬ (fX2_isInfinite v0) = (0) → True))
def fX2_multiply_0 (v0 : Int64) (v2 : Int64) : Int64 := fX2_multiply_9 v0 v2 ((v0 ^^^ v2) &&& (-9223372036854775808 : Int64))
def okX2_multiply_0 (v0 : Int64) (v2 : Int64) : Prop := okX2_multiply_9 v0 v2 ((v0 ^^^ v2) &&& (-9223372036854775808 : Int64))
def fX2_multiply (v0 : Int64) (v2 : Int64) : Int64 := fX2_multiply_0 v0 v2
def okX2_multiply (v0 : Int64) (v2 : Int64) : Prop := okX2_multiply_0 v0 v2
def fX2_divide_149 (s0 : Int32) (s1 : Int64) (s2 : Int32) (s3 : Int32) : Int64 := (fX2_made s0 s1 s2 s3)
def okX2_divide_149 (s0 : Int32) (s1 : Int64) (s2 : Int32) (s3 : Int32) : Prop := (okX2_made s0 s1 s2 s3) ∧ True
def fX2_divide_123 (v0 : Int64) (v2 : Int64) (v6 : Int64) (v10 : Int64) (s0 : Int32) : Int64 := (if v6 = (0 : Int64) then fX2_divide_149 s0 v10 (((fX2_exponent v0) - (fX2_exponent v2)) - (56 : Int32)) (0 : Int32) else fX2_divide_149 s0 v10 (((fX2_exponent v0) - (fX2_exponent v2)) - (56 : Int32)) (1 : Int32))
def okX2_divide_123 (v0 : Int64) (v2 : Int64) (v6 : Int64) (v10 : Int64) (s0 : Int32) : Prop := (okX2_exponent v0) ∧ (okX2_exponent v2) ∧ ((v6 = (0 : Int64) → okX2_divide_149 s0 v10 (((fX2_exponent v0) - (fX2_exponent v2)) - (56 : Int32)) (0 : Int32)) ∧ (¬ v6 = (0 : Int64) → okX2_divide_149 s0 v10 (((fX2_exponent v0) - (fX2_exponent v2)) - (56 : Int32)) (1 : Int32)))
def fX2_divide_111 (v0 : Int64) (v2 : Int64) (v4 : Int64) (v6 : Int64) (v10 : Int64) : Int64 := (if v4 = (0 : Int64) then fX2_divide_123 v0 v2 v6 v10 (0 : Int32) else fX2_divide_123 v0 v2 v6 v10 (1 : Int32))
def okX2_divide_111 (v0 : Int64) (v2 : Int64) (v4 : Int64) (v6 : Int64) (v10 : Int64) : Prop := ((v4 = (0 : Int64) → okX2_divide_123 v0 v2 v6 v10 (0 : Int32)) ∧ (¬ v4 = (0 : Int64) → okX2_divide_123 v0 v2 v6 v10 (1 : Int32)))
def fX2_divide_65 : Nat → Int64 → Int64 → Int64 → Int64 → Int64 → Int64 → Int32 → Int64
  | 0, _, _, _, _, _, _, _ => 0
  | fuel + 1, v0, v2, v4, v6, v8, v10, v12 => (if v12 < (57 : Int32) then (if v6 < v8 then fX2_divide_65 fuel v0 v2 v4 (jshl v6 (1 : Int32)) v8 (jshl v10 (1 : Int32)) (v12 + (1 : Int32)) else fX2_divide_65 fuel v0 v2 v4 (jshl (v6 - v8) (1 : Int32)) v8 ((jshl v10 (1 : Int32)) ||| (1 : Int64)) (v12 + (1 : Int32))) else fX2_divide_111 v0 v2 v4 v6 v10)
def okX2_divide_65 : Nat → Int64 → Int64 → Int64 → Int64 → Int64 → Int64 → Int32 → Prop
  | 0, _, _, _, _, _, _, _ => False
  | fuel + 1, v0, v2, v4, v6, v8, v10, v12 => ((v12 < (57 : Int32) → ((v6 < v8 → okX2_divide_65 fuel v0 v2 v4 (jshl v6 (1 : Int32)) v8 (jshl v10 (1 : Int32)) (v12 + (1 : Int32))) ∧ (¬ v6 < v8 → okX2_divide_65 fuel v0 v2 v4 (jshl (v6 - v8) (1 : Int32)) v8 ((jshl v10 (1 : Int32)) ||| (1 : Int64)) (v12 + (1 : Int32))))) ∧ (¬ v12 < (57 : Int32) → okX2_divide_111 v0 v2 v4 v6 v10))
def fX2_divide_59 (v0 : Int64) (v2 : Int64) (v4 : Int64) (v6 : Int64) (v8 : Int64) : Int64 := fX2_divide_65 64 v0 v2 v4 v6 v8 (0 : Int64) (0 : Int32)
def okX2_divide_59 (v0 : Int64) (v2 : Int64) (v4 : Int64) (v6 : Int64) (v8 : Int64) : Prop := okX2_divide_65 64 v0 v2 v4 v6 v8 (0 : Int64) (0 : Int32)
def fX2_divide_53 (v0 : Int64) (v2 : Int64) (v4 : Int64) (v6 : Int64) : Int64 := fX2_divide_59 v0 v2 v4 v6 (fX2_significand v2)
def okX2_divide_53 (v0 : Int64) (v2 : Int64) (v4 : Int64) (v6 : Int64) : Prop := (okX2_significand v2) ∧ okX2_divide_59 v0 v2 v4 v6 (fX2_significand v2)
def fX2_divide_9 (v0 : Int64) (v2 : Int64) (v4 : Int64) : Int64 := (if (fX2_isInfinite v0) = (0) then (if (fX2_isZero v2) = (0) then (if (fX2_isZero v0) = (0) then (if (fX2_isInfinite v2) = (0) then fX2_divide_53 v0 v2 v4 (fX2_significand v0) else v4) else v4) else (v4 ||| (9218868437227405312 : Int64))) else (v4 ||| (9218868437227405312 : Int64)))
def okX2_divide_9 (v0 : Int64) (v2 : Int64) (v4 : Int64) : Prop := (((fX2_isInfinite v0) = (0) → (((fX2_isZero v2) = (0) → (((fX2_isZero v0) = (0) → (((fX2_isInfinite v2) = (0) → (okX2_significand v0) ∧ okX2_divide_53 v0 v2 v4 (fX2_significand v0)) ∧ (¬ (fX2_isInfinite v2) = (0) → True))) ∧ (¬ (fX2_isZero v0) = (0) → True))) ∧ (¬ (fX2_isZero v2) = (0) → True))) ∧ (¬ (fX2_isInfinite v0) = (0) → True))
def fX2_divide_0 (v0 : Int64) (v2 : Int64) : Int64 := fX2_divide_9 v0 v2 ((v0 ^^^ v2) &&& (-9223372036854775808 : Int64))
def okX2_divide_0 (v0 : Int64) (v2 : Int64) : Prop := okX2_divide_9 v0 v2 ((v0 ^^^ v2) &&& (-9223372036854775808 : Int64))
def fX2_divide (v0 : Int64) (v2 : Int64) : Int64 := fX2_divide_0 v0 v2
def okX2_divide (v0 : Int64) (v2 : Int64) : Prop := okX2_divide_0 v0 v2
def fX2_compare_48 (v4 : Int64) (s0 : Int64) : Int32 := (if v4 < s0 then (-1 : Int32) else (if s0 < v4 then (1 : Int32) else (0 : Int32)))
def fX2_compare_31 (v2 : Int64) (s0 : Int64) : Int32 := (if v2 < (0 : Int64) then fX2_compare_48 s0 (v2 ^^^ (9223372036854775807 : Int64)) else fX2_compare_48 s0 v2)
def fX2_compare_16 (v0 : Int64) (v2 : Int64) : Int32 := (if v0 < (0 : Int64) then fX2_compare_31 v2 (v0 ^^^ (9223372036854775807 : Int64)) else fX2_compare_31 v2 v0)
def fX2_compare_0 (v0 : Int64) (v2 : Int64) : Int32 := (if (fX2_isZero v0) = (0) then fX2_compare_16 v0 v2 else (if (fX2_isZero v2) = (0) then fX2_compare_16 v0 v2 else (0 : Int32)))
def fX2_compare (v0 : Int64) (v2 : Int64) : Int32 := fX2_compare_0 v0 v2
def fX2_of_83 (s0 : Int32) (s1 : Int64) (s2 : Int32) (s3 : Int32) : Int64 := (fX2_made s0 s1 s2 s3)
def okX2_of_83 (s0 : Int32) (s1 : Int64) (s2 : Int32) (s3 : Int32) : Prop := (okX2_made s0 s1 s2 s3) ∧ True
def fX2_of_61 (v3 : Int32) (v4 : Int64) : Int64 := (if (v4 &&& (3 : Int64)) = (0 : Int64) then fX2_of_83 v3 (jushr v4 (2 : Int32)) (2 : Int32) (0 : Int32) else fX2_of_83 v3 (jushr v4 (2 : Int32)) (2 : Int32) (1 : Int32))
def okX2_of_61 (v3 : Int32) (v4 : Int64) : Prop := (((v4 &&& (3 : Int64)) = (0 : Int64) → okX2_of_83 v3 (jushr v4 (2 : Int32)) (2 : Int32) (0 : Int32)) ∧ (¬ (v4 &&& (3 : Int64)) = (0 : Int64) → okX2_of_83 v3 (jushr v4 (2 : Int32)) (2 : Int32) (1 : Int32)))
def fX2_of_34 (v3 : Int32) (s0 : Int64) : Int64 := (if (0 : Int64) < s0 then (if s0 < (4611686018427387904 : Int64) then (fX2_made v3 s0 (0 : Int32) (0 : Int32)) else fX2_of_61 v3 s0) else fX2_of_61 v3 s0)
def okX2_of_34 (v3 : Int32) (s0 : Int64) : Prop := (((0 : Int64) < s0 → ((s0 < (4611686018427387904 : Int64) → (okX2_made v3 s0 (0 : Int32) (0 : Int32)) ∧ True) ∧ (¬ s0 < (4611686018427387904 : Int64) → okX2_of_61 v3 s0))) ∧ (¬ (0 : Int64) < s0 → okX2_of_61 v3 s0))
def fX2_of_23 (v0 : Int64) (s0 : Int32) : Int64 := (if s0 = (0) then fX2_of_34 s0 v0 else fX2_of_34 s0 (-v0))
def okX2_of_23 (v0 : Int64) (s0 : Int32) : Prop := ((s0 = (0) → okX2_of_34 s0 v0) ∧ (¬ s0 = (0) → okX2_of_34 s0 (-v0)))
def fX2_of_22 (v0 : Int64) : Int64 := fX2_of_23 v0 (0 : Int32)
def okX2_of_22 (v0 : Int64) : Prop := okX2_of_23 v0 (0 : Int32)
def fX2_of_0 (v0 : Int64) (v2 : Int32) : Int64 := (if v0 = (0 : Int64) then (0 : Int64) else (if v0 < (0 : Int64) then (if v2 = (0) then fX2_of_23 v0 (1 : Int32) else fX2_of_22 v0) else fX2_of_22 v0))
def okX2_of_0 (v0 : Int64) (v2 : Int32) : Prop := ((v0 = (0 : Int64) → True) ∧ (¬ v0 = (0 : Int64) → ((v0 < (0 : Int64) → ((v2 = (0) → okX2_of_23 v0 (1 : Int32)) ∧ (¬ v2 = (0) → okX2_of_22 v0))) ∧ (¬ v0 < (0 : Int64) → okX2_of_22 v0))))
def fX2_of (v0 : Int64) (v2 : Int32) : Int64 := fX2_of_0 v0 v2
def okX2_of (v0 : Int64) (v2 : Int32) : Prop := okX2_of_0 v0 v2
def fX2_wide_81 (v1 : Int64) (s0 : Int64) (s1 : Int32) : Int64 := (v1 ||| (fX2_rounded s0 (s1 - (150 : Int32)) (0 : Int32) (53 : Int32) (1023 : Int32)))
def okX2_wide_81 (v1 : Int64) (s0 : Int64) (s1 : Int32) : Prop := (okX2_rounded s0 (s1 - (150 : Int32)) (0 : Int32) (53 : Int32) (1023 : Int32)) ∧ True
def fX2_wide_72 (v1 : Int64) (v3 : Int32) (s0 : Int64) : Int64 := (if v3 = (0) then fX2_wide_81 v1 s0 (1 : Int32) else fX2_wide_81 v1 s0 v3)
def okX2_wide_72 (v1 : Int64) (v3 : Int32) (s0 : Int64) : Prop := ((v3 = (0) → okX2_wide_81 v1 s0 (1 : Int32)) ∧ (¬ v3 = (0) → okX2_wide_81 v1 s0 v3))
def fX2_wide_57 (v1 : Int64) (v3 : Int32) (v4 : Int64) : Int64 := (if v3 = (0) then fX2_wide_72 v1 v3 v4 else fX2_wide_72 v1 v3 (v4 ||| (8388608 : Int64)))
def okX2_wide_57 (v1 : Int64) (v3 : Int32) (v4 : Int64) : Prop := ((v3 = (0) → okX2_wide_72 v1 v3 v4) ∧ (¬ v3 = (0) → okX2_wide_72 v1 v3 (v4 ||| (8388608 : Int64))))
def fX2_wide_28 (v1 : Int64) (v3 : Int32) (v4 : Int64) : Int64 := (if v3 = (255 : Int32) then ((v1 ||| (9218868437227405312 : Int64)) ||| v4) else (if v3 = (0) then (if v4 = (0 : Int64) then v1 else fX2_wide_57 v1 v3 v4) else fX2_wide_57 v1 v3 v4))
def okX2_wide_28 (v1 : Int64) (v3 : Int32) (v4 : Int64) : Prop := ((v3 = (255 : Int32) → True) ∧ (¬ v3 = (255 : Int32) → ((v3 = (0) → ((v4 = (0 : Int64) → True) ∧ (¬ v4 = (0 : Int64) → okX2_wide_57 v1 v3 v4))) ∧ (¬ v3 = (0) → okX2_wide_57 v1 v3 v4))))
def fX2_wide_21 (v0 : Int32) (v1 : Int64) (v3 : Int32) : Int64 := fX2_wide_28 v1 v3 ((v0 &&& (8388607 : Int32)).toInt64)
def okX2_wide_21 (v0 : Int32) (v1 : Int64) (v3 : Int32) : Prop := okX2_wide_28 v1 v3 ((v0 &&& (8388607 : Int32)).toInt64)
def fX2_wide_11 (v0 : Int32) (s0 : Int64) : Int64 := fX2_wide_21 v0 s0 ((ishr v0 (23 : Int32)) &&& (255 : Int32))
def okX2_wide_11 (v0 : Int32) (s0 : Int64) : Prop := okX2_wide_21 v0 s0 ((ishr v0 (23 : Int32)) &&& (255 : Int32))
def fX2_wide_0 (v0 : Int32) : Int64 := (if v0 < (0) then fX2_wide_11 v0 (-9223372036854775808 : Int64) else fX2_wide_11 v0 (0 : Int64))
def okX2_wide_0 (v0 : Int32) : Prop := ((v0 < (0) → okX2_wide_11 v0 (-9223372036854775808 : Int64)) ∧ (¬ v0 < (0) → okX2_wide_11 v0 (0 : Int64)))
def fX2_wide (v0 : Int32) : Int64 := fX2_wide_0 v0
def okX2_wide (v0 : Int32) : Prop := okX2_wide_0 v0
def fX2_floatOf_126 (s0 : Int32) (s1 : Int32) : Int64 := (fX2_wide (s0 ||| s1))
def okX2_floatOf_126 (s0 : Int32) (s1 : Int32) : Prop := (okX2_wide (s0 ||| s1)) ∧ True
def fX2_floatOf_113 (v3 : Int32) (v7 : Int64) : Int64 := (if v3 = (0) then fX2_floatOf_126 (v7.toInt32) (0 : Int32) else fX2_floatOf_126 (v7.toInt32) (-2147483648 : Int32))
def okX2_floatOf_113 (v3 : Int32) (v7 : Int64) : Prop := ((v3 = (0) → okX2_floatOf_126 (v7.toInt32) (0 : Int32)) ∧ (¬ v3 = (0) → okX2_floatOf_126 (v7.toInt32) (-2147483648 : Int32)))
def fX2_floatOf_104 (v3 : Int32) (s0 : Int64) (s1 : Int32) (s2 : Int32) : Int64 := fX2_floatOf_113 v3 (fX2_rounded s0 s1 s2 (24 : Int32) (127 : Int32))
def okX2_floatOf_104 (v3 : Int32) (s0 : Int64) (s1 : Int32) (s2 : Int32) : Prop := (okX2_rounded s0 s1 s2 (24 : Int32) (127 : Int32)) ∧ okX2_floatOf_113 v3 (fX2_rounded s0 s1 s2 (24 : Int32) (127 : Int32))
def fX2_floatOf_103 (v3 : Int32) (s0 : Int64) (s1 : Int32) : Int64 := fX2_floatOf_104 v3 s0 s1 (0 : Int32)
def okX2_floatOf_103 (v3 : Int32) (s0 : Int64) (s1 : Int32) : Prop := okX2_floatOf_104 v3 s0 s1 (0 : Int32)
def fX2_floatOf_83 (v3 : Int32) (v4 : Int64) (v6 : Int32) (s0 : Int64) (s1 : Int32) : Int64 := (if v6 = (0) then (if (v4 &&& (3 : Int64)) = (0 : Int64) then fX2_floatOf_103 v3 s0 s1 else fX2_floatOf_104 v3 s0 s1 (1 : Int32)) else fX2_floatOf_103 v3 s0 s1)
def okX2_floatOf_83 (v3 : Int32) (v4 : Int64) (v6 : Int32) (s0 : Int64) (s1 : Int32) : Prop := ((v6 = (0) → (((v4 &&& (3 : Int64)) = (0 : Int64) → okX2_floatOf_103 v3 s0 s1) ∧ (¬ (v4 &&& (3 : Int64)) = (0 : Int64) → okX2_floatOf_104 v3 s0 s1 (1 : Int32)))) ∧ (¬ v6 = (0) → okX2_floatOf_103 v3 s0 s1))
def fX2_floatOf_73 (v3 : Int32) (v4 : Int64) (v6 : Int32) (s0 : Int64) : Int64 := (if v6 = (0) then fX2_floatOf_83 v3 v4 v6 s0 (2 : Int32) else fX2_floatOf_83 v3 v4 v6 s0 (0 : Int32))
def okX2_floatOf_73 (v3 : Int32) (v4 : Int64) (v6 : Int32) (s0 : Int64) : Prop := ((v6 = (0) → okX2_floatOf_83 v3 v4 v6 s0 (2 : Int32)) ∧ (¬ v6 = (0) → okX2_floatOf_83 v3 v4 v6 s0 (0 : Int32)))
def fX2_floatOf_57 (v3 : Int32) (v4 : Int64) (s0 : Int32) : Int64 := (if s0 = (0) then fX2_floatOf_73 v3 v4 s0 (jushr v4 (2 : Int32)) else fX2_floatOf_73 v3 v4 s0 v4)
def okX2_floatOf_57 (v3 : Int32) (v4 : Int64) (s0 : Int32) : Prop := ((s0 = (0) → okX2_floatOf_73 v3 v4 s0 (jushr v4 (2 : Int32))) ∧ (¬ s0 = (0) → okX2_floatOf_73 v3 v4 s0 v4))
def fX2_floatOf_56 (v3 : Int32) (v4 : Int64) : Int64 := fX2_floatOf_57 v3 v4 (0 : Int32)
def okX2_floatOf_56 (v3 : Int32) (v4 : Int64) : Prop := okX2_floatOf_57 v3 v4 (0 : Int32)
def fX2_floatOf_34 (v3 : Int32) (s0 : Int64) : Int64 := (if (0 : Int64) < s0 then (if s0 < (4611686018427387904 : Int64) then fX2_floatOf_57 v3 s0 (1 : Int32) else fX2_floatOf_56 v3 s0) else fX2_floatOf_56 v3 s0)
def okX2_floatOf_34 (v3 : Int32) (s0 : Int64) : Prop := (((0 : Int64) < s0 → ((s0 < (4611686018427387904 : Int64) → okX2_floatOf_57 v3 s0 (1 : Int32)) ∧ (¬ s0 < (4611686018427387904 : Int64) → okX2_floatOf_56 v3 s0))) ∧ (¬ (0 : Int64) < s0 → okX2_floatOf_56 v3 s0))
def fX2_floatOf_23 (v0 : Int64) (s0 : Int32) : Int64 := (if s0 = (0) then fX2_floatOf_34 s0 v0 else fX2_floatOf_34 s0 (-v0))
def okX2_floatOf_23 (v0 : Int64) (s0 : Int32) : Prop := ((s0 = (0) → okX2_floatOf_34 s0 v0) ∧ (¬ s0 = (0) → okX2_floatOf_34 s0 (-v0)))
def fX2_floatOf_22 (v0 : Int64) : Int64 := fX2_floatOf_23 v0 (0 : Int32)
def okX2_floatOf_22 (v0 : Int64) : Prop := okX2_floatOf_23 v0 (0 : Int32)
def fX2_floatOf_0 (v0 : Int64) (v2 : Int32) : Int64 := (if v0 = (0 : Int64) then (0 : Int64) else (if v0 < (0 : Int64) then (if v2 = (0) then fX2_floatOf_23 v0 (1 : Int32) else fX2_floatOf_22 v0) else fX2_floatOf_22 v0))
def okX2_floatOf_0 (v0 : Int64) (v2 : Int32) : Prop := ((v0 = (0 : Int64) → True) ∧ (¬ v0 = (0 : Int64) → ((v0 < (0 : Int64) → ((v2 = (0) → okX2_floatOf_23 v0 (1 : Int32)) ∧ (¬ v2 = (0) → okX2_floatOf_22 v0))) ∧ (¬ v0 < (0 : Int64) → okX2_floatOf_22 v0))))
def fX2_floatOf (v0 : Int64) (v2 : Int32) : Int64 := fX2_floatOf_0 v0 v2
def okX2_floatOf (v0 : Int64) (v2 : Int32) : Prop := okX2_floatOf_0 v0 v2
def fX2_narrow_12 (v0 : Int64) (s0 : Int32) : Int32 := (if (fX2_isInfinite v0) = (0) then (if (fX2_isZero v0) = (0) then (((fX2_rounded (fX2_significand v0) (fX2_exponent v0) (0 : Int32) (24 : Int32) (127 : Int32)).toInt32) ||| s0) else s0) else (s0 ||| (2139095040 : Int32)))
def okX2_narrow_12 (v0 : Int64) (s0 : Int32) : Prop := (((fX2_isInfinite v0) = (0) → (((fX2_isZero v0) = (0) → (okX2_significand v0) ∧ (okX2_exponent v0) ∧ (okX2_rounded (fX2_significand v0) (fX2_exponent v0) (0 : Int32) (24 : Int32) (127 : Int32)) ∧ True) ∧ (¬ (fX2_isZero v0) = (0) → True))) ∧ (¬ (fX2_isInfinite v0) = (0) → True))
def fX2_narrow_0 (v0 : Int64) : Int32 := (if v0 < (0 : Int64) then fX2_narrow_12 v0 (-2147483648 : Int32) else fX2_narrow_12 v0 (0 : Int32))
def okX2_narrow_0 (v0 : Int64) : Prop := ((v0 < (0 : Int64) → okX2_narrow_12 v0 (-2147483648 : Int32)) ∧ (¬ v0 < (0 : Int64) → okX2_narrow_12 v0 (0 : Int32)))
def fX2_narrow (v0 : Int64) : Int32 := fX2_narrow_0 v0
def okX2_narrow (v0 : Int64) : Prop := okX2_narrow_0 v0
def fX2_cut_19 (v2 : Int32) (v3 : Int64) : Int64 := (if v2 < (0) then (if v2 < (-52 : Int32) then (0 : Int64) else (jushr v3 (-v2))) else (jshl v3 v2))
def fX2_cut_14 (v0 : Int64) (v2 : Int32) : Int64 := fX2_cut_19 v2 (fX2_significand v0)
def okX2_cut_14 (v0 : Int64) (v2 : Int32) : Prop := (okX2_significand v0) ∧ True
def fX2_cut_0 (v0 : Int64) : Int64 := (if (fX2_isZero v0) = (0) then fX2_cut_14 v0 (fX2_exponent v0) else (0 : Int64))
def okX2_cut_0 (v0 : Int64) : Prop := (((fX2_isZero v0) = (0) → (okX2_exponent v0) ∧ okX2_cut_14 v0 (fX2_exponent v0)) ∧ (¬ (fX2_isZero v0) = (0) → True))
def fX2_cut (v0 : Int64) : Int64 := fX2_cut_0 v0
def okX2_cut (v0 : Int64) : Prop := okX2_cut_0 v0
def fX2_isGreat_0 (v0 : Int64) : Int32 := (if (fX2_isInfinite v0) = (0) then (if (fX2_isZero v0) = (0) then (if (11 : Int32) < (fX2_exponent v0) then (1 : Int32) else (0 : Int32)) else (0 : Int32)) else (1 : Int32))
def okX2_isGreat_0 (v0 : Int64) : Prop := (((fX2_isInfinite v0) = (0) → (((fX2_isZero v0) = (0) → (okX2_exponent v0) ∧ (((11 : Int32) < (fX2_exponent v0) → True) ∧ (¬ (11 : Int32) < (fX2_exponent v0) → True))) ∧ (¬ (fX2_isZero v0) = (0) → True))) ∧ (¬ (fX2_isInfinite v0) = (0) → True))
def fX2_isGreat (v0 : Int64) : Int32 := fX2_isGreat_0 v0
def okX2_isGreat (v0 : Int64) : Prop := okX2_isGreat_0 v0
def fX3_init_0 (fld : Int32) : Int32 := fld
def fX3_init  (fld : Int32) : Int32 := fX3_init_0 fld
def fX3_failed_0 (fld : Int32) : Int32 × Int32 := (fld, fld)
def fX3_failed  (fld : Int32) : Int32 × Int32 := fX3_failed_0 fld
def fX3_isNumber_0 (v0 : Int32) : Int32 := (if v0 < (1 : Int32) then (0 : Int32) else (if (7 : Int32) < v0 then (0 : Int32) else (1 : Int32)))
def fX3_isNumber (v0 : Int32) : Int32 := fX3_isNumber_0 v0
def fX3_hasBits_0 (v0 : Int32) (v1 : Int64) : Int32 := (if v0 = (0 : Int32) then (if v1 = (0 : Int64) then (1 : Int32) else (if v1 = (1 : Int64) then (1 : Int32) else (0 : Int32))) else (if v0 = (1 : Int32) then (if v1 < (-128 : Int64) then (0 : Int32) else (if (127 : Int64) < v1 then (0 : Int32) else (1 : Int32))) else (if v0 = (2 : Int32) then (if v1 < (-32768 : Int64) then (0 : Int32) else (if (32767 : Int64) < v1 then (0 : Int32) else (1 : Int32))) else (if v0 = (3 : Int32) then (if v1 < (0 : Int64) then (0 : Int32) else (if (65535 : Int64) < v1 then (0 : Int32) else (1 : Int32))) else (if v0 = (4 : Int32) then (if v1 < (-2147483648 : Int64) then (0 : Int32) else (if (2147483647 : Int64) < v1 then (0 : Int32) else (1 : Int32))) else (if v0 = (5 : Int32) then (1 : Int32) else (if v0 = (6 : Int32) then (if v1 < (0 : Int64) then (0 : Int32) else (if (4294967295 : Int64) < v1 then (0 : Int32) else (if (fX2_isNone (fX2_wide (v1.toInt32))) = (0) then (1 : Int32) else (0 : Int32)))) else (if v0 = (7 : Int32) then (if (fX2_isNone v1) = (0) then (1 : Int32) else (0 : Int32)) else (0 : Int32)))))))))
def okX3_hasBits_0 (v0 : Int32) (v1 : Int64) : Prop := ((v0 = (0 : Int32) → ((v1 = (0 : Int64) → True) ∧ (¬ v1 = (0 : Int64) → ((v1 = (1 : Int64) → True) ∧ (¬ v1 = (1 : Int64) → True))))) ∧ (¬ v0 = (0 : Int32) → ((v0 = (1 : Int32) → ((v1 < (-128 : Int64) → True) ∧ (¬ v1 < (-128 : Int64) → (((127 : Int64) < v1 → True) ∧ (¬ (127 : Int64) < v1 → True))))) ∧ (¬ v0 = (1 : Int32) → ((v0 = (2 : Int32) → ((v1 < (-32768 : Int64) → True) ∧ (¬ v1 < (-32768 : Int64) → (((32767 : Int64) < v1 → True) ∧ (¬ (32767 : Int64) < v1 → True))))) ∧ (¬ v0 = (2 : Int32) → ((v0 = (3 : Int32) → ((v1 < (0 : Int64) → True) ∧ (¬ v1 < (0 : Int64) → (((65535 : Int64) < v1 → True) ∧ (¬ (65535 : Int64) < v1 → True))))) ∧ (¬ v0 = (3 : Int32) → ((v0 = (4 : Int32) → ((v1 < (-2147483648 : Int64) → True) ∧ (¬ v1 < (-2147483648 : Int64) → (((2147483647 : Int64) < v1 → True) ∧ (¬ (2147483647 : Int64) < v1 → True))))) ∧ (¬ v0 = (4 : Int32) → ((v0 = (5 : Int32) → True) ∧ (¬ v0 = (5 : Int32) → ((v0 = (6 : Int32) → ((v1 < (0 : Int64) → True) ∧ (¬ v1 < (0 : Int64) → (((4294967295 : Int64) < v1 → True) ∧ (¬ (4294967295 : Int64) < v1 → (okX2_wide (v1.toInt32)) ∧ (((fX2_isNone (fX2_wide (v1.toInt32))) = (0) → True) ∧ (¬ (fX2_isNone (fX2_wide (v1.toInt32))) = (0) → True))))))) ∧ (¬ v0 = (6 : Int32) → ((v0 = (7 : Int32) → (((fX2_isNone v1) = (0) → True) ∧ (¬ (fX2_isNone v1) = (0) → True))) ∧ (¬ v0 = (7 : Int32) → True))))))))))))))))
def fX3_hasBits (v0 : Int32) (v1 : Int64) : Int32 := fX3_hasBits_0 v0 v1
def okX3_hasBits (v0 : Int32) (v1 : Int64) : Prop := okX3_hasBits_0 v0 v1
def fX3_isWider_62 (v1 : Int32) : Int32 := (if v1 < (4 : Int32) then (0 : Int32) else (if (7 : Int32) < v1 then (0 : Int32) else (1 : Int32)))
def fX3_isWider_0 (v0 : Int32) (v1 : Int32) : Int32 := (if v0 = (1 : Int32) then (if v1 = (2 : Int32) then (1 : Int32) else (if v1 < (4 : Int32) then (0 : Int32) else (if (7 : Int32) < v1 then (0 : Int32) else (1 : Int32)))) else (if v0 = (2 : Int32) then fX3_isWider_62 v1 else (if v0 = (3 : Int32) then fX3_isWider_62 v1 else (if v0 = (4 : Int32) then (if v1 < (5 : Int32) then (0 : Int32) else (if (7 : Int32) < v1 then (0 : Int32) else (1 : Int32))) else (if v0 = (5 : Int32) then (if v1 = (6 : Int32) then (1 : Int32) else (if v1 = (7 : Int32) then (1 : Int32) else (0 : Int32))) else (if v0 = (6 : Int32) then (if v1 = (7 : Int32) then (1 : Int32) else (0 : Int32)) else (0 : Int32)))))))
def fX3_isWider (v0 : Int32) (v1 : Int32) : Int32 := fX3_isWider_0 v0 v1
def fX3_widened_0 (v0 : Int64) (v2 : Int32) (v3 : Int32) : Int64 := (if v2 = v3 then v0 else (if v2 < (1 : Int32) then v0 else (if (7 : Int32) < v2 then v0 else (if v3 = (7 : Int32) then (if v2 = (6 : Int32) then (fX2_wide (v0.toInt32)) else (fX2_of v0 (0 : Int32))) else (if v3 = (6 : Int32) then (((fX2_narrow (fX2_floatOf v0 (0 : Int32))).toInt64) &&& (4294967295 : Int64)) else v0)))))
def okX3_widened_0 (v0 : Int64) (v2 : Int32) (v3 : Int32) : Prop := ((v2 = v3 → True) ∧ (¬ v2 = v3 → ((v2 < (1 : Int32) → True) ∧ (¬ v2 < (1 : Int32) → (((7 : Int32) < v2 → True) ∧ (¬ (7 : Int32) < v2 → ((v3 = (7 : Int32) → ((v2 = (6 : Int32) → (okX2_wide (v0.toInt32)) ∧ True) ∧ (¬ v2 = (6 : Int32) → (okX2_of v0 (0 : Int32)) ∧ True))) ∧ (¬ v3 = (7 : Int32) → ((v3 = (6 : Int32) → (okX2_floatOf v0 (0 : Int32)) ∧ (okX2_narrow (fX2_floatOf v0 (0 : Int32))) ∧ True) ∧ (¬ v3 = (6 : Int32) → True))))))))))
def fX3_widened (v0 : Int64) (v2 : Int32) (v3 : Int32) : Int64 := fX3_widened_0 v0 v2 v3
def okX3_widened (v0 : Int64) (v2 : Int32) (v3 : Int32) : Prop := okX3_widened_0 v0 v2 v3
def fX3_cut_72 (v3 : Int64) (v5 : Int32) (v7 : Int64) (s0 : Int32) : Int64 := (if s0 = (0) then (if v5 = (0) then v7 else (-v7)) else (if v5 = (0) then v3 else ((-v3) - (1 : Int64))))
def fX3_cut_67 (v3 : Int64) (v5 : Int32) (v7 : Int64) : Int64 := fX3_cut_72 v3 v5 v7 (1 : Int32)
def fX3_cut_46 (v3 : Int64) (v5 : Int32) (v6 : Int32) (s0 : Int64) : Int64 := (if v6 = (0) then (if s0 < (0 : Int64) then fX3_cut_67 v3 v5 s0 else (if v3 < s0 then fX3_cut_67 v3 v5 s0 else fX3_cut_72 v3 v5 s0 (0 : Int32))) else fX3_cut_67 v3 v5 s0)
def fX3_cut_33 (v0 : Int64) (v3 : Int64) (v5 : Int32) (v6 : Int32) : Int64 := (if v6 = (0) then fX3_cut_46 v3 v5 v6 (fX2_cut v0) else fX3_cut_46 v3 v5 v6 (0 : Int64))
def okX3_cut_33 (v0 : Int64) (v3 : Int64) (v5 : Int32) (v6 : Int32) : Prop := ((v6 = (0) → (okX2_cut v0) ∧ True) ∧ (¬ v6 = (0) → True))
def fX3_cut_25 (v0 : Int64) (v3 : Int64) (s0 : Int32) : Int64 := fX3_cut_33 v0 v3 s0 (fX2_isGreat v0)
def okX3_cut_25 (v0 : Int64) (v3 : Int64) (s0 : Int32) : Prop := (okX2_isGreat v0) ∧ okX3_cut_33 v0 v3 s0 (fX2_isGreat v0)
def fX3_cut_13 (v0 : Int64) (s0 : Int64) : Int64 := (if v0 < (0 : Int64) then fX3_cut_25 v0 s0 (1 : Int32) else fX3_cut_25 v0 s0 (0 : Int32))
def okX3_cut_13 (v0 : Int64) (s0 : Int64) : Prop := ((v0 < (0 : Int64) → okX3_cut_25 v0 s0 (1 : Int32)) ∧ (¬ v0 < (0 : Int64) → okX3_cut_25 v0 s0 (0 : Int32)))
def fX3_cut_0 (v0 : Int64) (v2 : Int32) : Int64 := (if v2 = (0) then fX3_cut_13 v0 (2147483647 : Int64) else fX3_cut_13 v0 (9223372036854775807 : Int64))
def okX3_cut_0 (v0 : Int64) (v2 : Int32) : Prop := ((v2 = (0) → okX3_cut_13 v0 (2147483647 : Int64)) ∧ (¬ v2 = (0) → okX3_cut_13 v0 (9223372036854775807 : Int64)))
def fX3_cut (v0 : Int64) (v2 : Int32) : Int64 := fX3_cut_0 v0 v2
def okX3_cut (v0 : Int64) (v2 : Int32) : Prop := okX3_cut_0 v0 v2
def fX3_casted_25 (v0 : Int64) (v2 : Int32) (v3 : Int32) : Int64 := (fX3_widened v0 v2 v3)
def okX3_casted_25 (v0 : Int64) (v2 : Int32) (v3 : Int32) : Prop := (okX3_widened v0 v2 v3) ∧ True
def fX3_casted_93 (v3 : Int32) (v4 : Int64) : Int64 := (if v3 = (1 : Int32) then (jbyte (v4.toInt32)).toInt64 else (if v3 = (2 : Int32) then (jshort (v4.toInt32)).toInt64 else (if v3 = (3 : Int32) then (jchar (v4.toInt32)).toInt64 else (if v3 = (4 : Int32) then (v4.toInt32).toInt64 else v4))))
def fX3_casted_88 (v3 : Int32) (s0 : Int64) (s1 : Int32) : Int64 := fX3_casted_93 v3 (fX3_cut s0 s1)
def okX3_casted_88 (v3 : Int32) (s0 : Int64) (s1 : Int32) : Prop := (okX3_cut s0 s1) ∧ True
def fX3_casted_78 (v3 : Int32) (s0 : Int64) : Int64 := (if v3 = (5 : Int32) then fX3_casted_88 v3 s0 (1 : Int32) else fX3_casted_88 v3 s0 (0 : Int32))
def okX3_casted_78 (v3 : Int32) (s0 : Int64) : Prop := ((v3 = (5 : Int32) → okX3_casted_88 v3 s0 (1 : Int32)) ∧ (¬ v3 = (5 : Int32) → okX3_casted_88 v3 s0 (0 : Int32)))
def fX3_casted_63 (v0 : Int64) (v2 : Int32) (v3 : Int32) : Int64 := (if v2 = (6 : Int32) then fX3_casted_78 v3 (fX2_wide (v0.toInt32)) else fX3_casted_78 v3 v0)
def okX3_casted_63 (v0 : Int64) (v2 : Int32) (v3 : Int32) : Prop := ((v2 = (6 : Int32) → (okX2_wide (v0.toInt32)) ∧ okX3_casted_78 v3 (fX2_wide (v0.toInt32))) ∧ (¬ v2 = (6 : Int32) → okX3_casted_78 v3 v0))
def fX3_casted_32 (v0 : Int64) (v2 : Int32) (v3 : Int32) : Int64 := (if v3 = (6 : Int32) then (((fX2_narrow v0).toInt64) &&& (4294967295 : Int64)) else (if v2 = (6 : Int32) then fX3_casted_63 v0 v2 v3 else (if v2 = (7 : Int32) then fX3_casted_63 v0 v2 v3 else fX3_casted_93 v3 v0)))
def okX3_casted_32 (v0 : Int64) (v2 : Int32) (v3 : Int32) : Prop := ((v3 = (6 : Int32) → (okX2_narrow v0) ∧ True) ∧ (¬ v3 = (6 : Int32) → ((v2 = (6 : Int32) → okX3_casted_63 v0 v2 v3) ∧ (¬ v2 = (6 : Int32) → ((v2 = (7 : Int32) → okX3_casted_63 v0 v2 v3) ∧ (¬ v2 = (7 : Int32) → True))))))
def fX3_casted_0 (v0 : Int64) (v2 : Int32) (v3 : Int32) : Int64 := (if v2 = v3 then v0 else (if v3 = (7 : Int32) then fX3_casted_25 v0 v2 v3 else (if v3 = (6 : Int32) then (if v2 < (6 : Int32) then fX3_casted_25 v0 v2 v3 else fX3_casted_32 v0 v2 v3) else fX3_casted_32 v0 v2 v3)))
def okX3_casted_0 (v0 : Int64) (v2 : Int32) (v3 : Int32) : Prop := ((v2 = v3 → True) ∧ (¬ v2 = v3 → ((v3 = (7 : Int32) → okX3_casted_25 v0 v2 v3) ∧ (¬ v3 = (7 : Int32) → ((v3 = (6 : Int32) → ((v2 < (6 : Int32) → okX3_casted_25 v0 v2 v3) ∧ (¬ v2 < (6 : Int32) → okX3_casted_32 v0 v2 v3))) ∧ (¬ v3 = (6 : Int32) → okX3_casted_32 v0 v2 v3))))))
def fX3_casted (v0 : Int64) (v2 : Int32) (v3 : Int32) : Int64 := fX3_casted_0 v0 v2 v3
def okX3_casted (v0 : Int64) (v2 : Int32) (v3 : Int32) : Prop := okX3_casted_0 v0 v2 v3
def fX3_rest_89 (v9 : Int32) (v10 : Int64) (v12 : Int64) : Int64 := (if v12 = (0 : Int64) then v10 else (v10 ||| (fX2_made (0 : Int32) v12 v9 (0 : Int32))))
def okX3_rest_89 (v9 : Int32) (v10 : Int64) (v12 : Int64) : Prop := ((v12 = (0 : Int64) → True) ∧ (¬ v12 = (0 : Int64) → (okX2_made (0 : Int32) v12 v9 (0 : Int32)) ∧ True))
def fX3_rest_67 : Nat → Int64 → Int32 → Int64 → Int64 → Int32 → Int64
  | 0, _, _, _, _, _ => 0
  | fuel + 1, v6, v9, v10, v12, v14 => (if v9 < v14 then fX3_rest_67 fuel v6 v9 v10 (jrem (jshl v12 (1 : Int32)) v6) (v14 + (-1 : Int32)) else fX3_rest_89 v9 v10 v12)
def okX3_rest_67 : Nat → Int64 → Int32 → Int64 → Int64 → Int32 → Prop
  | 0, _, _, _, _, _ => False
  | fuel + 1, v6, v9, v10, v12, v14 => ((v9 < v14 → ¬ v6 = 0 ∧ okX3_rest_67 fuel v6 v9 v10 (jrem (jshl v12 (1 : Int32)) v6) (v14 + (-1 : Int32))) ∧ (¬ v9 < v14 → okX3_rest_89 v9 v10 v12))
def fX3_rest_63 (v6 : Int64) (v8 : Int32) (v9 : Int32) (v10 : Int64) (v12 : Int64) : Int64 := fX3_rest_67 ((v8.toInt - v9.toInt).toNat + 1) v6 v9 v10 v12 v8
def okX3_rest_63 (v6 : Int64) (v8 : Int32) (v9 : Int32) (v10 : Int64) (v12 : Int64) : Prop := okX3_rest_67 ((v8.toInt - v9.toInt).toNat + 1) v6 v9 v10 v12 v8
def fX3_rest_47 (v0 : Int64) (v4 : Int64) (v6 : Int64) (v8 : Int32) (v9 : Int32) (v10 : Int64) : Int64 := (if v8 < v9 then v0 else fX3_rest_63 v6 v8 v9 v10 (jrem v4 v6))
def okX3_rest_47 (v0 : Int64) (v4 : Int64) (v6 : Int64) (v8 : Int32) (v9 : Int32) (v10 : Int64) : Prop := ((v8 < v9 → True) ∧ (¬ v8 < v9 → ¬ v6 = 0 ∧ okX3_rest_63 v6 v8 v9 v10 (jrem v4 v6)))
def fX3_rest_40 (v0 : Int64) (v4 : Int64) (v6 : Int64) (v8 : Int32) (v9 : Int32) : Int64 := fX3_rest_47 v0 v4 v6 v8 v9 (v0 &&& (-9223372036854775808 : Int64))
def okX3_rest_40 (v0 : Int64) (v4 : Int64) (v6 : Int64) (v8 : Int32) (v9 : Int32) : Prop := okX3_rest_47 v0 v4 v6 v8 v9 (v0 &&& (-9223372036854775808 : Int64))
def fX3_rest_34 (v0 : Int64) (v2 : Int64) (v4 : Int64) (v6 : Int64) (v8 : Int32) : Int64 := fX3_rest_40 v0 v4 v6 v8 (fX2_exponent v2)
def okX3_rest_34 (v0 : Int64) (v2 : Int64) (v4 : Int64) (v6 : Int64) (v8 : Int32) : Prop := (okX2_exponent v2) ∧ okX3_rest_40 v0 v4 v6 v8 (fX2_exponent v2)
def fX3_rest_28 (v0 : Int64) (v2 : Int64) (v4 : Int64) (v6 : Int64) : Int64 := fX3_rest_34 v0 v2 v4 v6 (fX2_exponent v0)
def okX3_rest_28 (v0 : Int64) (v2 : Int64) (v4 : Int64) (v6 : Int64) : Prop := (okX2_exponent v0) ∧ okX3_rest_34 v0 v2 v4 v6 (fX2_exponent v0)
def fX3_rest_22 (v0 : Int64) (v2 : Int64) (v4 : Int64) : Int64 := fX3_rest_28 v0 v2 v4 (fX2_significand v2)
def okX3_rest_22 (v0 : Int64) (v2 : Int64) (v4 : Int64) : Prop := (okX2_significand v2) ∧ okX3_rest_28 v0 v2 v4 (fX2_significand v2)
def fX3_rest_0 (v0 : Int64) (v2 : Int64) : Int64 := (if (fX2_isInfinite v2) = (0) then (if (fX2_isZero v0) = (0) then fX3_rest_22 v0 v2 (fX2_significand v0) else v0) else v0)
def okX3_rest_0 (v0 : Int64) (v2 : Int64) : Prop := (((fX2_isInfinite v2) = (0) → (((fX2_isZero v0) = (0) → (okX2_significand v0) ∧ okX3_rest_22 v0 v2 (fX2_significand v0)) ∧ (¬ (fX2_isZero v0) = (0) → True))) ∧ (¬ (fX2_isInfinite v2) = (0) → True))
def fX3_rest (v0 : Int64) (v2 : Int64) : Int64 := fX3_rest_0 v0 v2
def okX3_rest (v0 : Int64) (v2 : Int64) : Prop := okX3_rest_0 v0 v2
def fX3_has_0 (v1 : Int32) (v2 : Int64) (fld : Int32) : Int32 × Int32 := ((fX3_hasBits v1 v2), fld)
def okX3_has_0 (v1 : Int32) (v2 : Int64) (fld : Int32) : Prop := (okX3_hasBits v1 v2) ∧ True
def fX3_has (v1 : Int32) (v2 : Int64) (fld : Int32) : Int32 × Int32 := fX3_has_0 v1 v2 fld
def okX3_has (v1 : Int32) (v2 : Int64) (fld : Int32) : Prop := okX3_has_0 v1 v2 fld
def fX3_widens_0 (v1 : Int32) (v2 : Int32) (fld : Int32) : Int32 × Int32 := (if v1 < (0) then ((0 : Int32), fld) else (if (7 : Int32) < v1 then ((0 : Int32), fld) else (if v1 = v2 then ((1 : Int32), fld) else (if v2 < (0) then ((0 : Int32), fld) else (if (7 : Int32) < v2 then ((0 : Int32), fld) else (if (fX3_isWider v1 v2) = (0) then ((0 : Int32), fld) else ((1 : Int32), fld)))))))
def fX3_widens (v1 : Int32) (v2 : Int32) (fld : Int32) : Int32 × Int32 := fX3_widens_0 v1 v2 fld
def fX3_cast_45 (v1 : Int32) (v2 : Int32) (v3 : Int64) (v5 : Int32) (s1 : Int32) (fld : Int32) : Int64 × Int32 := (if v5 = (0) then ((0 : Int64), s1) else ((fX3_casted v3 v1 v2), s1))
def okX3_cast_45 (v1 : Int32) (v2 : Int32) (v3 : Int64) (v5 : Int32) (s1 : Int32) (fld : Int32) : Prop := ((v5 = (0) → True) ∧ (¬ v5 = (0) → (okX3_casted v3 v1 v2) ∧ True))
def fX3_cast_32 (v1 : Int32) (v2 : Int32) (v3 : Int64) (s0 : Int32) (fld : Int32) : Int64 × Int32 := (if s0 = (0) then fX3_cast_45 v1 v2 v3 s0 (1 : Int32) fld else fX3_cast_45 v1 v2 v3 s0 (0 : Int32) fld)
def okX3_cast_32 (v1 : Int32) (v2 : Int32) (v3 : Int64) (s0 : Int32) (fld : Int32) : Prop := ((s0 = (0) → okX3_cast_45 v1 v2 v3 s0 (1 : Int32) fld) ∧ (¬ s0 = (0) → okX3_cast_45 v1 v2 v3 s0 (0 : Int32) fld))
def fX3_cast_31 (v1 : Int32) (v2 : Int32) (v3 : Int64) (fld : Int32) : Int64 × Int32 := fX3_cast_32 v1 v2 v3 (0 : Int32) fld
def okX3_cast_31 (v1 : Int32) (v2 : Int32) (v3 : Int64) (fld : Int32) : Prop := okX3_cast_32 v1 v2 v3 (0 : Int32) fld
def fX3_cast_19 (v1 : Int32) (v2 : Int32) (v3 : Int64) (fld : Int32) : Int64 × Int32 := (if (fX3_hasBits v1 v3) = (0) then fX3_cast_31 v1 v2 v3 fld else fX3_cast_32 v1 v2 v3 (1 : Int32) fld)
def okX3_cast_19 (v1 : Int32) (v2 : Int32) (v3 : Int64) (fld : Int32) : Prop := (okX3_hasBits v1 v3) ∧ (((fX3_hasBits v1 v3) = (0) → okX3_cast_31 v1 v2 v3 fld) ∧ (¬ (fX3_hasBits v1 v3) = (0) → okX3_cast_32 v1 v2 v3 (1 : Int32) fld))
def fX3_cast_0 (v1 : Int32) (v2 : Int32) (v3 : Int64) (fld : Int32) : Int64 × Int32 := (if v1 = v2 then fX3_cast_19 v1 v2 v3 fld else (if (fX3_isNumber v1) = (0) then fX3_cast_31 v1 v2 v3 fld else (if (fX3_isNumber v2) = (0) then fX3_cast_31 v1 v2 v3 fld else fX3_cast_19 v1 v2 v3 fld)))
def okX3_cast_0 (v1 : Int32) (v2 : Int32) (v3 : Int64) (fld : Int32) : Prop := ((v1 = v2 → okX3_cast_19 v1 v2 v3 fld) ∧ (¬ v1 = v2 → (((fX3_isNumber v1) = (0) → okX3_cast_31 v1 v2 v3 fld) ∧ (¬ (fX3_isNumber v1) = (0) → (((fX3_isNumber v2) = (0) → okX3_cast_31 v1 v2 v3 fld) ∧ (¬ (fX3_isNumber v2) = (0) → okX3_cast_19 v1 v2 v3 fld))))))
def fX3_cast (v1 : Int32) (v2 : Int32) (v3 : Int64) (fld : Int32) : Int64 × Int32 := fX3_cast_0 v1 v2 v3 fld
def okX3_cast (v1 : Int32) (v2 : Int32) (v3 : Int64) (fld : Int32) : Prop := okX3_cast_0 v1 v2 v3 fld
def fX3_areNumbers_0 (v1 : Int32) (v2 : Int64) (v4 : Int32) (v5 : Int64) (fld : Int32) : Int32 × Int32 := (if (fX3_isNumber v1) = (0) then ((0 : Int32), fld) else (if (fX3_isNumber v4) = (0) then ((0 : Int32), fld) else (if (fX3_hasBits v1 v2) = (0) then ((0 : Int32), fld) else (if (fX3_hasBits v4 v5) = (0) then ((0 : Int32), fld) else ((1 : Int32), fld)))))
def okX3_areNumbers_0 (v1 : Int32) (v2 : Int64) (v4 : Int32) (v5 : Int64) (fld : Int32) : Prop := (((fX3_isNumber v1) = (0) → True) ∧ (¬ (fX3_isNumber v1) = (0) → (((fX3_isNumber v4) = (0) → True) ∧ (¬ (fX3_isNumber v4) = (0) → (okX3_hasBits v1 v2) ∧ (((fX3_hasBits v1 v2) = (0) → True) ∧ (¬ (fX3_hasBits v1 v2) = (0) → (okX3_hasBits v4 v5) ∧ (((fX3_hasBits v4 v5) = (0) → True) ∧ (¬ (fX3_hasBits v4 v5) = (0) → True))))))))
def fX3_areNumbers (v1 : Int32) (v2 : Int64) (v4 : Int32) (v5 : Int64) (fld : Int32) : Int32 × Int32 := fX3_areNumbers_0 v1 v2 v4 v5 fld
def okX3_areNumbers (v1 : Int32) (v2 : Int64) (v4 : Int32) (v5 : Int64) (fld : Int32) : Prop := okX3_areNumbers_0 v1 v2 v4 v5 fld
def fX3_whole_109 (v2 : Int32) (v7 : Int64) (fld : Int32) : Int64 × Int32 := (if v2 = (4 : Int32) then ((v7.toInt32).toInt64, fld) else (v7, fld))
def fX3_whole_31 (v2 : Int32) (v7 : Int64) (fld : Int32) : Int64 × Int32 := fX3_whole_109 v2 v7 fld
def fX3_whole_45 (v2 : Int32) (v7 : Int64) (fld : Int32) : Int64 × Int32 := fX3_whole_109 v2 v7 fld
def fX3_whole_59 (v2 : Int32) (v7 : Int64) (fld : Int32) : Int64 × Int32 := fX3_whole_109 v2 v7 fld
def fX3_whole_85 (v2 : Int32) (s0 : Int64) (fld : Int32) : Int64 × Int32 := fX3_whole_109 v2 s0 fld
def fX3_whole_107 (v2 : Int32) (s0 : Int64) (fld : Int32) : Int64 × Int32 := fX3_whole_109 v2 s0 fld
def fX3_whole_20 (v1 : Int32) (v2 : Int32) (v3 : Int64) (v5 : Int64) (fld : Int32) : Int64 × Int32 := (if v1 = (1 : Int32) then fX3_whole_31 v2 (v3 + v5) fld else (if v1 = (2 : Int32) then fX3_whole_45 v2 (v3 - v5) fld else (if v1 = (3 : Int32) then fX3_whole_59 v2 (v3 * v5) fld else (if v1 = (4 : Int32) then (if v5 = (-1 : Int64) then fX3_whole_85 v2 (-v3) fld else fX3_whole_85 v2 (v3 / v5) fld) else (if v5 = (-1 : Int64) then fX3_whole_107 v2 (0 : Int64) fld else fX3_whole_107 v2 (jrem v3 v5) fld)))))
def okX3_whole_20 (v1 : Int32) (v2 : Int32) (v3 : Int64) (v5 : Int64) (fld : Int32) : Prop := ((v1 = (1 : Int32) → True) ∧ (¬ v1 = (1 : Int32) → ((v1 = (2 : Int32) → True) ∧ (¬ v1 = (2 : Int32) → ((v1 = (3 : Int32) → True) ∧ (¬ v1 = (3 : Int32) → ((v1 = (4 : Int32) → ((v5 = (-1 : Int64) → True) ∧ (¬ v5 = (-1 : Int64) → ¬ v5 = 0 ∧ True))) ∧ (¬ v1 = (4 : Int32) → ((v5 = (-1 : Int64) → True) ∧ (¬ v5 = (-1 : Int64) → ¬ v5 = 0 ∧ True))))))))))
def fX3_whole_0 (v1 : Int32) (v2 : Int32) (v3 : Int64) (v5 : Int64) (fld : Int32) : Int64 × Int32 := (if (3 : Int32) < v1 then (if v5 = (0 : Int64) then ((0 : Int64), (8 : Int32)) else fX3_whole_20 v1 v2 v3 v5 fld) else fX3_whole_20 v1 v2 v3 v5 fld)
def okX3_whole_0 (v1 : Int32) (v2 : Int32) (v3 : Int64) (v5 : Int64) (fld : Int32) : Prop := (((3 : Int32) < v1 → ((v5 = (0 : Int64) → True) ∧ (¬ v5 = (0 : Int64) → okX3_whole_20 v1 v2 v3 v5 fld))) ∧ (¬ (3 : Int32) < v1 → okX3_whole_20 v1 v2 v3 v5 fld))
def fX3_whole (v1 : Int32) (v2 : Int32) (v3 : Int64) (v5 : Int64) (fld : Int32) : Int64 × Int32 := fX3_whole_0 v1 v2 v3 v5 fld
def okX3_whole (v1 : Int32) (v2 : Int32) (v3 : Int64) (v5 : Int64) (fld : Int32) : Prop := okX3_whole_0 v1 v2 v3 v5 fld
def fX3_floating_162 (v1 : Int32) (v2 : Int64) (v4 : Int64) (v8 : Int64) (v10 : Int32) (fld : Int32) : Int64 × Int32 := (if v10 = (0) then (if v1 < (3 : Int32) then ((fX2_add v2 v8), fld) else (if v1 = (3 : Int32) then ((fX2_multiply v2 v4), fld) else (if v1 = (4 : Int32) then ((fX2_divide v2 v4), fld) else ((fX3_rest v2 v4), fld)))) else ((0 : Int64), (8 : Int32)))
def okX3_floating_162 (v1 : Int32) (v2 : Int64) (v4 : Int64) (v8 : Int64) (v10 : Int32) (fld : Int32) : Prop := ((v10 = (0) → ((v1 < (3 : Int32) → (okX2_add v2 v8) ∧ True) ∧ (¬ v1 < (3 : Int32) → ((v1 = (3 : Int32) → (okX2_multiply v2 v4) ∧ True) ∧ (¬ v1 = (3 : Int32) → ((v1 = (4 : Int32) → (okX2_divide v2 v4) ∧ True) ∧ (¬ v1 = (4 : Int32) → (okX3_rest v2 v4) ∧ True))))))) ∧ (¬ v10 = (0) → True))
def fX3_floating_57 (v1 : Int32) (v2 : Int64) (v4 : Int64) (v8 : Int64) (s0 : Int32) (fld : Int32) : Int64 × Int32 := fX3_floating_162 v1 v2 v4 v8 s0 fld
def okX3_floating_57 (v1 : Int32) (v2 : Int64) (v4 : Int64) (v8 : Int64) (s0 : Int32) (fld : Int32) : Prop := okX3_floating_162 v1 v2 v4 v8 s0 fld
def fX3_floating_56 (v1 : Int32) (v2 : Int64) (v4 : Int64) (v8 : Int64) (fld : Int32) : Int64 × Int32 := fX3_floating_57 v1 v2 v4 v8 (0 : Int32) fld
def okX3_floating_56 (v1 : Int32) (v2 : Int64) (v4 : Int64) (v8 : Int64) (fld : Int32) : Prop := okX3_floating_57 v1 v2 v4 v8 (0 : Int32) fld
def fX3_floating_97 (v1 : Int32) (v2 : Int64) (v4 : Int64) (v8 : Int64) (s0 : Int32) (fld : Int32) : Int64 × Int32 := fX3_floating_162 v1 v2 v4 v8 s0 fld
def okX3_floating_97 (v1 : Int32) (v2 : Int64) (v4 : Int64) (v8 : Int64) (s0 : Int32) (fld : Int32) : Prop := okX3_floating_162 v1 v2 v4 v8 s0 fld
def fX3_floating_92 (v1 : Int32) (v2 : Int64) (v4 : Int64) (v8 : Int64) (fld : Int32) : Int64 × Int32 := fX3_floating_97 v1 v2 v4 v8 (1 : Int32) fld
def okX3_floating_92 (v1 : Int32) (v2 : Int64) (v4 : Int64) (v8 : Int64) (fld : Int32) : Prop := okX3_floating_97 v1 v2 v4 v8 (1 : Int32) fld
def fX3_floating_96 (v1 : Int32) (v2 : Int64) (v4 : Int64) (v8 : Int64) (fld : Int32) : Int64 × Int32 := fX3_floating_97 v1 v2 v4 v8 (0 : Int32) fld
def okX3_floating_96 (v1 : Int32) (v2 : Int64) (v4 : Int64) (v8 : Int64) (fld : Int32) : Prop := okX3_floating_97 v1 v2 v4 v8 (0 : Int32) fld
def fX3_floating_80 (v1 : Int32) (v2 : Int64) (v4 : Int64) (v7 : Int32) (v8 : Int64) (fld : Int32) : Int64 × Int32 := (if v7 = (0) then fX3_floating_96 v1 v2 v4 v8 fld else (if (fX2_isZero v2) = (0) then fX3_floating_96 v1 v2 v4 v8 fld else fX3_floating_92 v1 v2 v4 v8 fld))
def okX3_floating_80 (v1 : Int32) (v2 : Int64) (v4 : Int64) (v7 : Int32) (v8 : Int64) (fld : Int32) : Prop := ((v7 = (0) → okX3_floating_96 v1 v2 v4 v8 fld) ∧ (¬ v7 = (0) → (((fX2_isZero v2) = (0) → okX3_floating_96 v1 v2 v4 v8 fld) ∧ (¬ (fX2_isZero v2) = (0) → okX3_floating_92 v1 v2 v4 v8 fld))))
def fX3_floating_137 (v1 : Int32) (v2 : Int64) (v4 : Int64) (v8 : Int64) (s0 : Int32) (fld : Int32) : Int64 × Int32 := fX3_floating_162 v1 v2 v4 v8 s0 fld
def okX3_floating_137 (v1 : Int32) (v2 : Int64) (v4 : Int64) (v8 : Int64) (s0 : Int32) (fld : Int32) : Prop := okX3_floating_162 v1 v2 v4 v8 s0 fld
def fX3_floating_132 (v1 : Int32) (v2 : Int64) (v4 : Int64) (v8 : Int64) (fld : Int32) : Int64 × Int32 := fX3_floating_137 v1 v2 v4 v8 (1 : Int32) fld
def okX3_floating_132 (v1 : Int32) (v2 : Int64) (v4 : Int64) (v8 : Int64) (fld : Int32) : Prop := okX3_floating_137 v1 v2 v4 v8 (1 : Int32) fld
def fX3_floating_136 (v1 : Int32) (v2 : Int64) (v4 : Int64) (v8 : Int64) (fld : Int32) : Int64 × Int32 := fX3_floating_137 v1 v2 v4 v8 (0 : Int32) fld
def okX3_floating_136 (v1 : Int32) (v2 : Int64) (v4 : Int64) (v8 : Int64) (fld : Int32) : Prop := okX3_floating_137 v1 v2 v4 v8 (0 : Int32) fld
def fX3_floating_117 (v1 : Int32) (v2 : Int64) (v4 : Int64) (v8 : Int64) (fld : Int32) : Int64 × Int32 := (if (fX2_isZero v2) = (0) then fX3_floating_136 v1 v2 v4 v8 fld else (if (fX2_isZero v4) = (0) then fX3_floating_136 v1 v2 v4 v8 fld else fX3_floating_132 v1 v2 v4 v8 fld))
def okX3_floating_117 (v1 : Int32) (v2 : Int64) (v4 : Int64) (v8 : Int64) (fld : Int32) : Prop := (((fX2_isZero v2) = (0) → okX3_floating_136 v1 v2 v4 v8 fld) ∧ (¬ (fX2_isZero v2) = (0) → (((fX2_isZero v4) = (0) → okX3_floating_136 v1 v2 v4 v8 fld) ∧ (¬ (fX2_isZero v4) = (0) → okX3_floating_132 v1 v2 v4 v8 fld))))
def fX3_floating_160 (v1 : Int32) (v2 : Int64) (v4 : Int64) (v8 : Int64) (s0 : Int32) (fld : Int32) : Int64 × Int32 := fX3_floating_162 v1 v2 v4 v8 s0 fld
def okX3_floating_160 (v1 : Int32) (v2 : Int64) (v4 : Int64) (v8 : Int64) (s0 : Int32) (fld : Int32) : Prop := okX3_floating_162 v1 v2 v4 v8 s0 fld
def fX3_floating_155 (v1 : Int32) (v2 : Int64) (v4 : Int64) (v8 : Int64) (fld : Int32) : Int64 × Int32 := fX3_floating_160 v1 v2 v4 v8 (1 : Int32) fld
def okX3_floating_155 (v1 : Int32) (v2 : Int64) (v4 : Int64) (v8 : Int64) (fld : Int32) : Prop := okX3_floating_160 v1 v2 v4 v8 (1 : Int32) fld
def fX3_floating_28 (v1 : Int32) (v2 : Int64) (v4 : Int64) (v6 : Int32) (v7 : Int32) (s0 : Int64) (fld : Int32) : Int64 × Int32 := (if v1 < (3 : Int32) then (if v6 = (0) then fX3_floating_56 v1 v2 v4 s0 fld else (if v7 = (0) then fX3_floating_56 v1 v2 v4 s0 fld else (if v2 = s0 then fX3_floating_56 v1 v2 v4 s0 fld else fX3_floating_57 v1 v2 v4 s0 (1 : Int32) fld))) else (if v1 = (3 : Int32) then (if v6 = (0) then fX3_floating_80 v1 v2 v4 v7 s0 fld else (if (fX2_isZero v4) = (0) then fX3_floating_80 v1 v2 v4 v7 s0 fld else fX3_floating_92 v1 v2 v4 s0 fld)) else (if v1 = (4 : Int32) then (if v6 = (0) then fX3_floating_117 v1 v2 v4 s0 fld else (if v7 = (0) then fX3_floating_117 v1 v2 v4 s0 fld else fX3_floating_132 v1 v2 v4 s0 fld)) else (if v6 = (0) then (if (fX2_isZero v4) = (0) then fX3_floating_160 v1 v2 v4 s0 (0 : Int32) fld else fX3_floating_155 v1 v2 v4 s0 fld) else fX3_floating_155 v1 v2 v4 s0 fld))))
def okX3_floating_28 (v1 : Int32) (v2 : Int64) (v4 : Int64) (v6 : Int32) (v7 : Int32) (s0 : Int64) (fld : Int32) : Prop := ((v1 < (3 : Int32) → ((v6 = (0) → okX3_floating_56 v1 v2 v4 s0 fld) ∧ (¬ v6 = (0) → ((v7 = (0) → okX3_floating_56 v1 v2 v4 s0 fld) ∧ (¬ v7 = (0) → ((v2 = s0 → okX3_floating_56 v1 v2 v4 s0 fld) ∧ (¬ v2 = s0 → okX3_floating_57 v1 v2 v4 s0 (1 : Int32) fld))))))) ∧ (¬ v1 < (3 : Int32) → ((v1 = (3 : Int32) → ((v6 = (0) → okX3_floating_80 v1 v2 v4 v7 s0 fld) ∧ (¬ v6 = (0) → (((fX2_isZero v4) = (0) → okX3_floating_80 v1 v2 v4 v7 s0 fld) ∧ (¬ (fX2_isZero v4) = (0) → okX3_floating_92 v1 v2 v4 s0 fld))))) ∧ (¬ v1 = (3 : Int32) → ((v1 = (4 : Int32) → ((v6 = (0) → okX3_floating_117 v1 v2 v4 s0 fld) ∧ (¬ v6 = (0) → ((v7 = (0) → okX3_floating_117 v1 v2 v4 s0 fld) ∧ (¬ v7 = (0) → okX3_floating_132 v1 v2 v4 s0 fld))))) ∧ (¬ v1 = (4 : Int32) → ((v6 = (0) → (((fX2_isZero v4) = (0) → okX3_floating_160 v1 v2 v4 s0 (0 : Int32) fld) ∧ (¬ (fX2_isZero v4) = (0) → okX3_floating_155 v1 v2 v4 s0 fld))) ∧ (¬ v6 = (0) → okX3_floating_155 v1 v2 v4 s0 fld))))))))
def fX3_floating_13 (v1 : Int32) (v2 : Int64) (v4 : Int64) (v6 : Int32) (v7 : Int32) (fld : Int32) : Int64 × Int32 := (if v1 = (2 : Int32) then fX3_floating_28 v1 v2 v4 v6 v7 (fX2_negative v4) fld else fX3_floating_28 v1 v2 v4 v6 v7 v4 fld)
def okX3_floating_13 (v1 : Int32) (v2 : Int64) (v4 : Int64) (v6 : Int32) (v7 : Int32) (fld : Int32) : Prop := ((v1 = (2 : Int32) → okX3_floating_28 v1 v2 v4 v6 v7 (fX2_negative v4) fld) ∧ (¬ v1 = (2 : Int32) → okX3_floating_28 v1 v2 v4 v6 v7 v4 fld))
def fX3_floating_6 (v1 : Int32) (v2 : Int64) (v4 : Int64) (v6 : Int32) (fld : Int32) : Int64 × Int32 := fX3_floating_13 v1 v2 v4 v6 (fX2_isInfinite v4) fld
def okX3_floating_6 (v1 : Int32) (v2 : Int64) (v4 : Int64) (v6 : Int32) (fld : Int32) : Prop := okX3_floating_13 v1 v2 v4 v6 (fX2_isInfinite v4) fld
def fX3_floating_0 (v1 : Int32) (v2 : Int64) (v4 : Int64) (fld : Int32) : Int64 × Int32 := fX3_floating_6 v1 v2 v4 (fX2_isInfinite v2) fld
def okX3_floating_0 (v1 : Int32) (v2 : Int64) (v4 : Int64) (fld : Int32) : Prop := okX3_floating_6 v1 v2 v4 (fX2_isInfinite v2) fld
def fX3_floating (v1 : Int32) (v2 : Int64) (v4 : Int64) (fld : Int32) : Int64 × Int32 := fX3_floating_0 v1 v2 v4 fld
def okX3_floating (v1 : Int32) (v2 : Int64) (v4 : Int64) (fld : Int32) : Prop := okX3_floating_0 v1 v2 v4 fld
def fX3_work_128 (v8 : Int32) (s0 : Int64) (fld : Int32) : Int64 × Int32 := (if (0) < fld then ((0 : Int64), fld) else (if v8 = (6 : Int32) then ((((fX2_narrow s0).toInt64) &&& (4294967295 : Int64)), fld) else (s0, fld)))
def okX3_work_128 (v8 : Int32) (s0 : Int64) (fld : Int32) : Prop := (((0) < fld → True) ∧ (¬ (0) < fld → ((v8 = (6 : Int32) → (okX2_narrow s0) ∧ True) ∧ (¬ v8 = (6 : Int32) → True))))
def fX3_work_73 (v1 : Int32) (v8 : Int32) (v9 : Int64) (v11 : Int64) (fld : Int32) : Int64 × Int32 := (if v8 < (6 : Int32) then ((fX3_whole v1 v8 v9 v11 fld).1, (fX3_whole v1 v8 v9 v11 fld).2) else (if v8 = (6 : Int32) then fX3_work_128 v8 ((fX3_floating v1 (fX2_wide (v9.toInt32)) (fX2_wide (v11.toInt32)) fld).1) ((fX3_floating v1 (fX2_wide (v9.toInt32)) (fX2_wide (v11.toInt32)) fld).2) else fX3_work_128 v8 ((fX3_floating v1 v9 v11 fld).1) ((fX3_floating v1 v9 v11 fld).2)))
def okX3_work_73 (v1 : Int32) (v8 : Int32) (v9 : Int64) (v11 : Int64) (fld : Int32) : Prop := ((v8 < (6 : Int32) → (okX3_whole v1 v8 v9 v11 fld) ∧ True) ∧ (¬ v8 < (6 : Int32) → ((v8 = (6 : Int32) → (okX2_wide (v9.toInt32)) ∧ (okX2_wide (v11.toInt32)) ∧ (okX3_floating v1 (fX2_wide (v9.toInt32)) (fX2_wide (v11.toInt32)) fld) ∧ okX3_work_128 v8 ((fX3_floating v1 (fX2_wide (v9.toInt32)) (fX2_wide (v11.toInt32)) fld).1) ((fX3_floating v1 (fX2_wide (v9.toInt32)) (fX2_wide (v11.toInt32)) fld).2)) ∧ (¬ v8 = (6 : Int32) → (okX3_floating v1 v9 v11 fld) ∧ okX3_work_128 v8 ((fX3_floating v1 v9 v11 fld).1) ((fX3_floating v1 v9 v11 fld).2)))))
def fX3_work_62 (v1 : Int32) (v5 : Int32) (v6 : Int64) (v8 : Int32) (v9 : Int64) (fld : Int32) : Int64 × Int32 := fX3_work_73 v1 v8 v9 (fX3_widened v6 v5 v8) fld
def okX3_work_62 (v1 : Int32) (v5 : Int32) (v6 : Int64) (v8 : Int32) (v9 : Int64) (fld : Int32) : Prop := (okX3_widened v6 v5 v8) ∧ okX3_work_73 v1 v8 v9 (fX3_widened v6 v5 v8) fld
def fX3_work_53 (v1 : Int32) (v2 : Int32) (v3 : Int64) (v5 : Int32) (v6 : Int64) (v8 : Int32) (fld : Int32) : Int64 × Int32 := fX3_work_62 v1 v5 v6 v8 (fX3_widened v3 v2 v8) fld
def okX3_work_53 (v1 : Int32) (v2 : Int32) (v3 : Int64) (v5 : Int32) (v6 : Int64) (v8 : Int32) (fld : Int32) : Prop := (okX3_widened v3 v2 v8) ∧ okX3_work_62 v1 v5 v6 v8 (fX3_widened v3 v2 v8) fld
def fX3_work_29 (v1 : Int32) (v2 : Int32) (v3 : Int64) (v5 : Int32) (v6 : Int64) (s1 : Int32) (fld : Int32) : Int64 × Int32 := (if (0) < s1 then ((0 : Int64), s1) else fX3_work_53 v1 v2 v3 v5 v6 (imax (4 : Int32) (imax v2 v5)) s1)
def okX3_work_29 (v1 : Int32) (v2 : Int32) (v3 : Int64) (v5 : Int32) (v6 : Int64) (s1 : Int32) (fld : Int32) : Prop := (((0) < s1 → True) ∧ (¬ (0) < s1 → okX3_work_53 v1 v2 v3 v5 v6 (imax (4 : Int32) (imax v2 v5)) s1))
def fX3_work_28 (v1 : Int32) (v2 : Int32) (v3 : Int64) (v5 : Int32) (v6 : Int64) (fld : Int32) : Int64 × Int32 := fX3_work_29 v1 v2 v3 v5 v6 (1 : Int32) fld
def okX3_work_28 (v1 : Int32) (v2 : Int32) (v3 : Int64) (v5 : Int32) (v6 : Int64) (fld : Int32) : Prop := okX3_work_29 v1 v2 v3 v5 v6 (1 : Int32) fld
def fX3_work_0 (v1 : Int32) (v2 : Int32) (v3 : Int64) (v5 : Int32) (v6 : Int64) (fld : Int32) : Int64 × Int32 := (if v1 < (1 : Int32) then fX3_work_28 v1 v2 v3 v5 v6 fld else (if (5 : Int32) < v1 then fX3_work_28 v1 v2 v3 v5 v6 fld else (if ((fX3_areNumbers v2 v3 v5 v6 fld).1) = (0) then fX3_work_28 v1 v2 v3 v5 v6 ((fX3_areNumbers v2 v3 v5 v6 fld).2) else fX3_work_29 v1 v2 v3 v5 v6 (0 : Int32) ((fX3_areNumbers v2 v3 v5 v6 fld).2))))
def okX3_work_0 (v1 : Int32) (v2 : Int32) (v3 : Int64) (v5 : Int32) (v6 : Int64) (fld : Int32) : Prop := ((v1 < (1 : Int32) → okX3_work_28 v1 v2 v3 v5 v6 fld) ∧ (¬ v1 < (1 : Int32) → (((5 : Int32) < v1 → okX3_work_28 v1 v2 v3 v5 v6 fld) ∧ (¬ (5 : Int32) < v1 → (okX3_areNumbers v2 v3 v5 v6 fld) ∧ ((((fX3_areNumbers v2 v3 v5 v6 fld).1) = (0) → okX3_work_28 v1 v2 v3 v5 v6 ((fX3_areNumbers v2 v3 v5 v6 fld).2)) ∧ (¬ ((fX3_areNumbers v2 v3 v5 v6 fld).1) = (0) → okX3_work_29 v1 v2 v3 v5 v6 (0 : Int32) ((fX3_areNumbers v2 v3 v5 v6 fld).2)))))))
def fX3_work (v1 : Int32) (v2 : Int32) (v3 : Int64) (v5 : Int32) (v6 : Int64) (fld : Int32) : Int64 × Int32 := fX3_work_0 v1 v2 v3 v5 v6 fld
def okX3_work (v1 : Int32) (v2 : Int32) (v3 : Int64) (v5 : Int32) (v6 : Int64) (fld : Int32) : Prop := okX3_work_0 v1 v2 v3 v5 v6 fld
def fX3_shift_106 (v1 : Int32) (v7 : Int32) (v8 : Int32) (fld : Int32) : Int64 × Int32 := (if v1 = (6 : Int32) then ((ishl v8 v7).toInt64, fld) else (if v1 = (7 : Int32) then ((ishr v8 v7).toInt64, fld) else ((iushr v8 v7).toInt64, fld)))
def fX3_shift_66 (v1 : Int32) (v2 : Int32) (v3 : Int64) (v7 : Int32) (fld : Int32) : Int64 × Int32 := (if v2 = (5 : Int32) then (if v1 = (6 : Int32) then ((jshl v3 v7), fld) else (if v1 = (7 : Int32) then ((jshr v3 v7), fld) else ((jushr v3 v7), fld))) else fX3_shift_106 v1 v7 (v3.toInt32) fld)
def fX3_shift_63 (v1 : Int32) (v2 : Int32) (v3 : Int64) (s0 : Int32) (s1 : Int32) (fld : Int32) : Int64 × Int32 := fX3_shift_66 v1 v2 v3 (s0 &&& s1) fld
def fX3_shift_36 (v1 : Int32) (v2 : Int32) (v3 : Int64) (v5 : Int64) (s1 : Int32) (fld : Int32) : Int64 × Int32 := (if (0) < s1 then ((0 : Int64), s1) else (if v2 = (5 : Int32) then fX3_shift_63 v1 v2 v3 (v5.toInt32) (63 : Int32) s1 else fX3_shift_63 v1 v2 v3 (v5.toInt32) (31 : Int32) s1))
def fX3_shift_35 (v1 : Int32) (v2 : Int32) (v3 : Int64) (v5 : Int64) (fld : Int32) : Int64 × Int32 := fX3_shift_36 v1 v2 v3 v5 (1 : Int32) fld
def fX3_shift_0 (v1 : Int32) (v2 : Int32) (v3 : Int64) (v5 : Int64) (fld : Int32) : Int64 × Int32 := (if v1 < (6 : Int32) then fX3_shift_35 v1 v2 v3 v5 fld else (if (8 : Int32) < v1 then fX3_shift_35 v1 v2 v3 v5 fld else (if v2 < (1 : Int32) then fX3_shift_35 v1 v2 v3 v5 fld else (if (5 : Int32) < v2 then fX3_shift_35 v1 v2 v3 v5 fld else (if (fX3_hasBits v2 v3) = (0) then fX3_shift_35 v1 v2 v3 v5 fld else fX3_shift_36 v1 v2 v3 v5 (0 : Int32) fld)))))
def okX3_shift_0 (v1 : Int32) (v2 : Int32) (v3 : Int64) (v5 : Int64) (fld : Int32) : Prop := ((v1 < (6 : Int32) → True) ∧ (¬ v1 < (6 : Int32) → (((8 : Int32) < v1 → True) ∧ (¬ (8 : Int32) < v1 → ((v2 < (1 : Int32) → True) ∧ (¬ v2 < (1 : Int32) → (((5 : Int32) < v2 → True) ∧ (¬ (5 : Int32) < v2 → (okX3_hasBits v2 v3) ∧ (((fX3_hasBits v2 v3) = (0) → True) ∧ (¬ (fX3_hasBits v2 v3) = (0) → True))))))))))
def fX3_shift (v1 : Int32) (v2 : Int32) (v3 : Int64) (v5 : Int64) (fld : Int32) : Int64 × Int32 := fX3_shift_0 v1 v2 v3 v5 fld
def okX3_shift (v1 : Int32) (v2 : Int32) (v3 : Int64) (v5 : Int64) (fld : Int32) : Prop := okX3_shift_0 v1 v2 v3 v5 fld
def fJ13_compare_74951_0 (v0 : Int64) (v2 : Int64) : Int32 := (if v0 < v2 then (-1 : Int32) else (if v0 = v2 then (0 : Int32) else (1 : Int32)))
def fJ13_compare_74951 (v0 : Int64) (v2 : Int64) : Int32 := fJ13_compare_74951_0 v0 v2
def fX3_compare_63 (v7 : Int32) (v8 : Int64) (v10 : Int64) (fld : Int32) : Int32 × Int32 := (if v7 < (6 : Int32) then ((fJ13_compare_74951 v8 v10), fld) else (if v7 = (6 : Int32) then ((fX2_compare (fX2_wide (v8.toInt32)) (fX2_wide (v10.toInt32))), fld) else ((fX2_compare v8 v10), fld)))
def okX3_compare_63 (v7 : Int32) (v8 : Int64) (v10 : Int64) (fld : Int32) : Prop := ((v7 < (6 : Int32) → True) ∧ (¬ v7 < (6 : Int32) → ((v7 = (6 : Int32) → (okX2_wide (v8.toInt32)) ∧ (okX2_wide (v10.toInt32)) ∧ True) ∧ (¬ v7 = (6 : Int32) → True))))
def fX3_compare_52 (v4 : Int32) (v5 : Int64) (v7 : Int32) (v8 : Int64) (fld : Int32) : Int32 × Int32 := fX3_compare_63 v7 v8 (fX3_widened v5 v4 v7) fld
def okX3_compare_52 (v4 : Int32) (v5 : Int64) (v7 : Int32) (v8 : Int64) (fld : Int32) : Prop := (okX3_widened v5 v4 v7) ∧ okX3_compare_63 v7 v8 (fX3_widened v5 v4 v7) fld
def fX3_compare_43 (v1 : Int32) (v2 : Int64) (v4 : Int32) (v5 : Int64) (v7 : Int32) (fld : Int32) : Int32 × Int32 := fX3_compare_52 v4 v5 v7 (fX3_widened v2 v1 v7) fld
def okX3_compare_43 (v1 : Int32) (v2 : Int64) (v4 : Int32) (v5 : Int64) (v7 : Int32) (fld : Int32) : Prop := (okX3_widened v2 v1 v7) ∧ okX3_compare_52 v4 v5 v7 (fX3_widened v2 v1 v7) fld
def fX3_compare_19 (v1 : Int32) (v2 : Int64) (v4 : Int32) (v5 : Int64) (s1 : Int32) (fld : Int32) : Int32 × Int32 := (if (0) < s1 then ((2 : Int32), s1) else fX3_compare_43 v1 v2 v4 v5 (imax (4 : Int32) (imax v1 v4)) s1)
def okX3_compare_19 (v1 : Int32) (v2 : Int64) (v4 : Int32) (v5 : Int64) (s1 : Int32) (fld : Int32) : Prop := (((0) < s1 → True) ∧ (¬ (0) < s1 → okX3_compare_43 v1 v2 v4 v5 (imax (4 : Int32) (imax v1 v4)) s1))
def fX3_compare_0 (v1 : Int32) (v2 : Int64) (v4 : Int32) (v5 : Int64) (fld : Int32) : Int32 × Int32 := (if ((fX3_areNumbers v1 v2 v4 v5 fld).1) = (0) then fX3_compare_19 v1 v2 v4 v5 (1 : Int32) ((fX3_areNumbers v1 v2 v4 v5 fld).2) else fX3_compare_19 v1 v2 v4 v5 (0 : Int32) ((fX3_areNumbers v1 v2 v4 v5 fld).2))
def okX3_compare_0 (v1 : Int32) (v2 : Int64) (v4 : Int32) (v5 : Int64) (fld : Int32) : Prop := (okX3_areNumbers v1 v2 v4 v5 fld) ∧ ((((fX3_areNumbers v1 v2 v4 v5 fld).1) = (0) → okX3_compare_19 v1 v2 v4 v5 (1 : Int32) ((fX3_areNumbers v1 v2 v4 v5 fld).2)) ∧ (¬ ((fX3_areNumbers v1 v2 v4 v5 fld).1) = (0) → okX3_compare_19 v1 v2 v4 v5 (0 : Int32) ((fX3_areNumbers v1 v2 v4 v5 fld).2)))
def fX3_compare (v1 : Int32) (v2 : Int64) (v4 : Int32) (v5 : Int64) (fld : Int32) : Int32 × Int32 := fX3_compare_0 v1 v2 v4 v5 fld
def okX3_compare (v1 : Int32) (v2 : Int64) (v4 : Int32) (v5 : Int64) (fld : Int32) : Prop := okX3_compare_0 v1 v2 v4 v5 fld
def fX3_ranked_23 (s0 : Int64) : Int64 := (if s0 < (0 : Int64) then (s0 ^^^ (9223372036854775807 : Int64)) else s0)
def fX3_ranked_0 (v0 : Int32) (v1 : Int64) : Int64 := (if v0 < (6 : Int32) then v1 else (if v0 = (6 : Int32) then fX3_ranked_23 (fX2_wide (v1.toInt32)) else fX3_ranked_23 v1))
def okX3_ranked_0 (v0 : Int32) (v1 : Int64) : Prop := ((v0 < (6 : Int32) → True) ∧ (¬ v0 < (6 : Int32) → ((v0 = (6 : Int32) → (okX2_wide (v1.toInt32)) ∧ True) ∧ (¬ v0 = (6 : Int32) → True))))
def fX3_ranked (v0 : Int32) (v1 : Int64) : Int64 := fX3_ranked_0 v0 v1
def okX3_ranked (v0 : Int32) (v1 : Int64) : Prop := okX3_ranked_0 v0 v1
def fX3_order_33 (v1 : Int32) (v2 : Int64) (v4 : Int64) (s1 : Int32) (fld : Int32) : Int32 × Int32 := (if (0) < s1 then ((2 : Int32), s1) else ((fJ13_compare_74951 (fX3_ranked v1 v2) (fX3_ranked v1 v4)), s1))
def okX3_order_33 (v1 : Int32) (v2 : Int64) (v4 : Int64) (s1 : Int32) (fld : Int32) : Prop := (((0) < s1 → True) ∧ (¬ (0) < s1 → (okX3_ranked v1 v2) ∧ (okX3_ranked v1 v4) ∧ True))
def fX3_order_32 (v1 : Int32) (v2 : Int64) (v4 : Int64) (fld : Int32) : Int32 × Int32 := fX3_order_33 v1 v2 v4 (1 : Int32) fld
def okX3_order_32 (v1 : Int32) (v2 : Int64) (v4 : Int64) (fld : Int32) : Prop := okX3_order_33 v1 v2 v4 (1 : Int32) fld
def fX3_order_0 (v1 : Int32) (v2 : Int64) (v4 : Int64) (fld : Int32) : Int32 × Int32 := (if v1 < (0) then fX3_order_32 v1 v2 v4 fld else (if (7 : Int32) < v1 then fX3_order_32 v1 v2 v4 fld else (if (fX3_hasBits v1 v2) = (0) then fX3_order_32 v1 v2 v4 fld else (if (fX3_hasBits v1 v4) = (0) then fX3_order_32 v1 v2 v4 fld else fX3_order_33 v1 v2 v4 (0 : Int32) fld))))
def okX3_order_0 (v1 : Int32) (v2 : Int64) (v4 : Int64) (fld : Int32) : Prop := ((v1 < (0) → okX3_order_32 v1 v2 v4 fld) ∧ (¬ v1 < (0) → (((7 : Int32) < v1 → okX3_order_32 v1 v2 v4 fld) ∧ (¬ (7 : Int32) < v1 → (okX3_hasBits v1 v2) ∧ (((fX3_hasBits v1 v2) = (0) → okX3_order_32 v1 v2 v4 fld) ∧ (¬ (fX3_hasBits v1 v2) = (0) → (okX3_hasBits v1 v4) ∧ (((fX3_hasBits v1 v4) = (0) → okX3_order_32 v1 v2 v4 fld) ∧ (¬ (fX3_hasBits v1 v4) = (0) → okX3_order_33 v1 v2 v4 (0 : Int32) fld))))))))
def fX3_order (v1 : Int32) (v2 : Int64) (v4 : Int64) (fld : Int32) : Int32 × Int32 := fX3_order_0 v1 v2 v4 fld
def okX3_order (v1 : Int32) (v2 : Int64) (v4 : Int64) (fld : Int32) : Prop := okX3_order_0 v1 v2 v4 fld
end
section
theorem okX0_roomBelow_n (v0 : Int32) (v1 : Int64) : ∀ (n : Nat) (v3 : Int32), 0 < n → v0.toInt - v3.toInt < (n : Int) → okX0_roomBelow_2 n v0 v1 v3 := by
  intro n
  induction n with
  | zero => intro v3 h0 _; omega
  | succ n ih =>
    intro v3 h0 h
    rw [okX0_roomBelow_2]
    refine ⟨fun hc => ⟨fun _ => ?_, fun _ => trivial⟩, fun _ => trivial⟩
    have hc' := Int32.lt_iff_toInt_lt.mp hc
    have h1 := fb_rng v0
    have h2 := fb_rng v3
    have e1 : (1 : Int32).toInt = 1 := by decide
    have e : (v3 + 1).toInt = v3.toInt + 1 := by rw [fb_addI (by rw [e1]; omega) (by rw [e1]; omega), e1]
    exact ih _ (by omega) (by rw [e]; omega)
theorem okX0_roomBelow_all (v0 : Int32) (v1 : Int64) : okX0_roomBelow v0 v1 := by
  rw [okX0_roomBelow, okX0_roomBelow_0]
  refine okX0_roomBelow_n _ _ _ _ (by omega) ?_
  have e0 : (0 : Int32).toInt = 0 := by decide
  have : v0.toInt ≤ (v0.toNatClampNeg : Int) := by
    rw [show v0.toNatClampNeg = v0.toInt.toNat from rfl]; omega
  rw [e0]; omega
theorem okX0_topOfQuotient_n (v2 : Int64) (h2 : ¬ v2 = 0) : ∀ (n : Nat) (v4 v6 : Int64) (v8 : Int32), 0 < n → 6 - v8.toInt < (n : Int) → okX0_topOfQuotient_21 n v2 v4 v6 v8 := by
  intro n
  induction n with
  | zero => intro v4 v6 v8 h0 _; omega
  | succ n ih =>
    intro v4 v6 v8 h0 h
    rw [okX0_topOfQuotient_21]
    refine ⟨fun hc => ⟨h2, h2, ?_⟩, fun _ => trivial⟩
    have hc' := Int32.lt_iff_toInt_lt.mp hc
    have e6 : (6 : Int32).toInt = 6 := by decide
    have h3 := fb_rng v8
    have e1 : (1 : Int32).toInt = 1 := by decide
    rw [e6] at hc'
    have e : (v8 + 1).toInt = v8.toInt + 1 := by rw [fb_addI (by rw [e1]; omega) (by rw [e1]; omega), e1]
    exact ih _ _ _ (by omega) (by rw [e]; omega)
theorem okX0_topOfQuotient_all (v0 v2 : Int64) : okX0_topOfQuotient v0 v2 := by
  rw [okX0_topOfQuotient, okX0_topOfQuotient_0]
  refine ⟨fun _ => trivial, fun h => ⟨h, ?_⟩⟩
  rw [okX0_topOfQuotient_13]
  refine ⟨h, ?_⟩
  rw [okX0_topOfQuotient_18]
  exact okX0_topOfQuotient_n v2 h _ _ _ _ (by omega) (by decide)
theorem okX0_restAbove_n (v3 : Int64) (h3 : ¬ v3 = 0) : ∀ (n : Nat) (v5 : Int64) (v7 : Int32), 0 < n → v7.toInt < (n : Int) → okX0_restAbove_16 n v3 v5 v7 := by
  intro n
  induction n with
  | zero => intro v5 v7 h0 _; omega
  | succ n ih =>
    intro v5 v7 h0 h
    rw [okX0_restAbove_16]
    refine ⟨fun hc => ⟨h3, ?_⟩, fun _ => trivial⟩
    have hc' := Int32.lt_iff_toInt_lt.mp hc
    have e0 : (0 : Int32).toInt = 0 := by decide
    have h4 := fb_rng v7
    have e1 : (-10 : Int32).toInt = -10 := by decide
    rw [e0] at hc'
    have e : (v7 + (-10)).toInt = v7.toInt + (-10) := by rw [fb_addI (by rw [e1]; omega) (by rw [e1]; omega), e1]
    exact ih _ _ (by omega) (by rw [e]; omega)
theorem okX0_restAbove_all (v0 : Int64) (v2 : Int32) (v3 : Int64) : okX0_restAbove v0 v2 v3 := by
  rw [okX0_restAbove, okX0_restAbove_0]
  refine ⟨fun _ => trivial, fun h => ⟨h, ?_⟩⟩
  rw [okX0_restAbove_13]
  refine okX0_restAbove_n v3 h _ _ _ (by omega) ?_
  have : v2.toInt ≤ (v2.toNatClampNeg : Int) := by
    rw [show v2.toNatClampNeg = v2.toInt.toNat from rfl]; omega
  omega
end
section
theorem px_z {v : Int32} (h : v = 0 ∨ v = 1) : narrow .boolean (.int v) = .int v := by
  rcases h with rfl | rfl <;> decide
/-- the links to a nest mate's private methods -/
def nx_N (U : State) : Prop := va_Nw (.methodLinkNest RX3 75 yX2_significand RX3) U ∧ va_Nw (.methodLinkNest RX3 78 yX2_exponent RX3) U ∧ va_Nw (.methodLinkNest RX3 83 yX2_made RX3) U
theorem nx_N.warm {s U : State} (hW : s.WarmedH U.vm) (h : nx_N s) : nx_N U := ⟨va_Nw.warmM hW h.1, va_Nw.warmM hW h.2.1, va_Nw.warmM hW h.2.2⟩
theorem nx_N.same {u U : State} (e : u.vm = U.vm) (h : nx_N u) : nx_N U := ⟨va_Nw.same rfl e h.1, va_Nw.same rfl e h.2.1, va_Nw.same rfl e h.2.2⟩
def px_PN (av : List Value) : Array Value → State → Prop := fun v U => v = av.toArray ∧ nx_N U
theorem px_blindN (av : List Value) : FrameBlind (px_PN av) := fun _ _ _ _ h => ⟨h.1, nx_N.same rfl h.2⟩
abbrev px_MN (l : Launch) (y : MethodName) (ws : List Cond) (rm : Room) (av : List Value) (r : Value) : Prop := Met l y ws rm (px_PN av) (px_Q r) 0 0 (fun _ => False)
/-- an object of one int field: a method's start, and its end -/
def ob_P (D : va_G) (ci : Nat) (this : Nat) (f : Int32) (av : List Value) : Array Value → State → Prop := fun v U => v = av.toArray ∧ va_P D vwCl [(this, .inr (ci, [.int f]))] U.heap ∧ va_K D vwCl [] U
def ob_PN (D : va_G) (ci : Nat) (this : Nat) (f : Int32) (av : List Value) : Array Value → State → Prop := fun v U => v = av.toArray ∧ va_P D vwCl [(this, .inr (ci, [.int f]))] U.heap ∧ va_K D vwCl [] U ∧ nx_N U
theorem ob_blind (D : va_G) (ci this : Nat) (f : Int32) (av : List Value) : FrameBlind (ob_P D ci this f av) := fun a U g mk h => ⟨h.1, h.2.1, va_K.moved (u := U) (U := U.calling g mk a) (Vm.Alike.refl U.vm) h.2.2⟩
theorem ob_blindN (D : va_G) (ci this : Nat) (f : Int32) (av : List Value) : FrameBlind (ob_PN D ci this f av) := fun a U g mk h => ⟨h.1, h.2.1, va_K.moved (u := U) (U := U.calling g mk a) (Vm.Alike.refl U.vm) h.2.2.1, nx_N.same rfl h.2.2.2⟩
def ob_QL (D : va_G) (ci this : Nat) (r : Int64 × Int32) : Array Value → State → Outcome → State → Prop := fun _ st o t => o = .returned (some (.long r.1)) ∧ va_P D vwCl [(this, .inr (ci, [.int r.2]))] t.heap ∧ va_F (fun q => q = this) st t
def ob_QI (D : va_G) (ci this : Nat) (r : Int32 × Int32) : Array Value → State → Outcome → State → Prop := fun _ st o t => o = .returned (some (.int r.1)) ∧ va_P D vwCl [(this, .inr (ci, [.int r.2]))] t.heap ∧ va_F (fun q => q = this) st t
def ob_QU (D : va_G) (ci this : Nat) (r : Int32) : Array Value → State → Outcome → State → Prop := fun _ st o t => o = .returned none ∧ va_P D vwCl [(this, .inr (ci, [.int r]))] t.heap ∧ va_F (fun q => q = this) st t
theorem ob_D (this : Nat) (x : va_E) : va_D (fun q => q = this) [(this, x)] := by
  refine ⟨fun i j p q hi hj _ => ?_, fun k q hk => ?_⟩
  · match i, j, hi, hj with
    | 0, 0, _, _ => rfl
    | 0, j + 1, _, hj => simp at hj
    | i + 1, _, hi, _ => simp at hi
  · match k, hk with
    | 0, hk => simp at hk; rw [← hk]
    | k + 1, hk => simp at hk
section OBC
variable {p : Program} {l : Launch} {e : Env} {R : Room} {s : State} {m : MethodId} {args : Array Value} {below : List Frame} {meth : Method} {c : Code} {H : Heap} {locs : List Loc} {cells slots : Nat} {Q : State → Prop}
variable {pc : Nat} {ls : Array Slot} {rest st0 : List Value} {a : Array Value} {D : va_G} {ci this : Nat} {A0 : Nat → Prop} {H0 : Heap}
theorem ob_gol {r : Int64 × Int32} (hr : va_Run p l e R s m args below meth c H locs cells slots 0 0 (F0 m pc ls st0) rest (ob_QL D ci this r a) (fun q => q = this)) (hA : ∀ q, q = this → A0 q) (hS : va_S A0 H0 H locs)
    (kk : ∀ (H1 : Heap) (locs1 : List Loc), va_P D vwCl [(this, .inr (ci, [.int r.2]))] H1 → va_S A0 H0 H1 locs1 → H.size ≤ H1.size → (∀ q : Nat, q < H.size → ¬ q = this → H1[q]? = H[q]?) → W p l e R s m args below meth c H1 locs1 cells slots Q (F0 m (pc + 3) ls (.long r.1 :: rest))) : W p l e R s m args below meth c H locs cells slots Q (F0 m pc ls st0) := by
  intro T hT X
  obtain ⟨v, st₀, t, T', L, h0, X', hL, e1, e2, ⟨hv, hp, hz, hk⟩, st⟩ := hr T hT X
  cases hv
  rw [h0] at hz hk
  obtain ⟨t2, a1, b1⟩ := kk T'.heap (locs ++ L) (by rw [e1]; exact hp) ⟨Nat.le_trans hS.1 (by rw [e1]; exact hz), fun q h1 h2 => by rw [e1, hk q (Nat.lt_of_lt_of_le h1 hS.1) (fun z => h2 (hA q z))]; exact hS.2.1 q h1 h2, fun q hq => by
      rcases List.mem_append.mp hq with h | h
      · exact hS.2.2 q h
      · exact hA _ (hL q h)⟩ (by rw [e1]; exact hz) (fun q h1 h2 => by rw [e1]; exact hk q h1 h2) T' rfl X'
  exact ⟨t2, st t2 a1, b1⟩
theorem ob_goi {r : Int32 × Int32} (hr : va_Run p l e R s m args below meth c H locs cells slots 0 0 (F0 m pc ls st0) rest (ob_QI D ci this r a) (fun q => q = this)) (hA : ∀ q, q = this → A0 q) (hS : va_S A0 H0 H locs)
    (kk : ∀ (H1 : Heap) (locs1 : List Loc), va_P D vwCl [(this, .inr (ci, [.int r.2]))] H1 → va_S A0 H0 H1 locs1 → H.size ≤ H1.size → (∀ q : Nat, q < H.size → ¬ q = this → H1[q]? = H[q]?) → W p l e R s m args below meth c H1 locs1 cells slots Q (F0 m (pc + 3) ls (.int r.1 :: rest))) : W p l e R s m args below meth c H locs cells slots Q (F0 m pc ls st0) := by
  intro T hT X
  obtain ⟨v, st₀, t, T', L, h0, X', hL, e1, e2, ⟨hv, hp, hz, hk⟩, st⟩ := hr T hT X
  cases hv
  rw [h0] at hz hk
  obtain ⟨t2, a1, b1⟩ := kk T'.heap (locs ++ L) (by rw [e1]; exact hp) ⟨Nat.le_trans hS.1 (by rw [e1]; exact hz), fun q h1 h2 => by rw [e1, hk q (Nat.lt_of_lt_of_le h1 hS.1) (fun z => h2 (hA q z))]; exact hS.2.1 q h1 h2, fun q hq => by
      rcases List.mem_append.mp hq with h | h
      · exact hS.2.2 q h
      · exact hA _ (hL q h)⟩ (by rw [e1]; exact hz) (fun q h1 h2 => by rw [e1]; exact hk q h1 h2) T' rfl X'
  exact ⟨t2, st t2 a1, b1⟩
theorem ob_gou {r : Int32} (hr : va_Run p l e R s m args below meth c H locs cells slots 0 0 (F0 m pc ls st0) rest (ob_QU D ci this r a) (fun q => q = this)) (hA : ∀ q, q = this → A0 q) (hS : va_S A0 H0 H locs)
    (kk : ∀ (H1 : Heap) (locs1 : List Loc), va_P D vwCl [(this, .inr (ci, [.int r]))] H1 → va_S A0 H0 H1 locs1 → H.size ≤ H1.size → (∀ q : Nat, q < H.size → ¬ q = this → H1[q]? = H[q]?) → W p l e R s m args below meth c H1 locs1 cells slots Q (F0 m (pc + 3) ls rest)) : W p l e R s m args below meth c H locs cells slots Q (F0 m pc ls st0) := by
  intro T hT X
  obtain ⟨v, st₀, t, T', L, h0, X', hL, e1, e2, ⟨hv, hp, hz, hk⟩, st⟩ := hr T hT X
  cases hv
  rw [h0] at hz hk
  obtain ⟨t2, a1, b1⟩ := kk T'.heap (locs ++ L) (by rw [e1]; exact hp) ⟨Nat.le_trans hS.1 (by rw [e1]; exact hz), fun q h1 h2 => by rw [e1, hk q (Nat.lt_of_lt_of_le h1 hS.1) (fun z => h2 (hA q z))]; exact hS.2.1 q h1 h2, fun q hq => by
      rcases List.mem_append.mp hq with h | h
      · exact hS.2.2 q h
      · exact hA _ (hL q h)⟩ (by rw [e1]; exact hz) (fun q h1 h2 => by rw [e1]; exact hk q h1 h2) T' rfl X'
  exact ⟨t2, st t2 a1, b1⟩
variable {y : MethodName} {bytes cc : ByteArray} {maxL nL n index : Nat} {ret : Option FieldType} {ws : List Cond} {rm : Room} {Ts : List Cond} {own C : String} {As : List Value} {r : Value} {f : Int32} {T : u_T} {N : Nat}
theorem px_SN (S : CallFix p m c cc nL s args Ts own) (hM : px_MN l y ws rm As r) (hN : nx_N s) (cw : CallB R s args own index y bytes maxL ret ws rm 0 0 n ∧ (Cond.static y).before args s = true)
    (hn : As.length = n) (hsize : ls.size = nL) (hstack : st0 = As.reverse ++ rest) (hW : (rest.map fun v => v.category).sum ≤ 8) (hdg : decode cc pc = .ok (.invokestatic index, 3)) (hc : cells ≤ R.cells) (hs : slots ≤ R.slots)
    (kk : W p l e R s m args below meth c H locs cells slots Q (F0 m (pc + 3) ls (r :: rest))) : W p l e R s m args below meth c H locs cells slots Q (F0 m pc ls st0) :=
  px_go (va_runS (g := F0 m pc ls st0) S hM cw ⟨px_blindN As, fun _ _ hw => ⟨rfl, hN.warm hw⟩⟩ rfl hn hsize hstack (lv_room hW) hdg ⟨hc, hs⟩) kk
theorem ob_Vl {r : Int64 × Int32} (S : CallFix p m c cc nL s args Ts own) (hM : Met l y ws rm (ob_P D ci this f (.ref this :: As)) (ob_QL D ci this r) 0 0 (fun q => q = this)) (hK : va_K D vwCl [] s) (hP : va_P D vwCl [(this, .inr (ci, [.int f]))] H) (hS : va_S (fun q => q = this) H0 H locs) (hci : vwCl[ci]? = some (C, T, N)) (cw : CallW R s args own C index y bytes maxL ret ws rm 0 0 n)
    (hn : As.length = n) (hsize : ls.size = nL) (hstack : st0 = As.reverse ++ .ref this :: rest) (hW : (rest.map fun v => v.category).sum ≤ 8) (hdg : decode cc pc = .ok (.invokevirtual index, 3)) (hc : cells ≤ R.cells) (hs : slots ≤ R.slots)
    (kk : ∀ (H1 : Heap) (locs1 : List Loc), va_P D vwCl [(this, .inr (ci, [.int r.2]))] H1 → va_S (fun q => q = this) H0 H1 locs1 → W p l e R s m args below meth c H1 locs1 cells slots Q (F0 m (pc + 3) ls (.long r.1 :: rest))) : W p l e R s m args below meth c H locs cells slots Q (F0 m pc ls st0) :=
  ob_gol (va_runV (g := F0 m pc ls st0) S hM cw ⟨ob_blind D ci this f _, va_recv hK hP hci (q0 := 0) rfl, fun U hU hw => ⟨rfl, by rw [hU]; exact hP, va_K.moved hw.alike hK⟩⟩ rfl hn hsize hstack (lv_room hW) hdg ⟨hc, hs⟩) (fun _ h => h) hS (fun H1 locs1 h1 h2 _ _ => kk H1 locs1 h1 h2)
theorem ob_Vi {r : Int32 × Int32} (S : CallFix p m c cc nL s args Ts own) (hM : Met l y ws rm (ob_P D ci this f (.ref this :: As)) (ob_QI D ci this r) 0 0 (fun q => q = this)) (hK : va_K D vwCl [] s) (hP : va_P D vwCl [(this, .inr (ci, [.int f]))] H) (hS : va_S (fun q => q = this) H0 H locs) (hci : vwCl[ci]? = some (C, T, N)) (cw : CallW R s args own C index y bytes maxL ret ws rm 0 0 n)
    (hn : As.length = n) (hsize : ls.size = nL) (hstack : st0 = As.reverse ++ .ref this :: rest) (hW : (rest.map fun v => v.category).sum ≤ 8) (hdg : decode cc pc = .ok (.invokevirtual index, 3)) (hc : cells ≤ R.cells) (hs : slots ≤ R.slots)
    (kk : ∀ (H1 : Heap) (locs1 : List Loc), va_P D vwCl [(this, .inr (ci, [.int r.2]))] H1 → va_S (fun q => q = this) H0 H1 locs1 → W p l e R s m args below meth c H1 locs1 cells slots Q (F0 m (pc + 3) ls (.int r.1 :: rest))) : W p l e R s m args below meth c H locs cells slots Q (F0 m pc ls st0) :=
  ob_goi (va_runV (g := F0 m pc ls st0) S hM cw ⟨ob_blind D ci this f _, va_recv hK hP hci (q0 := 0) rfl, fun U hU hw => ⟨rfl, by rw [hU]; exact hP, va_K.moved hw.alike hK⟩⟩ rfl hn hsize hstack (lv_room hW) hdg ⟨hc, hs⟩) (fun _ h => h) hS (fun H1 locs1 h1 h2 _ _ => kk H1 locs1 h1 h2)
theorem ob_VNl {r : Int64 × Int32} (S : CallFix p m c cc nL s args Ts own) (hM : Met l y ws rm (ob_PN D ci this f (.ref this :: As)) (ob_QL D ci this r) 0 0 (fun q => q = this)) (hN : nx_N s) (hK : va_K D vwCl [] s) (hP : va_P D vwCl [(this, .inr (ci, [.int f]))] H) (hS : va_S (fun q => q = this) H0 H locs) (hci : vwCl[ci]? = some (C, T, N)) (cw : CallW R s args own C index y bytes maxL ret ws rm 0 0 n)
    (hn : As.length = n) (hsize : ls.size = nL) (hstack : st0 = As.reverse ++ .ref this :: rest) (hW : (rest.map fun v => v.category).sum ≤ 8) (hdg : decode cc pc = .ok (.invokevirtual index, 3)) (hc : cells ≤ R.cells) (hs : slots ≤ R.slots)
    (kk : ∀ (H1 : Heap) (locs1 : List Loc), va_P D vwCl [(this, .inr (ci, [.int r.2]))] H1 → va_S (fun q => q = this) H0 H1 locs1 → W p l e R s m args below meth c H1 locs1 cells slots Q (F0 m (pc + 3) ls (.long r.1 :: rest))) : W p l e R s m args below meth c H locs cells slots Q (F0 m pc ls st0) :=
  ob_gol (va_runV (g := F0 m pc ls st0) S hM cw ⟨ob_blindN D ci this f _, va_recv hK hP hci (q0 := 0) rfl, fun U hU hw => ⟨rfl, by rw [hU]; exact hP, va_K.moved hw.alike hK, hN.warm hw⟩⟩ rfl hn hsize hstack (lv_room hW) hdg ⟨hc, hs⟩) (fun _ h => h) hS (fun H1 locs1 h1 h2 _ _ => kk H1 locs1 h1 h2)
end OBC
end
section
/-! rounding, ties to even, over the naturals -/
def rne (N D : Nat) : Nat := if D < 2 * (N % D) ∨ (2 * (N % D) = D ∧ N / D % 2 = 1) then N / D + 1 else N / D
theorem rne_scale {N D c : Nat} (hc : 0 < c) : rne (N * c) (D * c) = rne N D := by
  unfold rne
  rw [Nat.mul_mod_mul_right, Nat.mul_div_mul_right _ _ hc]
  have h1 : (D * c < 2 * (N % D * c)) ↔ (D < 2 * (N % D)) := by
    rw [← Nat.mul_assoc]; exact Nat.mul_lt_mul_right hc
  have h2 : (2 * (N % D * c) = D * c) ↔ (2 * (N % D) = D) := by
    rw [← Nat.mul_assoc]
    exact ⟨fun h => Nat.eq_of_mul_eq_mul_right hc h, fun h => by rw [h]⟩
  simp only [h1, h2]
theorem rne_congr {N1 D1 N2 D2 : Nat} (h1 : 0 < D1) (h2 : 0 < D2) (h : N1 * D2 = N2 * D1) : rne N1 D1 = rne N2 D2 := by
  rw [← rne_scale (N := N1) (D := D1) h2, ← rne_scale (N := N2) (D := D2) h1, h, Nat.mul_comm D1 D2]
theorem rne_one (N : Nat) : rne N 1 = N := by simp [rne, Nat.mod_one]
theorem rne_exact (q : Nat) {D : Nat} (h : 0 < D) : rne (q * D) D = q := by
  have := rne_scale (N := q) (D := 1) h
  rw [Nat.one_mul, rne_one] at this
  exact this
/-- what is strictly between two places of a grid that has every half: it goes by the half -/
theorem rne_in {H q r P e : Nat} (hr : r < 2 * H) (he : 0 < e) (heP : e < P) : rne ((2 * H * q + r) * P + e) (2 * H * P) = if H ≤ r then q + 1 else q := by
  have hH : 0 < H := by omega
  have hP : 0 < P := by omega
  have hrP : r * P + P ≤ 2 * H * P := by
    have := Nat.mul_le_mul_right P (show r + 1 ≤ 2 * H by omega)
    rw [Nat.add_mul, Nat.one_mul] at this; exact this
  have e1 : (2 * H * q + r) * P + e = 2 * H * P * q + (r * P + e) := by
    rw [Nat.add_mul, Nat.mul_assoc (2 * H) q P, Nat.mul_comm q P, ← Nat.mul_assoc, Nat.add_assoc]
  have hlt : r * P + e < 2 * H * P := by omega
  have hd : ((2 * H * q + r) * P + e) / (2 * H * P) = q := by
    rw [e1, Nat.mul_add_div (by omega), Nat.div_eq_of_lt hlt, Nat.add_zero]
  have hm : ((2 * H * q + r) * P + e) % (2 * H * P) = r * P + e := by
    rw [e1, Nat.mul_add_mod, Nat.mod_eq_of_lt hlt]
  unfold rne
  rw [hd, hm]
  have e2 : 2 * H * P = 2 * (H * P) := Nat.mul_assoc 2 H P
  by_cases h : H ≤ r
  · have := Nat.mul_le_mul_right P h
    rw [if_pos h, if_pos (Or.inl (by omega))]
  · have := Nat.mul_le_mul_right P (show r + 1 ≤ H by omega)
    rw [Nat.add_mul, Nat.one_mul] at this
    rw [if_neg h, if_neg (by omega)]
/-- two roundings: the second sees what the first left, where that is no half -/
theorem rne_two {N K h : Nat} (hh : 0 < h) (hc : rne N (2 ^ K) % 2 ^ h ≠ 2 ^ (h - 1) ∨ N % 2 ^ K = 0) : rne N (2 ^ (K + h)) = rne (rne N (2 ^ K)) (2 ^ h) := by
  obtain ⟨g, rfl⟩ : ∃ g, h = g + 1 := ⟨h - 1, by omega⟩
  generalize hP : 2 ^ K = P at *
  have hP0 : 0 < P := by rw [← hP]; exact Nat.two_pow_pos K
  generalize hG : 2 ^ g = G at *
  have hG0 : 0 < G := by rw [← hG]; exact Nat.two_pow_pos g
  have e1 : 2 ^ (K + (g + 1)) = 2 * G * P := by rw [Nat.pow_add, Nat.pow_succ, hP, hG, Nat.mul_comm P, Nat.mul_comm G 2]
  have e2 : 2 ^ (g + 1) = 2 * G := by rw [Nat.pow_succ, hG, Nat.mul_comm]
  rw [e1, e2]
  rw [e2, show g + 1 - 1 = g from rfl, hG] at hc
  by_cases hx : N % P = 0
  · have eN : N = N / P * P := by have := Nat.div_add_mod N P; rw [hx, Nat.mul_comm] at this; omega
    have : rne N P = N / P := by rw [eN, rne_exact _ hP0, ← eN]
    rw [this]
    conv => lhs; rw [eN]
    exact rne_scale hP0
  · have hc := hc.resolve_right hx
    have hmP := Nat.mod_lt N hP0
    -- N = n P + e
    generalize hn : N / P = n at *
    generalize he : N % P = e at *
    have eN : N = n * P + e := by have := Nat.div_add_mod N P; rw [hn, he, Nat.mul_comm] at this; omega
    have hqr := Nat.div_add_mod n (2 * G)
    have hr := Nat.mod_lt n (show 0 < 2 * G by omega)
    generalize hq : n / (2 * G) = q at *
    generalize hr0 : n % (2 * G) = r at *
    have L := rne_in (q := q) (P := P) (e := e) hr (by omega) hmP
    rw [hqr, ← eN] at L
    rw [L]
    -- the first rounding
    have hk : rne N P = n ∨ rne N P = n + 1 := by
      unfold rne; rw [hn]; split
      · exact Or.inr rfl
      · exact Or.inl rfl
    have hG2 : 2 * G * q + r = n := hqr
    have hcase : ∀ (v u : Nat), v < 2 * G → v ≠ G → rne (2 * G * u + v) (2 * G) = if G ≤ v then u + 1 else u := by
      intro v u hv hvG
      unfold rne
      have d1 : (2 * G * u + v) / (2 * G) = u := by rw [Nat.mul_add_div (by omega), Nat.div_eq_of_lt hv, Nat.add_zero]
      have d2 : (2 * G * u + v) % (2 * G) = v := by rw [Nat.mul_add_mod, Nat.mod_eq_of_lt hv]
      rw [d1, d2]
      by_cases hg : G ≤ v
      · rw [if_pos hg, if_pos (Or.inl (by omega))]
      · rw [if_neg hg, if_neg (by omega)]
    rcases hk with hk | hk
    · rw [hk] at hc ⊢
      rw [hr0] at hc
      rw [← hG2, hcase r q hr (hc.resolve_right hx)]
    · rw [hk] at hc ⊢
      by_cases hw : r + 1 = 2 * G
      · have e3 : n + 1 = (q + 1) * (2 * G) := by rw [← hG2, Nat.add_mul, Nat.one_mul, Nat.mul_comm q]; omega
        rw [e3, rne_exact _ (by omega), if_pos (by omega)]
      · have e3 : n + 1 = 2 * G * q + (r + 1) := by omega
        have e4 : (n + 1) % (2 * G) = r + 1 := by rw [e3, Nat.mul_add_mod, Nat.mod_eq_of_lt (by omega)]
        rw [e4] at hc
        rw [e3, hcase (r + 1) q (by omega) (hc.resolve_right hx)]
        by_cases hg : G ≤ r
        · rw [if_pos hg, if_pos (by omega)]
        · rw [if_neg hg, if_neg (by omega)]
end
section
theorem log2_is {n k : Nat} (h1 : 2 ^ k ≤ n) (h2 : n < 2 ^ (k + 1)) : n.log2 = k := by
  have hn : n ≠ 0 := by have := Nat.two_pow_pos k; omega
  exact (Nat.log2_eq_iff hn).mpr ⟨h1, h2⟩
theorem log2_lo {n : Nat} (h : 0 < n) : 2 ^ n.log2 ≤ n := Nat.log2_self_le (by omega)
theorem log2_hi (n : Nat) : n < 2 ^ (n.log2 + 1) := Nat.lt_log2_self
theorem log2_shl {n : Nat} (h : 0 < n) (a : Nat) : (n * 2 ^ a).log2 = n.log2 + a := by
  refine log2_is ?_ ?_
  · rw [Nat.pow_add]; exact Nat.mul_le_mul_right _ (log2_lo h)
  · rw [show n.log2 + a + 1 = n.log2 + 1 + a by omega, Nat.pow_add]
    exact Nat.mul_lt_mul_of_pos_right (log2_hi n) (Nat.two_pow_pos a)
theorem log2_shr {n : Nat} (b : Nat) (h : 2 ^ b ≤ n) : (n / 2 ^ b).log2 = n.log2 - b ∧ b ≤ n.log2 := by
  have hn : 0 < n := by have := Nat.two_pow_pos b; omega
  have hb : b ≤ n.log2 := by
    apply Nat.le_of_not_lt
    intro hlt
    have h2 := log2_hi n
    have h3 : 2 ^ (n.log2 + 1) ≤ 2 ^ b := Nat.pow_le_pow_right (by omega) (by omega)
    omega
  refine ⟨log2_is ?_ ?_, hb⟩
  · rw [Nat.le_div_iff_mul_le (Nat.two_pow_pos b), ← Nat.pow_add, Nat.sub_add_cancel hb]; exact log2_lo hn
  · rw [Nat.div_lt_iff_lt_mul (Nat.two_pow_pos b), ← Nat.pow_add, show n.log2 - b + 1 + b = n.log2 + 1 by omega]; exact log2_hi n
theorem log2_ge {n k : Nat} (h : 2 ^ k ≤ n) : k ≤ n.log2 := (log2_shr k h).2
theorem log2_lt {n k : Nat} (h0 : 0 < n) (h : n < 2 ^ k) : n.log2 < k := by
  apply Nat.lt_of_not_le
  intro hle
  have h1 := log2_lo h0
  have h2 : 2 ^ k ≤ 2 ^ n.log2 := Nat.pow_le_pow_right (by omega) hle
  omega
/-- M * 2^w, in units of the least number, to the nearest with fb bits behind its first: its bits without a sign -/
def RD (fb M : Nat) (w : Int) : Nat := (((M * 2 ^ w.toNat) / 2 ^ (-w).toNat).log2 - fb) * 2 ^ fb + rne (M * 2 ^ w.toNat) (2 ^ ((-w).toNat + (((M * 2 ^ w.toNat) / 2 ^ (-w).toNat).log2 - fb)))
theorem RD_t {fb M : Nat} {w : Int} (hM : 0 < M) : ((M * 2 ^ w.toNat) / 2 ^ (-w).toNat).log2 - fb = (w + M.log2 - fb).toNat := by
  rcases Int.le_total 0 w with h | h
  · rw [show (-w).toNat = 0 by omega, Nat.pow_zero, Nat.div_one, log2_shl hM]; omega
  · rw [show w.toNat = 0 by omega, Nat.pow_zero, Nat.mul_one]
    by_cases hb : 2 ^ (-w).toNat ≤ M
    · obtain ⟨e1, e2⟩ := log2_shr _ hb
      rw [e1]; omega
    · have h1 : M / 2 ^ (-w).toNat = 0 := Nat.div_eq_of_lt (by omega)
      have h2 := log2_lt hM (show M < 2 ^ (-w).toNat by omega)
      rw [h1, Nat.log2_zero]; omega
/-- as a program computes it: moved up by p places, then d dropped -/
theorem RD_eval {fb M p d : Nat} {w : Int} (hM : 0 < M) (hd : (d : Int) = (w + M.log2 - fb).toNat - w + p) : RD fb M w = (w + M.log2 - fb).toNat * 2 ^ fb + rne (M * 2 ^ p) (2 ^ d) := by
  unfold RD
  rw [RD_t hM]
  congr 1
  refine rne_congr (Nat.two_pow_pos _) (Nat.two_pow_pos _) ?_
  rw [Nat.mul_assoc, ← Nat.pow_add, Nat.mul_assoc, ← Nat.pow_add]
  congr 2
  omega
theorem RD_shift {fb M j : Nat} {w : Int} (hM : 0 < M) : RD fb (M * 2 ^ j) w = RD fb M (w + j) := by
  have h2 : 0 < M * 2 ^ j := Nat.mul_pos hM (Nat.two_pow_pos j)
  have hl := log2_shl hM j
  obtain ⟨p, d, hd⟩ : ∃ p d : Nat, (d : Int) = (w + (M * 2 ^ j).log2 - fb).toNat - w + p := ⟨w.toNat, ((w + (M * 2 ^ j).log2 - fb).toNat - w + w.toNat).toNat, by omega⟩
  rw [RD_eval h2 hd, RD_eval (p := j + p) (d := d) hM (by rw [hd, hl]; omega), hl, Nat.mul_assoc, ← Nat.pow_add]
  congr 2
  omega
/-- what is strictly inside a cell (c, c+1) * 2^j rounds as the cell's middle -/
theorem RD_cell {fb M c j : Nat} {w : Int} (hc : 2 ^ (fb + 1) ≤ c) (h1 : c * 2 ^ j < M) (h2 : M < (c + 1) * 2 ^ j) : RD fb M w = RD fb (2 * c + 1) (w + j - 1) := by
  have hc0 : 0 < c := by have := Nat.two_pow_pos (fb + 1); omega
  have hM : 0 < M := by omega
  have hlc := log2_ge hc
  have lM : M.log2 = c.log2 + j := by
    refine log2_is ?_ ?_
    · rw [Nat.pow_add]; have := Nat.mul_le_mul_right (2 ^ j) (log2_lo hc0); omega
    · rw [show c.log2 + j + 1 = c.log2 + 1 + j by omega, Nat.pow_add]
      have := Nat.mul_le_mul_right (2 ^ j) (show c + 1 ≤ 2 ^ (c.log2 + 1) from log2_hi c); omega
  have l2 : (2 * c + 1).log2 = c.log2 + 1 := by
    refine log2_is ?_ ?_
    · rw [Nat.pow_succ]; have := log2_lo hc0; omega
    · rw [Nat.pow_succ]; have := log2_hi c; omega
  obtain ⟨g, hg⟩ : ∃ g : Nat, (g : Int) + 1 + j = (w + M.log2 - fb).toNat - w := ⟨((w + M.log2 - fb).toNat - w - 1 - j).toNat, by rw [lM]; omega⟩
  rw [RD_eval (p := 0) (d := g + 1 + j) hM (by omega), RD_eval (fb := fb) (M := 2 * c + 1) (w := w + j - 1) (p := 0) (d := g + 1 + 1) (by omega) (by rw [l2]; rw [lM] at hg; omega)]
  have et : (w + (M.log2 : Int) - fb).toNat = (w + (j : Int) - 1 + ((2 * c + 1).log2 : Int) - fb).toNat := by rw [lM, l2]; congr 1; omega
  rw [et]
  congr 1
  rw [Nat.pow_zero, Nat.mul_one, Nat.mul_one]
  have hr := Nat.mod_lt c (show 0 < 2 * 2 ^ g by have := Nat.two_pow_pos g; omega)
  have hqr := Nat.div_add_mod c (2 * 2 ^ g)
  have hadd : (c + 1) * 2 ^ j = c * 2 ^ j + 2 ^ j := by rw [Nat.add_mul, Nat.one_mul]
  have A := rne_in (q := c / (2 * 2 ^ g)) (P := 2 ^ j) (e := M - c * 2 ^ j) hr (by omega) (by omega)
  have B := rne_in (q := c / (2 * 2 ^ g)) (P := 2) (e := 1) hr (by omega) (by omega)
  rw [hqr] at A B
  rw [show c * 2 ^ j + (M - c * 2 ^ j) = M by omega, show 2 * 2 ^ g * 2 ^ j = 2 ^ (g + 1 + j) by rw [Nat.pow_add, Nat.pow_succ, Nat.mul_comm (2 ^ g) 2]] at A
  rw [show c * 2 + 1 = 2 * c + 1 by omega, show 2 * 2 ^ g * 2 = 2 ^ (g + 1 + 1) by rw [Nat.pow_succ, Nat.pow_succ, Nat.mul_comm (2 ^ g) 2]] at B
  rw [A, B]
/-- a size's magnitude and exponent, in units of the least number -/
def Mg (fb z : Nat) : Nat := if z < 2 ^ fb then z else z % 2 ^ fb + 2 ^ fb
def Xp (fb z : Nat) : Nat := z / 2 ^ fb - 1
theorem Mg_pos {fb z : Nat} (h : 0 < z) : 0 < Mg fb z := by
  unfold Mg; split
  · exact h
  · have := Nat.two_pow_pos fb; omega
theorem Mg_lt (fb z : Nat) : Mg fb z < 2 ^ (fb + 1) := by
  have := Nat.mod_lt z (Nat.two_pow_pos fb)
  unfold Mg; rw [Nat.pow_succ]; split <;> omega
theorem Mg_ge {fb z : Nat} (h : 2 ^ fb ≤ z) : 2 ^ fb ≤ Mg fb z := by unfold Mg; rw [if_neg (by omega)]; omega
theorem Mg_Xp {fb z : Nat} (h : z < 2 ^ fb) : Xp fb z = 0 := by unfold Xp; rw [Nat.div_eq_of_lt h]
theorem MgXp_z (fb z : Nat) : Xp fb z * 2 ^ fb + Mg fb z = z := by
  have hd := Nat.div_add_mod z (2 ^ fb)
  by_cases h : z < 2 ^ fb
  · rw [Mg_Xp h]; unfold Mg; rw [if_pos h]; omega
  · unfold Xp Mg; rw [if_neg h]
    have h1 : 1 ≤ z / 2 ^ fb := (Nat.one_le_div_iff (Nat.two_pow_pos fb)).mpr (by omega)
    obtain ⟨f, hf⟩ : ∃ f, z / 2 ^ fb = f + 1 := ⟨z / 2 ^ fb - 1, by omega⟩
    rw [hf] at hd ⊢
    rw [Nat.mul_comm, Nat.add_mul, Nat.one_mul, Nat.mul_comm f] at hd
    rw [show f + 1 - 1 = f from rfl, Nat.mul_comm f]; omega
/-- a number rounds to itself -/
theorem RD_self {fb z : Nat} (h : 0 < z) : RD fb (Mg fb z) (Xp fb z) = z := by
  have hm := Mg_pos (fb := fb) h
  have hl := log2_lt hm (Mg_lt fb z)
  have ht : ((Xp fb z : Int) + (Mg fb z).log2 - fb).toNat = Xp fb z := by
    by_cases hz : z < 2 ^ fb
    · rw [Mg_Xp hz]; omega
    · have := log2_ge (Mg_ge (show 2 ^ fb ≤ z by omega)); omega
  rw [RD_eval (p := 0) (d := 0) hm (by rw [ht]; omega), ht, Nat.pow_zero, Nat.mul_one, rne_one]
  exact MgXp_z fb z
end
section
/-! ints as whole numbers, longs as naturals -/
def iI (z : Int) : Int32 := Int32.ofInt z
theorem iI_add (a b : Int) : iI a + iI b = iI (a + b) := (Int32.ofInt_add a b).symm
theorem iI_sub (a b : Int) : iI a - iI b = iI (a - b) := (Int32.ofInt_sub a b).symm
theorem iI_neg (a : Int) : -iI a = iI (-a) := (Int32.ofInt_neg a).symm
theorem iI_toInt {z : Int} (h1 : -2147483648 ≤ z) (h2 : z < 2147483648) : (iI z).toInt = z := fb_ofI h1 h2
theorem iI_self (x : Int32) : iI x.toInt = x := fb_asI x
theorem iI_lt {a b : Int} (h1 : -2147483648 ≤ a) (h2 : a < 2147483648) (h3 : -2147483648 ≤ b) (h4 : b < 2147483648) : iI a < iI b ↔ a < b := by
  rw [Int32.lt_iff_toInt_lt, iI_toInt h1 h2, iI_toInt h3 h4]
theorem iI_eq {a b : Int} (h1 : -2147483648 ≤ a) (h2 : a < 2147483648) (h3 : -2147483648 ≤ b) (h4 : b < 2147483648) : iI a = iI b ↔ a = b := by
  rw [← Int32.toInt_inj, iI_toInt h1 h2, iI_toInt h3 h4]
theorem nI_iI (n : Nat) : nI n = iI n := (Int32.ofInt_eq_ofNat (n := n)).symm
theorem nI_iI_toNat {z : Int} (h : 0 ≤ z) : iI z = nI z.toNat := by rw [nI_iI, Int.toNat_of_nonneg h]
theorem jshl_lN (n : Nat) {k : Nat} (hk : k < 64) : jshl (lN n) (nI k) = lN (n * 2 ^ k) := wb_shl n hk
theorem jushr_lN {n k : Nat} (hn : n < 2 ^ 64) (hk : k < 64) : jushr (lN n) (nI k) = lN (n / 2 ^ k) := wb_shr hn hk
theorem lN_0 : (0 : Int64) = lN 0 := rfl
theorem lN_one : (1 : Int64) = lN 1 := rfl
theorem lN_inj {a b : Nat} (ha : a < 2 ^ 64) (hb : b < 2 ^ 64) : lN a = lN b ↔ a = b := by
  constructor
  · intro h
    have := congrArg (fun x : Int64 => x.toBitVec.toNat) h
    simp only [wb_tn ha, wb_tn hb] at this
    exact this
  · intro h; rw [h]
theorem lN_lt63 {a b : Nat} (ha : a < 2 ^ 63) (hb : b < 2 ^ 63) : lN a < lN b ↔ a < b := pk_lLT ha hb
theorem nI_toInt64 {n : Nat} (h : n < 2 ^ 31) : (nI n).toInt64 = lN n := nI_l h
theorem rne_le {N D c : Nat} (hD : 0 < D) (h : N < c * D) : rne N D ≤ c := by
  have : N / D < c := (Nat.div_lt_iff_lt_mul hD).mpr h
  unfold rne; split <;> omega
theorem rne_ge {N D c : Nat} (hD : 0 < D) (h : c * D ≤ N) : c ≤ rne N D := by
  have : c ≤ N / D := (Nat.le_div_iff_mul_le hD).mpr h
  unfold rne; split <;> omega
/-- the bits that RD keeps, where the number isn't below the least exponent -/
theorem kept_bounds {fb M p d : Nat} {w : Int} (hM : 0 < M) (hd : (d : Int) = (w + M.log2 - fb).toNat - w + p) : rne (M * 2 ^ p) (2 ^ d) ≤ 2 ^ (fb + 1) ∧ (0 ≤ w + M.log2 - fb → 2 ^ fb ≤ rne (M * 2 ^ p) (2 ^ d)) := by
  have hlo := log2_lo hM
  have hhi := log2_hi M
  constructor
  · refine rne_le (Nat.two_pow_pos d) ?_
    rw [← Nat.pow_add]
    refine Nat.lt_of_lt_of_le (Nat.mul_lt_mul_of_pos_right hhi (Nat.two_pow_pos p)) ?_
    rw [← Nat.pow_add]
    exact Nat.pow_le_pow_right (by omega) (by omega)
  · intro h
    refine rne_ge (Nat.two_pow_pos d) ?_
    rw [← Nat.pow_add]
    refine Nat.le_trans ?_ (Nat.mul_le_mul_right (2 ^ p) hlo)
    rw [← Nat.pow_add]
    exact Nat.pow_le_pow_right (by omega) (by omega)
theorem roomBelow_loop {top n : Nat} (h0 : 0 < n) (ht : top ≤ 62) : ∀ (fuel r : Nat), r + n.log2 ≤ top → top + 1 ≤ fuel + r → fX0_roomBelow_2 fuel (nI top) (lN n) (nI r) = nI (top - n.log2) := by
  intro fuel
  induction fuel with
  | zero => intro r h1 h2; omega
  | succ fuel ih =>
    intro r h1 h2
    rw [fX0_roomBelow_2]
    have hhi := log2_hi n
    have hlo := log2_lo h0
    by_cases hr : r < top
    · rw [if_pos ((nI_ltI (by omega) (by omega)).mpr hr), jshl_lN _ (by omega), lN_one, jshl_lN _ (by omega), Nat.one_mul]
      have b1 : n * 2 ^ r < 2 ^ 63 := by
        refine Nat.lt_of_lt_of_le (Nat.mul_lt_mul_of_pos_right hhi (Nat.two_pow_pos r)) ?_
        rw [← Nat.pow_add]; exact Nat.pow_le_pow_right (by omega) (by omega)
      have b2 : 2 ^ top < 2 ^ 63 := Nat.pow_lt_pow_right (by omega) (by omega)
      by_cases hc : n * 2 ^ r < 2 ^ top
      · rw [if_pos ((lN_lt63 b1 b2).mpr hc), show nI r + 1 = nI (r + 1) from nI_1 r]
        refine ih (r + 1) ?_ (by omega)
        have h3 : 2 ^ (n.log2 + r) < 2 ^ top := by
          rw [Nat.pow_add]; exact Nat.lt_of_le_of_lt (Nat.mul_le_mul_right _ hlo) hc
        have := (Nat.pow_lt_pow_iff_right (a := 2) (by omega)).mp h3
        omega
      · rw [if_neg (fun h => hc ((lN_lt63 b1 b2).mp h))]
        congr 1
        have h3 : 2 ^ top < 2 ^ (n.log2 + 1 + r) := by
          rw [Nat.pow_add]; exact Nat.lt_of_le_of_lt (by omega) (Nat.mul_lt_mul_of_pos_right hhi (Nat.two_pow_pos r))
        have := (Nat.pow_lt_pow_iff_right (a := 2) (by omega)).mp h3
        omega
    · rw [if_neg (fun h => hr ((nI_ltI (by omega) (by omega)).mp h))]
      congr 1; omega
theorem roomBelow_is {top n : Nat} (h0 : 0 < n) (ht : top ≤ 62) (hn : n < 2 ^ (top + 1)) : fX0_roomBelow (nI top) (lN n) = nI (top - n.log2) := by
  rw [fX0_roomBelow, fX0_roomBelow_0, nI_clamp (by omega), show (0 : Int32) = nI 0 from rfl]
  have := log2_lt h0 hn
  exact roomBelow_loop h0 ht _ _ (by omega) (by omega)
theorem mask_lN {X d : Nat} (hX : X < 2 ^ 64) (hd : d < 64) : lN X &&& (jshl (1 : Int64) (nI d) - (1 : Int64)) = lN (X % 2 ^ d) := by
  rw [lN_one, jshl_lN _ hd, Nat.one_mul, lN_sub (Nat.two_pow_pos d)]
  exact wb_mask hX hd
theorem roundedDown_is {X : Nat} {d : Int} (hX : X < 2 ^ 63) (hd : 1 ≤ d) (hd2 : d < 2147483648) : fX0_roundedDown (lN X) (iI d) = lN (rne X (2 ^ d.toNat)) := by
  rw [fX0_roundedDown, fX0_roundedDown_0, show (63 : Int32) = iI 63 from by decide]
  by_cases h : 63 < d
  · rw [if_pos ((iI_lt (by omega) (by omega) (by omega) (by omega)).mpr h)]
    have h1 : 2 ^ 64 ≤ 2 ^ d.toNat := Nat.pow_le_pow_right (by omega) (by omega)
    have h2 : X < 2 ^ d.toNat := by omega
    unfold rne
    rw [Nat.mod_eq_of_lt h2, Nat.div_eq_of_lt h2, if_neg (by omega)]
    rfl
  · rw [if_neg (fun q => h ((iI_lt (by omega) (by omega) (by omega) (by omega)).mp q))]
    obtain ⟨k, rfl⟩ : ∃ k : Nat, d = (k : Int) + 1 := ⟨(d - 1).toNat, by omega⟩
    rw [show ((k : Int) + 1).toNat = k + 1 by omega, show iI ((k : Int) + 1) = nI (k + 1) from by rw [nI_iI]; rfl]
    rw [fX0_roundedDown_12, fX0_roundedDown_21, fX0_roundedDown_28, fX0_roundedDown_52, fX0_roundedDown_56, fX0_roundedDown_57, fX0_roundedDown_57]
    rw [mask_lN (by omega) (by omega), jushr_lN (by omega) (by omega), show nI (k + 1) - 1 = nI k from nI_pred k, lN_one, jshl_lN _ (by omega), Nat.one_mul]
    rw [if_neg (show ¬ (1 : Int32) = 0 by decide), if_pos rfl]
    have b1 : 2 ^ k < 2 ^ 63 := Nat.pow_lt_pow_right (by omega) (by omega)
    have b2 := Nat.mod_lt X (Nat.two_pow_pos (k + 1))
    have b3 : X % 2 ^ (k + 1) < 2 ^ 63 := Nat.lt_of_le_of_lt (Nat.mod_le _ _) hX
    have b4 : X / 2 ^ (k + 1) < 2 ^ 63 := Nat.lt_of_le_of_lt (Nat.div_le_self _ _) hX
    have e1 : (lN (2 ^ k) < lN (X % 2 ^ (k + 1))) ↔ 2 ^ (k + 1) < 2 * (X % 2 ^ (k + 1)) := by rw [lN_lt63 b1 b3, Nat.pow_succ]; omega
    have e2 : (lN (X % 2 ^ (k + 1)) = lN (2 ^ k)) ↔ 2 * (X % 2 ^ (k + 1)) = 2 ^ (k + 1) := by rw [lN_inj (by omega) (by omega), Nat.pow_succ]; omega
    have e3 : (lN (X / 2 ^ (k + 1)) &&& lN 1 = lN 1) ↔ X / 2 ^ (k + 1) % 2 = 1 := by
      rw [show lN (X / 2 ^ (k + 1)) &&& lN 1 = lN (X / 2 ^ (k + 1) % 2) from wb_a1 (by omega), lN_inj (by omega) (by omega)]
    unfold rne
    simp only [e1, e2, e3, lN_add]
    by_cases c1 : 2 ^ (k + 1) < 2 * (X % 2 ^ (k + 1))
    · rw [if_pos c1, if_pos (Or.inl c1)]
    · rw [if_neg c1]
      by_cases c2 : 2 * (X % 2 ^ (k + 1)) = 2 ^ (k + 1)
      · rw [if_pos c2]
        by_cases c3 : X / 2 ^ (k + 1) % 2 = 1
        · rw [if_pos c3, if_pos (Or.inr ⟨c2, c3⟩)]
        · rw [if_neg c3, if_neg (fun h => h.elim c1 (fun h => c3 h.2))]
      · rw [if_neg c2, if_neg (fun h => h.elim c1 (fun h => c2 h.1))]
end
section
theorem iI_lt0 {a : Int} (h1 : -2147483648 ≤ a) (h2 : a < 2147483648) : iI a < 0 ↔ a < 0 := iI_lt (b := 0) h1 h2 (by decide) (by decide)
theorem iI_0lt {a : Int} (h1 : -2147483648 ≤ a) (h2 : a < 2147483648) : 0 < iI a ↔ 0 < a := iI_lt (a := 0) (by decide) (by decide) h1 h2
/-- what is known of a kind of floating numbers -/
def Kd (kind : Int32) (fb : Nat) (em : Int) (ga : Nat) : Prop := fX0_fractionBits kind = nI fb ∧ fX0_leastExponent kind = iI em ∧ fX0_greatestAbove kind = iI ga ∧ fX0_infinity kind = lN ((ga + 2) * 2 ^ fb) ∧ fb ≤ 52 ∧ 1 ≤ fb ∧ ga ≤ 2045 ∧ -1074 ≤ em ∧ em ≤ 0 ∧ (ga + 2) * 2 ^ fb < 2 ^ 63
theorem Kd6 : Kd 6 23 (-149) 253 := ⟨by decide, by decide, by decide, by decide, by decide, by decide, by decide, by decide, by decide, by decide⟩
theorem Kd7 : Kd 7 52 (-1074) 2045 := ⟨by decide, by decide, by decide, by decide, by decide, by decide, by decide, by decide, by decide, by decide⟩
theorem nearest_is {kind neg : Int32} {fb ga M : Nat} {em e : Int} (K : Kd kind fb em ga) (h0 : 0 < M) (hM : M < 2 ^ 63) (he1 : -100000 ≤ e) (he2 : e ≤ 100000) :
    fX0_nearest kind neg (lN M) (iI e) = fX0_signed kind neg (lN (min ((ga + 2) * 2 ^ fb) (RD fb M (e - em)))) := by
  obtain ⟨k1, k2, k3, k4, h5, h6, h7, h8, h9, h10⟩ := K
  have hlg := log2_lt h0 hM
  have hlo := log2_lo h0
  have hhi := log2_hi M
  have e6 : (62 : Int32) - nI fb = iI (62 - fb) := by rw [nI_iI, show (62 : Int32) = iI 62 from by decide, iI_sub]
  have e7 : ((iI e - nI (62 - M.log2)) + iI (62 - fb)) - iI em = iI (e - em + M.log2 - fb) := by
    rw [nI_iI, iI_sub, iI_add, iI_sub]; congr 1; omega
  rw [fX0_nearest, fX0_nearest_0, if_neg (by rw [lN_0, lN_inj (by omega) (by omega)]; omega), fX0_nearest_21, fX0_nearest_30, fX0_nearest_45, fX0_nearest_76, k1, k2, k3, k4,
    show fX0_roomBelow (62 : Int32) (lN M) = nI (62 - M.log2) from roomBelow_is (top := 62) h0 (by decide) hM, e6, e7]
  have hsh : jshl (lN M) (nI (62 - M.log2)) = lN (M * 2 ^ (62 - M.log2)) := jshl_lN _ (by omega)
  have hX : M * 2 ^ (62 - M.log2) < 2 ^ 63 := by
    refine Nat.lt_of_lt_of_le (Nat.mul_lt_mul_of_pos_right hhi (Nat.two_pow_pos _)) ?_
    rw [← Nat.pow_add]; exact Nat.pow_le_pow_right (by omega) (by omega)
  have hfb : 2 ^ (fb + 1) = 2 ^ fb + 2 ^ fb := by rw [Nat.pow_succ]; omega
  by_cases c1 : (ga : Int) < e - em + M.log2 - fb
  · rw [if_pos ((iI_lt (by omega) (by omega) (by omega) (by omega)).mpr c1)]
    obtain ⟨d, hd⟩ : ∃ d : Nat, (d : Int) = (e - em + M.log2 - fb).toNat - (e - em) + (62 - M.log2 : Nat) := ⟨(62 - fb : Int).toNat, by omega⟩
    have hb := (kept_bounds h0 hd).2 (by omega)
    have hge : (ga + 2) * 2 ^ fb ≤ RD fb M (e - em) := by
      rw [RD_eval h0 hd]
      have h1 : (ga + 1) * 2 ^ fb ≤ (e - em + M.log2 - fb).toNat * 2 ^ fb := Nat.mul_le_mul_right _ (by omega)
      rw [show ga + 2 = ga + 1 + 1 from rfl, Nat.add_mul, Nat.one_mul]; omega
    rw [Nat.min_eq_left hge]
  · rw [if_neg (fun q => c1 ((iI_lt (by omega) (by omega) (by omega) (by omega)).mp q))]
    have fin : ∀ (t d : Nat), (t : Int) = (e - em + M.log2 - fb).toNat → (d : Int) = (e - em + M.log2 - fb).toNat - (e - em) + (62 - M.log2 : Nat) → 1 ≤ d → d < 2147483648 →
        fX0_nearest_79 kind neg (lN M) (nI (62 - M.log2)) (iI d) (nI t) = fX0_signed kind neg (lN (min ((ga + 2) * 2 ^ fb) (RD fb M (e - em)))) := by
      intro t d ht hd hd1 hd2
      rw [fX0_nearest_79, fX0_nearest_90, k1, hsh, roundedDown_is hX (by omega) (by omega), Int.toNat_natCast, nI_toInt64 (by omega), jshl_lN _ (by omega), lN_add]
      have hR := RD_eval (fb := fb) h0 hd
      have hk := (kept_bounds h0 hd).1
      have hle : RD fb M (e - em) ≤ (ga + 2) * 2 ^ fb := by
        rw [hR]
        have h1 : (e - em + M.log2 - fb).toNat * 2 ^ fb ≤ ga * 2 ^ fb := Nat.mul_le_mul_right _ (by omega)
        rw [Nat.add_mul]; omega
      rw [Nat.min_eq_right hle, hR, show (e - em + M.log2 - fb).toNat = t by omega]
    by_cases c2 : e - em + M.log2 - fb < 0
    · rw [if_pos ((iI_lt0 (by omega) (by omega)).mpr c2), iI_sub]
      have := fin 0 (62 - fb - (e - em + M.log2 - fb) : Int).toNat (by omega) (by omega) (by omega) (by omega)
      rw [Int.toNat_of_nonneg (by omega)] at this
      exact this
    · rw [if_neg (fun q => c2 ((iI_lt0 (by omega) (by omega)).mp q))]
      have := fin (e - em + M.log2 - fb).toNat (62 - fb) (by omega) (by omega) (by omega) (by omega)
      rw [nI_iI (e - em + M.log2 - fb).toNat, Int.toNat_of_nonneg (by omega), show ((62 - fb : Nat) : Int) = 62 - (fb : Int) by omega] at this
      exact this
end
section
theorem iI_mul (a b : Int) : iI a * iI b = iI (a * b) := (Int32.ofInt_mul a b).symm
theorem rounded_loop (v3 v4 v5 : Int32) : ∀ (fuel m : Nat) (e : Int), 0 < m → m < 2 ^ 62 → 62 ≤ fuel + m.log2 → fX2_rounded_6 fuel v3 v4 v5 (lN m) (iI e) = fX2_rounded_27 v3 v4 v5 (lN (m * 2 ^ (61 - m.log2))) (iI (e - (61 - m.log2))) ∧ okX2_rounded_6 fuel v3 v4 v5 (lN m) (iI e) := by
  intro fuel
  induction fuel with
  | zero => intro m e h0 hm hf; have := log2_lt h0 hm; omega
  | succ fuel ih =>
    intro m e h0 hm hf
    rw [fX2_rounded_6, okX2_rounded_6, show (2305843009213693952 : Int64) = lN (2 ^ 61) from rfl]
    have hq := lN_lt63 (show m < 2 ^ 63 by omega) (show 2 ^ 61 < 2 ^ 63 by decide)
    have hl := log2_lt h0 hm
    by_cases hc : m < 2 ^ 61
    · rw [if_pos (hq.mpr hc)]
      have hl1 := log2_lt h0 hc
      have e1 : jshl (lN m) (1 : Int32) = lN (m * 2 ^ 1) := jshl_lN m (k := 1) (by decide)
      have e2 : iI e + (-1 : Int32) = iI (e - 1) := by rw [show (-1 : Int32) = iI (-1) from by decide, iI_add]; congr 1
      have l2 := log2_shl h0 1
      rw [e1, e2]
      obtain ⟨h1, h2⟩ := ih (m * 2 ^ 1) (e - 1) (by omega) (by omega) (by omega)
      refine ⟨?_, fun _ => h2, fun h => absurd (hq.mpr hc) h⟩
      rw [h1, l2, Nat.mul_assoc, ← Nat.pow_add, show 1 + (61 - (m.log2 + 1)) = 61 - m.log2 by omega]
      congr 2
      omega
    · rw [if_neg (fun h => hc (hq.mp h))]
      have := log2_ge (show 2 ^ 61 ≤ m by omega)
      refine ⟨?_, fun h => absurd (hq.mp h) hc, fun _ => trivial⟩
      rw [show 61 - m.log2 = 0 by omega, Nat.pow_zero, Nat.mul_one]
      congr 2
      omega
/-- the reference's rounding of X, and a little more if st is 1, d bits dropped -/
def rst (X d st : Nat) : Nat := if 2 ^ (d - 1) < X % 2 ^ d ∨ (X % 2 ^ d = 2 ^ (d - 1) ∧ (st = 1 ∨ X / 2 ^ d % 2 = 1)) then X / 2 ^ d + 1 else X / 2 ^ d
theorem rst_0 {X d : Nat} (hd : 1 ≤ d) : rst X d 0 = rne X (2 ^ d) := by
  obtain ⟨k, rfl⟩ : ∃ k, d = k + 1 := ⟨d - 1, by omega⟩
  unfold rst rne
  have e : 2 ^ (k + 1) = 2 * 2 ^ k := by rw [Nat.pow_succ]; omega
  rw [show k + 1 - 1 = k from rfl]
  have h1 : (2 ^ k < X % 2 ^ (k + 1)) ↔ (2 ^ (k + 1) < 2 * (X % 2 ^ (k + 1))) := by omega
  have h2 : (X % 2 ^ (k + 1) = 2 ^ k) ↔ (2 * (X % 2 ^ (k + 1)) = 2 ^ (k + 1)) := by omega
  simp only [h1, h2, show ((0 : Nat) = 1) = False from by simp, false_or]
theorem rst_1 {m p g : Nat} : rst (m * 2 ^ p) (g + 1 + p) 1 = rne ((2 * m + 1) * 2 ^ p) (2 ^ (g + 1 + p + 1)) := by
  have hG := Nat.two_pow_pos g
  have hP := Nat.two_pow_pos p
  have hr := Nat.mod_lt m (show 0 < 2 * 2 ^ g by omega)
  have hqr := Nat.div_add_mod m (2 * 2 ^ g)
  have A := rne_in (q := m / (2 * 2 ^ g)) (P := 2 * 2 ^ p) (e := 2 ^ p) hr hP (by omega)
  rw [hqr, show m * (2 * 2 ^ p) + 2 ^ p = (2 * m + 1) * 2 ^ p by rw [Nat.add_mul, Nat.one_mul, Nat.mul_comm 2 m, Nat.mul_assoc],
    show 2 * 2 ^ g * (2 * 2 ^ p) = 2 ^ (g + 1 + p + 1) by rw [Nat.pow_succ, Nat.pow_add, Nat.pow_succ, Nat.mul_comm (2 ^ g) 2, Nat.mul_comm 2 (2 ^ p), Nat.mul_assoc, Nat.mul_assoc, Nat.mul_assoc]] at A
  rw [A]
  unfold rst
  have e1 : 2 ^ (g + 1 + p) = 2 * 2 ^ g * 2 ^ p := by rw [Nat.pow_add, Nat.pow_succ, Nat.mul_comm (2 ^ g) 2]
  have e2 : 2 ^ (g + 1 + p - 1) = 2 ^ g * 2 ^ p := by rw [show g + 1 + p - 1 = g + p by omega, Nat.pow_add]
  rw [e1, e2, Nat.mul_mod_mul_right, Nat.mul_div_mul_right _ _ hP]
  by_cases h : 2 ^ g ≤ m % (2 * 2 ^ g)
  · have := Nat.mul_le_mul_right (2 ^ p) h
    rw [if_pos h, if_pos]
    rcases Nat.lt_or_ge (2 ^ g * 2 ^ p) (m % (2 * 2 ^ g) * 2 ^ p) with q | q
    · exact Or.inl q
    · exact Or.inr ⟨by omega, Or.inl rfl⟩
  · have := Nat.mul_lt_mul_of_pos_right (show m % (2 * 2 ^ g) < 2 ^ g by omega) hP
    rw [if_neg h, if_neg (by omega)]
theorem rounded_82 {X st : Nat} {d : Int} (v4 v9 : Int32) (hX : X < 2 ^ 62) (hst : st ≤ 1) (hd : 1 ≤ d) (hd2 : d ≤ 62) : fX2_rounded_82 (nI st) v4 (lN X) v9 (iI d) = fX2_rounded_152 v4 v9 (lN (rst X d.toNat st)) := by
  rw [fX2_rounded_82, show (62 : Int32) = iI 62 from by decide, if_neg (fun q => by have := (iI_lt (by omega) (by omega) (by omega) (by omega)).mp q; omega)]
  obtain ⟨k, rfl⟩ : ∃ k : Nat, d = (k : Int) + 1 := ⟨(d - 1).toNat, by omega⟩
  rw [show ((k : Int) + 1).toNat = k + 1 by omega, show iI ((k : Int) + 1) = nI (k + 1) from by rw [nI_iI]; rfl]
  rw [fX2_rounded_98, fX2_rounded_109, fX2_rounded_117, fX2_rounded_146]
  rw [mask_lN (by omega) (by omega), jushr_lN (by omega) (by omega), show nI (k + 1) - 1 = nI k from nI_pred k, lN_one, jshl_lN _ (by omega), Nat.one_mul]
  have b1 : 2 ^ k < 2 ^ 63 := Nat.pow_lt_pow_right (by omega) (by omega)
  have b3 : X % 2 ^ (k + 1) < 2 ^ 63 := by have := Nat.mod_le X (2 ^ (k + 1)); omega
  have b4 : X / 2 ^ (k + 1) < 2 ^ 63 := by have := Nat.div_le_self X (2 ^ (k + 1)); omega
  have e3 : (lN (X / 2 ^ (k + 1)) &&& lN 1 = lN 1) ↔ X / 2 ^ (k + 1) % 2 = 1 := by
    rw [show lN (X / 2 ^ (k + 1)) &&& lN 1 = lN (X / 2 ^ (k + 1) % 2) from wb_a1 (by omega), lN_inj (by omega) (by omega)]
  have e4 : (nI st = 0) ↔ ¬ st = 1 := by
    rw [show (0 : Int32) = nI 0 from rfl, nI_eq (by omega) (by omega)]; omega
  unfold rst
  rw [show k + 1 - 1 = k from rfl]
  simp only [lN_lt63 b1 b3, lN_inj (show X % 2 ^ (k + 1) < 2 ^ 64 by omega) (show 2 ^ k < 2 ^ 64 by omega), e3, e4, lN_add]
  by_cases c1 : 2 ^ k < X % 2 ^ (k + 1)
  · rw [if_pos c1, if_pos (Or.inl c1)]
  · rw [if_neg c1]
    by_cases c2 : X % 2 ^ (k + 1) = 2 ^ k
    · rw [if_pos c2]
      by_cases c4 : st = 1
      · rw [if_neg (fun h => h c4), if_pos (Or.inr ⟨c2, Or.inl c4⟩)]
      · rw [if_pos c4]
        by_cases c3 : X / 2 ^ (k + 1) % 2 = 1
        · rw [if_pos c3, if_pos (Or.inr ⟨c2, Or.inr c3⟩)]
        · rw [if_neg c3, if_neg (fun h => h.elim c1 (fun h => h.2.elim c4 c3))]
    · rw [if_neg c2, if_neg (fun h => h.elim c1 (fun h => c2 h.1))]
theorem log2_2s {m st : Nat} (h0 : 0 < m) (hst : st ≤ 1) : (2 * m + st).log2 = m.log2 + 1 := by
  refine log2_is ?_ ?_
  · rw [Nat.pow_succ]; have := log2_lo h0; omega
  · rw [Nat.pow_succ]; have := log2_hi m; omega
/-- RD of a number and a little more, as the reference computes it -/
theorem RD_st {fb m st p d : Nat} {w : Int} (h0 : 0 < m) (hst : st ≤ 1) (hbig : st = 1 → 2 ^ (fb + 1) ≤ m) (hd1 : 1 ≤ d) (hd : (d : Int) = (w + m.log2 - fb).toNat - w + p) : RD fb (2 * m + st) (w - 1) = (w + m.log2 - fb).toNat * 2 ^ fb + rst (m * 2 ^ p) d st := by
  rcases (show st = 0 ∨ st = 1 by omega) with rfl | rfl
  · rw [rst_0 hd1, ← RD_eval h0 hd, Nat.add_zero, Nat.mul_comm 2 m, show m * 2 = m * 2 ^ 1 from rfl, RD_shift h0]
    congr 1; omega
  · have hlg := log2_ge (hbig rfl)
    have l2 := log2_2s (st := 1) h0 (by omega)
    obtain ⟨g, hg⟩ : ∃ g : Nat, d = g + 1 + p := ⟨d - 1 - p, by omega⟩
    rw [RD_eval (M := 2 * m + 1) (p := p) (d := d + 1) (by omega) (by rw [l2]; omega), hg, rst_1, l2]
    congr 2
    congr 1; omega
theorem rounded_is {fb bias m st : Nat} {e : Int} (hfb1 : 1 ≤ fb) (hfb2 : fb ≤ 52) (hbias : bias ≤ 1023) (h0 : 0 < m) (hm : m < 2 ^ 62) (hst : st ≤ 1) (hbig : st = 1 → 2 ^ (fb + 1) ≤ m) (he1 : -100000 ≤ e) (he2 : e ≤ 100000) :
    fX2_rounded (lN m) (iI e) (nI st) (nI (fb + 1)) (nI bias) = lN (min ((2 * bias + 1) * 2 ^ fb) (RD fb (2 * m + st) (e + bias + fb - 2))) ∧ okX2_rounded (lN m) (iI e) (nI st) (nI (fb + 1)) (nI bias) := by
  have hlg := log2_lt h0 hm
  have hhi := log2_hi m
  obtain ⟨q1, q2⟩ := rounded_loop (nI st) (nI (fb + 1)) (nI bias) 64 m e h0 hm (by omega)
  rw [fX2_rounded, fX2_rounded_0, okX2_rounded, okX2_rounded_0]
  refine ⟨?_, q2⟩
  rw [q1, fX2_rounded_27, fX2_rounded_37, fX2_rounded_45]
  have e9 : iI (e - (61 - m.log2)) + (61 : Int32) + nI bias = iI (e + m.log2 + bias) := by
    rw [nI_iI, show (61 : Int32) = iI 61 from by decide, iI_add, iI_add]; congr 1; omega
  have e10 : (2 : Int32) * nI bias + (1 : Int32) = nI (2 * bias + 1) := by
    rw [show (2 : Int32) = nI 2 from rfl, show (1 : Int32) = nI 1 from rfl, pk_mul, nI_add]
  have e11 : (62 : Int32) - nI (fb + 1) = iI (61 - fb) := by
    rw [nI_iI, show (62 : Int32) = iI 62 from by decide, iI_sub]; congr 1; omega
  rw [e9, e10, e11, nI_iI (2 * bias + 1)]
  have hfbp : 2 ^ (fb + 1) = 2 ^ fb + 2 ^ fb := by rw [Nat.pow_succ]; omega
  have hX : m * 2 ^ (61 - m.log2) < 2 ^ 62 := by
    refine Nat.lt_of_lt_of_le (Nat.mul_lt_mul_of_pos_right hhi (Nat.two_pow_pos _)) ?_
    rw [← Nat.pow_add]; exact Nat.pow_le_pow_right (by omega) (by omega)
  have l2 := log2_2s h0 hst
  have hM2 : 0 < 2 * m + st := by omega
  generalize hw : e + bias + fb - 1 = w
  have hT : e + m.log2 + bias = w + m.log2 - fb + 1 := by omega
  rw [show e + bias + fb - 2 = w - 1 by omega, hT]
  by_cases c1 : w + m.log2 - fb + 1 < ((2 * bias + 1 : Nat) : Int)
  · rw [if_pos ((iI_lt (by omega) (by omega) (by omega) (by omega)).mpr c1), fX2_rounded_68]
    have main : ∀ d : Nat, 1 ≤ d → d ≤ 200000 → (d : Int) = (w + m.log2 - fb).toNat - w + (61 - m.log2 : Nat) → fX2_rounded_82 (nI st) (nI (fb + 1)) (lN (m * 2 ^ (61 - m.log2))) (iI (w + m.log2 - fb + 1)) (iI d) = lN (min ((2 * bias + 1) * 2 ^ fb) (RD fb (2 * m + st) (w - 1))) := by
      intro d hd1 hdb hd
      have hR := RD_st (fb := fb) h0 hst hbig hd1 hd
      obtain ⟨p', d', hd'⟩ : ∃ p' d' : Nat, (d' : Int) = (w - 1 + (2 * m + st).log2 - fb).toNat - (w - 1) + p' := ⟨w.toNat, ((w - 1 + (2 * m + st).log2 - fb).toNat - (w - 1) + w.toNat).toNat, by omega⟩
      have hkb := (kept_bounds hM2 hd').1
      have hRe := RD_eval hM2 hd'
      have hle : RD fb (2 * m + st) (w - 1) ≤ (2 * bias + 1) * 2 ^ fb := by
        rw [hRe]
        have h1 : (w - 1 + (2 * m + st).log2 - fb).toNat * 2 ^ fb ≤ (2 * bias - 1) * 2 ^ fb := Nat.mul_le_mul_right _ (by rw [l2]; omega)
        by_cases hb0 : bias = 0
        · rw [hb0] at h1 ⊢
          have : (w - 1 + (2 * m + st).log2 - fb).toNat = 0 := by rw [l2]; omega
          have h2 : rne ((2 * m + st) * 2 ^ p') (2 ^ d') ≤ 2 ^ fb := by
            refine rne_le (Nat.two_pow_pos d') ?_
            have hh := log2_hi (2 * m + st)
            rw [← Nat.pow_add]
            refine Nat.lt_of_lt_of_le (Nat.mul_lt_mul_of_pos_right hh (Nat.two_pow_pos p')) ?_
            rw [← Nat.pow_add]
            exact Nat.pow_le_pow_right (by omega) (by rw [l2] at hd' ⊢; omega)
          rw [this]; omega
        · have h3 : (2 * bias + 1) * 2 ^ fb = (2 * bias - 1) * 2 ^ fb + (2 ^ fb + 2 ^ fb) := by
            rw [show 2 * bias + 1 = (2 * bias - 1) + 2 by omega, Nat.add_mul]; omega
          omega
      rw [Nat.min_eq_right hle, hR]
      by_cases hd62 : d ≤ 62
      · rw [rounded_82 _ _ hX hst (by omega) (by omega), Int.toNat_natCast, fX2_rounded_152]
        by_cases c2 : 0 < w + m.log2 - fb + 1
        · rw [if_pos ((iI_0lt (by omega) (by omega)).mpr c2), show (1 : Int32) = iI 1 from by decide, iI_sub, show w + m.log2 - fb + 1 - 1 = w + m.log2 - fb by omega, nI_iI_toNat (show 0 ≤ w + m.log2 - fb by omega), nI_toInt64 (by omega),
            show nI (fb + 1) - iI 1 = nI fb from nI_pred fb, jshl_lN _ (by omega), lN_add]
        · rw [if_neg (fun q => c2 ((iI_0lt (by omega) (by omega)).mp q)), show (w + m.log2 - fb).toNat = 0 by omega, Nat.zero_mul, Nat.zero_add]
      · have hT0 : (w + m.log2 - fb).toNat = 0 := by omega
        rw [fX2_rounded_82, show (62 : Int32) = iI 62 from by decide, if_pos ((iI_lt (by omega) (by omega) (by omega) (by omega)).mpr (by omega)), hT0, Nat.zero_mul, Nat.zero_add]
        have h62 : 2 ^ 62 ≤ 2 ^ (d - 1) := Nat.pow_le_pow_right (by omega) (by omega)
        have h63 : 2 ^ (d - 1) ≤ 2 ^ d := Nat.pow_le_pow_right (by omega) (by omega)
        unfold rst
        rw [Nat.mod_eq_of_lt (by omega), Nat.div_eq_of_lt (by omega), if_neg (by omega)]
        rfl
    by_cases c2 : 0 < w + m.log2 - fb + 1
    · rw [if_pos ((iI_0lt (by omega) (by omega)).mpr c2), show (61 - (fb : Int)) = ((61 - fb : Nat) : Int) by omega]
      exact main (61 - fb) (by omega) (by omega) (by omega)
    · rw [if_neg (fun q => c2 ((iI_0lt (by omega) (by omega)).mp q)), show (1 : Int32) = iI 1 from by decide, iI_add, iI_sub]
      have := main (61 - fb + 1 - (w + m.log2 - fb + 1) : Int).toNat (by omega) (by omega) (by omega)
      rw [Int.toNat_of_nonneg (by omega)] at this
      exact this
  · rw [if_neg (fun q => c1 ((iI_lt (by omega) (by omega) (by omega) (by omega)).mp q)), ← nI_iI, nI_toInt64 (by omega), show nI (fb + 1) - 1 = nI fb from nI_pred fb, jshl_lN _ (by omega)]
    obtain ⟨p', d', hd'⟩ : ∃ p' d' : Nat, (d' : Int) = (w - 1 + (2 * m + st).log2 - fb).toNat - (w - 1) + p' := ⟨w.toNat, ((w - 1 + (2 * m + st).log2 - fb).toNat - (w - 1) + w.toNat).toNat, by omega⟩
    have hkb := (kept_bounds hM2 hd').2 (by rw [l2]; omega)
    have hge : (2 * bias + 1) * 2 ^ fb ≤ RD fb (2 * m + st) (w - 1) := by
      rw [RD_eval hM2 hd']
      have h1 : (2 * bias) * 2 ^ fb ≤ (w - 1 + (2 * m + st).log2 - fb).toNat * 2 ^ fb := Nat.mul_le_mul_right _ (by rw [l2]; omega)
      rw [Nat.add_mul, Nat.one_mul]; omega
    rw [Nat.min_eq_left hge]
end
section
/-! ===== Int32 by its bits: bt x i ===== -/
def bt (x : Int32) (i : Nat) : Bool := x.toBitVec.getLsbD i
theorem b_ext {x y : Int32} (h : ∀ i, i < 32 → bt x i = bt y i) : x = y := Int32.toBitVec_inj.mp (BitVec.eq_of_getLsbD_eq (fun i hi => h i hi))
theorem b_or (x y : Int32) (i : Nat) : bt (x ||| y) i = (bt x i || bt y i) := by unfold bt; rw [Int32.toBitVec_or, BitVec.getLsbD_or]
theorem b_and (x y : Int32) (i : Nat) : bt (x &&& y) i = (bt x i && bt y i) := by unfold bt; rw [Int32.toBitVec_and, BitVec.getLsbD_and]
theorem b_xor (x y : Int32) (i : Nat) : bt (x ^^^ y) i = (bt x i ^^ bt y i) := by unfold bt; rw [Int32.toBitVec_xor, BitVec.getLsbD_xor]
theorem b_big {x : Int32} {i : Nat} (h : 32 ≤ i) : bt x i = false := BitVec.getLsbD_of_ge _ _ h
theorem b_255 (i : Nat) : bt 255 i = decide (i < 8) := by
  rcases Nat.lt_or_ge i 32 with h | h
  · exact (by decide +kernel : ∀ i, i < 32 → bt 255 i = decide (i < 8)) i h
  · rw [b_big h, decide_eq_false (by omega)]
theorem b_65535 (i : Nat) : bt 65535 i = decide (i < 16) := by
  rcases Nat.lt_or_ge i 32 with h | h
  · exact (by decide +kernel : ∀ i, i < 32 → bt 65535 i = decide (i < 16)) i h
  · rw [b_big h, decide_eq_false (by omega)]
theorem b_m1 : ∀ i, i < 32 → bt (-1) i = true := by decide +kernel
theorem b_0 (i : Nat) : bt 0 i = false := BitVec.getLsbD_zero
theorem s_l : ∀ n, n < 32 → ((nI n &&& 31).toBitVec.smod 32).toNat = n := by decide +kernel
theorem s_u : ∀ n, n < 32 → (((nI n).toUInt32 &&& Int32.toUInt32 31).toBitVec % 32).toNat = n := by decide +kernel
theorem b_shl (n : Nat) (hn : n < 32) (x : Int32) {i : Nat} (hi : i < 32) : bt (x <<< (nI n &&& 31)) i = (decide (n ≤ i) && bt x (i - n)) := by
  unfold bt
  rw [Int32.toBitVec_shiftLeft]
  show (x.toBitVec <<< ((nI n &&& 31).toBitVec.smod 32).toNat).getLsbD i = _
  rw [s_l n hn, BitVec.getLsbD_shiftLeft]
  rcases Nat.lt_or_ge i n with h | h
  · simp [h, Nat.not_le.mpr h]
  · simp [hi, h, Nat.not_lt.mpr h]
theorem b_ushr (n : Nat) (hn : n < 32) (x : Int32) (i : Nat) : bt ((x.toUInt32 >>> ((nI n).toUInt32 &&& Int32.toUInt32 31)).toInt32) i = bt x (n + i) := by
  show (x.toUInt32 >>> ((nI n).toUInt32 &&& Int32.toUInt32 31)).toBitVec.getLsbD i = x.toUInt32.toBitVec.getLsbD (n + i)
  rw [UInt32.toBitVec_shiftRight]
  show (x.toUInt32.toBitVec >>> (((nI n).toUInt32 &&& Int32.toUInt32 31).toBitVec % 32).toNat).getLsbD i = _
  rw [s_u n hn, BitVec.getLsbD_ushiftRight]
theorem b_sshr (n : Nat) (hn : n < 32) (x : Int32) {i : Nat} (hi : i < 32) : bt (x >>> (nI n &&& 31)) i = if n + i < 32 then bt x (n + i) else bt x 31 := by
  unfold bt
  rw [Int32.toBitVec_shiftRight]
  show (x.toBitVec.sshiftRight ((nI n &&& 31).toBitVec.smod 32).toNat).getLsbD i = _
  rw [s_l n hn, BitVec.getLsbD_sshiftRight, BitVec.msb_eq_getLsbD_last]
  simp [hi]
theorem b_shl8 (x : Int32) {i : Nat} (hi : i < 32) : bt (x <<< ((8 : Int32) &&& 31)) i = (decide (8 ≤ i) && bt x (i - 8)) := b_shl 8 (by omega) x hi
theorem b_shl16 (x : Int32) {i : Nat} (hi : i < 32) : bt (x <<< ((16 : Int32) &&& 31)) i = (decide (16 ≤ i) && bt x (i - 16)) := b_shl 16 (by omega) x hi
theorem b_shl24 (x : Int32) {i : Nat} (hi : i < 32) : bt (x <<< ((24 : Int32) &&& 31)) i = (decide (24 ≤ i) && bt x (i - 24)) := b_shl 24 (by omega) x hi
theorem b_sshr8 (x : Int32) {i : Nat} (hi : i < 32) : bt (x >>> ((8 : Int32) &&& 31)) i = if 8 + i < 32 then bt x (8 + i) else bt x 31 := b_sshr 8 (by omega) x hi
/-! a sign s and a size z in one word -/
theorem nat_and_pow {s z sb : Nat} (hs : s ≤ 1) (hz : z < 2 ^ sb) : (s * 2 ^ sb + z) &&& 2 ^ sb = s * 2 ^ sb := by
  apply Nat.eq_of_testBit_eq
  intro i
  rw [Nat.testBit_and, Nat.testBit_two_pow]
  rcases (show s = 0 ∨ s = 1 by omega) with rfl | rfl
  · rw [Nat.zero_mul, Nat.zero_add, Nat.zero_testBit]
    by_cases hi : sb = i
    · subst hi; rw [Nat.testBit_lt_two_pow hz]; rfl
    · simp [hi]
  · rw [Nat.one_mul, Nat.testBit_two_pow]
    by_cases hi : sb = i
    · subst hi; rw [Nat.testBit_two_pow_add_eq, Nat.testBit_lt_two_pow hz]; simp
    · simp [hi]
theorem nat_or_pow {z sb : Nat} (hz : z < 2 ^ sb) : z ||| 2 ^ sb = 1 * 2 ^ sb + z := by
  have := Nat.two_pow_add_eq_or_of_lt hz 1
  rw [Nat.mul_one] at this
  rw [Nat.or_comm, ← this, Nat.one_mul]
theorem nat_xor_pow {s z sb : Nat} (hs : s ≤ 1) (hz : z < 2 ^ sb) : (s * 2 ^ sb + z) ^^^ 2 ^ sb = (1 - s) * 2 ^ sb + z := by
  have h0 : z ^^^ 2 ^ sb = 2 ^ sb + z := by
    apply Nat.eq_of_testBit_eq
    intro i
    rw [Nat.testBit_xor, Nat.testBit_two_pow]
    by_cases hi : sb = i
    · subst hi; rw [Nat.testBit_two_pow_add_eq, Nat.testBit_lt_two_pow hz]; simp
    · rcases Nat.lt_or_ge i sb with q | q
      · rw [Nat.testBit_two_pow_add_gt q]; simp [hi]
      · have hz2 : z < 2 ^ i := Nat.lt_of_lt_of_le hz (Nat.pow_le_pow_right (by omega) q)
        have h2 : 2 ^ sb + z < 2 ^ i := by
          have : 2 ^ (sb + 1) ≤ 2 ^ i := Nat.pow_le_pow_right (by omega) (by omega)
          rw [Nat.pow_succ] at this; omega
        rw [Nat.testBit_lt_two_pow hz2, Nat.testBit_lt_two_pow h2]; simp [hi]
  rcases (show s = 0 ∨ s = 1 by omega) with rfl | rfl
  · rw [Nat.zero_mul, Nat.zero_add, h0]; omega
  · rw [Nat.one_mul, ← h0, Nat.xor_assoc, Nat.xor_self, Nat.xor_zero]; omega
/-- the sign's bit of a kind -/
def Ks (kind : Int32) (sb : Nat) : Prop := fX0_signBit kind = lN (2 ^ sb) ∧ sb ≤ 63 ∧ (∀ u : Nat, u < 2 ^ (sb + 1) → lN u &&& (fX0_signBit kind ^^^ (-1 : Int64)) = lN (u % 2 ^ sb))
theorem Ks6 : Ks 6 31 := by
  refine ⟨by decide, by decide, fun u hu => ?_⟩
  rw [show fX0_signBit 6 ^^^ (-1 : Int64) = lN (2 ^ 64 - 1 - 2 ^ 31) from by decide, wb_and (by omega) (by decide)]
  congr 1
  have e1 : u = u &&& (2 ^ 32 - 1) := by rw [Nat.and_two_pow_sub_one_eq_mod, Nat.mod_eq_of_lt hu]
  rw [e1, Nat.and_assoc, show (2 ^ 32 - 1) &&& (2 ^ 64 - 1 - 2 ^ 31) = 2 ^ 31 - 1 from by decide, Nat.and_two_pow_sub_one_eq_mod, ← e1]
theorem Ks7 : Ks 7 63 := by
  refine ⟨by decide, by decide, fun u hu => ?_⟩
  rw [show fX0_signBit 7 ^^^ (-1 : Int64) = lN (2 ^ 63 - 1) from by decide]
  exact wb_mask (by omega) (by decide)
theorem sz_lt {s z sb : Nat} (hs : s ≤ 1) (hz : z < 2 ^ sb) : s * 2 ^ sb + z < 2 ^ (sb + 1) := by
  rw [Nat.pow_succ]
  have := Nat.mul_le_mul_right (2 ^ sb) hs
  omega
theorem sz_mod {s z sb : Nat} (hz : z < 2 ^ sb) : (s * 2 ^ sb + z) % 2 ^ sb = z := by
  rw [Nat.mul_comm, Nat.mul_add_mod, Nat.mod_eq_of_lt hz]
section KIND
variable {kind : Int32} {sb s z : Nat}
theorem size_is (K : Ks kind sb) (hs : s ≤ 1) (hz : z < 2 ^ sb) : fX0_size kind (lN (s * 2 ^ sb + z)) = lN z := by
  rw [fX0_size, fX0_size_0, K.2.2 _ (sz_lt hs hz), sz_mod hz]
theorem neg_is (K : Ks kind sb) (hs : s ≤ 1) (hz : z < 2 ^ sb) : fX0_isNegative kind (lN (s * 2 ^ sb + z)) = nI s := by
  have h1 := sz_lt hs hz
  have hsb := K.2.1
  have h2 : 2 ^ (sb + 1) ≤ 2 ^ 64 := Nat.pow_le_pow_right (by omega) (by omega)
  have h3 : 2 ^ sb < 2 ^ (sb + 1) := Nat.pow_lt_pow_right (by omega) (by omega)
  rw [fX0_isNegative, fX0_isNegative_0, K.1, wb_and (by omega) (by omega), nat_and_pow hs hz, lN_0]
  rcases (show s = 0 ∨ s = 1 by omega) with rfl | rfl
  · rw [Nat.zero_mul, if_pos rfl]; rfl
  · rw [Nat.one_mul, if_neg (by rw [lN_inj (by omega) (by decide)]; omega)]; rfl
theorem signed_is (K : Ks kind sb) (hs : s ≤ 1) (hz : z < 2 ^ sb) : fX0_signed kind (nI s) (lN z) = lN (s * 2 ^ sb + z) := by
  have hsb := K.2.1
  have h2 : 2 ^ sb ≤ 2 ^ 63 := Nat.pow_le_pow_right (by omega) (by omega)
  rw [fX0_signed, fX0_signed_0, K.1]
  rcases (show s = 0 ∨ s = 1 by omega) with rfl | rfl
  · rw [if_pos (show nI 0 = 0 from rfl), Nat.zero_mul, Nat.zero_add]
  · rw [if_neg (show ¬ nI 1 = 0 by decide), wb_or (by omega) (by omega), nat_or_pow hz]
theorem negated_is (K : Ks kind sb) (hs : s ≤ 1) (hz : z < 2 ^ sb) : fX0_negated kind (lN (s * 2 ^ sb + z)) = lN ((1 - s) * 2 ^ sb + z) := by
  rw [fX0_negated, fX0_negated_0, K.1, lN_xor, nat_xor_pow hs hz]
theorem ite_eq10 {c d : Prop} [Decidable c] [Decidable d] (h : c ↔ d) : (if c then (1 : Int32) else 0) = if d then 1 else 0 := by simp only [h]
theorem inf_is {fb ga : Nat} {em : Int} (K : Ks kind sb) (F : Kd kind fb em ga) (hs : s ≤ 1) (hz : z < 2 ^ sb) : fX0_isInfinite kind (lN (s * 2 ^ sb + z)) = if z = (ga + 2) * 2 ^ fb then 1 else 0 := by
  have h2 : 2 ^ sb ≤ 2 ^ 63 := Nat.pow_le_pow_right (by omega) K.2.1
  have h10 := F.2.2.2.2.2.2.2.2.2
  rw [fX0_isInfinite, fX0_isInfinite_0, size_is K hs hz, F.2.2.2.1]
  exact ite_eq10 (lN_inj (by omega) (by omega))
theorem zero_is (K : Ks kind sb) (hs : s ≤ 1) (hz : z < 2 ^ sb) : fX0_isZero kind (lN (s * 2 ^ sb + z)) = if z = 0 then 1 else 0 := by
  have h2 : 2 ^ sb ≤ 2 ^ 63 := Nat.pow_le_pow_right (by omega) K.2.1
  rw [fX0_isZero, fX0_isZero_0, size_is K hs hz, lN_0]
  exact ite_eq10 (lN_inj (by omega) (by omega))
theorem num_is {fb ga : Nat} {em : Int} (K : Ks kind sb) (F : Kd kind fb em ga) (hs : s ≤ 1) (hz : z < 2 ^ sb) : fX0_isNumber kind (lN (s * 2 ^ sb + z)) = if z ≤ (ga + 2) * 2 ^ fb then 1 else 0 := by
  have h2 : 2 ^ sb ≤ 2 ^ 63 := Nat.pow_le_pow_right (by omega) K.2.1
  have h10 := F.2.2.2.2.2.2.2.2.2
  rw [fX0_isNumber, fX0_isNumber_0, size_is K hs hz, fX0_isNumber_6, lN_0, F.2.2.2.1, if_neg (by rw [lN_lt63 (by omega) (by omega)]; omega)]
  by_cases h : z ≤ (ga + 2) * 2 ^ fb
  · rw [if_neg (by rw [lN_lt63 (by omega) (by omega)]; omega), if_pos h]
  · rw [if_pos (by rw [lN_lt63 (by omega) (by omega)]; omega), if_neg h]
theorem mag_is {fb ga : Nat} {em : Int} (K : Ks kind sb) (F : Kd kind fb em ga) (hfs : fb < sb) (hs : s ≤ 1) (hz : z < 2 ^ sb) : fX0_magnitude kind (lN (s * 2 ^ sb + z)) = lN (Mg fb z) := by
  have hlt := sz_lt hs hz
  have hsb := K.2.1
  have hfb := F.2.2.2.2.1
  have h2 : 2 ^ (sb + 1) ≤ 2 ^ 64 := Nat.pow_le_pow_right (by omega) (by omega)
  have h3 : 2 ^ fb < 2 ^ 63 := Nat.pow_lt_pow_right (by omega) (by omega)
  have h4 : 2 ^ sb ≤ 2 ^ 63 := Nat.pow_le_pow_right (by omega) K.2.1
  rw [fX0_magnitude, fX0_magnitude_0, fX0_magnitude_7, fX0_magnitude_14, size_is K hs hz, F.1, mask_lN (by omega) (by omega), lN_one, jshl_lN _ (by omega), Nat.one_mul]
  have e1 : (s * 2 ^ sb + z) % 2 ^ fb = z % 2 ^ fb := by
    rw [show 2 ^ sb = 2 ^ fb * 2 ^ (sb - fb) by rw [← Nat.pow_add]; congr 1; omega, Nat.mul_comm s, Nat.mul_assoc, Nat.mul_add_mod]
  rw [e1, lN_add]
  unfold Mg
  by_cases h : z < 2 ^ fb
  · rw [if_pos ((lN_lt63 (by omega) (by omega)).mpr h), if_pos h, Nat.mod_eq_of_lt h]
  · rw [if_neg (fun q => h ((lN_lt63 (by omega) (by omega)).mp q)), if_neg h]
theorem exp_is {fb ga : Nat} {em : Int} (K : Ks kind sb) (F : Kd kind fb em ga) (hb : z / 2 ^ fb < 100000) (hs : s ≤ 1) (hz : z < 2 ^ sb) : fX0_exponent kind (lN (s * 2 ^ sb + z)) = iI (em + Xp fb z) := by
  have h4 : 2 ^ sb ≤ 2 ^ 63 := Nat.pow_le_pow_right (by omega) K.2.1
  have hfb := F.2.2.2.2.1
  rw [fX0_exponent, fX0_exponent_0, fX0_exponent_12, size_is K hs hz, F.1, F.2.1, jushr_lN (by omega) (by omega), lN_i, imax, show (1 : Int32) = nI 1 from rfl]
  unfold Xp
  by_cases h : z / 2 ^ fb < 1
  · rw [if_pos ((nI_ltI (by omega) (by omega)).mpr h), nI_iI, iI_add, iI_sub]; congr 1; omega
  · rw [if_neg (fun q => h ((nI_ltI (by omega) (by omega)).mp q)), nI_iI, nI_iI, iI_add, iI_sub]; congr 1; omega
end KIND
end
section
/-! the reference's view of a double: sign s, size z -/
def INF64 : Nat := 2047 * 2 ^ 52
def INF32 : Nat := 255 * 2 ^ 23
def Sg (fb z : Nat) : Nat := Mg fb z * 2 ^ (52 - (Mg fb z).log2)
def Eg (fb : Nat) (em : Int) (z : Nat) : Int := em + Xp fb z - (52 - (Mg fb z).log2 : Nat)
theorem Sg_bounds {fb z : Nat} (hfb : fb ≤ 52) (h : 0 < z) : 2 ^ 52 ≤ Sg fb z ∧ Sg fb z < 2 ^ 53 := by
  have hm := Mg_pos (fb := fb) h
  have h1 := log2_lt hm (Mg_lt fb z)
  have hlo := log2_lo hm
  have hhi := log2_hi (Mg fb z)
  unfold Sg
  constructor
  · refine Nat.le_trans ?_ (Nat.mul_le_mul_right _ hlo)
    rw [← Nat.pow_add]; exact Nat.pow_le_pow_right (by omega) (by omega)
  · refine Nat.lt_of_lt_of_le (Nat.mul_lt_mul_of_pos_right hhi (Nat.two_pow_pos _)) ?_
    rw [← Nat.pow_add]; exact Nat.pow_le_pow_right (by omega) (by omega)
section DBL
variable {s z : Nat}
theorem d_u (hs : s ≤ 1) (hz : z < 2 ^ 63) : s * 2 ^ 63 + z < 2 ^ 64 := sz_lt hs hz
theorem d_abs (hs : s ≤ 1) (hz : z < 2 ^ 63) : lN (s * 2 ^ 63 + z) &&& (9223372036854775807 : Int64) = lN z := by
  rw [show (9223372036854775807 : Int64) = lN (2 ^ 63 - 1) from rfl, wb_mask (d_u hs hz) (by decide), sz_mod hz]
theorem d_lt0 (hs : s ≤ 1) (hz : z < 2 ^ 63) : lN (s * 2 ^ 63 + z) < 0 ↔ s = 1 := by
  have := d_u hs hz
  rw [Int64.lt_iff_toInt_lt, lN_ti this, show (0 : Int64).toInt = 0 from rfl]
  rcases (show s = 0 ∨ s = 1 by omega) with rfl | rfl
  · rw [if_pos (by omega)]; omega
  · rw [if_neg (by omega)]; omega
theorem none_is (hs : s ≤ 1) (hz : z < 2 ^ 63) : fX2_isNone (lN (s * 2 ^ 63 + z)) = if z ≤ INF64 then 0 else 1 := by
  rw [fX2_isNone, fX2_isNone_0, d_abs hs hz, show (9218868437227405312 : Int64) = lN INF64 from rfl]
  have h9 : INF64 < 2 ^ 63 := by decide
  by_cases h : z ≤ INF64
  · rw [if_neg (by rw [lN_lt63 h9 hz]; omega), if_pos h]
  · rw [if_pos (by rw [lN_lt63 h9 hz]; omega), if_neg h]
theorem infd_is (hs : s ≤ 1) (hz : z < 2 ^ 63) : fX2_isInfinite (lN (s * 2 ^ 63 + z)) = if z = INF64 then 1 else 0 := by
  rw [fX2_isInfinite, fX2_isInfinite_0, d_abs hs hz, show (9218868437227405312 : Int64) = lN INF64 from rfl]
  exact ite_eq10 (lN_inj (by omega) (by decide))
theorem zerod_is (hs : s ≤ 1) (hz : z < 2 ^ 63) : fX2_isZero (lN (s * 2 ^ 63 + z)) = if z = 0 then 1 else 0 := by
  rw [fX2_isZero, fX2_isZero_0, d_abs hs hz, lN_0]
  exact ite_eq10 (lN_inj (by omega) (by decide))
theorem jshr_pos {n k : Nat} (hn : n < 2 ^ 63) (hk : k < 64) : jshr (lN n) (nI k) = lN (n / 2 ^ k) := by
  unfold jshr
  rw [wb_c k hk]
  apply Int64.toBitVec_inj.mp
  rw [Int64.toBitVec_shiftRight, wb_tb, wb_tb, wb_tb, wb_sm k hk]
  apply BitVec.eq_of_toNat_eq
  have hm : (BitVec.ofNat 64 n).msb = false := by
    rw [BitVec.msb_eq_decide, BitVec.toNat_ofNat, Nat.mod_eq_of_lt (by omega)]
    simp; omega
  rw [BitVec.sshiftRight'] 
  rw [BitVec.sshiftRight_eq_of_msb_false hm]
  rw [BitVec.toNat_ushiftRight, BitVec.toNat_ofNat, BitVec.toNat_ofNat, BitVec.toNat_ofNat, Nat.mod_eq_of_lt (show k < 2 ^ 64 by omega), Nat.mod_eq_of_lt (show n < 2 ^ 64 by omega), Nat.shiftRight_eq_div_pow, Nat.mod_eq_of_lt (Nat.lt_of_le_of_lt (Nat.div_le_self _ _) (show n < 2 ^ 64 by omega))]
theorem jshr_neg {n k : Nat} (hn : n < 2 ^ 64) (hn2 : 2 ^ 63 ≤ n) (hk : k < 64) : jshr (lN n) (nI k) = lN (2 ^ 64 - 1 - (2 ^ 64 - 1 - n) / 2 ^ k) := by
  unfold jshr
  rw [wb_c k hk]
  apply Int64.toBitVec_inj.mp
  rw [Int64.toBitVec_shiftRight, wb_tb, wb_tb, wb_tb, wb_sm k hk]
  apply BitVec.eq_of_toNat_eq
  have hm : (BitVec.ofNat 64 n).msb = true := by
    rw [BitVec.msb_eq_decide, BitVec.toNat_ofNat, Nat.mod_eq_of_lt (by omega)]
    simp; omega
  rw [BitVec.sshiftRight']
  rw [BitVec.sshiftRight_eq_of_msb_true hm]
  rw [BitVec.toNat_not, BitVec.toNat_ushiftRight, BitVec.toNat_not, BitVec.toNat_ofNat, BitVec.toNat_ofNat, BitVec.toNat_ofNat, Nat.mod_eq_of_lt (show k < 2 ^ 64 by omega), Nat.mod_eq_of_lt hn, Nat.shiftRight_eq_div_pow, Nat.mod_eq_of_lt (Nat.lt_of_le_of_lt (Nat.sub_le _ _) (by decide))]
theorem d_field (hs : s ≤ 1) (hz : z < 2 ^ 63) : jshr (lN (s * 2 ^ 63 + z)) (52 : Int32) &&& (2047 : Int64) = lN (z / 2 ^ 52) := by
  have hu := d_u hs hz
  rw [show (52 : Int32) = nI 52 from rfl, show (2047 : Int64) = lN (2 ^ 11 - 1) from rfl]
  rcases (show s = 0 ∨ s = 1 by omega) with rfl | rfl
  · rw [Nat.zero_mul, Nat.zero_add, jshr_pos hz (by decide), wb_mask (by omega) (by decide), Nat.mod_eq_of_lt (by omega)]
  · rw [jshr_neg hu (by omega) (by decide), wb_mask (by omega) (by decide)]
    congr 1
    omega
theorem d_frac (hs : s ≤ 1) (hz : z < 2 ^ 63) : lN (s * 2 ^ 63 + z) &&& (4503599627370495 : Int64) = lN (z % 2 ^ 52) := by
  have hu := d_u hs hz
  rw [show (4503599627370495 : Int64) = lN (2 ^ 52 - 1) from rfl, wb_mask hu (by decide)]
  congr 1
  omega
theorem exp_loop : ∀ (fuel m : Nat) (e : Int), 0 < m → m < 2 ^ 53 → 53 ≤ fuel + m.log2 → fX2_exponent_31 fuel (iI e) (lN m) = iI (e - (52 - m.log2 : Nat)) ∧ okX2_exponent_31 fuel (iI e) (lN m) := by
  intro fuel
  induction fuel with
  | zero => intro m e h0 hm hf; have := log2_lt h0 hm; omega
  | succ fuel ih =>
    intro m e h0 hm hf
    rw [fX2_exponent_31, okX2_exponent_31, show (4503599627370496 : Int64) = lN (2 ^ 52) from rfl]
    have hq := lN_lt63 (show m < 2 ^ 63 by omega) (show 2 ^ 52 < 2 ^ 63 by decide)
    have hl := log2_lt h0 hm
    by_cases hc : m < 2 ^ 52
    · have hl1 := log2_lt h0 hc
      have l2 := log2_shl h0 1
      rw [if_pos (hq.mpr hc), show jshl (lN m) (1 : Int32) = lN (m * 2 ^ 1) from jshl_lN m (k := 1) (by decide), show (-1 : Int32) = iI (-1) from by decide, iI_add]
      obtain ⟨h1, h2⟩ := ih (m * 2 ^ 1) (e + -1) (by omega) (by omega) (by omega)
      refine ⟨?_, fun _ => h2, fun h => absurd (hq.mpr hc) h⟩
      rw [h1, l2]; congr 1; omega
    · have := log2_ge (show 2 ^ 52 ≤ m by omega)
      rw [if_neg (fun h => hc (hq.mp h))]
      refine ⟨?_, fun h => absurd (hq.mp h) hc, fun _ => trivial⟩
      congr 1; omega
theorem sig_loop : ∀ (fuel m : Nat), 0 < m → m < 2 ^ 53 → 53 ≤ fuel + m.log2 → fX2_significand_25 fuel (lN m) = lN (m * 2 ^ (52 - m.log2)) ∧ okX2_significand_25 fuel (lN m) := by
  intro fuel
  induction fuel with
  | zero => intro m h0 hm hf; have := log2_lt h0 hm; omega
  | succ fuel ih =>
    intro m h0 hm hf
    rw [fX2_significand_25, okX2_significand_25, show (4503599627370496 : Int64) = lN (2 ^ 52) from rfl]
    have hq := lN_lt63 (show m < 2 ^ 63 by omega) (show 2 ^ 52 < 2 ^ 63 by decide)
    have hl := log2_lt h0 hm
    by_cases hc : m < 2 ^ 52
    · have hl1 := log2_lt h0 hc
      have l2 := log2_shl h0 1
      rw [if_pos (hq.mpr hc), show jshl (lN m) (1 : Int32) = lN (m * 2 ^ 1) from jshl_lN m (k := 1) (by decide)]
      obtain ⟨h1, h2⟩ := ih (m * 2 ^ 1) (by omega) (by omega) (by omega)
      refine ⟨?_, fun _ => h2, fun h => absurd (hq.mpr hc) h⟩
      rw [h1, l2, Nat.mul_assoc, ← Nat.pow_add]; congr 3; omega
    · have := log2_ge (show 2 ^ 52 ≤ m by omega)
      rw [if_neg (fun h => hc (hq.mp h))]
      refine ⟨?_, fun h => absurd (hq.mp h) hc, fun _ => trivial⟩
      rw [show 52 - m.log2 = 0 by omega, Nat.pow_zero, Nat.mul_one]
theorem Mg52_log {z : Nat} (h : 2 ^ 52 ≤ z) : (Mg 52 z).log2 = 52 := log2_is (Mg_ge h) (Mg_lt 52 z)
theorem expd_is (hs : s ≤ 1) (h0 : 0 < z) (hz : z < INF64) : fX2_exponent (lN (s * 2 ^ 63 + z)) = iI (Eg 52 (-1074) z) ∧ okX2_exponent (lN (s * 2 ^ 63 + z)) := by
  have h9 : INF64 = 2047 * 2 ^ 52 := rfl
  have hz63 : z < 2 ^ 63 := by omega
  rw [fX2_exponent, fX2_exponent_0, fX2_exponent_10, okX2_exponent, okX2_exponent_0, okX2_exponent_10, d_field hs hz63, d_frac hs hz63, lN_i]
  unfold Eg
  by_cases h : z < 2 ^ 52
  · have hF : z / 2 ^ 52 = 0 := by omega
    have hn : ¬ (0 : Int32) < nI 0 := by decide
    rw [hF, if_neg hn, Nat.mod_eq_of_lt h, Mg_Xp h]
    obtain ⟨h1, h2⟩ := exp_loop 64 z (-1074) h0 (by omega) (by omega)
    refine ⟨?_, fun q => absurd q hn, fun _ => h2⟩
    rw [show Mg 52 z = z by unfold Mg; rw [if_pos h], show (-1074 : Int32) = iI (-1074) from by decide, h1]
    congr 1
  · have hp : (0 : Int32) < nI (z / 2 ^ 52) := (nI_ltI (a := 0) (by decide) (by omega)).mpr (by omega)
    rw [if_pos hp, Mg52_log (by omega)]
    refine ⟨?_, fun _ => trivial, fun q => absurd hp q⟩
    unfold Xp
    rw [nI_iI, show (1075 : Int32) = iI 1075 from by decide, iI_sub]; congr 1; omega
theorem sigd_is (hs : s ≤ 1) (h0 : 0 < z) (hz : z < INF64) : fX2_significand (lN (s * 2 ^ 63 + z)) = lN (Sg 52 z) ∧ okX2_significand (lN (s * 2 ^ 63 + z)) := by
  have h9 : INF64 = 2047 * 2 ^ 52 := rfl
  have hz63 : z < 2 ^ 63 := by omega
  rw [fX2_significand, fX2_significand_0, fX2_significand_6, okX2_significand, okX2_significand_0, okX2_significand_6, d_field hs hz63, d_frac hs hz63]
  unfold Sg
  by_cases h : z < 2 ^ 52
  · have hF : z / 2 ^ 52 = 0 := by omega
    have hn : ¬ (0 : Int64) < lN 0 := by decide
    rw [hF, if_neg hn, Nat.mod_eq_of_lt h]
    obtain ⟨h1, h2⟩ := sig_loop 64 z h0 (by omega) (by omega)
    refine ⟨?_, fun q => absurd q hn, fun _ => h2⟩
    rw [show Mg 52 z = z by unfold Mg; rw [if_pos h], h1]
  · have hp : (0 : Int64) < lN (z / 2 ^ 52) := (lN_lt63 (a := 0) (by decide) (by omega)).mpr (by omega)
    rw [if_pos hp, Mg52_log (by omega)]
    refine ⟨?_, fun _ => trivial, fun q => absurd hp q⟩
    have hm := Nat.mod_lt z (show 0 < 2 ^ 52 by decide)
    rw [show (4503599627370496 : Int64) = lN (2 ^ 52) from rfl, wb_or (by omega) (by decide), nat_or_pow hm, show 52 - 52 = 0 from rfl, Nat.pow_zero, Nat.mul_one]
    unfold Mg
    rw [if_neg h]; congr 1; omega
end DBL
end
section
/-! a float's bits: sign s, size z below 2^31 -/
theorem iI_2_32 (a : Int) : iI (a - 4294967296) = iI a := by
  rw [← iI_sub, show iI 4294967296 = iI 0 from by decide, iI_sub]; congr 1; omega
theorem rounded53 {m st : Nat} {e : Int} (h0 : 0 < m) (hm : m < 2 ^ 62) (hst : st ≤ 1) (hbig : st = 1 → 2 ^ 53 ≤ m) (he1 : -100000 ≤ e) (he2 : e ≤ 100000) :
    fX2_rounded (lN m) (iI e) (nI st) (53 : Int32) (1023 : Int32) = lN (min INF64 (RD 52 (2 * m + st) (e + 1073))) ∧ okX2_rounded (lN m) (iI e) (nI st) (53 : Int32) (1023 : Int32) := by
  obtain ⟨r1, r2⟩ := rounded_is (fb := 52) (bias := 1023) (by decide) (by decide) (by decide) h0 hm hst hbig he1 he2
  rw [show e + ((1023 : Nat) : Int) + ((52 : Nat) : Int) - 2 = e + 1073 by omega] at r1
  exact ⟨r1, r2⟩
theorem rounded24 {m st : Nat} {e : Int} (h0 : 0 < m) (hm : m < 2 ^ 62) (hst : st ≤ 1) (hbig : st = 1 → 2 ^ 24 ≤ m) (he1 : -100000 ≤ e) (he2 : e ≤ 100000) :
    fX2_rounded (lN m) (iI e) (nI st) (24 : Int32) (127 : Int32) = lN (min INF32 (RD 23 (2 * m + st) (e + 148))) ∧ okX2_rounded (lN m) (iI e) (nI st) (24 : Int32) (127 : Int32) := by
  obtain ⟨r1, r2⟩ := rounded_is (fb := 23) (bias := 127) (by decide) (by decide) (by decide) h0 hm hst hbig he1 he2
  rw [show e + ((127 : Nat) : Int) + ((23 : Nat) : Int) - 2 = e + 148 by omega] at r1
  exact ⟨r1, r2⟩
theorem RD_2 {fb m : Nat} {w : Int} (h0 : 0 < m) : RD fb (2 * m + 0) w = RD fb m (w + 1) := by
  rw [Nat.add_zero, Nat.mul_comm 2 m, show m * 2 = m * 2 ^ 1 from rfl, RD_shift h0]; rfl
theorem dec_of {t k : Nat} (h1 : 2 ^ 52 ≤ k) (h2 : k < 2 ^ 53) : Mg 52 (t * 2 ^ 52 + k) = k ∧ Xp 52 (t * 2 ^ 52 + k) = t := by
  unfold Mg Xp
  constructor
  · rw [if_neg (by omega)]; omega
  · omega
section FLT
variable {s z : Nat}
theorem f_u (hs : s ≤ 1) (hz : z < 2 ^ 31) : s * 2 ^ 31 + z < 2 ^ 32 := sz_lt hs hz
theorem f_lt0 (hs : s ≤ 1) (hz : z < 2 ^ 31) : nI (s * 2 ^ 31 + z) < 0 ↔ s = 1 := by
  rcases (show s = 0 ∨ s = 1 by omega) with rfl | rfl
  · rw [Nat.zero_mul, Nat.zero_add, nI_iI, iI_lt0 (by omega) (by omega)]; omega
  · rw [nI_iI, ← iI_2_32, iI_lt0 (by omega) (by omega)]; omega
theorem f_field (hs : s ≤ 1) (hz : z < 2 ^ 31) : ishr (nI (s * 2 ^ 31 + z)) (23 : Int32) &&& (255 : Int32) = nI (z / 2 ^ 23) := by
  have hu := f_u hs hz
  have e1 : ishr (nI (s * 2 ^ 31 + z)) (23 : Int32) &&& (255 : Int32) = iushr (nI (s * 2 ^ 31 + z)) (23 : Int32) &&& (255 : Int32) := by
    apply b_ext
    intro i hi
    rw [b_and, b_and, b_255]
    by_cases h8 : i < 8
    · have a1 := b_sshr 23 (by decide) (nI (s * 2 ^ 31 + z)) hi
      have a2 := b_ushr 23 (by decide) (nI (s * 2 ^ 31 + z)) i
      rw [if_pos (by omega)] at a1
      rw [show bt (ishr (nI (s * 2 ^ 31 + z)) 23) i = _ from a1, show bt (iushr (nI (s * 2 ^ 31 + z)) 23) i = _ from a2]
    · rw [decide_eq_false h8, Bool.and_false, Bool.and_false]
  rw [e1, show iushr (nI (s * 2 ^ 31 + z)) (23 : Int32) = nI ((s * 2 ^ 31 + z) / 2 ^ 23) from pk_ushrN hu 23 23 (by decide), pk_andN (by omega) 8 (by decide)]
  congr 1
  omega
theorem f_frac (hs : s ≤ 1) (hz : z < 2 ^ 31) : (nI (s * 2 ^ 31 + z) &&& (8388607 : Int32)).toInt64 = lN (z % 2 ^ 23) := by
  rw [pk_andN (f_u hs hz) 23 (by decide), nI_toInt64 (by omega)]
  congr 1
  omega
/-- the size of the double that a float's size becomes -/
def Wd (z : Nat) : Nat := if z = 0 then 0 else if INF32 ≤ z then INF64 + (z - INF32) else RD 52 (Mg 23 z) (Xp 23 z + 925)
theorem Wd_0 : Wd 0 = 0 := rfl
theorem Wd_inf : Wd INF32 = INF64 := rfl
theorem Wd_fin {z : Nat} (h0 : 0 < z) (hz : z < INF32) : Wd z = (Xp 23 z + 925 + (Mg 23 z).log2 - 52) * 2 ^ 52 + Sg 23 z := by
  have hm := Mg_pos (fb := 23) h0
  have hl := log2_lt hm (Mg_lt 23 z)
  unfold Wd
  rw [if_neg (by omega), if_neg (by omega), RD_eval (p := 52 - (Mg 23 z).log2) (d := 0) hm (by omega), Nat.pow_zero, rne_one]
  congr 2
  omega
theorem Xp_le {z : Nat} (hz : z < INF32) : Xp 23 z ≤ 253 := by
  have : INF32 = 255 * 2 ^ 23 := rfl
  unfold Xp; omega
theorem Wd_dec {z : Nat} (h0 : 0 < z) (hz : z < INF32) : Mg 52 (Wd z) = Sg 23 z ∧ Xp 52 (Wd z) = Xp 23 z + 925 + (Mg 23 z).log2 - 52 ∧ 0 < Wd z ∧ Wd z < INF64 := by
  obtain ⟨b1, b2⟩ := Sg_bounds (fb := 23) (by omega) h0
  have hm := Mg_pos (fb := 23) h0
  have hl := log2_lt hm (Mg_lt 23 z)
  have hx := Xp_le hz
  have e := Wd_fin h0 hz
  have hI : INF64 = 2047 * 2 ^ 52 := rfl
  obtain ⟨d1, d2⟩ := dec_of (t := Xp 23 z + 925 + (Mg 23 z).log2 - 52) b1 b2
  rw [e]
  exact ⟨d1, d2, by omega, by omega⟩
theorem Wd_lt (hz : z < 2 ^ 31) : Wd z < 2 ^ 63 := by
  have h1 : INF64 = 2047 * 2 ^ 52 := rfl
  have h2 : INF32 = 255 * 2 ^ 23 := rfl
  by_cases h0 : z = 0
  · rw [h0, Wd_0]; decide
  · by_cases hi : INF32 ≤ z
    · unfold Wd; rw [if_neg h0, if_pos hi]; omega
    · have := (Wd_dec (by omega) (show z < INF32 by omega)).2.2.2; omega
theorem Wd_zero (hz : z < 2 ^ 31) : Wd z = 0 ↔ z = 0 := by
  constructor
  · intro h
    apply Decidable.byContradiction
    intro h0
    by_cases hi : INF32 ≤ z
    · unfold Wd at h; rw [if_neg h0, if_pos hi] at h; have : INF64 = 2047 * 2 ^ 52 := rfl; omega
    · have := (Wd_dec (by omega) (show z < INF32 by omega)).2.2.1; omega
  · intro h; rw [h, Wd_0]
theorem Wd_le (hz : z < 2 ^ 31) : Wd z ≤ INF64 ↔ z ≤ INF32 := by
  by_cases h0 : z = 0
  · rw [h0, Wd_0]; simp
  · by_cases hi : INF32 ≤ z
    · unfold Wd; rw [if_neg h0, if_pos hi]; omega
    · have := (Wd_dec (by omega) (show z < INF32 by omega)).2.2.2; omega
theorem Wd_isinf (hz : z < 2 ^ 31) : Wd z = INF64 ↔ z = INF32 := by
  by_cases h0 : z = 0
  · rw [h0, Wd_0]; decide
  · by_cases hi : INF32 ≤ z
    · unfold Wd; rw [if_neg h0, if_pos hi]; omega
    · have := (Wd_dec (by omega) (show z < INF32 by omega)).2.2.2; omega
theorem or_sign {x : Nat} (hs : s ≤ 1) (hx : x < 2 ^ 63) : lN (s * 2 ^ 63) ||| lN x = lN (s * 2 ^ 63 + x) := by
  rcases (show s = 0 ∨ s = 1 by omega) with rfl | rfl
  · rw [Nat.zero_mul, wb_or (by decide) (by omega), Nat.zero_or, Nat.zero_add]
  · rw [Nat.one_mul, wb_or (by decide) (by omega), Nat.or_comm, nat_or_pow hx, Nat.one_mul]
set_option maxRecDepth 20000 in
theorem wide_is (hs : s ≤ 1) (hz : z < 2 ^ 31) : fX2_wide (nI (s * 2 ^ 31 + z)) = lN (s * 2 ^ 63 + Wd z) ∧ okX2_wide (nI (s * 2 ^ 31 + z)) := by
  have hI : INF32 = 255 * 2 ^ 23 := rfl
  have hI6 : INF64 = 2047 * 2 ^ 52 := rfl
  have main : fX2_wide_28 (lN (s * 2 ^ 63)) (nI (z / 2 ^ 23)) (lN (z % 2 ^ 23)) = lN (s * 2 ^ 63 + Wd z) ∧ okX2_wide_28 (lN (s * 2 ^ 63)) (nI (z / 2 ^ 23)) (lN (z % 2 ^ 23)) := by
    rw [fX2_wide_28, okX2_wide_28]
    have q255 : (nI (z / 2 ^ 23) = (255 : Int32)) ↔ z / 2 ^ 23 = 255 := nI_eq (b := 255) (by omega) (by decide)
    have q0 : (nI (z / 2 ^ 23) = (0 : Int32)) ↔ z / 2 ^ 23 = 0 := nI_eq (b := 0) (by omega) (by decide)
    have qm : (lN (z % 2 ^ 23) = (0 : Int64)) ↔ z % 2 ^ 23 = 0 := lN_inj (b := 0) (by omega) (by decide)
    by_cases c1 : z / 2 ^ 23 = 255
    · rw [if_pos (q255.mpr c1)]
      refine ⟨?_, fun _ => trivial, fun h => absurd (q255.mpr c1) h⟩
      rw [show (9218868437227405312 : Int64) = lN INF64 from rfl, or_sign hs (by decide), wb_or (d_u hs (by decide)) (by omega)]
      congr 1
      have e1 : s * 2 ^ 63 + INF64 = 2 ^ 52 * (s * 2 ^ 11 + 2047) := by omega
      rw [e1, ← Nat.two_pow_add_eq_or_of_lt (show z % 2 ^ 23 < 2 ^ 52 by omega)]
      unfold Wd
      rw [if_neg (by omega), if_pos (by omega), ← e1, Nat.add_assoc, show z % 2 ^ 23 = z - INF32 by omega]
    · rw [if_neg (fun h => c1 (q255.mp h))]
      have main2 : 0 < z → fX2_wide_57 (lN (s * 2 ^ 63)) (nI (z / 2 ^ 23)) (lN (z % 2 ^ 23)) = lN (s * 2 ^ 63 + Wd z) ∧ okX2_wide_57 (lN (s * 2 ^ 63)) (nI (z / 2 ^ 23)) (lN (z % 2 ^ 23)) := by
        intro h0
        have hlt : z < INF32 := by omega
        have hm := Mg_pos (fb := 23) h0
        have hml := Mg_lt 23 z
        have hxl := Xp_le hlt
        obtain ⟨r1, r2⟩ := rounded53 (m := Mg 23 z) (st := 0) (e := Xp 23 z - 149) hm (by omega) (by decide) (fun h => absurd h (by decide)) (by omega) (by omega)
        have eW : min INF64 (RD 52 (2 * Mg 23 z + 0) ((Xp 23 z : Int) - 149 + 1073)) = Wd z := by
          rw [RD_2 hm, show (Xp 23 z : Int) - 149 + 1073 + 1 = Xp 23 z + 925 by omega]
          have := (Wd_dec h0 hlt).2.2.2
          have e2 : Wd z = RD 52 (Mg 23 z) (Xp 23 z + 925) := by unfold Wd; rw [if_neg (by omega), if_neg (by omega)]
          rw [← e2]; omega
        have hor := or_sign hs (Wd_lt hz)
        have key : fX2_wide_81 (lN (s * 2 ^ 63)) (lN (Mg 23 z)) (iI (Xp 23 z + 1)) = lN (s * 2 ^ 63 + Wd z) ∧ okX2_wide_81 (lN (s * 2 ^ 63)) (lN (Mg 23 z)) (iI (Xp 23 z + 1)) := by
          have e3 : iI (Xp 23 z + 1) - (150 : Int32) = iI ((Xp 23 z : Int) - 149) := by rw [show (150 : Int32) = iI 150 from by decide, iI_sub]; congr 1; omega
          rw [fX2_wide_81, okX2_wide_81, e3, show (0 : Int32) = nI 0 from rfl]
          exact ⟨by rw [r1, eW, hor], r2, trivial⟩
        rw [fX2_wide_57, okX2_wide_57]
        by_cases c0 : z / 2 ^ 23 = 0
        · rw [if_pos (q0.mpr c0)]
          have eM : Mg 23 z = z % 2 ^ 23 := by unfold Mg; rw [if_pos (by omega)]; omega
          have eX : iI (Xp 23 z + 1) = (1 : Int32) := by rw [show Xp 23 z = 0 by unfold Xp; omega]; decide
          rw [eM, eX] at key
          refine ⟨?_, fun _ => ?_, fun h => absurd (q0.mpr c0) h⟩
          · rw [fX2_wide_72, if_pos (q0.mpr c0)]; exact key.1
          · rw [okX2_wide_72]; exact ⟨fun _ => key.2, fun h => absurd (q0.mpr c0) h⟩
        · rw [if_neg (fun h => c0 (q0.mp h))]
          have eM : lN (z % 2 ^ 23) ||| (8388608 : Int64) = lN (Mg 23 z) := by
            rw [show (8388608 : Int64) = lN (2 ^ 23) from rfl, wb_or (by omega) (by decide), nat_or_pow (by omega)]
            unfold Mg; rw [if_neg (by omega)]; congr 1; omega
          have eX : iI (Xp 23 z + 1) = nI (z / 2 ^ 23) := by rw [nI_iI]; unfold Xp; congr 1; omega
          rw [eX] at key
          rw [eM]
          refine ⟨?_, fun h => absurd (q0.mp h) c0, fun _ => ?_⟩
          · rw [fX2_wide_72, if_neg (fun h => c0 (q0.mp h))]; exact key.1
          · rw [okX2_wide_72]; exact ⟨fun h => absurd (q0.mp h) c0, fun _ => key.2⟩
      by_cases c0 : z / 2 ^ 23 = 0
      · rw [if_pos (q0.mpr c0)]
        by_cases cm : z % 2 ^ 23 = 0
        · rw [if_pos (qm.mpr cm)]
          refine ⟨?_, fun h => absurd (q255.mp h) c1, fun _ => ⟨fun _ => ⟨fun _ => trivial, fun h => absurd (qm.mpr cm) h⟩, fun h => absurd (q0.mpr c0) h⟩⟩
          rw [show z = 0 by omega, Wd_0, Nat.add_zero]
        · rw [if_neg (fun h => cm (qm.mp h))]
          obtain ⟨k1, k2⟩ := main2 (by omega)
          exact ⟨k1, fun h => absurd (q255.mp h) c1, fun _ => ⟨fun _ => ⟨fun h => absurd (qm.mp h) cm, fun _ => k2⟩, fun h => absurd (q0.mpr c0) h⟩⟩
      · rw [if_neg (fun h => c0 (q0.mp h))]
        obtain ⟨k1, k2⟩ := main2 (by omega)
        exact ⟨k1, fun h => absurd (q255.mp h) c1, fun _ => ⟨fun h => absurd (q0.mp h) c0, fun _ => k2⟩⟩
  rw [fX2_wide, okX2_wide, fX2_wide_0, okX2_wide_0]
  have qs := f_lt0 hs hz
  have hgo : ∀ w : Int64, w = lN (s * 2 ^ 63) → fX2_wide_11 (nI (s * 2 ^ 31 + z)) w = lN (s * 2 ^ 63 + Wd z) ∧ okX2_wide_11 (nI (s * 2 ^ 31 + z)) w := by
    intro w hw
    rw [hw, fX2_wide_11, fX2_wide_21, okX2_wide_11, okX2_wide_21, f_field hs hz, f_frac hs hz]
    exact main
  by_cases c : s = 1
  · rw [if_pos (qs.mpr c)]
    obtain ⟨k1, k2⟩ := hgo (-9223372036854775808) (by rw [c]; decide)
    exact ⟨k1, fun _ => k2, fun h => absurd (qs.mpr c) h⟩
  · rw [if_neg (fun h => c (qs.mp h))]
    obtain ⟨k1, k2⟩ := hgo 0 (by rw [show s = 0 by omega]; rfl)
    exact ⟨k1, fun h => absurd (qs.mp h) c, fun _ => k2⟩
end FLT
end
section
/-! the float nearest to a double -/
theorem i2u {u : Nat} (hu : u < 2 ^ 32) : (nI u).toInt64 &&& (4294967295 : Int64) = lN u := by
  rw [show (4294967295 : Int64) = lN (2 ^ 32 - 1) from rfl]
  by_cases h : u < 2 ^ 31
  · rw [nI_toInt64 h, wb_mask (by omega) (by decide), Nat.mod_eq_of_lt hu]
  · have e : (nI u).toInt64 = lN (2 ^ 64 - 2 ^ 32 + u) := by
      apply Int64.toInt_inj.mp
      rw [Int32.toInt_toInt64, lN_ti (by omega), if_neg (by omega), nI_iI, ← iI_2_32, iI_toInt (by omega) (by omega)]
      omega
    rw [e, wb_mask (by omega) (by decide)]
    congr 1
    omega
/-- the size of the float that a double's size becomes -/
def Nr (z : Nat) : Nat := if z = 0 then 0 else if INF64 ≤ z then INF32 else min INF32 (RD 23 (Mg 52 z) (Xp 52 z - 925))
theorem Nr_le (z : Nat) : Nr z ≤ INF32 := by
  unfold Nr
  split
  · exact Nat.zero_le _
  · split
    · exact Nat.le_refl _
    · exact Nat.min_le_left _ _
theorem RD_sg {fb z : Nat} (h : 0 < z) (em w : Int) : RD fb (Sg 52 z) (Eg 52 em z + w) = RD fb (Mg 52 z) (em + Xp 52 z + w) := by
  unfold Sg Eg
  rw [RD_shift (Mg_pos h)]
  congr 1
  omega
theorem nI_or {a b : Nat} : nI a ||| nI b = nI (a ||| b) := by
  apply Int32.toBitVec_inj.mp
  rw [Int32.toBitVec_or]
  show BitVec.ofNat 32 a ||| BitVec.ofNat 32 b = BitVec.ofNat 32 (a ||| b)
  exact BitVec.ofNat_or.symm
section NAR
variable {s z : Nat}
theorem or_sign32 {x : Nat} (hs : s ≤ 1) (hx : x < 2 ^ 31) : nI x ||| nI (s * 2 ^ 31) = nI (s * 2 ^ 31 + x) := by
  rw [nI_or]
  rcases (show s = 0 ∨ s = 1 by omega) with rfl | rfl
  · rw [Nat.zero_mul, Nat.or_zero, Nat.zero_add]
  · rw [Nat.one_mul, nat_or_pow hx, Nat.one_mul]
theorem Eg52_bounds (hz : z < INF64) : -1200 ≤ Eg 52 (-1074) z ∧ Eg 52 (-1074) z ≤ 1000 := by
  have h9 : INF64 = 2047 * 2 ^ 52 := rfl
  unfold Eg Xp
  omega
theorem narrow_is (hs : s ≤ 1) (hz : z ≤ INF64) : fX2_narrow (lN (s * 2 ^ 63 + z)) = nI (s * 2 ^ 31 + Nr z) ∧ okX2_narrow (lN (s * 2 ^ 63 + z)) := by
  have h9 : INF64 = 2047 * 2 ^ 52 := rfl
  have h8 : INF32 = 255 * 2 ^ 23 := rfl
  have hz63 : z < 2 ^ 63 := by omega
  have main : fX2_narrow_12 (lN (s * 2 ^ 63 + z)) (nI (s * 2 ^ 31)) = nI (s * 2 ^ 31 + Nr z) ∧ okX2_narrow_12 (lN (s * 2 ^ 63 + z)) (nI (s * 2 ^ 31)) := by
    rw [fX2_narrow_12, okX2_narrow_12, infd_is hs hz63, zerod_is hs hz63]
    by_cases c1 : z = INF64
    · rw [if_pos c1]
      have hn : ¬ (1 : Int32) = 0 := by decide
      rw [if_neg hn]
      refine ⟨?_, fun h => absurd h hn, fun _ => trivial⟩
      have : Nr z = INF32 := by unfold Nr; rw [if_neg (by omega), if_pos (by omega)]
      rw [this, show (2139095040 : Int32) = nI INF32 from by decide, Int32.or_comm, or_sign32 hs (by decide)]
    · rw [if_neg c1, if_pos rfl]
      by_cases c2 : z = 0
      · have hn : ¬ (1 : Int32) = 0 := by decide
        rw [if_pos c2, if_neg hn]
        refine ⟨?_, fun _ => ⟨fun h => absurd h hn, fun _ => trivial⟩, fun h => absurd rfl h⟩
        rw [c2, show Nr 0 = 0 from rfl, Nat.add_zero]
      · rw [if_neg c2, if_pos rfl]
        have h0 : 0 < z := by omega
        have hlt : z < INF64 := by omega
        obtain ⟨e1, e2⟩ := expd_is hs h0 hlt
        obtain ⟨g1, g2⟩ := sigd_is hs h0 hlt
        obtain ⟨b1, b2⟩ := Sg_bounds (fb := 52) (by omega) h0
        obtain ⟨b3, b4⟩ := Eg52_bounds hlt
        obtain ⟨r1, r2⟩ := rounded24 (m := Sg 52 z) (st := 0) (e := Eg 52 (-1074) z) (by omega) (by omega) (by decide) (fun h => absurd h (by decide)) (by omega) (by omega)
        rw [e1, g1]
        refine ⟨?_, fun _ => ⟨fun _ => ⟨g2, e2, r2, trivial⟩, fun h => absurd rfl h⟩, fun h => absurd rfl h⟩
        have eN : min INF32 (RD 23 (2 * Sg 52 z + 0) (Eg 52 (-1074) z + 148)) = Nr z := by
          unfold Nr
          rw [if_neg c2, if_neg (by omega), RD_2 (by omega), Int.add_assoc, RD_sg h0]
          congr 2
          omega
        have hr : fX2_rounded (lN (Sg 52 z)) (iI (Eg 52 (-1074) z)) (0 : Int32) (24 : Int32) (127 : Int32) = lN (Nr z) := by rw [← eN]; exact r1
        have := Nr_le z
        rw [hr, lN_i, or_sign32 hs (by omega)]
  rw [fX2_narrow, okX2_narrow, fX2_narrow_0, okX2_narrow_0]
  have qs := d_lt0 hs hz63
  by_cases c : s = 1
  · rw [if_pos (qs.mpr c), show (-2147483648 : Int32) = nI (s * 2 ^ 31) from by rw [c]; decide]
    exact ⟨main.1, fun _ => main.2, fun h => absurd (qs.mpr c) h⟩
  · rw [if_neg (fun h => c (qs.mp h))]
    have e0 : (0 : Int32) = nI (s * 2 ^ 31) := by rw [show s = 0 by omega]; rfl
    have h1 : fX2_narrow_12 (lN (s * 2 ^ 63 + z)) 0 = nI (s * 2 ^ 31 + Nr z) := by rw [e0]; exact main.1
    have h2 : okX2_narrow_12 (lN (s * 2 ^ 63 + z)) 0 := by rw [e0]; exact main.2
    exact ⟨h1, fun h => absurd (qs.mp h) c, fun _ => h2⟩
/-- there and back -/
theorem Nr_Wd (hz : z ≤ INF32) : Nr (Wd z) = z := by
  have h9 : INF64 = 2047 * 2 ^ 52 := rfl
  have h8 : INF32 = 255 * 2 ^ 23 := rfl
  by_cases c0 : z = 0
  · rw [c0, Wd_0]; rfl
  · by_cases c1 : z = INF32
    · rw [c1, Wd_inf]; unfold Nr; rw [if_neg (by decide), if_pos (Nat.le_refl _)]
    · have h0 : 0 < z := by omega
      have hlt : z < INF32 := by omega
      obtain ⟨d1, d2, d3, d4⟩ := Wd_dec h0 hlt
      have hm := Mg_pos (fb := 23) h0
      have hl := log2_lt hm (Mg_lt 23 z)
      unfold Nr
      rw [if_neg (by omega), if_neg (by omega), d1, d2]
      unfold Sg
      rw [RD_shift hm, show ((Xp 23 z + 925 + (Mg 23 z).log2 - 52 : Nat) : Int) - 925 + ((52 - (Mg 23 z).log2 : Nat) : Int) = (Xp 23 z : Int) by omega, RD_self h0]
      omega
end NAR
end
section
/-! whole numbers to floats and doubles -/
theorem lN_2_64 : lN (2 ^ 64) = lN 0 := wb_mod (2 ^ 64)
theorem neg_lN {u : Nat} (hu : u ≤ 2 ^ 64) : -lN u = lN (2 ^ 64 - u) := by
  rw [← lN_sub hu, lN_2_64]
  show -lN u = 0 - lN u
  rw [Int64.zero_sub]
theorem whole_neg {v : Int64} (h : v < 0) : ∃ n : Nat, 0 < n ∧ n ≤ 2 ^ 63 ∧ v = lN (2 ^ 64 - n) ∧ -v = lN n := by
  obtain ⟨u, hu, rfl⟩ := wb_of v
  rw [Int64.lt_iff_toInt_lt, lN_ti hu, show (0 : Int64).toInt = 0 from rfl] at h
  have h63 : 2 ^ 63 ≤ u := by
    by_cases q : u < 2 ^ 63
    · rw [if_pos q] at h; omega
    · omega
  refine ⟨2 ^ 64 - u, by omega, by omega, by congr 1; omega, neg_lN (by omega)⟩
/-- RD, and 0 of 0 -/
def RZ (fb n : Nat) (w : Int) : Nat := if n = 0 then 0 else RD fb n w
theorem nearest_0 (kind neg e : Int32) : fX0_nearest kind neg (lN 0) e = fX0_signed kind neg (lN 0) := by
  rw [fX0_nearest, fX0_nearest_0, if_pos (show lN 0 = 0 from rfl)]; rfl
theorem nearest_z {kind neg : Int32} {fb ga M : Nat} {em e : Int} (K : Kd kind fb em ga) (hM : M < 2 ^ 63) (he1 : -100000 ≤ e) (he2 : e ≤ 100000) :
    fX0_nearest kind neg (lN M) (iI e) = fX0_signed kind neg (lN (min ((ga + 2) * 2 ^ fb) (RZ fb M (e - em)))) := by
  by_cases h : M = 0
  · rw [h, nearest_0]; unfold RZ; rw [if_pos rfl, Nat.min_eq_right (Nat.zero_le _)]
  · rw [nearest_is K (by omega) hM he1 he2]; unfold RZ; rw [if_neg h]
theorem lN_lt0 {n : Nat} (h : n < 2 ^ 64) : lN n < 0 ↔ 2 ^ 63 ≤ n := by
  rw [Int64.lt_iff_toInt_lt, lN_ti h, show (0 : Int64).toInt = 0 from rfl]
  by_cases q : n < 2 ^ 63
  · rw [if_pos q]; omega
  · rw [if_neg q]; omega
theorem jabs_pos {n : Nat} (h : n < 2 ^ 63) : jabs (lN n) = lN n := by
  unfold jabs
  by_cases q : (0 : Int64) < lN n
  · rw [if_pos q]
  · rw [if_neg q]
    have : ¬ 0 < n := fun h2 => q ((lN_lt63 (a := 0) (by decide) h).mpr h2)
    rw [show n = 0 by omega]; rfl
theorem jabs_neg {v : Int64} (h : v < 0) : jabs v = -v := by
  unfold jabs
  rw [if_neg]
  intro q
  rw [Int64.lt_iff_toInt_lt] at h q
  omega
/-- a whole number as sign and magnitude -/
def Wh (v : Int64) (s n : Nat) : Prop := (s = 0 ∧ n < 2 ^ 63 ∧ v = lN n) ∨ (s = 1 ∧ 0 < n ∧ n ≤ 2 ^ 63 ∧ v = lN (2 ^ 64 - n) ∧ -v = lN n ∧ v < 0)
theorem Wh_of (v : Int64) : ∃ s n : Nat, s ≤ 1 ∧ Wh v s n := by
  by_cases h : v < 0
  · obtain ⟨n, h1, h2, h3, h4⟩ := whole_neg h
    exact ⟨1, n, by omega, Or.inr ⟨rfl, h1, h2, h3, h4, h⟩⟩
  · obtain ⟨n, h1, h2⟩ := pk_lOf h
    exact ⟨0, n, by omega, Or.inl ⟨rfl, h1, h2⟩⟩
theorem ofWhole_is {kind : Int32} {fb ga s n : Nat} {em : Int} {v : Int64} (K : Kd kind fb em ga) (hv : Wh v s n) : fX0_ofWhole kind v = fX0_signed kind (nI s) (lN (min ((ga + 2) * 2 ^ fb) (RZ fb n (-em)))) := by
  have hem := K.2.2.2.2.2.2.2.1
  have hem2 := K.2.2.2.2.2.2.2.2.1
  rw [fX0_ofWhole, fX0_ofWhole_0, fX0_ofWhole_30, fX0_ofWhole_30, show (-9223372036854775808 : Int64) = lN (2 ^ 63) from by decide, show (0 : Int32) = iI 0 from rfl, show (1 : Int32) = iI 1 from rfl]
  rcases hv with ⟨rfl, h1, rfl⟩ | ⟨rfl, h1, h2, h3, h4, h5⟩
  · rw [if_neg (by rw [lN_inj (by omega) (by decide)]; omega), if_neg (by rw [lN_lt0 (by omega)]; omega), jabs_pos h1, nearest_z K h1 (by omega) (by omega), show (0 : Int) - em = -em by omega]; rfl
  · by_cases c : n = 2 ^ 63
    · have hv : v = lN (2 ^ 63) := by rw [h3, c]
      rw [if_pos hv, show (4611686018427387904 : Int64) = lN (2 ^ 62) from rfl, nearest_is K (by decide) (by decide) (by omega) (by omega)]
      unfold RZ
      rw [if_neg (by omega), c, show (2 : Nat) ^ 63 = 2 ^ 62 * 2 ^ 1 from by decide, RD_shift (by decide)]
      congr 4
      omega
    · have hv : ¬ v = lN (2 ^ 63) := by rw [h3, lN_inj (by omega) (by decide)]; omega
      rw [if_neg hv, if_pos h5, jabs_neg h5, h4, nearest_z K (by omega) (by omega) (by omega), show (0 : Int) - em = -em by omega]; rfl
theorem made_is {s m st : Nat} {e : Int} (hs : s ≤ 1) (h0 : 0 < m) (hm : m < 2 ^ 62) (hst : st ≤ 1) (hbig : st = 1 → 2 ^ 53 ≤ m) (he1 : -100000 ≤ e) (he2 : e ≤ 100000) :
    fX2_made (nI s) (lN m) (iI e) (nI st) = lN (s * 2 ^ 63 + min INF64 (RD 52 (2 * m + st) (e + 1073))) ∧ okX2_made (nI s) (lN m) (iI e) (nI st) := by
  obtain ⟨r1, r2⟩ := rounded53 h0 hm hst hbig he1 he2
  rw [fX2_made, fX2_made_0, fX2_made_14, okX2_made, okX2_made_0, r1]
  refine ⟨?_, r2, trivial⟩
  have hle : min INF64 (RD 52 (2 * m + st) (e + 1073)) < 2 ^ 63 := by
    have h9 : INF64 = 2047 * 2 ^ 52 := rfl
    have := Nat.min_le_left INF64 (RD 52 (2 * m + st) (e + 1073)); omega
  rcases (show s = 0 ∨ s = 1 by omega) with rfl | rfl
  · rw [if_pos (show nI 0 = 0 from rfl), Nat.zero_mul, Nat.zero_add]
  · rw [if_neg (show ¬ nI 1 = 0 by decide), show (-9223372036854775808 : Int64) = lN (2 ^ 63) from by decide, wb_or (by omega) (by decide), nat_or_pow hle]
/-- two bits off, and whether something was in them -/
theorem RD_4 {fb n : Nat} {w : Int} (h : 2 ^ (fb + 3) ≤ n) : RD fb (2 * (n / 4) + (if n % 4 = 0 then 0 else 1)) (w + 1) = RD fb n w := by
  have h2 : 2 ^ (fb + 3) = 2 ^ (fb + 1) * 4 := by rw [show fb + 3 = fb + 1 + 2 from rfl, Nat.pow_add]
  have hc : 2 ^ (fb + 1) ≤ n / 4 := by omega
  have hp := Nat.two_pow_pos (fb + 1)
  by_cases q : n % 4 = 0
  · rw [if_pos q, RD_2 (by omega)]
    have : RD fb (n / 4 * 2 ^ 2) w = RD fb (n / 4) (w + (2 : Nat)) := RD_shift (by omega)
    rw [show n / 4 * 2 ^ 2 = n by omega] at this
    rw [this]; congr 1; omega
  · rw [if_neg q, RD_cell (c := n / 4) (j := 2) (w := w) hc (by omega) (by omega)]
    congr 1; omega
theorem and3 {n : Nat} (hn : n < 2 ^ 64) : (lN n &&& (3 : Int64) = 0) ↔ n % 4 = 0 := by
  rw [show (3 : Int64) = lN (2 ^ 2 - 1) from rfl, wb_mask hn (by decide), lN_0, lN_inj (by omega) (by decide)]
theorem of_is {s n : Nat} {v : Int64} (hv : Wh v s n) : fX2_of v 0 = lN (s * 2 ^ 63 + min INF64 (RZ 52 n 1074)) ∧ okX2_of v 0 := by
  have main : ∀ s n : Nat, s ≤ 1 → 0 < n → n ≤ 2 ^ 63 → fX2_of_34 (nI s) (lN n) = lN (s * 2 ^ 63 + min INF64 (RZ 52 n 1074)) ∧ okX2_of_34 (nI s) (lN n) := by
    intro s n hs h0 hn
    have eR : RZ 52 n 1074 = RD 52 n 1074 := by unfold RZ; rw [if_neg (by omega)]
    rw [fX2_of_34, okX2_of_34, show (4611686018427387904 : Int64) = lN (2 ^ 62) from rfl, eR]
    have big : 2 ^ 62 ≤ n → fX2_of_61 (nI s) (lN n) = lN (s * 2 ^ 63 + min INF64 (RD 52 n 1074)) ∧ okX2_of_61 (nI s) (lN n) := by
      intro hb
      have hR := RD_4 (fb := 52) (n := n) (w := 1074) (by omega)
      rw [fX2_of_61, okX2_of_61, show jushr (lN n) (2 : Int32) = lN (n / 4) from jushr_lN (k := 2) (by omega) (by decide)]
      have q := and3 (show n < 2 ^ 64 by omega)
      by_cases c : n % 4 = 0
      · rw [if_pos c] at hR
        obtain ⟨m1, m2⟩ := made_is (s := s) (m := n / 4) (st := 0) (e := 2) hs (by omega) (by omega) (by decide) (fun h => absurd h (by decide)) (by decide) (by decide)
        rw [if_pos (q.mpr c)]
        refine ⟨?_, fun _ => ⟨m2, trivial⟩, fun h => absurd (q.mpr c) h⟩
        rw [← hR]; exact m1
      · rw [if_neg c] at hR
        obtain ⟨m1, m2⟩ := made_is (s := s) (m := n / 4) (st := 1) (e := 2) hs (by omega) (by omega) (by decide) (fun _ => by omega) (by decide) (by decide)
        rw [if_neg (fun h => c (q.mp h))]
        refine ⟨?_, fun h => absurd (q.mp h) c, fun _ => ⟨m2, trivial⟩⟩
        rw [← hR]; exact m1
    by_cases c63 : n = 2 ^ 63
    · have h1 : ¬ (0 : Int64) < lN n := by rw [c63]; decide
      rw [if_neg h1]
      obtain ⟨b1, b2⟩ := big (by omega)
      exact ⟨b1, fun h => absurd h h1, fun _ => b2⟩
    · have h1 : (0 : Int64) < lN n := (lN_lt63 (a := 0) (by decide) (by omega)).mpr h0
      have q := lN_lt63 (a := n) (b := 2 ^ 62) (by omega) (by decide)
      rw [if_pos h1]
      by_cases c : n < 2 ^ 62
      · rw [if_pos (q.mpr c)]
        obtain ⟨m1, m2⟩ := made_is (s := s) (m := n) (st := 0) (e := 0) hs h0 c (by decide) (fun h => absurd h (by decide)) (by decide) (by decide)
        rw [RD_2 h0] at m1
        exact ⟨m1, fun _ => ⟨fun _ => ⟨m2, trivial⟩, fun h => absurd (q.mpr c) h⟩, fun h => absurd h1 h⟩
      · rw [if_neg (fun h => c (q.mp h))]
        obtain ⟨b1, b2⟩ := big (by omega)
        exact ⟨b1, fun _ => ⟨fun h => absurd (q.mp h) c, fun _ => b2⟩, fun h => absurd h1 h⟩
  rw [fX2_of, fX2_of_0, okX2_of, okX2_of_0, fX2_of_22, fX2_of_23, fX2_of_23, okX2_of_22, okX2_of_23, okX2_of_23]
  rcases hv with ⟨rfl, h1, rfl⟩ | ⟨rfl, h1, h2, h3, h4, h5⟩
  · have q0 : (lN n = 0) ↔ n = 0 := lN_inj (b := 0) (by omega) (by decide)
    have ql : ¬ lN n < 0 := by rw [lN_lt0 (by omega)]; omega
    by_cases c : n = 0
    · rw [if_pos (q0.mpr c)]
      refine ⟨?_, fun _ => trivial, fun h => absurd (q0.mpr c) h⟩
      rw [c]; rfl
    · obtain ⟨m1, m2⟩ := main 0 n (by omega) (by omega) (by omega)
      rw [if_neg (fun h => c (q0.mp h)), if_neg ql, if_pos rfl]
      exact ⟨m1, fun h => absurd (q0.mp h) c, fun _ => ⟨fun h => absurd h ql, fun _ => ⟨fun _ => m2, fun h => absurd rfl h⟩⟩⟩
  · have q0 : ¬ v = 0 := by
      intro h; rw [h] at h5; exact absurd h5 (by decide)
    obtain ⟨m1, m2⟩ := main 1 n (by omega) h1 h2
    have hn : ¬ (1 : Int32) = 0 := by decide
    rw [if_neg q0, if_pos h5, if_pos rfl, if_neg hn, h4]
    exact ⟨m1, fun h => absurd h q0, fun _ => ⟨fun _ => ⟨fun _ => ⟨fun h => absurd h hn, fun _ => m2⟩, fun h => absurd rfl h⟩, fun h => absurd h5 h⟩⟩
end
section
theorem RD_pos {fb n : Nat} {w : Int} (h0 : 0 < n) (h : (fb : Int) ≤ w + n.log2) : 2 ^ fb ≤ RD fb n w := by
  obtain ⟨p, d, hd⟩ : ∃ p d : Nat, (d : Int) = (w + n.log2 - fb).toNat - w + p := ⟨w.toNat, ((w + n.log2 - fb).toNat - w + w.toNat).toNat, by omega⟩
  rw [RD_eval h0 hd]
  have := (kept_bounds h0 hd).2 (by omega)
  omega
theorem floatOf_is {s n : Nat} {v : Int64} (hv : Wh v s n) : fX2_floatOf v 0 = lN (s * 2 ^ 63 + Wd (min INF32 (RZ 23 n 149))) ∧ okX2_floatOf v 0 := by
  have h8 : INF32 = 255 * 2 ^ 23 := rfl
  have fin : ∀ s f : Nat, s ≤ 1 → f ≤ INF32 → fX2_floatOf_113 (nI s) (lN f) = lN (s * 2 ^ 63 + Wd f) ∧ okX2_floatOf_113 (nI s) (lN f) := by
    intro s f hs hf
    obtain ⟨w1, w2⟩ := wide_is hs (show f < 2 ^ 31 by omega)
    have eo := or_sign32 hs (show f < 2 ^ 31 by omega)
    rw [fX2_floatOf_113, okX2_floatOf_113, fX2_floatOf_126, fX2_floatOf_126, okX2_floatOf_126, okX2_floatOf_126, lN_i]
    rcases (show s = 0 ∨ s = 1 by omega) with rfl | rfl
    · have e0 : nI 0 = (0 : Int32) := rfl
      rw [if_pos e0, show nI f ||| (0 : Int32) = nI (0 * 2 ^ 31 + f) from eo]
      exact ⟨w1, fun _ => ⟨w2, trivial⟩, fun h => absurd e0 h⟩
    · have e1 : ¬ nI 1 = (0 : Int32) := by decide
      rw [if_neg e1, show nI f ||| (-2147483648 : Int32) = nI (1 * 2 ^ 31 + f) from by rw [← eo]; rfl]
      exact ⟨w1, fun h => absurd h e1, fun _ => ⟨w2, trivial⟩⟩
  have r104 : ∀ (s m st : Nat) (e : Int), s ≤ 1 → 0 < m → m < 2 ^ 62 → st ≤ 1 → (st = 1 → 2 ^ 24 ≤ m) → -10 ≤ e → e ≤ 10 → fX2_floatOf_104 (nI s) (lN m) (iI e) (nI st) = lN (s * 2 ^ 63 + Wd (min INF32 (RD 23 (2 * m + st) (e + 148)))) ∧ okX2_floatOf_104 (nI s) (lN m) (iI e) (nI st) := by
    intro s m st e hs h0 hm hst hbig he1 he2
    obtain ⟨r1, r2⟩ := rounded24 h0 hm hst hbig (e := e) (by omega) (by omega)
    rw [fX2_floatOf_104, okX2_floatOf_104, r1]
    obtain ⟨f1, f2⟩ := fin s (min INF32 (RD 23 (2 * m + st) (e + 148))) hs (Nat.min_le_left _ _)
    exact ⟨f1, r2, f2⟩
  have main : ∀ s n : Nat, s ≤ 1 → 0 < n → n ≤ 2 ^ 63 → fX2_floatOf_34 (nI s) (lN n) = lN (s * 2 ^ 63 + Wd (min INF32 (RZ 23 n 149))) ∧ okX2_floatOf_34 (nI s) (lN n) := by
    intro s n hs h0 hn
    have eR : RZ 23 n 149 = RD 23 n 149 := by unfold RZ; rw [if_neg (by omega)]
    rw [fX2_floatOf_34, okX2_floatOf_34, show (4611686018427387904 : Int64) = lN (2 ^ 62) from rfl, eR]
    have n0 : nI 0 = (0 : Int32) := rfl
    have n1 : ¬ (1 : Int32) = 0 := by decide
    have big : 2 ^ 62 ≤ n → fX2_floatOf_56 (nI s) (lN n) = lN (s * 2 ^ 63 + Wd (min INF32 (RD 23 n 149))) ∧ okX2_floatOf_56 (nI s) (lN n) := by
      intro hb
      have hR := RD_4 (fb := 23) (n := n) (w := 149) (by omega)
      have q := and3 (show n < 2 ^ 64 by omega)
      rw [fX2_floatOf_56, fX2_floatOf_57, if_pos rfl, fX2_floatOf_73, if_pos rfl, fX2_floatOf_83, if_pos rfl, fX2_floatOf_103, okX2_floatOf_56, okX2_floatOf_57, okX2_floatOf_73, okX2_floatOf_83, okX2_floatOf_103, show jushr (lN n) (2 : Int32) = lN (n / 4) from jushr_lN (k := 2) (by omega) (by decide)]
      by_cases c : n % 4 = 0
      · rw [if_pos c] at hR
        obtain ⟨m1, m2⟩ := r104 s (n / 4) 0 2 hs (by omega) (by omega) (by decide) (fun h => absurd h (by decide)) (by decide) (by decide)
        rw [if_pos (q.mpr c)]
        refine ⟨?_, fun _ => ⟨fun _ => ⟨fun _ => ⟨fun _ => m2, fun h => absurd (q.mpr c) h⟩, fun h => absurd rfl h⟩, fun h => absurd rfl h⟩, fun h => absurd rfl h⟩
        rw [← hR]; exact m1
      · rw [if_neg c] at hR
        obtain ⟨m1, m2⟩ := r104 s (n / 4) 1 2 hs (by omega) (by omega) (by decide) (fun _ => by omega) (by decide) (by decide)
        rw [if_neg (fun h => c (q.mp h))]
        refine ⟨?_, fun _ => ⟨fun _ => ⟨fun _ => ⟨fun h => absurd (q.mp h) c, fun _ => m2⟩, fun h => absurd rfl h⟩, fun h => absurd rfl h⟩, fun h => absurd rfl h⟩
        rw [← hR]; exact m1
    by_cases c63 : n = 2 ^ 63
    · have h1 : ¬ (0 : Int64) < lN n := by rw [c63]; decide
      rw [if_neg h1]
      obtain ⟨b1, b2⟩ := big (by omega)
      exact ⟨b1, fun h => absurd h h1, fun _ => b2⟩
    · have h1 : (0 : Int64) < lN n := (lN_lt63 (a := 0) (by decide) (by omega)).mpr h0
      have q := lN_lt63 (a := n) (b := 2 ^ 62) (by omega) (by decide)
      rw [if_pos h1]
      by_cases c : n < 2 ^ 62
      · rw [if_pos (q.mpr c)]
        obtain ⟨m1, m2⟩ := r104 s n 0 0 hs h0 c (by decide) (fun h => absurd h (by decide)) (by decide) (by decide)
        rw [RD_2 h0] at m1
        have k1 : fX2_floatOf_57 (nI s) (lN n) 1 = fX2_floatOf_104 (nI s) (lN n) 0 0 := by
          rw [fX2_floatOf_57, if_neg n1, fX2_floatOf_73, if_neg n1, fX2_floatOf_83, if_neg n1, fX2_floatOf_103]
        have k2 : okX2_floatOf_57 (nI s) (lN n) 1 := by
          rw [okX2_floatOf_57, okX2_floatOf_73, okX2_floatOf_73, okX2_floatOf_83, okX2_floatOf_83, okX2_floatOf_103]
          exact ⟨fun h => absurd h n1, fun _ => ⟨fun h => absurd h n1, fun _ => ⟨fun h => absurd h n1, fun _ => m2⟩⟩⟩
        exact ⟨k1.trans m1, fun _ => ⟨fun _ => k2, fun h => absurd (q.mpr c) h⟩, fun h => absurd h1 h⟩
      · rw [if_neg (fun h => c (q.mp h))]
        obtain ⟨b1, b2⟩ := big (by omega)
        exact ⟨b1, fun _ => ⟨fun h => absurd (q.mp h) c, fun _ => b2⟩, fun h => absurd h1 h⟩
  rw [fX2_floatOf, fX2_floatOf_0, okX2_floatOf, okX2_floatOf_0, fX2_floatOf_22, fX2_floatOf_23, fX2_floatOf_23, okX2_floatOf_22, okX2_floatOf_23, okX2_floatOf_23]
  rcases hv with ⟨rfl, h1, rfl⟩ | ⟨rfl, h1, h2, h3, h4, h5⟩
  · have q0 : (lN n = 0) ↔ n = 0 := lN_inj (b := 0) (by omega) (by decide)
    have ql : ¬ lN n < 0 := by rw [lN_lt0 (by omega)]; omega
    by_cases c : n = 0
    · rw [if_pos (q0.mpr c)]
      refine ⟨?_, fun _ => trivial, fun h => absurd (q0.mpr c) h⟩
      rw [c]; rfl
    · obtain ⟨m1, m2⟩ := main 0 n (by omega) (by omega) (by omega)
      rw [if_neg (fun h => c (q0.mp h)), if_neg ql, if_pos rfl]
      exact ⟨m1, fun h => absurd (q0.mp h) c, fun _ => ⟨fun h => absurd h ql, fun _ => ⟨fun _ => m2, fun h => absurd rfl h⟩⟩⟩
  · have q0 : ¬ v = 0 := by
      intro h; rw [h] at h5; exact absurd h5 (by decide)
    obtain ⟨m1, m2⟩ := main 1 n (by omega) h1 h2
    have hn : ¬ (1 : Int32) = 0 := by decide
    rw [if_neg q0, if_pos h5, if_pos rfl, if_neg hn, h4]
    exact ⟨m1, fun h => absurd h q0, fun _ => ⟨fun _ => ⟨fun _ => ⟨fun h => absurd h hn, fun _ => m2⟩, fun h => absurd rfl h⟩, fun h => absurd h5 h⟩⟩
/-! the floor of M * 2^e -/
def FL (M : Nat) (e : Int) : Nat := M * 2 ^ e.toNat / 2 ^ (-e).toNat
theorem FL_shift {M j : Nat} {e : Int} : FL (M * 2 ^ j) e = FL M (e + j) := by
  unfold FL
  have hp := Nat.two_pow_pos (-(e + j)).toNat
  rw [Nat.mul_assoc, ← Nat.pow_add, ← Nat.mul_div_mul_right (M * 2 ^ (e + j).toNat) (2 ^ (-(e + j)).toNat) (Nat.two_pow_pos ((-e).toNat - (-(e + j)).toNat)), Nat.mul_assoc, ← Nat.pow_add, ← Nat.pow_add]
  congr 2
  · congr 1; omega
  · omega
theorem FL_pos {M : Nat} {e : Int} (h : 0 ≤ e) : FL M e = M * 2 ^ e.toNat := by
  unfold FL; rw [show (-e).toNat = 0 by omega, Nat.pow_zero, Nat.div_one]
theorem FL_neg {M : Nat} {e : Int} (h : e ≤ 0) : FL M e = M / 2 ^ (-e).toNat := by
  unfold FL; rw [show e.toNat = 0 by omega, Nat.pow_zero, Nat.mul_one]
end
section
/-! a floating number cut to a whole one -/
def CM (most s n : Nat) : Int64 := if n ≤ most then (if s = 0 then lN n else -lN n) else (if s = 0 then lN most else -lN most - 1)
theorem CM_le {most s n : Nat} (h : n ≤ most) : CM most s n = if s = 0 then lN n else -lN n := by unfold CM; rw [if_pos h]
theorem CM_gt {most s n : Nat} (h : most < n) : CM most s n = if s = 0 then lN most else -lN most - 1 := by unfold CM; rw [if_neg (show ¬ n ≤ most by omega)]
theorem CM_big {most s n k : Nat} (h1 : most < n) (h2 : most < k) : CM most s n = CM most s k := by rw [CM_gt h1, CM_gt h2]
theorem iI_neg_eq {e : Int} : -iI e = iI (-e) := iI_neg e
theorem wholePart_is {kind : Int32} {sb fb ga s z : Nat} {em : Int} (K : Ks kind sb) (F : Kd kind fb em ga) (hfs : fb < sb) (hs : s ≤ 1) (hz : z < 2 ^ sb) (hb : z / 2 ^ fb < 100000) : fX0_wholePart kind (lN (s * 2 ^ sb + z)) = CM (2 ^ 63 - 1) s (FL (Mg fb z) (em + Xp fb z)) := by
  have hem := F.2.2.2.2.2.2.2.1
  have hem2 := F.2.2.2.2.2.2.2.2.1
  have hfb := F.2.2.2.2.1
  have hml : Mg fb z < 2 ^ 53 := Nat.lt_of_lt_of_le (Mg_lt fb z) (Nat.pow_le_pow_right (by omega) (by omega))
  have hx : Xp fb z < 100000 := by unfold Xp; omega
  have hpos : 0 < em + Xp fb z → 0 < Mg fb z := by
    intro h
    refine Mg_pos ?_
    rcases Nat.eq_zero_or_pos z with q | q
    · rw [q, Mg_Xp (Nat.two_pow_pos fb)] at h; omega
    · exact q
  rw [fX0_wholePart, fX0_wholePart_0, fX0_wholePart_6, fX0_wholePart_13, neg_is K hs hz, mag_is K F hfs hs hz, exp_is K F hb hs hz]
  have he1 : -1074 ≤ em + Xp fb z := by omega
  have he2 : em + Xp fb z ≤ 100000 := by omega
  generalize em + Xp fb z = e at *
  generalize Mg fb z = M at *
  have q0 : (nI s = 0) ↔ s = 0 := nI_eq (b := 0) (by omega) (by decide)
  have hsgn : ∀ x y : Int64, (if nI s = 0 then x else y) = if s = 0 then x else y := fun x y => by simp only [q0]
  rw [fX0_wholePart_20, fX0_wholePart_76, fX0_wholePart_42, fX0_wholePart_42]
  simp only [hsgn]
  rw [show (9223372036854775807 : Int64) = lN (2 ^ 63 - 1) from rfl, show (-9223372036854775808 : Int64) = -lN (2 ^ 63 - 1) - 1 from by decide]
  by_cases c1 : 0 < e
  · have hM := hpos c1
    rw [if_pos ((iI_0lt (by omega) (by omega)).mpr c1), FL_pos (by omega), show (63 : Int32) = iI 63 from by decide]
    by_cases c2 : 63 < e
    · rw [if_pos ((iI_lt (by omega) (by omega) (by omega) (by omega)).mpr c2)]
      have h64 : 2 ^ 64 ≤ 2 ^ e.toNat := Nat.pow_le_pow_right (by omega) (by omega)
      have := Nat.mul_le_mul hM h64
      rw [CM_gt (by omega)]
    · rw [if_neg (fun q => c2 ((iI_lt (by omega) (by omega) (by omega) (by omega)).mp q)), nI_iI_toNat (show 0 ≤ e by omega), jushr_lN (by decide) (by omega), jshl_lN _ (by omega)]
      have hd := Nat.div_lt_iff_lt_mul (x := 2 ^ 63 - 1) (y := M) (Nat.two_pow_pos e.toNat)
      have hdl : (2 ^ 63 - 1) / 2 ^ e.toNat < 2 ^ 63 := Nat.lt_of_le_of_lt (Nat.div_le_self _ _) (by decide)
      have q := lN_lt63 hdl (show M < 2 ^ 63 by omega)
      by_cases c3 : (2 ^ 63 - 1) / 2 ^ e.toNat < M
      · rw [if_pos (q.mpr c3), CM_gt (hd.mp c3)]
      · rw [if_neg (fun h => c3 (q.mp h)), CM_le (Nat.le_of_not_lt (fun h => c3 (hd.mpr h)))]
  · rw [if_neg (fun q => c1 ((iI_0lt (by omega) (by omega)).mp q)), FL_neg (by omega), show (-63 : Int32) = iI (-63) from by decide]
    have hle : M / 2 ^ (-e).toNat ≤ M := Nat.div_le_self _ _
    rw [CM_le (by omega)]
    by_cases c2 : e < -63
    · rw [if_pos ((iI_lt (by omega) (by omega) (by omega) (by omega)).mpr c2)]
      have h64 : 2 ^ 63 ≤ 2 ^ (-e).toNat := Nat.pow_le_pow_right (by omega) (by omega)
      rw [Nat.div_eq_of_lt (by omega)]; rfl
    · rw [if_neg (fun q => c2 ((iI_lt (by omega) (by omega) (by omega) (by omega)).mp q)), iI_neg, nI_iI_toNat (show 0 ≤ -e by omega), jushr_lN (by omega) (by omega)]
section CUT
variable {s z : Nat}
theorem great_is (hs : s ≤ 1) (hz : z ≤ INF64) : fX2_isGreat (lN (s * 2 ^ 63 + z)) = (if z = INF64 then 1 else if z = 0 then 0 else if 11 < Eg 52 (-1074) z then 1 else 0) ∧ okX2_isGreat (lN (s * 2 ^ 63 + z)) := by
  have h9 : INF64 = 2047 * 2 ^ 52 := rfl
  have hz63 : z < 2 ^ 63 := by omega
  have n1 : ¬ (1 : Int32) = 0 := by decide
  rw [fX2_isGreat, fX2_isGreat_0, okX2_isGreat, okX2_isGreat_0, infd_is hs hz63, zerod_is hs hz63]
  by_cases c1 : z = INF64
  · rw [if_pos c1, if_pos c1, if_neg n1]
    exact ⟨rfl, fun h => absurd h n1, fun _ => trivial⟩
  · rw [if_neg c1, if_neg c1, if_pos rfl]
    by_cases c2 : z = 0
    · rw [if_pos c2, if_pos c2, if_neg n1]
      exact ⟨rfl, fun _ => ⟨fun h => absurd h n1, fun _ => trivial⟩, fun h => absurd rfl h⟩
    · rw [if_neg c2, if_neg c2, if_pos rfl]
      obtain ⟨e1, e2⟩ := expd_is hs (show 0 < z by omega) (show z < INF64 by omega)
      obtain ⟨b3, b4⟩ := Eg52_bounds (show z < INF64 by omega)
      rw [e1, show (11 : Int32) = iI 11 from by decide]
      have q := iI_lt (a := 11) (b := Eg 52 (-1074) z) (by omega) (by omega) (by omega) (by omega)
      refine ⟨?_, fun _ => ⟨fun _ => ⟨e2, ⟨fun _ => trivial, fun _ => trivial⟩⟩, fun h => absurd rfl h⟩, fun h => absurd rfl h⟩
      simp only [q]
theorem FL_sg {z : Nat} {em : Int} : FL (Sg 52 z) (Eg 52 em z) = FL (Mg 52 z) (em + Xp 52 z) := by
  unfold Sg Eg; rw [FL_shift]; congr 1; omega
theorem cutd_is (hs : s ≤ 1) (hz : z < INF64) (hE : z ≠ 0 → Eg 52 (-1074) z ≤ 11) : fX2_cut (lN (s * 2 ^ 63 + z)) = lN (FL (Mg 52 z) (-1074 + Xp 52 z)) ∧ okX2_cut (lN (s * 2 ^ 63 + z)) ∧ FL (Mg 52 z) (-1074 + Xp 52 z) < 2 ^ 64 := by
  have h9 : INF64 = 2047 * 2 ^ 52 := rfl
  have hz63 : z < 2 ^ 63 := by omega
  have n1 : ¬ (1 : Int32) = 0 := by decide
  rw [fX2_cut, fX2_cut_0, okX2_cut, okX2_cut_0, zerod_is hs hz63]
  by_cases c2 : z = 0
  · rw [if_pos c2, if_neg n1, c2]
    have e0 : FL (Mg 52 0) (-1074 + Xp 52 0) = 0 := by
      rw [Mg_Xp (Nat.two_pow_pos 52), FL_neg (by omega), show Mg 52 0 = 0 from rfl, Nat.zero_div]
    rw [e0]
    exact ⟨rfl, ⟨fun h => absurd h n1, fun _ => trivial⟩, by decide⟩
  · rw [if_neg c2, if_pos rfl]
    have h0 : 0 < z := by omega
    obtain ⟨e1, e2⟩ := expd_is hs h0 hz
    obtain ⟨g1, g2⟩ := sigd_is hs h0 hz
    obtain ⟨b1, b2⟩ := Sg_bounds (fb := 52) (by omega) h0
    obtain ⟨b3, b4⟩ := Eg52_bounds hz
    have hE := hE c2
    rw [← FL_sg, fX2_cut_14, fX2_cut_19, okX2_cut_14, e1, g1]
    generalize Eg 52 (-1074) z = E at *
    generalize Sg 52 z = S at *
    by_cases c3 : E < 0
    · rw [if_pos ((iI_lt0 (by omega) (by omega)).mpr c3), FL_neg (by omega), show (-52 : Int32) = iI (-52) from by decide]
      have hle : S / 2 ^ (-E).toNat ≤ S := Nat.div_le_self _ _
      refine ⟨?_, ⟨fun _ => ⟨e2, g2, trivial⟩, fun h => absurd rfl h⟩, by omega⟩
      by_cases c4 : E < -52
      · rw [if_pos ((iI_lt (by omega) (by omega) (by omega) (by omega)).mpr c4)]
        have : 2 ^ 53 ≤ 2 ^ (-E).toNat := Nat.pow_le_pow_right (by omega) (by omega)
        rw [Nat.div_eq_of_lt (by omega)]; rfl
      · rw [if_neg (fun q => c4 ((iI_lt (by omega) (by omega) (by omega) (by omega)).mp q)), iI_neg, nI_iI_toNat (show 0 ≤ -E by omega), jushr_lN (by omega) (by omega)]
    · rw [if_neg (fun q => c3 ((iI_lt0 (by omega) (by omega)).mp q)), FL_pos (by omega), nI_iI_toNat (show 0 ≤ E by omega), jshl_lN _ (by omega)]
      refine ⟨rfl, ⟨fun _ => ⟨e2, g2, trivial⟩, fun h => absurd rfl h⟩, ?_⟩
      have h1 : 2 ^ E.toNat ≤ 2 ^ 11 := Nat.pow_le_pow_right (by omega) (by omega)
      have h2 := Nat.mul_lt_mul_of_lt_of_le b2 h1 (Nat.two_pow_pos 11)
      exact Nat.lt_of_lt_of_le h2 (by decide)
theorem cut_is {w : Nat} (hw : w ≤ 1) (hs : s ≤ 1) (hz : z ≤ INF64) : fX3_cut (lN (s * 2 ^ 63 + z)) (nI w) = CM (if w = 0 then 2 ^ 31 - 1 else 2 ^ 63 - 1) s (FL (Mg 52 z) (-1074 + Xp 52 z)) ∧ okX3_cut (lN (s * 2 ^ 63 + z)) (nI w) := by
  have h9 : INF64 = 2047 * 2 ^ 52 := rfl
  have hz63 : z < 2 ^ 63 := by omega
  have n1 : ¬ (1 : Int32) = 0 := by decide
  have main : ∀ most : Nat, most < 2 ^ 63 → fX3_cut_13 (lN (s * 2 ^ 63 + z)) (lN most) = CM most s (FL (Mg 52 z) (-1074 + Xp 52 z)) ∧ okX3_cut_13 (lN (s * 2 ^ 63 + z)) (lN most) := by
    intro most hmost
    obtain ⟨gr, go⟩ := great_is hs hz
    have q0 : (nI s = 0) ↔ s = 0 := nI_eq (b := 0) (by omega) (by decide)
    have h25 : fX3_cut_25 (lN (s * 2 ^ 63 + z)) (lN most) (nI s) = CM most s (FL (Mg 52 z) (-1074 + Xp 52 z)) ∧ okX3_cut_25 (lN (s * 2 ^ 63 + z)) (lN most) (nI s) := by
      rw [fX3_cut_25, fX3_cut_33, okX3_cut_25, okX3_cut_33]
      have hgreat : most < FL (Mg 52 z) (-1074 + Xp 52 z) → ∀ x : Int64, fX3_cut_67 (lN most) (nI s) x = CM most s (FL (Mg 52 z) (-1074 + Xp 52 z)) := by
        intro h x
        rw [fX3_cut_67, fX3_cut_72, if_neg n1]
        rw [CM_gt h]
        simp only [q0]
      by_cases cg : fX2_isGreat (lN (s * 2 ^ 63 + z)) = 0
      · rw [if_pos cg, fX3_cut_46, if_pos cg]
        rw [gr] at cg
        have hI : z ≠ INF64 := fun h => by rw [if_pos h] at cg; exact n1 cg
        have hE : z ≠ 0 → Eg 52 (-1074) z ≤ 11 := by
          intro h
          rw [if_neg hI, if_neg h] at cg
          apply Int.not_lt.mp
          intro h2; rw [if_pos h2] at cg; exact n1 cg
        obtain ⟨k1, k2, k3⟩ := cutd_is hs (show z < INF64 by omega) hE
        refine ⟨?_, go, fun _ => ⟨k2, trivial⟩, fun _ => trivial⟩
        rw [k1]
        by_cases c1 : 2 ^ 63 ≤ FL (Mg 52 z) (-1074 + Xp 52 z)
        · rw [if_pos ((lN_lt0 k3).mpr c1)]
          exact hgreat (by omega) _
        · rw [if_neg (fun h => c1 ((lN_lt0 k3).mp h))]
          have q := lN_lt63 hmost (show FL (Mg 52 z) (-1074 + Xp 52 z) < 2 ^ 63 by omega)
          by_cases c2 : most < FL (Mg 52 z) (-1074 + Xp 52 z)
          · rw [if_pos (q.mpr c2)]; exact hgreat c2 _
          · rw [if_neg (fun h => c2 (q.mp h)), fX3_cut_72, if_pos rfl]
            rw [CM_le (by omega)]
            simp only [q0]
      · rw [if_neg cg, fX3_cut_46, if_neg cg]
        refine ⟨hgreat ?_ _, go, fun h => absurd h cg, fun _ => trivial⟩
        by_cases hI : z = INF64
        · rw [hI, show Xp 52 INF64 = 2046 from by decide, show Mg 52 INF64 = 2 ^ 52 from by decide, FL_pos (by decide), show ((-1074 : Int) + ((2046 : Nat) : Int)).toNat = 972 from by decide, ← Nat.pow_add]
          refine Nat.lt_of_lt_of_le hmost ?_
          exact Nat.pow_le_pow_right (by omega) (by omega)
        · rw [gr, if_neg hI] at cg
          by_cases c0 : z = 0
          · rw [if_pos c0] at cg; exact absurd rfl cg
          · rw [if_neg c0] at cg
            have hE : 11 < Eg 52 (-1074) z := by
              apply Decidable.byContradiction; intro h; rw [if_neg h] at cg; exact cg rfl
            obtain ⟨b1, b2⟩ := Sg_bounds (fb := 52) (by omega) (show 0 < z by omega)
            rw [← FL_sg, FL_pos (by omega)]
            have h1 : 2 ^ 12 ≤ 2 ^ (Eg 52 (-1074) z).toNat := Nat.pow_le_pow_right (by omega) (by omega)
            have h2 := Nat.mul_le_mul b1 h1
            refine Nat.lt_of_lt_of_le hmost (Nat.le_trans ?_ h2)
            decide
    have qs := d_lt0 hs hz63
    rw [fX3_cut_13, okX3_cut_13]
    by_cases c : s = 1
    · rw [if_pos (qs.mpr c)]
      have e1 : (1 : Int32) = nI s := by rw [c]; rfl
      rw [e1]
      exact ⟨h25.1, fun _ => h25.2, fun h => absurd (qs.mpr c) h⟩
    · rw [if_neg (fun h => c (qs.mp h))]
      have e1 : nI s = (0 : Int32) := by rw [show s = 0 by omega]; rfl
      rw [e1] at h25
      exact ⟨h25.1, fun h => absurd (qs.mp h) c, fun _ => h25.2⟩
  rw [fX3_cut, fX3_cut_0, okX3_cut, okX3_cut_0, show (2147483647 : Int64) = lN (2 ^ 31 - 1) from rfl, show (9223372036854775807 : Int64) = lN (2 ^ 63 - 1) from rfl]
  rcases (show w = 0 ∨ w = 1 by omega) with rfl | rfl
  · have e0 : nI 0 = (0 : Int32) := rfl
    obtain ⟨m1, m2⟩ := main (2 ^ 31 - 1) (by decide)
    rw [if_pos e0, if_pos rfl]
    exact ⟨m1, fun _ => m2, fun h => absurd e0 h⟩
  · have e0 : ¬ nI 1 = (0 : Int32) := by decide
    obtain ⟨m1, m2⟩ := main (2 ^ 63 - 1) (by decide)
    rw [if_neg e0, if_neg (by decide)]
    exact ⟨m1, fun h => absurd h e0, fun _ => m2⟩
end CUT
theorem toInt_lN {n : Nat} (h : n < 2 ^ 63) : (lN n).toInt = n := pk_lT h
theorem toInt_nlN {n : Nat} (h : n ≤ 2 ^ 63) : (-lN n).toInt = -(n : Int) := by
  rw [neg_lN (by omega)]
  by_cases c : n = 0
  · rw [c]; decide
  · rw [lN_ti (by omega), if_neg (by omega)]; omega
theorem cutToInt_is {s n : Nat} : fX1_cutToInt (CM (2 ^ 63 - 1) s n) = CM (2 ^ 31 - 1) s n := by
  have a1 : (-2147483648 : Int64).toInt = -2147483648 := by decide
  have a2 : (2147483647 : Int64).toInt = 2147483647 := by decide
  have key : ∀ (x : Int64) (k : Int), x.toInt = k → (fX1_cutToInt x).toInt = max (-2147483648) (min 2147483647 k) := by
    intro x k hk
    rw [fX1_cutToInt, fX1_cutToInt_0]
    unfold jmax jmin
    by_cases c1 : x < 2147483647
    · rw [if_pos c1]
      rw [Int64.lt_iff_toInt_lt, a2, hk] at c1
      by_cases c2 : x < -2147483648
      · rw [if_pos c2]; rw [Int64.lt_iff_toInt_lt, a1, hk] at c2; rw [a1]; omega
      · rw [if_neg c2]; rw [Int64.lt_iff_toInt_lt, a1, hk] at c2; rw [hk]; omega
    · rw [if_neg c1]
      rw [Int64.lt_iff_toInt_lt, a2, hk] at c1
      rw [if_neg (by decide), a2]; omega
  apply Int64.toInt_inj.mp
  have tC : ∀ most : Nat, most < 2 ^ 63 → (CM most s n).toInt = if n ≤ most then (if s = 0 then (n : Int) else -(n : Int)) else (if s = 0 then (most : Int) else -(most : Int) - 1) := by
    intro most hm
    unfold CM
    by_cases c1 : n ≤ most
    · rw [if_pos c1, if_pos c1]
      by_cases c2 : s = 0
      · rw [if_pos c2, if_pos c2, toInt_lN (by omega)]
      · rw [if_neg c2, if_neg c2, toInt_nlN (by omega)]
    · rw [if_neg c1, if_neg c1]
      by_cases c2 : s = 0
      · rw [if_pos c2, if_pos c2, toInt_lN (by omega)]
      · rw [if_neg c2, if_neg c2, fb_subL, toInt_nlN (by omega)]
        · rfl
        · rw [toInt_nlN (by omega), show (1 : Int64).toInt = 1 from rfl]; omega
        · rw [toInt_nlN (by omega), show (1 : Int64).toInt = 1 from rfl]; omega
  rw [key _ _ (tC _ (by decide)), tC _ (by decide)]
  by_cases c2 : s = 0
  · simp only [if_pos c2]
    split <;> split <;> omega
  · simp only [if_neg c2]
    split <;> split <;> omega
end
section
/-! which bits are those of a value -/
theorem flt_split {u : Nat} (hu : u < 2 ^ 32) : ∃ s z : Nat, s ≤ 1 ∧ z < 2 ^ 31 ∧ u = s * 2 ^ 31 + z := ⟨u / 2 ^ 31, u % 2 ^ 31, by omega, by omega, by omega⟩
theorem dbl_split {u : Nat} (hu : u < 2 ^ 64) : ∃ s z : Nat, s ≤ 1 ∧ z < 2 ^ 63 ∧ u = s * 2 ^ 63 + z := ⟨u / 2 ^ 63, u % 2 ^ 63, by omega, by omega, by omega⟩
theorem wide_ok (x : Int32) : okX2_wide x := by
  obtain ⟨u, hu, rfl⟩ := wb_of32 x
  obtain ⟨s, z, hs, hz, rfl⟩ := flt_split hu
  exact (wide_is hs hz).2
theorem l2i_in {b : Int64} (h1 : -2147483648 ≤ b.toInt) (h2 : b.toInt < 2147483648) : b.toInt32.toInt = b.toInt := by
  rw [Int64.toInt_toInt32]; exact fb_bmod h1 h2
theorem int_eq (b : Int64) : b.toInt32.toInt64 = b ↔ ¬ b < -2147483648 ∧ ¬ 2147483647 < b := by
  rw [Int64.lt_iff_toInt_lt, Int64.lt_iff_toInt_lt, show (-2147483648 : Int64).toInt = -2147483648 from by decide, show (2147483647 : Int64).toInt = 2147483647 from by decide, ← Int64.toInt_inj, Int32.toInt_toInt64]
  have h := fb_rng b.toInt32
  constructor
  · intro e; rw [e] at h; omega
  · intro e; exact l2i_in (by omega) (by omega)
theorem byte_eq (b : Int64) : (jbyte b.toInt32).toInt64 = b ↔ ¬ b < -128 ∧ ¬ 127 < b := by
  rw [Int64.lt_iff_toInt_lt, Int64.lt_iff_toInt_lt, show (-128 : Int64).toInt = -128 from by decide, show (127 : Int64).toInt = 127 from by decide, ← Int64.toInt_inj, Int32.toInt_toInt64]
  have h := fb_byte_rng b.toInt32
  unfold jbyte
  constructor
  · intro e; rw [e] at h; omega
  · intro e
    have h2 := l2i_in (b := b) (by omega) (by omega)
    rw [fb_byte (by omega) (by omega), h2]
theorem short_eq (b : Int64) : (jshort b.toInt32).toInt64 = b ↔ ¬ b < -32768 ∧ ¬ 32767 < b := by
  rw [Int64.lt_iff_toInt_lt, Int64.lt_iff_toInt_lt, show (-32768 : Int64).toInt = -32768 from by decide, show (32767 : Int64).toInt = 32767 from by decide, ← Int64.toInt_inj, Int32.toInt_toInt64]
  have h := fb_short_rng b.toInt32
  unfold jshort
  constructor
  · intro e; rw [e] at h; omega
  · intro e
    have h2 := l2i_in (b := b) (by omega) (by omega)
    rw [fb_short (by omega) (by omega), h2]
theorem char_eq (b : Int64) : (jchar b.toInt32).toInt64 = b ↔ ¬ b < 0 ∧ ¬ 65535 < b := by
  have hc : ∀ x : Int32, jchar x = nI (x.toBitVec.toNat % 65536) := fun x => pk_char x
  rw [hc, nI_toInt64 (by omega)]
  constructor
  · intro e
    rw [← e]
    refine ⟨by rw [lN_lt0 (by omega)]; omega, ?_⟩
    rw [show (65535 : Int64) = lN 65535 from rfl, lN_lt63 (by decide) (by omega)]; omega
  · rintro ⟨h1, h2⟩
    obtain ⟨n, hn, rfl⟩ := pk_lOf h1
    rw [show (65535 : Int64) = lN 65535 from rfl, lN_lt63 (by decide) (by omega)] at h2
    rw [lN_i, pk_tn (by omega), Nat.mod_eq_of_lt (by omega)]
theorem num6_out {u : Nat} (hu : u < 2 ^ 64) (h : 2 ^ 32 ≤ u) : fX0_isNumber 6 (lN u) = 0 := by
  rw [fX0_isNumber, fX0_isNumber_0, fX0_isNumber_6, fX0_size, fX0_size_0, show fX0_signBit 6 ^^^ (-1 : Int64) = lN (2 ^ 64 - 1 - 2 ^ 31) from by decide, wb_and hu (by decide)]
  have hd : (u &&& (2 ^ 64 - 1 - 2 ^ 31)) / 2 ^ 32 = u / 2 ^ 32 := by
    rw [Nat.and_div_two_pow, show (2 ^ 64 - 1 - 2 ^ 31) / 2 ^ 32 = 2 ^ 32 - 1 from by decide, Nat.and_two_pow_sub_one_eq_mod, Nat.mod_eq_of_lt (by omega)]
  have hlt : (u &&& (2 ^ 64 - 1 - 2 ^ 31)) < 2 ^ 64 := Nat.lt_of_le_of_lt Nat.and_le_left hu
  generalize u &&& (2 ^ 64 - 1 - 2 ^ 31) = x at *
  by_cases c : 2 ^ 63 ≤ x
  · rw [if_pos ((lN_lt0 hlt).mpr c)]
  · rw [if_neg (fun q => c ((lN_lt0 hlt).mp q)), show fX0_infinity 6 = lN 2139095040 from by decide, if_pos ((lN_lt63 (by decide) (by omega)).mpr (by omega))]
theorem isValue6 {s z : Nat} (hs : s ≤ 1) (hz : z < 2 ^ 31) : fX0_isNumber 6 (lN (s * 2 ^ 31 + z)) = if z ≤ INF32 then 1 else 0 := num_is Ks6 Kd6 hs hz
theorem isValue7 {s z : Nat} (hs : s ≤ 1) (hz : z < 2 ^ 63) : fX0_isNumber 7 (lN (s * 2 ^ 63 + z)) = if z ≤ INF64 then 1 else 0 := num_is Ks7 Kd7 hs hz
theorem ite3 {a b : Prop} [Decidable a] [Decidable b] : (if ¬ a ∧ ¬ b then (1 : Int32) else 0) = if a then 0 else if b then 0 else 1 := by
  by_cases ha : a <;> by_cases hb : b <;> simp [ha, hb]
theorem has_eq (k : Int32) (b : Int64) : fX1_isValue k b = fX3_hasBits k b := by
  rw [fX1_isValue, fX1_isValue_0, fX3_hasBits, fX3_hasBits_0]
  by_cases c0 : k = 0
  · rw [if_pos c0, if_pos c0]
  rw [if_neg c0, if_neg c0]
  by_cases c1 : k = 1
  · rw [if_pos c1, if_pos c1, fX1_isValue_66, fX1_narrowed, fX1_narrowed_0, if_pos c1, ite_eq10 (byte_eq b), ite3]
  rw [if_neg c1, if_neg c1]
  by_cases c2 : k = 2
  · rw [if_pos c2, if_pos c2, fX1_isValue_66, fX1_narrowed, fX1_narrowed_0, if_neg c1, if_pos c2, ite_eq10 (short_eq b), ite3]
  rw [if_neg c2, if_neg c2]
  by_cases c3 : k = 3
  · rw [if_pos c3, if_pos c3, fX1_isValue_66, fX1_narrowed, fX1_narrowed_0, if_neg c1, if_neg c2, if_pos c3, ite_eq10 (char_eq b), ite3]
  rw [if_neg c3, if_neg c3]
  by_cases c4 : k = 4
  · rw [if_pos c4, if_pos c4, fX1_isValue_66, fX1_narrowed, fX1_narrowed_0, if_neg c1, if_neg c2, if_neg c3, if_pos c4, ite_eq10 (int_eq b), ite3]
  rw [if_neg c4, if_neg c4]
  by_cases c5 : k = 5
  · rw [if_pos c5, if_pos c5, fX1_isValue_66, fX1_narrowed, fX1_narrowed_0, if_neg c1, if_neg c2, if_neg c3, if_neg c4, if_pos rfl]
  rw [if_neg c5, if_neg c5]
  by_cases c6 : k = 6
  · rw [if_pos c6, if_pos c6, fX1_isValue_82, c6]
    obtain ⟨u, hu, rfl⟩ := wb_of b
    by_cases cu : u < 2 ^ 32
    · rw [if_neg (by rw [lN_lt0 hu]; omega), show (4294967295 : Int64) = lN 4294967295 from rfl, if_neg (by rw [lN_lt63 (by decide) (by omega)]; omega), lN_i]
      obtain ⟨s, z, hs, hz, rfl⟩ := flt_split cu
      rw [isValue6 hs hz, (wide_is hs hz).1, none_is hs (Wd_lt hz)]
      by_cases cz : z ≤ INF32
      · rw [if_pos cz, if_pos ((Wd_le hz).mpr cz), if_pos rfl]
      · rw [if_neg cz, if_neg (fun h => cz ((Wd_le hz).mp h)), if_neg (by decide)]
    · rw [num6_out hu (by omega)]
      by_cases cn : 2 ^ 63 ≤ u
      · rw [if_pos ((lN_lt0 hu).mpr cn)]
      · rw [if_neg (fun q => cn ((lN_lt0 hu).mp q)), show (4294967295 : Int64) = lN 4294967295 from rfl, if_pos ((lN_lt63 (by decide) (by omega)).mpr (by omega))]
  rw [if_neg c6, if_neg c6]
  by_cases c7 : k = 7
  · rw [if_pos c7, if_pos c7, fX1_isValue_82, c7]
    obtain ⟨u, hu, rfl⟩ := wb_of b
    obtain ⟨s, z, hs, hz, rfl⟩ := dbl_split hu
    rw [isValue7 hs hz, none_is hs hz]
    by_cases cz : z ≤ INF64
    · rw [if_pos cz, if_pos cz, if_pos rfl]
    · rw [if_neg cz, if_neg cz, if_neg (by decide)]
  · rw [if_neg c7, if_neg c7]
theorem has_ok (k : Int32) (b : Int64) : okX3_hasBits k b := by
  rw [okX3_hasBits, okX3_hasBits_0]
  repeat' first | exact trivial | exact wide_ok _ | apply And.intro | intro _
theorem T_has (k : Int32) (b : Int64) (f : Int32) : fX1_has k b f = fX3_has k b f := by
  rw [fX1_has, fX1_has_0, fX3_has, fX3_has_0, has_eq]
theorem O_has (k : Int32) (b : Int64) (f : Int32) : okX3_has k b f := ⟨has_ok k b, trivial⟩
/-- the bits of a float, of a double, that is a number -/
theorem val6 {b : Int64} (h : ¬ fX3_hasBits 6 b = 0) : ∃ s z : Nat, s ≤ 1 ∧ z ≤ INF32 ∧ b = lN (s * 2 ^ 31 + z) := by
  rw [← has_eq] at h
  obtain ⟨u, hu, rfl⟩ := wb_of b
  have e : fX1_isValue 6 (lN u) = fX0_isNumber 6 (lN u) := rfl
  rw [e] at h
  by_cases cu : u < 2 ^ 32
  · obtain ⟨s, z, hs, hz, rfl⟩ := flt_split cu
    rw [isValue6 hs hz] at h
    by_cases cz : z ≤ INF32
    · exact ⟨s, z, hs, cz, rfl⟩
    · rw [if_neg cz] at h; exact absurd rfl h
  · rw [num6_out hu (by omega)] at h; exact absurd rfl h
theorem val7 {b : Int64} (h : ¬ fX3_hasBits 7 b = 0) : ∃ s z : Nat, s ≤ 1 ∧ z ≤ INF64 ∧ b = lN (s * 2 ^ 63 + z) := by
  rw [← has_eq] at h
  obtain ⟨u, hu, rfl⟩ := wb_of b
  have e : fX1_isValue 7 (lN u) = fX0_isNumber 7 (lN u) := rfl
  rw [e] at h
  obtain ⟨s, z, hs, hz, rfl⟩ := dbl_split hu
  rw [isValue7 hs hz] at h
  by_cases cz : z ≤ INF64
  · exact ⟨s, z, hs, cz, rfl⟩
  · rw [if_neg cz] at h; exact absurd rfl h
/-! widens, by the kinds alone -/
theorem kind_of {k : Int32} (h1 : ¬ k < 1) (h2 : ¬ 7 < k) : k = 1 ∨ k = 2 ∨ k = 3 ∨ k = 4 ∨ k = 5 ∨ k = 6 ∨ k = 7 := by
  rw [Int32.lt_iff_toInt_lt, show (1 : Int32).toInt = 1 from rfl] at h1
  rw [Int32.lt_iff_toInt_lt, show (7 : Int32).toInt = 7 from rfl] at h2
  have := iI_self k
  rcases (show k.toInt = 1 ∨ k.toInt = 2 ∨ k.toInt = 3 ∨ k.toInt = 4 ∨ k.toInt = 5 ∨ k.toInt = 6 ∨ k.toInt = 7 by omega) with h | h | h | h | h | h | h <;> rw [h] at this <;> rw [← this] <;> decide
theorem isNum_eq (k : Int32) : fX1_isNumberKind k = fX3_isNumber k := rfl
theorem T_widens (a b : Int32) (f : Int32) : fX1_widens a b f = fX3_widens a b f := by
  rw [fX1_widens, fX1_widens_0, fX3_widens, fX3_widens_0]
  have l0 : ∀ k : Int32, k < 0 → k < 1 := fun k h => by
    rw [Int32.lt_iff_toInt_lt] at h ⊢
    have e0 : (0 : Int32).toInt = 0 := rfl
    have e1 : (1 : Int32).toInt = 1 := rfl
    rw [e0] at h; rw [e1]; omega
  by_cases cab : a = b
  · rw [if_pos cab]
    by_cases c1 : a < 0
    · rw [if_pos c1, if_pos c1]
    · rw [if_neg c1, if_neg c1]
      by_cases c2 : 7 < a
      · rw [if_pos c2, if_pos c2]
      · rw [if_neg c2, if_neg c2, if_pos cab]
  · rw [if_neg cab, fX1_isNumberKind, fX1_isNumberKind, fX1_isNumberKind_0, fX1_isNumberKind_0]
    by_cases c1 : a < 0
    · rw [if_pos (l0 a c1), if_pos rfl, if_pos c1]
    · rw [if_neg c1]
      by_cases c2 : 7 < a
      · rw [if_pos c2, if_pos c2]
        by_cases c3 : a < 1
        · rw [if_pos c3, if_pos rfl]
        · rw [if_neg c3, if_pos rfl]
      · rw [if_neg c2, if_neg c2, if_neg cab]
        have n1 : ¬ (1 : Int32) = 0 := by decide
        by_cases d1 : b < 0
        · rw [if_pos d1, if_pos (l0 b d1)]
          by_cases c3 : a < 1
          · rw [if_pos c3, if_pos rfl]
          · rw [if_neg c3, if_neg n1, if_pos rfl]
        · rw [if_neg d1]
          by_cases d2 : 7 < b
          · rw [if_pos d2, if_pos d2]
            by_cases c3 : a < 1
            · rw [if_pos c3, if_pos rfl]
            · rw [if_neg c3, if_neg n1]
              by_cases d3 : b < 1
              · rw [if_pos d3, if_pos rfl]
              · rw [if_neg d3, if_pos rfl]
          · rw [if_neg d2, if_neg d2]
            have kz : ∀ k : Int32, ¬ k < 0 → k < 1 → k = 0 := fun k h1 h2 => by
              rw [Int32.lt_iff_toInt_lt] at h1 h2
              have e0 : (0 : Int32).toInt = 0 := rfl
              have e1 : (1 : Int32).toInt = 1 := rfl
              rw [e0] at h1; rw [e1] at h2
              exact Int32.toInt_inj.mp (by rw [e0]; omega)
            have ha : a = 0 ∨ a = 1 ∨ a = 2 ∨ a = 3 ∨ a = 4 ∨ a = 5 ∨ a = 6 ∨ a = 7 := by
              by_cases c3 : a < 1
              · exact Or.inl (kz a c1 c3)
              · exact Or.inr (kind_of c3 c2)
            have hb : b = 0 ∨ b = 1 ∨ b = 2 ∨ b = 3 ∨ b = 4 ∨ b = 5 ∨ b = 6 ∨ b = 7 := by
              by_cases c3 : b < 1
              · exact Or.inl (kz b d1 c3)
              · exact Or.inr (kind_of c3 d2)
            clear cab c1 c2 d1 d2
            rcases ha with rfl | rfl | rfl | rfl | rfl | rfl | rfl | rfl <;> rcases hb with rfl | rfl | rfl | rfl | rfl | rfl | rfl | rfl <;> rfl
/-! shifts -/
theorem and63 (n : Int64) : (n &&& (63 : Int64)).toInt32 = n.toInt32 &&& (63 : Int32) := by
  obtain ⟨u, hu, rfl⟩ := wb_of n
  rw [show (63 : Int64) = lN (2 ^ 6 - 1) from rfl, wb_mask hu (by decide), lN_i, lN_i, pk_and _ 6 (by decide)]
  congr 1
  show u % 2 ^ 6 = (BitVec.ofNat 32 u).toNat % 2 ^ 6
  rw [BitVec.toNat_ofNat]; omega
theorem and31 (n : Int64) : (n &&& (31 : Int64)).toInt32 = n.toInt32 &&& (31 : Int32) := by
  obtain ⟨u, hu, rfl⟩ := wb_of n
  rw [show (31 : Int64) = lN (2 ^ 5 - 1) from rfl, wb_mask hu (by decide), lN_i, lN_i, pk_and _ 5 (by decide)]
  congr 1
  show u % 2 ^ 5 = (BitVec.ofNat 32 u).toNat % 2 ^ 5
  rw [BitVec.toNat_ofNat]; omega
theorem T_shift (w k : Int32) (x y : Int64) (f : Int32) : fX1_shift w k x y f = fX3_shift w k x y f := by
  have bad : ∀ g : Int32, fX1_shift_42 g = ((0 : Int64), (1 : Int32)) := fun g => rfl
  have bad3 : ∀ g : Int32, fX3_shift_35 w k x y g = ((0 : Int64), (1 : Int32)) := fun g => rfl
  have n1 : ¬ (1 : Int32) = 0 := by decide
  rw [fX1_shift, fX1_shift_0, fX3_shift, fX3_shift_0, bad3]
  have e16 : fX1_shift_16 w k x y f = ((0 : Int64), (1 : Int32)) := rfl
  rw [e16]
  by_cases c1 : w < 6
  · rw [if_pos c1, if_pos c1]
  rw [if_neg c1, if_neg c1]
  by_cases c2 : 8 < w
  · rw [if_pos c2, if_pos c2]
  rw [if_neg c2, if_neg c2, fX1_shift_17, if_neg n1, bad]
  by_cases c3 : k < 1
  · rw [if_pos c3, if_pos c3]
  rw [if_neg c3, if_neg c3]
  by_cases c4 : 5 < k
  · rw [if_pos c4, if_pos c4]
  rw [if_neg c4, if_neg c4, has_eq]
  by_cases c5 : fX3_hasBits k x = 0
  · rw [if_pos c5, if_pos c5]
  rw [if_neg c5, if_neg c5, fX3_shift_36, if_neg (show ¬ (0 : Int32) < 0 by decide)]
  by_cases c6 : k = 5
  · rw [if_pos c6, if_pos c6, fX3_shift_63, fX3_shift_66, if_pos c6, and63, fX1_shiftedLong, fX1_shiftedLong_0]
    by_cases d1 : w = 6
    · rw [if_pos d1, if_pos d1]
    · rw [if_neg d1, if_neg d1]
      by_cases d2 : w = 7
      · rw [if_pos d2, if_pos d2]
      · rw [if_neg d2, if_neg d2]
  · rw [if_neg c6, if_neg c6, fX3_shift_63, fX3_shift_66, if_neg c6, and31, fX1_shiftedInt, fX1_shiftedInt_0, fX3_shift_106]
    by_cases d1 : w = 6
    · rw [if_pos d1, if_pos d1]
    · rw [if_neg d1, if_neg d1]
      by_cases d2 : w = 7
      · rw [if_pos d2, if_pos d2]
      · rw [if_neg d2, if_neg d2]
theorem O_shift (w k : Int32) (x y : Int64) (f : Int32) : okX3_shift w k x y f := by
  rw [okX3_shift, okX3_shift_0]
  repeat' first | exact trivial | exact has_ok _ _ | apply And.intro | intro _
end
section
/-! casts -/
theorem signed6 {s z : Nat} (hs : s ≤ 1) (hz : z < 2 ^ 31) : fX0_signed 6 (nI s) (lN z) = lN (s * 2 ^ 31 + z) := signed_is Ks6 hs hz
theorem signed7 {s z : Nat} (hs : s ≤ 1) (hz : z < 2 ^ 63) : fX0_signed 7 (nI s) (lN z) = lN (s * 2 ^ 63 + z) := signed_is Ks7 hs hz
theorem INF64_lt : INF64 < 2 ^ 63 := by decide
theorem INF32_lt : INF32 < 2 ^ 31 := by decide
theorem lt31 {z : Nat} (h : z ≤ INF32) : z < 2 ^ 31 := Nat.lt_of_le_of_lt h INF32_lt
theorem lt63 {z : Nat} (h : z ≤ INF64) : z < 2 ^ 63 := Nat.lt_of_le_of_lt h INF64_lt
theorem fd31 {z : Nat} (h : z < 2 ^ 31) : z / 2 ^ 23 < 100000 := by omega
theorem fd63 {z : Nat} (h : z < 2 ^ 63) : z / 2 ^ 52 < 100000 := by omega
theorem RZ_Mg {fb z : Nat} {w : Int} : RZ fb (Mg 23 z) w = if z = 0 then 0 else RD fb (Mg 23 z) w := by
  unfold RZ
  by_cases h : z = 0
  · rw [if_pos h, h, if_pos (show Mg 23 0 = 0 from rfl)]
  · rw [if_neg h, if_neg]
    have := Mg_pos (fb := 23) (show 0 < z by omega); omega
theorem RZ_Mg52 {fb z : Nat} {w : Int} : RZ fb (Mg 52 z) w = if z = 0 then 0 else RD fb (Mg 52 z) w := by
  unfold RZ
  by_cases h : z = 0
  · rw [if_pos h, h, if_pos (show Mg 52 0 = 0 from rfl)]
  · rw [if_neg h, if_neg]
    have := Mg_pos (fb := 52) (show 0 < z by omega); omega
theorem ofReal76 {s z : Nat} (hs : s ≤ 1) (hz : z ≤ INF32) : fX0_ofReal 7 6 (lN (s * 2 ^ 31 + z)) = lN (s * 2 ^ 63 + Wd z) := by
  have hl := lt31 hz
  have h8 : INF32 = 255 * 2 ^ 23 := rfl
  have hm := Mg_lt 23 z
  have hx : Xp 23 z ≤ 254 := by unfold Xp; omega
  rw [fX0_ofReal, fX0_ofReal_0, fX0_ofReal_7, neg_is Ks6 hs hl, inf_is Ks6 Kd6 hs hl, mag_is Ks6 Kd6 (by decide) hs hl, exp_is Ks6 Kd6 (fd31 hl) hs hl]
  by_cases c : z = (253 + 2) * 2 ^ 23
  · rw [if_pos c, if_neg (by decide), show fX0_infinity 7 = lN INF64 from by decide, signed7 hs INF64_lt, c, show Wd ((253 + 2) * 2 ^ 23) = INF64 from Wd_inf]
  · rw [if_neg c, if_pos rfl, nearest_z Kd7 (by omega) (by omega) (by omega), RZ_Mg]
    have e1 : min ((2045 + 2) * 2 ^ 52) (if z = 0 then 0 else RD 52 (Mg 23 z) (-149 + (Xp 23 z : Int) - -1074)) = Wd z := by
      by_cases c0 : z = 0
      · rw [if_pos c0, c0, Wd_0]; decide
      · have hlt : z < INF32 := by omega
        have e2 : Wd z = RD 52 (Mg 23 z) (Xp 23 z + 925) := by unfold Wd; rw [if_neg c0, if_neg (by omega)]
        have := (Wd_dec (by omega) hlt).2.2.2
        rw [if_neg c0, show -149 + (Xp 23 z : Int) - -1074 = Xp 23 z + 925 by omega, ← e2]
        have h9 : INF64 = (2045 + 2) * 2 ^ 52 := rfl
        omega
    rw [e1, signed7 hs (Wd_lt hl)]
theorem ofReal67 {s z : Nat} (hs : s ≤ 1) (hz : z ≤ INF64) : fX0_ofReal 6 7 (lN (s * 2 ^ 63 + z)) = lN (s * 2 ^ 31 + Nr z) := by
  have hl := lt63 hz
  have h9 : INF64 = 2047 * 2 ^ 52 := rfl
  have hm := Mg_lt 52 z
  have hx : Xp 52 z ≤ 2046 := by unfold Xp; omega
  rw [fX0_ofReal, fX0_ofReal_0, fX0_ofReal_7, neg_is Ks7 hs hl, inf_is Ks7 Kd7 hs hl, mag_is Ks7 Kd7 (by decide) hs hl, exp_is Ks7 Kd7 (fd63 hl) hs hl]
  by_cases c : z = (2045 + 2) * 2 ^ 52
  · rw [if_pos c, if_neg (by decide), show fX0_infinity 6 = lN INF32 from by decide, signed6 hs INF32_lt]
    unfold Nr
    rw [if_neg (by omega), if_pos (by omega)]
  · rw [if_neg c, if_pos rfl, nearest_z Kd6 (by omega) (by omega) (by omega), RZ_Mg52]
    have e1 : min ((253 + 2) * 2 ^ 23) (if z = 0 then 0 else RD 23 (Mg 52 z) (-1074 + (Xp 52 z : Int) - -149)) = Nr z := by
      unfold Nr
      by_cases c0 : z = 0
      · rw [if_pos c0, if_pos c0]; decide
      · rw [if_neg c0, if_neg c0, if_neg (by omega), show -1074 + (Xp 52 z : Int) - -149 = Xp 52 z - 925 by omega]; rfl
    rw [e1, signed6 hs (lt31 (Nr_le z))]
theorem Nr_mask {s z : Nat} (hs : s ≤ 1) (hz : z ≤ INF64) : (fX2_narrow (lN (s * 2 ^ 63 + z))).toInt64 &&& (4294967295 : Int64) = lN (s * 2 ^ 31 + Nr z) := by
  rw [(narrow_is hs hz).1, i2u (f_u hs (lt31 (Nr_le z)))]
theorem Wd_le' {z : Nat} (hz : z ≤ INF32) : Wd z ≤ INF64 := (Wd_le (lt31 hz)).mpr hz
theorem whole7 (v : Int64) : fX0_ofWhole 7 v = fX2_of v 0 ∧ okX2_of v 0 := by
  obtain ⟨s, n, hs, hv⟩ := Wh_of v
  obtain ⟨h1, h2⟩ := of_is hv
  refine ⟨?_, h2⟩
  have hle := Nat.min_le_left INF64 (RZ 52 n 1074)
  rw [ofWhole_is Kd7 hv, h1, show min ((2045 + 2) * 2 ^ 52) (RZ 52 n (- -1074)) = min INF64 (RZ 52 n 1074) from rfl, signed7 hs (lt63 hle)]
theorem whole6 (v : Int64) : fX0_ofWhole 6 v = (fX2_narrow (fX2_floatOf v 0)).toInt64 &&& (4294967295 : Int64) ∧ okX2_floatOf v 0 ∧ okX2_narrow (fX2_floatOf v 0) := by
  obtain ⟨s, n, hs, hv⟩ := Wh_of v
  obtain ⟨h1, h2⟩ := floatOf_is hv
  have hle := Nat.min_le_left INF32 (RZ 23 n 149)
  rw [h1]
  refine ⟨?_, h2, (narrow_is hs (Wd_le' hle)).2⟩
  rw [ofWhole_is Kd6 hv, show min ((253 + 2) * 2 ^ 23) (RZ 23 n (- -149)) = min INF32 (RZ 23 n 149) from rfl, signed6 hs (lt31 hle), Nr_mask hs (Wd_le' hle), Nr_Wd hle]
theorem widened_ok (x : Int64) (a b : Int32) : okX3_widened x a b := by
  rw [okX3_widened, okX3_widened_0]
  exact ⟨fun _ => trivial, fun _ => ⟨fun _ => trivial, fun _ => ⟨fun _ => trivial, fun _ => ⟨fun _ => ⟨fun _ => ⟨wide_ok _, trivial⟩, fun _ => ⟨(whole7 _).2, trivial⟩⟩, fun _ => ⟨fun _ => ⟨(whole6 _).2.1, (whole6 _).2.2, trivial⟩, fun _ => trivial⟩⟩⟩⟩⟩
theorem FL_0 (e : Int) : FL 0 e = 0 := by unfold FL; rw [Nat.zero_mul, Nat.zero_div]
theorem FL_Wd {z : Nat} (hz : z ≤ INF32) (most s : Nat) (hm : most < 2 ^ 63) : CM most s (FL (Mg 23 z) (-149 + Xp 23 z)) = CM most s (FL (Mg 52 (Wd z)) (-1074 + Xp 52 (Wd z))) := by
  have h8 : INF32 = 255 * 2 ^ 23 := rfl
  by_cases c0 : z = 0
  · rw [c0, Wd_0, show Mg 23 0 = 0 from rfl, show Mg 52 0 = 0 from rfl, FL_0, FL_0]
  · by_cases c1 : z = INF32
    · refine CM_big ?_ ?_
      · rw [c1, show Xp 23 INF32 = 254 from by decide, show Mg 23 INF32 = 2 ^ 23 from by decide, FL_pos (by decide), show ((-149 : Int) + ((254 : Nat) : Int)).toNat = 105 from by decide, ← Nat.pow_add]
        exact Nat.lt_of_lt_of_le hm (Nat.pow_le_pow_right (by omega) (by omega))
      · rw [c1, Wd_inf, show Xp 52 INF64 = 2046 from by decide, show Mg 52 INF64 = 2 ^ 52 from by decide, FL_pos (by decide), show ((-1074 : Int) + ((2046 : Nat) : Int)).toNat = 972 from by decide, ← Nat.pow_add]
        exact Nat.lt_of_lt_of_le hm (Nat.pow_le_pow_right (by omega) (by omega))
    · obtain ⟨d1, d2, d3, d4⟩ := Wd_dec (show 0 < z by omega) (show z < INF32 by omega)
      have hl := log2_lt (Mg_pos (fb := 23) (show 0 < z by omega)) (Mg_lt 23 z)
      rw [d1, d2]
      unfold Sg
      rw [FL_shift]
      congr 2
      omega
theorem i32ne {a b : Nat} (ha : a < 2 ^ 31) (hb : b < 2 ^ 31) (h : a ≠ b) : ¬ nI a = nI b := fun q => h ((nI_eq ha hb).mp q)
theorem c93_5 (v : Int64) : fX3_casted_93 5 v = v := rfl
theorem c93_n (to : Int32) (v : Int64) : fX1_narrowed to v = fX3_casted_93 to v := rfl
/-- to a whole kind -/
theorem toWhole {to : Int32} {d : Int64} {s n : Nat} {v : Int64} (hv : v = CM (2 ^ 63 - 1) s n) (hc1 : fX3_cut d 1 = CM (2 ^ 63 - 1) s n) (hc0 : fX3_cut d 0 = CM (2 ^ 31 - 1) s n) : fX1_converted_53 to v = fX3_casted_78 to d := by
  rw [fX1_converted_53, fX3_casted_78, fX3_casted_88, fX3_casted_88, hc1, hc0, hv, cutToInt_is]
  by_cases c : to = 5
  · rw [if_pos c, if_pos c, c, c93_5]
  · rw [if_neg c, if_neg c, c93_n]
theorem k_lt6 {k : Int32} (h : k < 6) : ¬ k = 6 ∧ ¬ k = 7 := by
  constructor <;> intro e <;> rw [e] at h <;> exact absurd h (by decide)
theorem k_ge6 {k : Int32} (h1 : ¬ k < 6) (h2 : ¬ 7 < k) : k = 6 ∨ k = 7 := by
  rw [Int32.lt_iff_toInt_lt, show (6 : Int32).toInt = 6 from rfl] at h1
  rw [Int32.lt_iff_toInt_lt, show (7 : Int32).toInt = 7 from rfl] at h2
  rcases (show k.toInt = 6 ∨ k.toInt = 7 by omega) with h | h
  · exact Or.inl (Int32.toInt_inj.mp h)
  · exact Or.inr (Int32.toInt_inj.mp h)
theorem conv_eq {a b : Int32} {x : Int64} (ha1 : ¬ a < 1) (ha7 : ¬ 7 < a) (hb7 : ¬ 7 < b) (hx : ¬ fX3_hasBits a x = 0) : fX1_converted a b x = fX3_casted x a b ∧ okX3_casted x a b := by
  rw [fX1_converted, fX1_converted_0, fX3_casted, fX3_casted_0, okX3_casted, okX3_casted_0]
  by_cases cab : a = b
  · rw [if_pos cab, if_pos cab]
    exact ⟨rfl, fun _ => trivial, fun h => absurd cab h⟩
  rw [if_neg cab, if_neg cab]
  by_cases cb : b < 6
  · obtain ⟨b6, b7⟩ := k_lt6 cb
    rw [if_pos cb, if_neg b7, if_neg b6, fX3_casted_32, if_neg b6, okX3_casted_32]
    by_cases ca : a < 6
    · obtain ⟨a6, a7⟩ := k_lt6 ca
      rw [if_pos ca, if_neg a6, if_neg a7]
      exact ⟨rfl, fun h => absurd h cab, fun _ => ⟨fun h => absurd h b7, fun _ => ⟨fun h => absurd h b6, fun _ => ⟨fun h => absurd h b6, fun _ => ⟨fun h => absurd h a6, fun _ => ⟨fun h => absurd h a7, fun _ => trivial⟩⟩⟩⟩⟩⟩
    · rw [if_neg ca]
      rcases k_ge6 ca ha7 with rfl | rfl
      · obtain ⟨s, z, hs, hz, rfl⟩ := val6 hx
        have hl := lt31 hz
        obtain ⟨p1, p2⟩ := cut_is (w := 1) (by decide) hs (Wd_le' hz)
        obtain ⟨z1, z2⟩ := cut_is (w := 0) (by decide) hs (Wd_le' hz)
        have hw := wholePart_is Ks6 Kd6 (by decide) hs hl (fd31 hl)
        rw [FL_Wd hz _ _ (by decide)] at hw
        have e := (wide_is hs hl).1
        rw [if_pos rfl, fX3_casted_63, if_pos rfl, lN_i, e, okX3_casted_63, lN_i, e, okX3_casted_78, okX3_casted_88, okX3_casted_88]
        refine ⟨toWhole hw p1 z1, fun h => absurd h cab, fun _ => ⟨fun h => absurd h b7, fun _ => ⟨fun h => absurd h b6, fun _ => ⟨fun h => absurd h b6, fun _ => ⟨fun _ => ⟨fun _ => ⟨wide_ok _, fun _ => ⟨p2, trivial⟩, fun _ => ⟨z2, trivial⟩⟩, fun h => absurd rfl h⟩, fun h => absurd rfl h⟩⟩⟩⟩⟩
      · obtain ⟨s, z, hs, hz, rfl⟩ := val7 hx
        have hl := lt63 hz
        obtain ⟨p1, p2⟩ := cut_is (w := 1) (by decide) hs hz
        obtain ⟨z1, z2⟩ := cut_is (w := 0) (by decide) hs hz
        have hw := wholePart_is Ks7 Kd7 (by decide) hs hl (fd63 hl)
        have h76 : ¬ (7 : Int32) = 6 := by decide
        rw [if_neg h76, if_pos rfl, fX3_casted_63, if_neg h76, okX3_casted_63, okX3_casted_78, okX3_casted_88, okX3_casted_88]
        refine ⟨toWhole hw p1 z1, fun h => absurd h cab, fun _ => ⟨fun h => absurd h b7, fun _ => ⟨fun h => absurd h b6, fun _ => ⟨fun h => absurd h b6, fun _ => ⟨fun h => absurd h h76, fun _ => ⟨fun _ => ⟨fun h => absurd h h76, fun _ => ⟨fun _ => ⟨p2, trivial⟩, fun _ => ⟨z2, trivial⟩⟩⟩, fun h => absurd rfl h⟩⟩⟩⟩⟩⟩
  · rw [if_neg cb]
    rcases k_ge6 cb hb7 with rfl | rfl
    · have h67 : ¬ (6 : Int32) = 7 := by decide
      rw [if_neg h67, if_pos rfl]
      by_cases ca : a < 6
      · obtain ⟨a6, a7⟩ := k_lt6 ca
        rw [if_pos ca, if_pos ca, fX3_casted_25, okX3_casted_25, fX3_widened, fX3_widened_0, if_neg cab, if_neg ha1, if_neg ha7, if_neg h67, if_pos rfl]
        exact ⟨(whole6 x).1, fun h => absurd h cab, fun _ => ⟨fun h => absurd h h67, fun _ => ⟨fun _ => ⟨fun _ => ⟨widened_ok _ _ _, trivial⟩, fun h => absurd ca h⟩, fun h => absurd rfl h⟩⟩⟩
      · rw [if_neg ca, if_neg ca]
        rcases k_ge6 ca ha7 with rfl | rfl
        · exact absurd rfl cab
        · obtain ⟨s, z, hs, hz, rfl⟩ := val7 hx
          rw [fX3_casted_32, if_pos rfl, okX3_casted_32, ofReal67 hs hz, Nr_mask hs hz]
          exact ⟨rfl, fun h => absurd h cab, fun _ => ⟨fun h => absurd h h67, fun _ => ⟨fun _ => ⟨fun h => absurd h ca, fun _ => ⟨fun _ => ⟨(narrow_is hs hz).2, trivial⟩, fun h => absurd rfl h⟩⟩, fun h => absurd rfl h⟩⟩⟩
    · rw [if_pos rfl, fX3_casted_25, okX3_casted_25, fX3_widened, fX3_widened_0, if_neg cab, if_neg ha1, if_neg ha7, if_pos rfl]
      refine ⟨?_, fun h => absurd h cab, fun _ => ⟨fun _ => ⟨widened_ok _ _ _, trivial⟩, fun h => absurd rfl h⟩⟩
      by_cases ca : a < 6
      · obtain ⟨a6, a7⟩ := k_lt6 ca
        rw [if_pos ca, if_neg a6, (whole7 x).1]
      · rw [if_neg ca]
        rcases k_ge6 ca ha7 with rfl | rfl
        · obtain ⟨s, z, hs, hz, rfl⟩ := val6 hx
          rw [if_pos rfl, ofReal76 hs hz, lN_i, (wide_is hs (lt31 hz)).1]
        · exact absurd rfl cab
theorem num_ne {k : Int32} (h : ¬ fX3_isNumber k = 0) : ¬ k < 1 ∧ ¬ 7 < k := by
  rw [fX3_isNumber, fX3_isNumber_0] at h
  by_cases c1 : k < 1
  · rw [if_pos c1] at h; exact absurd rfl h
  · rw [if_neg c1] at h
    by_cases c2 : 7 < k
    · rw [if_pos c2] at h; exact absurd rfl h
    · exact ⟨c1, c2⟩
theorem casted_same (x : Int64) (a : Int32) : fX3_casted x a a = x ∧ okX3_casted x a a := by
  rw [fX3_casted, fX3_casted_0, if_pos rfl, okX3_casted, okX3_casted_0]
  exact ⟨rfl, fun _ => trivial, fun h => absurd rfl h⟩
theorem conv_same (x : Int64) (a : Int32) : fX1_converted a a x = x := by rw [fX1_converted, fX1_converted_0, if_pos rfl]
/-- a cast that is allowed -/
theorem conv_ok {a b : Int32} {x : Int64} (hk : a = b ∨ (¬ fX3_isNumber a = 0 ∧ ¬ fX3_isNumber b = 0)) (hx : ¬ fX3_hasBits a x = 0) : fX1_converted a b x = fX3_casted x a b ∧ okX3_casted x a b := by
  rcases hk with rfl | ⟨h1, h2⟩
  · exact ⟨by rw [conv_same, (casted_same x a).1], (casted_same x a).2⟩
  · obtain ⟨p1, p2⟩ := num_ne h1
    obtain ⟨q1, q2⟩ := num_ne h2
    exact conv_eq p1 p2 q2 hx
theorem T_cast (a b : Int32) (x : Int64) (f : Int32) : fX1_cast a b x f = fX3_cast a b x f := by
  have n1 : ¬ (1 : Int32) = 0 := by decide
  have bad : fX1_cast_23 a b x f = fX3_cast_31 a b x f := rfl
  have good : (a = b ∨ (¬ fX3_isNumber a = 0 ∧ ¬ fX3_isNumber b = 0)) → fX1_cast_19 a b x f = fX3_cast_19 a b x f := by
    intro hk
    rw [fX1_cast_19, fX1_cast_24, if_neg n1, fX3_cast_19, has_eq]
    by_cases c : fX3_hasBits a x = 0
    · rw [if_pos c, if_pos c]; rfl
    · rw [if_neg c, if_neg c, fX3_cast_32, if_neg n1, fX3_cast_45, if_neg n1, (conv_ok hk c).1]
  rw [fX1_cast, fX1_cast_0, fX3_cast, fX3_cast_0, isNum_eq, isNum_eq]
  by_cases c1 : a = b
  · rw [if_pos c1, if_pos c1, good (Or.inl c1)]
  · rw [if_neg c1, if_neg c1]
    by_cases c2 : fX3_isNumber a = 0
    · rw [if_pos c2, if_pos c2, bad]
    · rw [if_neg c2, if_neg c2]
      by_cases c3 : fX3_isNumber b = 0
      · rw [if_pos c3, if_pos c3, bad]
      · rw [if_neg c3, if_neg c3, good (Or.inr ⟨c2, c3⟩)]
theorem O_cast (a b : Int32) (x : Int64) (f : Int32) : okX3_cast a b x f := by
  have n1 : ¬ (1 : Int32) = 0 := by decide
  have bad : okX3_cast_31 a b x f := by
    rw [okX3_cast_31, okX3_cast_32, okX3_cast_45]
    exact ⟨fun _ => ⟨fun _ => trivial, fun h => absurd rfl h⟩, fun h => absurd rfl h⟩
  have good : (a = b ∨ (¬ fX3_isNumber a = 0 ∧ ¬ fX3_isNumber b = 0)) → okX3_cast_19 a b x f := by
    intro hk
    rw [okX3_cast_19]
    refine ⟨has_ok _ _, fun _ => bad, fun c => ?_⟩
    rw [okX3_cast_32, okX3_cast_45, okX3_cast_45]
    exact ⟨fun h => absurd h n1, fun _ => ⟨fun h => absurd h n1, fun _ => ⟨(conv_ok hk c).2, trivial⟩⟩⟩
  rw [okX3_cast, okX3_cast_0]
  exact ⟨fun c => good (Or.inl c), fun _ => ⟨fun _ => bad, fun c2 => ⟨fun _ => bad, fun c3 => good (Or.inr ⟨c2, c3⟩)⟩⟩⟩
end
section
/-! orders -/
def sgi (a b : Int) : Int32 := if a = b then 0 else if a < b then -1 else 1
theorem sgi_congr {a b c d : Int} (h1 : a = b ↔ c = d) (h2 : a < b ↔ c < d) : sgi a b = sgi c d := by unfold sgi; simp only [h1, h2]
theorem side_is (x y : Int64) : fX1_sideOf x y = sgi x.toInt y.toInt := by
  rw [fX1_sideOf, fX1_sideOf_0]; unfold sgi
  simp only [Int64.lt_iff_toInt_lt, ← Int64.toInt_inj]
theorem jcmp_is (x y : Int64) : fJ13_compare_74951 x y = sgi x.toInt y.toInt := by
  rw [fJ13_compare_74951, fJ13_compare_74951_0]; unfold sgi
  simp only [Int64.lt_iff_toInt_lt, ← Int64.toInt_inj]
  by_cases h : x.toInt < y.toInt
  · rw [if_pos h, if_neg (show ¬ x.toInt = y.toInt by omega), if_pos h]
  · rw [if_neg h, if_neg h]
theorem c48_is (x y : Int64) : fX2_compare_48 x y = sgi x.toInt y.toInt := by
  rw [fX2_compare_48]; unfold sgi
  simp only [Int64.lt_iff_toInt_lt]
  by_cases h : x.toInt < y.toInt
  · rw [if_pos h, if_neg (show ¬ x.toInt = y.toInt by omega), if_pos h]
  · rw [if_neg h, if_neg h]
    by_cases h2 : x.toInt = y.toInt
    · rw [if_pos h2, if_neg (show ¬ y.toInt < x.toInt by omega)]
    · rw [if_neg h2, if_pos (show y.toInt < x.toInt by omega)]
/-- sign and size as a number: with one zero, with two -/
def v1 (s z : Nat) : Int := if s = 0 then z else -(z : Int)
def v2 (s z : Nat) : Int := if s = 0 then z else -1 - (z : Int)
theorem place_is {kind : Int32} {sb s z : Nat} (K : Ks kind sb) (hs : s ≤ 1) (hz : z < 2 ^ sb) : (fX0_place kind (lN (s * 2 ^ sb + z))).toInt = v1 s z := by
  have h4 : 2 ^ sb ≤ 2 ^ 63 := Nat.pow_le_pow_right (by omega) K.2.1
  rw [fX0_place, fX0_place_0, fX0_place_6, neg_is K hs hz, size_is K hs hz]
  unfold v1
  rcases (show s = 0 ∨ s = 1 by omega) with rfl | rfl
  · rw [if_pos (show nI 0 = 0 from rfl), if_pos rfl, toInt_lN (by omega)]
  · rw [if_neg (show ¬ nI 1 = 0 by decide), if_neg (by decide), toInt_nlN (by omega)]
theorem placeZ_is {kind : Int32} {sb s z : Nat} (K : Ks kind sb) (hs : s ≤ 1) (hz : z < 2 ^ sb) : (fX0_placeWithZerosApart kind (lN (s * 2 ^ sb + z))).toInt = v2 s z := by
  have h4 : 2 ^ sb ≤ 2 ^ 63 := Nat.pow_le_pow_right (by omega) K.2.1
  rw [fX0_placeWithZerosApart, fX0_placeWithZerosApart_0, fX0_placeWithZerosApart_6, neg_is K hs hz, size_is K hs hz]
  unfold v2
  rcases (show s = 0 ∨ s = 1 by omega) with rfl | rfl
  · rw [if_pos (show nI 0 = 0 from rfl), if_pos rfl, toInt_lN (by omega)]
  · rw [if_neg (show ¬ nI 1 = 0 by decide), if_neg (by decide)]
    have e1 : (1 : Int64).toInt = 1 := rfl
    have e2 := toInt_nlN (n := z) (by omega)
    rw [fb_subL (by rw [e1, e2]; omega) (by rw [e1, e2]; omega), e1, e2]; omega
/-- the reference's rank of a double -/
theorem rank_is {s z : Nat} (hs : s ≤ 1) (hz : z < 2 ^ 63) : (if lN (s * 2 ^ 63 + z) < 0 then lN (s * 2 ^ 63 + z) ^^^ (9223372036854775807 : Int64) else lN (s * 2 ^ 63 + z)).toInt = v2 s z := by
  have qs := d_lt0 hs hz
  unfold v2
  rcases (show s = 0 ∨ s = 1 by omega) with rfl | rfl
  · rw [if_neg (fun h => absurd (qs.mp h) (by decide)), if_pos rfl, Nat.zero_mul, Nat.zero_add, toInt_lN hz]
  · rw [if_pos (qs.mpr rfl), if_neg (by decide), show (9223372036854775807 : Int64) = lN (2 ^ 63 - 1) from rfl, lN_xor]
    have hx : (1 * 2 ^ 63 + z) ^^^ (2 ^ 63 - 1) = 2 ^ 64 - 1 - z := by
      have h1 : (2 ^ 63 - 1 : Nat) = 2 ^ 64 - 1 ^^^ 2 ^ 63 := by decide
      apply Nat.eq_of_testBit_eq
      intro i
      rw [Nat.testBit_xor, Nat.testBit_two_pow_sub_one, show 2 ^ 64 - 1 - z = 2 ^ 64 - (z + 1) by omega, Nat.testBit_two_pow_sub_succ (by omega)]
      by_cases c : i = 63
      · rw [c, Nat.one_mul, Nat.testBit_two_pow_add_eq, Nat.testBit_lt_two_pow hz]; decide
      · rcases Nat.lt_or_ge i 63 with q | q
        · rw [Nat.one_mul, Nat.testBit_two_pow_add_gt q, decide_eq_true q, decide_eq_true (show i < 64 by omega), Bool.xor_true, Bool.true_and]
        · have h2 : 1 * 2 ^ 63 + z < 2 ^ i := by
            have : 2 ^ 64 ≤ 2 ^ i := Nat.pow_le_pow_right (by omega) (by omega)
            omega
          rw [Nat.testBit_lt_two_pow h2, decide_eq_false (show ¬ i < 63 by omega), decide_eq_false (show ¬ i < 64 by omega)]; rfl
    rw [hx, lN_ti (by omega), if_neg (by omega)]
    omega
theorem cmpd_is {s z s' z' : Nat} (hs : s ≤ 1) (hz : z < 2 ^ 63) (hs' : s' ≤ 1) (hz' : z' < 2 ^ 63) : fX2_compare (lN (s * 2 ^ 63 + z)) (lN (s' * 2 ^ 63 + z')) = sgi (v1 s z) (v1 s' z') := by
  have n1 : ¬ (1 : Int32) = 0 := by decide
  have r1 := rank_is hs hz
  have r2 := rank_is hs' hz'
  have h16 : fX2_compare_16 (lN (s * 2 ^ 63 + z)) (lN (s' * 2 ^ 63 + z')) = sgi (v2 s z) (v2 s' z') := by
    rw [fX2_compare_16, fX2_compare_31, fX2_compare_31]
    simp only [c48_is]
    rw [← r1, ← r2]
    by_cases c1 : lN (s * 2 ^ 63 + z) < 0
    · by_cases c2 : lN (s' * 2 ^ 63 + z') < 0
      · rw [if_pos c1, if_pos c1, if_pos c2, if_pos c2]
      · rw [if_pos c1, if_pos c1, if_neg c2, if_neg c2]
    · by_cases c2 : lN (s' * 2 ^ 63 + z') < 0
      · rw [if_neg c1, if_neg c1, if_pos c2, if_pos c2]
      · rw [if_neg c1, if_neg c1, if_neg c2, if_neg c2]
  have hgo : ¬ (z = 0 ∧ z' = 0) → sgi (v2 s z) (v2 s' z') = sgi (v1 s z) (v1 s' z') := by
    intro h
    unfold v1 v2
    apply sgi_congr
    · split <;> split <;> omega
    · split <;> split <;> omega
  rw [fX2_compare, fX2_compare_0, zerod_is hs hz, zerod_is hs' hz']
  by_cases c1 : z = 0
  · rw [if_pos c1, if_neg n1]
    by_cases c2 : z' = 0
    · rw [if_pos c2, if_neg n1, c1, c2]
      unfold v1 sgi
      rw [if_pos]
      split <;> split <;> omega
    · rw [if_neg c2, if_pos rfl, h16, hgo (fun h => c2 h.2)]
  · rw [if_neg c1, if_pos rfl, h16, hgo (fun h => c1 h.1)]
/-- the values of sizes stand as the sizes do -/
theorem Xp_mono {fb z z' : Nat} (h : z ≤ z') : Xp fb z ≤ Xp fb z' := by
  unfold Xp
  have := Nat.div_le_div_right (c := 2 ^ fb) h
  omega
theorem V_mono {fb z z' : Nat} (h : z < z') : Mg fb z * 2 ^ Xp fb z < Mg fb z' * 2 ^ Xp fb z' := by
  have hx := Xp_mono (fb := fb) (Nat.le_of_lt h)
  have e1 := MgXp_z fb z
  have e2 := MgXp_z fb z'
  rcases Nat.eq_or_lt_of_le hx with q | q
  · rw [q] at e1 ⊢
    exact Nat.mul_lt_mul_of_pos_right (by omega) (Nat.two_pow_pos _)
  · have hz' : 2 ^ fb ≤ z' := by
      apply Nat.le_of_not_lt; intro hlt; rw [Mg_Xp hlt] at q; omega
    have h1 := Mg_ge hz'
    have h2 := Mg_lt fb z
    have h3 : Mg fb z * 2 ^ Xp fb z < 2 ^ (fb + 1) * 2 ^ Xp fb z := Nat.mul_lt_mul_of_pos_right h2 (Nat.two_pow_pos _)
    have h4 : 2 ^ fb * 2 ^ Xp fb z' ≤ Mg fb z' * 2 ^ Xp fb z' := Nat.mul_le_mul_right _ h1
    rw [← Nat.pow_add] at h3 h4
    have h5 : 2 ^ (fb + 1 + Xp fb z) ≤ 2 ^ (fb + Xp fb z') := Nat.pow_le_pow_right (by omega) (by omega)
    omega
theorem Wd_val {z : Nat} (h0 : 0 < z) (hz : z < INF32) : Mg 52 (Wd z) * 2 ^ Xp 52 (Wd z) = Mg 23 z * 2 ^ Xp 23 z * 2 ^ 925 := by
  obtain ⟨d1, d2, -, -⟩ := Wd_dec h0 hz
  have hl := log2_lt (Mg_pos (fb := 23) h0) (Mg_lt 23 z)
  rw [d1, d2]
  unfold Sg
  rw [Nat.mul_assoc, ← Nat.pow_add, Nat.mul_assoc, ← Nat.pow_add]
  congr 2
  omega
theorem Wd_mono {z z' : Nat} (h : z < z') (hz' : z' ≤ INF32) : Wd z < Wd z' := by
  by_cases c0 : z = 0
  · have := (Wd_zero (z := z') (lt31 hz'))
    rw [c0, Wd_0]; omega
  · have hz : z < INF32 := by omega
    by_cases c1 : z' = INF32
    · rw [c1, Wd_inf]; exact (Wd_dec (by omega) hz).2.2.2
    · have a := Wd_val (show 0 < z by omega) hz
      have b := Wd_val (show 0 < z' by omega) (show z' < INF32 by omega)
      have c := Nat.mul_lt_mul_of_pos_right (V_mono (fb := 23) h) (Nat.two_pow_pos 925)
      rw [← a, ← b] at c
      apply Nat.lt_of_not_le
      intro hle
      rcases Nat.eq_or_lt_of_le hle with q | q
      · rw [q] at c; omega
      · have := V_mono (fb := 52) q; omega
theorem Wd_lt_iff {z z' : Nat} (hz : z ≤ INF32) (hz' : z' ≤ INF32) : Wd z < Wd z' ↔ z < z' := by
  constructor
  · intro h
    apply Nat.lt_of_not_le; intro hle
    rcases Nat.eq_or_lt_of_le hle with q | q
    · rw [q] at h; omega
    · have := Wd_mono q hz; omega
  · intro h; exact Wd_mono h hz'
theorem Wd_eq_iff {z z' : Nat} (hz : z ≤ INF32) (hz' : z' ≤ INF32) : Wd z = Wd z' ↔ z = z' := by
  have a := Wd_lt_iff hz hz'
  have b := Wd_lt_iff hz' hz
  omega
theorem sgi_Wd1 {s z s' z' : Nat} (hz : z ≤ INF32) (hz' : z' ≤ INF32) : sgi (v1 s (Wd z)) (v1 s' (Wd z')) = sgi (v1 s z) (v1 s' z') := by
  have a := Wd_lt_iff hz hz'
  have b := Wd_lt_iff hz' hz
  have c := Wd_zero (z := z) (lt31 hz)
  have d := Wd_zero (z := z') (lt31 hz')
  unfold v1
  apply sgi_congr
  · split <;> split <;> omega
  · split <;> split <;> omega
theorem sgi_Wd2 {s z s' z' : Nat} (hz : z ≤ INF32) (hz' : z' ≤ INF32) : sgi (v2 s (Wd z)) (v2 s' (Wd z')) = sgi (v2 s z) (v2 s' z') := by
  have a := Wd_lt_iff hz hz'
  have b := Wd_lt_iff hz' hz
  unfold v2
  apply sgi_congr
  · split <;> split <;> omega
  · split <;> split <;> omega
theorem order_eq {k : Int32} {x y : Int64} (h7 : ¬ 7 < k) (hx : ¬ fX3_hasBits k x = 0) (hy : ¬ fX3_hasBits k y = 0) : (if k < 6 then fX1_sideOf x y else fX1_sideOf (fX0_placeWithZerosApart k x) (fX0_placeWithZerosApart k y)) = fJ13_compare_74951 (fX3_ranked k x) (fX3_ranked k y) := by
  rw [jcmp_is, fX3_ranked, fX3_ranked, fX3_ranked_0, fX3_ranked_0]
  by_cases c : k < 6
  · rw [if_pos c, if_pos c, if_pos c, side_is]
  · rw [if_neg c, if_neg c, if_neg c, side_is]
    rcases k_ge6 c h7 with rfl | rfl
    · obtain ⟨s, z, hs, hz, rfl⟩ := val6 hx
      obtain ⟨s', z', hs', hz', rfl⟩ := val6 hy
      rw [if_pos rfl, if_pos rfl, placeZ_is Ks6 hs (lt31 hz), placeZ_is Ks6 hs' (lt31 hz'), lN_i, lN_i, (wide_is hs (lt31 hz)).1, (wide_is hs' (lt31 hz')).1, fX3_ranked_23, fX3_ranked_23, rank_is hs (Wd_lt (lt31 hz)), rank_is hs' (Wd_lt (lt31 hz')), sgi_Wd2 hz hz']
    · obtain ⟨s, z, hs, hz, rfl⟩ := val7 hx
      obtain ⟨s', z', hs', hz', rfl⟩ := val7 hy
      have h76 : ¬ (7 : Int32) = 6 := by decide
      rw [if_neg h76, if_neg h76, placeZ_is Ks7 hs (lt63 hz), placeZ_is Ks7 hs' (lt63 hz'), fX3_ranked_23, fX3_ranked_23, rank_is hs (lt63 hz), rank_is hs' (lt63 hz')]
theorem val_kind {k : Int32} {x : Int64} (h : ¬ fX3_hasBits k x = 0) : ¬ k < 0 ∧ ¬ 7 < k := by
  rw [fX3_hasBits, fX3_hasBits_0] at h
  constructor
  · intro q
    have ne : ∀ j : Int32, ¬ j < 0 → ¬ k = j := fun j hj e => hj (by rw [← e]; exact q)
    rw [if_neg (ne 0 (by decide)), if_neg (ne 1 (by decide)), if_neg (ne 2 (by decide)), if_neg (ne 3 (by decide)), if_neg (ne 4 (by decide)), if_neg (ne 5 (by decide)), if_neg (ne 6 (by decide)), if_neg (ne 7 (by decide))] at h
    exact h rfl
  · intro q
    have ne : ∀ j : Int32, ¬ 7 < j → ¬ k = j := fun j hj e => hj (by rw [← e]; exact q)
    rw [if_neg (ne 0 (by decide)), if_neg (ne 1 (by decide)), if_neg (ne 2 (by decide)), if_neg (ne 3 (by decide)), if_neg (ne 4 (by decide)), if_neg (ne 5 (by decide)), if_neg (ne 6 (by decide)), if_neg (ne 7 (by decide))] at h
    exact h rfl
theorem T_order (k : Int32) (x y : Int64) (f : Int32) : fX1_order k x y f = fX3_order k x y f := by
  have bad : fX1_order_17 f = ((2 : Int32), (1 : Int32)) := rfl
  have bad3 : fX3_order_32 k x y f = ((2 : Int32), (1 : Int32)) := rfl
  rw [fX1_order, fX1_order_0, fX3_order, fX3_order_0, bad, bad3, has_eq, has_eq]
  by_cases c1 : fX3_hasBits k x = 0
  · rw [if_pos c1, if_pos c1]
    by_cases d1 : k < 0
    · rw [if_pos d1]
    · rw [if_neg d1]
      by_cases d2 : 7 < k
      · rw [if_pos d2]
      · rw [if_neg d2]
  · obtain ⟨d1, d2⟩ := val_kind c1
    rw [if_neg c1, if_neg d1, if_neg d2, if_neg c1]
    by_cases c2 : fX3_hasBits k y = 0
    · rw [if_pos c2, if_pos c2]
    · rw [if_neg c2, if_neg c2, fX3_order_33, if_neg (show ¬ (0 : Int32) < 0 by decide), ← order_eq d2 c1 c2]
      by_cases c3 : k < 6
      · rw [if_pos c3, if_pos c3]
      · rw [if_neg c3, if_neg c3]
theorem ranked_ok (k : Int32) (x : Int64) : okX3_ranked k x := by
  rw [okX3_ranked, okX3_ranked_0]
  exact ⟨fun _ => trivial, fun _ => ⟨fun _ => ⟨wide_ok _, trivial⟩, fun _ => trivial⟩⟩
theorem O_order (k : Int32) (x y : Int64) (f : Int32) : okX3_order k x y f := by
  have h33 : ∀ s1 : Int32, okX3_order_33 k x y s1 f := fun s1 => by
    rw [okX3_order_33]; exact ⟨fun _ => trivial, fun _ => ⟨ranked_ok _ _, ranked_ok _ _, trivial⟩⟩
  have h32 : okX3_order_32 k x y f := h33 1
  rw [okX3_order, okX3_order_0]
  exact ⟨fun _ => h32, fun _ => ⟨fun _ => h32, fun _ => ⟨has_ok _ _, fun _ => h32, fun _ => ⟨has_ok _ _, fun _ => h32, fun _ => h33 0⟩⟩⟩⟩
end
section
/-! both numbers cast to the kind in which is worked -/
theorem imax_toInt (x y : Int32) : (imax x y).toInt = max x.toInt y.toInt := by
  unfold imax
  by_cases h : x < y
  · rw [if_pos h]; rw [Int32.lt_iff_toInt_lt] at h; omega
  · rw [if_neg h]; rw [Int32.lt_iff_toInt_lt] at h; omega
theorem wk_facts {k o : Int32} (hk : ¬ 7 < k) (ho : ¬ 7 < o) : ¬ imax 4 (imax k o) < 4 ∧ ¬ 7 < imax 4 (imax k o) ∧ ¬ imax 4 (imax k o) < k ∧ ¬ imax 4 (imax k o) < o := by
  have e4 : (4 : Int32).toInt = 4 := rfl
  have e7 : (7 : Int32).toInt = 7 := rfl
  simp only [Int32.lt_iff_toInt_lt, imax_toInt, e4, e7] at *
  omega
theorem back32 (y : Int32) : y.toInt64.toInt32 = y := by
  apply Int32.toInt_inj.mp
  have h := fb_rng y
  rw [l2i_in (by rw [Int32.toInt_toInt64]; omega) (by rw [Int32.toInt_toInt64]; omega), Int32.toInt_toInt64]
theorem small_int {k : Int32} {x : Int64} (h1 : ¬ k < 1) (h4 : k < 4) (hx : ¬ fX3_hasBits k x = 0) : x.toInt32.toInt64 = x := by
  rw [← has_eq, fX1_isValue, fX1_isValue_0] at hx
  have e7 : ¬ 7 < k := by
    rw [Int32.lt_iff_toInt_lt] at h4 ⊢
    have e4 : (4 : Int32).toInt = 4 := rfl
    have e7 : (7 : Int32).toInt = 7 := rfl
    rw [e4] at h4; rw [e7]; omega
  have fin : ∀ y : Int32, y.toInt64 = x → x.toInt32.toInt64 = x := fun y e => by rw [← e, back32]
  have go : ¬ fX1_isValue_66 k x = 0 → fX1_narrowed k x = x := by
    intro h
    rw [fX1_isValue_66] at h
    by_cases c : fX1_narrowed k x = x
    · exact c
    · rw [if_neg c] at h; exact absurd rfl h
  rcases kind_of h1 e7 with rfl | rfl | rfl | rfl | rfl | rfl | rfl
  · exact fin _ (go hx)
  · exact fin _ (go hx)
  · exact fin _ (go hx)
  · exact absurd h4 (by decide)
  · exact absurd h4 (by decide)
  · exact absurd h4 (by decide)
  · exact absurd h4 (by decide)
theorem wid_eq {k t : Int32} {x : Int64} (hk1 : ¬ k < 1) (hk7 : ¬ 7 < k) (ht4 : ¬ t < 4) (ht7 : ¬ 7 < t) (hkt : ¬ t < k) (hx : ¬ fX3_hasBits k x = 0) : fX1_converted k t x = fX3_widened x k t := by
  rw [fX1_converted, fX1_converted_0, fX3_widened, fX3_widened_0]
  by_cases c : k = t
  · rw [if_pos c, if_pos c]
  rw [if_neg c, if_neg c, if_neg hk1, if_neg hk7]
  have kl : k < t := by
    rw [Int32.lt_iff_toInt_lt] at hkt ⊢
    have hne : ¬ k.toInt = t.toInt := fun h => c (Int32.toInt_inj.mp h)
    omega
  by_cases t6 : t < 6
  · obtain ⟨a, b⟩ := k_lt6 t6
    have k6 : k < 6 := by
      rw [Int32.lt_iff_toInt_lt] at t6 kl ⊢; omega
    rw [if_pos t6, if_pos k6, if_neg b, if_neg a]
    have ht : t = 4 ∨ t = 5 := by
      rw [Int32.lt_iff_toInt_lt] at t6 ht4
      have e4 : (4 : Int32).toInt = 4 := rfl
      have e6 : (6 : Int32).toInt = 6 := rfl
      rw [e6] at t6; rw [e4] at ht4
      rcases (show t.toInt = 4 ∨ t.toInt = 5 by omega) with h | h
      · exact Or.inl (Int32.toInt_inj.mp h)
      · exact Or.inr (Int32.toInt_inj.mp h)
    rcases ht with rfl | rfl
    · exact small_int hk1 kl hx
    · rfl
  · rw [if_neg t6]
    rcases k_ge6 t6 ht7 with rfl | rfl
    · rw [if_pos kl, if_neg (show ¬ (6 : Int32) = 7 by decide), if_pos rfl, (whole6 x).1]
    · rw [if_pos rfl]
      by_cases k6 : k < 6
      · rw [if_pos k6, if_neg (k_lt6 k6).1, (whole7 x).1]
      · rw [if_neg k6]
        rcases k_ge6 k6 hk7 with rfl | rfl
        · obtain ⟨s, z, hs, hz, rfl⟩ := val6 hx
          rw [if_pos rfl, ofReal76 hs hz, lN_i, (wide_is hs (lt31 hz)).1]
        · exact absurd rfl c
theorem wid_val6 {k : Int32} {x : Int64} (hk1 : ¬ k < 1) (hkt : ¬ 6 < k) (hx : ¬ fX3_hasBits k x = 0) : ∃ s z : Nat, s ≤ 1 ∧ z ≤ INF32 ∧ fX3_widened x k 6 = lN (s * 2 ^ 31 + z) := by
  rw [fX3_widened, fX3_widened_0]
  by_cases c : k = 6
  · rw [if_pos c]; rw [c] at hx; exact val6 hx
  · have h7 : ¬ 7 < k := by
      rw [Int32.lt_iff_toInt_lt] at hkt ⊢
      have e6 : (6 : Int32).toInt = 6 := rfl
      have e7 : (7 : Int32).toInt = 7 := rfl
      rw [e6] at hkt; rw [e7]; omega
    rw [if_neg c, if_neg hk1, if_neg h7, if_neg (show ¬ (6 : Int32) = 7 by decide), if_pos rfl, ← (whole6 x).1]
    obtain ⟨s, n, hs, hv⟩ := Wh_of x
    have hle := Nat.min_le_left INF32 (RZ 23 n 149)
    refine ⟨s, min INF32 (RZ 23 n 149), hs, hle, ?_⟩
    rw [ofWhole_is Kd6 hv, show min ((253 + 2) * 2 ^ 23) (RZ 23 n (- -149)) = min INF32 (RZ 23 n 149) from rfl, signed6 hs (lt31 hle)]
theorem wid_val7 {k : Int32} {x : Int64} (hk1 : ¬ k < 1) (hk7 : ¬ 7 < k) (hx : ¬ fX3_hasBits k x = 0) : ∃ s z : Nat, s ≤ 1 ∧ z ≤ INF64 ∧ fX3_widened x k 7 = lN (s * 2 ^ 63 + z) := by
  rw [fX3_widened, fX3_widened_0]
  by_cases c : k = 7
  · rw [if_pos c]; rw [c] at hx; exact val7 hx
  · rw [if_neg c, if_neg hk1, if_neg hk7, if_pos rfl]
    by_cases c6 : k = 6
    · rw [if_pos c6]; rw [c6] at hx
      obtain ⟨s, z, hs, hz, rfl⟩ := val6 hx
      exact ⟨s, Wd z, hs, Wd_le' hz, by rw [lN_i, (wide_is hs (lt31 hz)).1]⟩
    · rw [if_neg c6]
      obtain ⟨s, n, hs, hv⟩ := Wh_of x
      exact ⟨s, min INF64 (RZ 52 n 1074), hs, Nat.min_le_left _ _, (of_is hv).1⟩
theorem are_eq (k : Int32) (x : Int64) (o : Int32) (y : Int64) (f : Int32) : fX3_areNumbers k x o y f = (fX1_areNumbers k x o y, f) := by
  rw [fX3_areNumbers, fX3_areNumbers_0, fX1_areNumbers, fX1_areNumbers_0, isNum_eq, isNum_eq, has_eq, has_eq]
  by_cases c1 : fX3_isNumber k = 0
  · rw [if_pos c1, if_pos c1]
  rw [if_neg c1, if_neg c1]
  by_cases c2 : fX3_isNumber o = 0
  · rw [if_pos c2, if_pos c2]
  rw [if_neg c2, if_neg c2]
  by_cases c3 : fX3_hasBits k x = 0
  · rw [if_pos c3, if_pos c3]
  rw [if_neg c3, if_neg c3]
  by_cases c4 : fX3_hasBits o y = 0
  · rw [if_pos c4, if_pos c4]
  · rw [if_neg c4, if_neg c4]
theorem are_ne {k o : Int32} {x y : Int64} (h : ¬ fX1_areNumbers k x o y = 0) : (¬ k < 1 ∧ ¬ 7 < k) ∧ (¬ o < 1 ∧ ¬ 7 < o) ∧ ¬ fX3_hasBits k x = 0 ∧ ¬ fX3_hasBits o y = 0 := by
  rw [fX1_areNumbers, fX1_areNumbers_0, isNum_eq, isNum_eq, has_eq, has_eq] at h
  by_cases c1 : fX3_isNumber k = 0
  · rw [if_pos c1] at h; exact absurd rfl h
  rw [if_neg c1] at h
  by_cases c2 : fX3_isNumber o = 0
  · rw [if_pos c2] at h; exact absurd rfl h
  rw [if_neg c2] at h
  by_cases c3 : fX3_hasBits k x = 0
  · rw [if_pos c3] at h; exact absurd rfl h
  rw [if_neg c3] at h
  by_cases c4 : fX3_hasBits o y = 0
  · rw [if_pos c4] at h; exact absurd rfl h
  exact ⟨num_ne c1, num_ne c2, c3, c4⟩
theorem are_ok (k : Int32) (x : Int64) (o : Int32) (y : Int64) (f : Int32) : okX3_areNumbers k x o y f := by
  rw [okX3_areNumbers, okX3_areNumbers_0]
  exact ⟨fun _ => trivial, fun _ => ⟨fun _ => trivial, fun _ => ⟨has_ok _ _, fun _ => trivial, fun _ => ⟨has_ok _ _, fun _ => trivial, fun _ => trivial⟩⟩⟩⟩
theorem T_compare (k : Int32) (x : Int64) (o : Int32) (y : Int64) (f : Int32) : fX1_compare k x o y f = fX3_compare k x o y f := by
  rw [fX1_compare, fX1_compare_0, fX3_compare, fX3_compare_0, are_eq]
  by_cases c : fX1_areNumbers k x o y = 0
  · rw [if_pos c, if_pos c]; rfl
  · rw [if_neg c, if_neg c, fX3_compare_19, if_neg (show ¬ (0 : Int32) < 0 by decide)]
    obtain ⟨⟨k1, k7⟩, ⟨o1, o7⟩, hx, hy⟩ := are_ne c
    obtain ⟨t4, t7, tk, to⟩ := wk_facts k7 o7
    rw [fX1_compare_32, fX1_compare_41, fX1_compare_52, fX3_compare_43, fX3_compare_52, fX3_compare_63, fX1_workKind, fX1_workKind_0]
    generalize imax 4 (imax k o) = t at *
    rw [wid_eq k1 k7 t4 t7 tk hx, wid_eq o1 o7 t4 t7 to hy]
    by_cases t6 : t < 6
    · rw [if_pos t6, if_pos t6, side_is, jcmp_is]
    · rw [if_neg t6, if_neg t6, side_is]
      rcases k_ge6 t6 t7 with rfl | rfl
      · obtain ⟨s, z, hs, hz, e1⟩ := wid_val6 k1 tk hx
        obtain ⟨s', z', hs', hz', e2⟩ := wid_val6 o1 to hy
        rw [e1, e2, if_pos rfl, place_is Ks6 hs (lt31 hz), place_is Ks6 hs' (lt31 hz'), lN_i, lN_i, (wide_is hs (lt31 hz)).1, (wide_is hs' (lt31 hz')).1, cmpd_is hs (Wd_lt (lt31 hz)) hs' (Wd_lt (lt31 hz')), sgi_Wd1 hz hz']
      · obtain ⟨s, z, hs, hz, e1⟩ := wid_val7 k1 k7 hx
        obtain ⟨s', z', hs', hz', e2⟩ := wid_val7 o1 o7 hy
        rw [e1, e2, if_neg (show ¬ (7 : Int32) = 6 by decide), place_is Ks7 hs (lt63 hz), place_is Ks7 hs' (lt63 hz'), cmpd_is hs (lt63 hz) hs' (lt63 hz')]
theorem O_compare (k : Int32) (x : Int64) (o : Int32) (y : Int64) (f : Int32) : okX3_compare k x o y f := by
  have h19 : ∀ s1 g : Int32, okX3_compare_19 k x o y s1 g := fun s1 g => by
    rw [okX3_compare_19, okX3_compare_43, okX3_compare_52, okX3_compare_63]
    exact ⟨fun _ => trivial, fun _ => ⟨widened_ok _ _ _, widened_ok _ _ _, fun _ => trivial, fun _ => ⟨fun _ => ⟨wide_ok _, wide_ok _, trivial⟩, fun _ => trivial⟩⟩⟩
  rw [okX3_compare, okX3_compare_0]
  exact ⟨are_ok _ _ _ _ _, fun _ => h19 _ _, fun _ => h19 _ _⟩
end
section
/-! rounded to 53 bits and then to 24: as if to 24 at once, where the first is no half of the second -/
theorem ar23 (X : Nat) : (X + 1) * 2 ^ 23 + 2 ^ 23 = X * 2 ^ 23 + 2 ^ 24 := by omega
theorem DR {M p d : Nat} {w : Int} (hM : 0 < M) (hn : 0 ≤ w + M.log2 - 52) (hd : (d : Int) = M.log2 - 52 + p)
    (hc : ∀ h : Nat, (h : Int) = (w + M.log2 - 948).toNat + 977 - (w + M.log2) → (rne (M * 2 ^ p) (2 ^ d) % 2 ^ h ≠ 2 ^ (h - 1) ∨ (M * 2 ^ p) % 2 ^ d = 0)) :
    RD 23 (Mg 52 (RD 52 M w)) (Xp 52 (RD 52 M w) - 925) = RD 23 M (w - 925) := by
  obtain ⟨T, hT⟩ : ∃ T : Nat, (T : Int) = w + M.log2 - 52 := ⟨(w + M.log2 - 52).toNat, by omega⟩
  obtain ⟨h, hh⟩ : ∃ h : Nat, (h : Int) = (w + M.log2 - 948).toNat + 977 - (w + M.log2) := ⟨((w + M.log2 - 948).toNat + 977 - (w + M.log2)).toNat, by omega⟩
  have hcc := hc h hh
  have hd1 : (d : Int) = (w + M.log2 - (52 : Nat)).toNat - w + p := by omega
  have hkb := kept_bounds (fb := 52) hM hd1
  have hlo := hkb.2 (by omega)
  have hhi := hkb.1
  have eZ := RD_eval (fb := 52) hM hd1
  rw [show (w + M.log2 - (52 : Nat)).toNat = T by omega] at eZ
  have eR := RD_eval (fb := 23) (M := M) (w := w - 925) (p := p) (d := d + h) hM (by omega)
  rw [rne_two (by omega) hcc] at eR
  rw [show (w - 925 + (M.log2 : Int) - (23 : Nat)).toNat = (w + M.log2 - 948).toNat by omega] at eR
  generalize rne (M * 2 ^ p) (2 ^ d) = k at *
  rw [eR, eZ]
  by_cases c : k < 2 ^ 53
  · obtain ⟨d1, d2⟩ := dec_of (t := T) hlo c
    have lk : k.log2 = 52 := log2_is hlo c
    rw [d1, d2, RD_eval (fb := 23) (M := k) (w := (T : Int) - 925) (p := 0) (d := h) (by omega) (by rw [lk]; omega), lk, Nat.pow_zero, Nat.mul_one]
    congr 2
    omega
  · have ek : k = 2 ^ 53 := by omega
    have e2 : T * 2 ^ 52 + k = (T + 1) * 2 ^ 52 + 2 ^ 52 := by rw [ek]; omega
    obtain ⟨d1, d2⟩ := dec_of (t := T + 1) (k := 2 ^ 52) (by omega) (by decide)
    have lk : (2 ^ 52 : Nat).log2 = 52 := by decide
    rw [e2, d1, d2, ek]
    by_cases cT : 896 ≤ T
    · have h29 : h = 29 := by omega
      rw [RD_eval (fb := 23) (M := 2 ^ 52) (w := ((T + 1 : Nat) : Int) - 925) (p := 0) (d := 29) (by decide) (by rw [lk]; omega), lk, h29, Nat.pow_zero, Nat.mul_one,
        show rne (2 ^ 52) (2 ^ 29) = 2 ^ 23 from by decide, show rne (2 ^ 53) (2 ^ 29) = 2 ^ 24 from by decide,
        show (((T + 1 : Nat) : Int) - 925 + ((52 : Nat) : Int) - (23 : Nat)).toNat = (w + M.log2 - 948).toNat + 1 by omega]
      exact ar23 _
    · obtain ⟨g, hg⟩ : ∃ g : Nat, h = g + 1 := ⟨h - 1, by omega⟩
      rw [RD_eval (fb := 23) (M := 2 ^ 52) (w := ((T + 1 : Nat) : Int) - 925) (p := 0) (d := g) (by decide) (by rw [lk]; omega), lk, hg, Nat.pow_zero, Nat.mul_one,
        show (((T + 1 : Nat) : Int) - 925 + ((52 : Nat) : Int) - (23 : Nat)).toNat = 0 by omega, show (w + M.log2 - 948).toNat = 0 by omega,
        show (2 : Nat) ^ 53 = 2 ^ 52 * 2 from by decide, show (2 : Nat) ^ (g + 1) = 2 ^ g * 2 from rfl, rne_scale (by decide)]
/-- the float of a double that was rounded, from the number itself -/
theorem NrRD {M p d : Nat} {w : Int} (hM : 0 < M) (hn : 0 ≤ w + M.log2 - 52) (hn2 : w + M.log2 ≤ 2090) (hd : (d : Int) = M.log2 - 52 + p)
    (hc : ∀ h : Nat, (h : Int) = (w + M.log2 - 948).toNat + 977 - (w + M.log2) → (rne (M * 2 ^ p) (2 ^ d) % 2 ^ h ≠ 2 ^ (h - 1) ∨ (M * 2 ^ p) % 2 ^ d = 0)) :
    RD 52 M w < INF64 ∧ Nr (min INF64 (RD 52 M w)) = min INF32 (RD 23 M (w - 925)) := by
  have h9 : INF64 = 2047 * 2 ^ 52 := rfl
  have hd1 : (d : Int) = (w + M.log2 - (52 : Nat)).toNat - w + p := by omega
  have hkb := kept_bounds (fb := 52) hM hd1
  have eZ := RD_eval (fb := 52) hM hd1
  have hlo := hkb.2 (by omega)
  have h1 : (w + M.log2 - (52 : Nat)).toNat * 2 ^ 52 ≤ 2038 * 2 ^ 52 := Nat.mul_le_mul_right _ (by omega)
  have hlt : RD 52 M w < INF64 := by rw [eZ]; omega
  refine ⟨hlt, ?_⟩
  rw [Nat.min_eq_right (by omega)]
  unfold Nr
  rw [if_neg (show ¬ RD 52 M w = 0 by rw [eZ]; omega), if_neg (by omega), DR hM hn hd hc]
/-! what is moved down, with a bit for what fell off -/
def HJ (A q : Nat) : Nat := 2 * (A / 2 ^ (q + 1)) + if A % 2 ^ (q + 1) = 0 then 0 else 1
theorem HJ_scale (A q c : Nat) : HJ (A * 2 ^ c) (q + c) = HJ A q := by
  unfold HJ
  rw [show q + c + 1 = q + 1 + c by omega, Nat.pow_add 2 (q + 1) c, Nat.mul_div_mul_right _ _ (Nat.two_pow_pos c), Nat.mul_mod_mul_right]
  have := Nat.two_pow_pos c
  congr 1
  by_cases h : A % 2 ^ (q + 1) = 0
  · rw [if_pos h, h, Nat.zero_mul, if_pos rfl]
  · rw [if_neg h, if_neg]
    intro h2
    rcases Nat.mul_eq_zero.mp h2 with q | q
    · exact h q
    · omega
theorem HJ_0 (A : Nat) : HJ A 0 = A := by
  unfold HJ
  rw [Nat.zero_add, Nat.pow_one]
  split <;> omega
theorem HJ_le {A q : Nat} : HJ A q ≤ A / 2 ^ q + 1 := by
  unfold HJ
  have : A / 2 ^ (q + 1) = A / 2 ^ q / 2 := by rw [Nat.pow_succ, Nat.div_div_eq_div_mul]
  rw [this]
  split <;> omega
theorem or1 (f : Nat) : f ||| 1 = 2 * (f / 2) + 1 := by
  apply Nat.eq_of_testBit_eq
  intro i
  rw [Nat.testBit_or]
  cases i with
  | zero => simp [Nat.testBit_zero]
  | succ i =>
    rw [Nat.testBit_succ, Nat.testBit_succ, Nat.testBit_succ, show (2 * (f / 2) + 1) / 2 = f / 2 by omega]
    simp
theorem movedDown_is {n p : Nat} (hn : n < 2 ^ 63) (hp : p < 2 ^ 31) : fX0_movedDown (lN n) (nI p) = lN (HJ n p) := by
  rw [fX0_movedDown, fX0_movedDown_0, show (63 : Int32) = nI 63 from rfl]
  have q0 : (lN n = 0) ↔ n = 0 := lN_inj (b := 0) (by omega) (by decide)
  by_cases c : 63 < p
  · rw [if_pos ((nI_ltI (by decide) hp).mpr c)]
    have h64 : 2 ^ 64 ≤ 2 ^ (p + 1) := Nat.pow_le_pow_right (by omega) (by omega)
    unfold HJ
    rw [Nat.div_eq_of_lt (by omega), Nat.mod_eq_of_lt (by omega)]
    by_cases c0 : n = 0
    · rw [if_pos (q0.mpr c0), if_pos c0]; rfl
    · rw [if_neg (fun h => c0 (q0.mp h)), if_neg c0]; rfl
  · rw [if_neg (fun h => c ((nI_ltI (by decide) hp).mp h)), fX0_movedDown_22, jushr_lN (by omega) (by omega), jshl_lN _ (by omega)]
    have hd := Nat.div_add_mod n (2 ^ p)
    have hdl : n / 2 ^ p * 2 ^ p ≤ n := Nat.div_mul_le_self n (2 ^ p)
    have hm := Nat.mod_lt n (Nat.two_pow_pos p)
    have hc : n / 2 ^ p * 2 ^ p = n ↔ n % 2 ^ p = 0 := by rw [Nat.mul_comm]; omega
    have hle : n / 2 ^ p ≤ n := Nat.div_le_self _ _
    have e1 : n / 2 ^ (p + 1) = n / 2 ^ p / 2 := by rw [Nat.pow_succ, Nat.div_div_eq_div_mul]
    have e2 : n % 2 ^ (p + 1) = n % 2 ^ p + 2 ^ p * (n / 2 ^ p % 2) := by rw [Nat.pow_succ, Nat.mod_mul]
    have hpp := Nat.two_pow_pos p
    have key : (if n % 2 ^ p = 0 then n / 2 ^ p else n / 2 ^ p ||| 1) = HJ n p := by
      unfold HJ
      rw [e1, e2]
      by_cases h0 : n % 2 ^ p = 0
      · rw [if_pos h0, h0, Nat.zero_add]
        by_cases h1 : n / 2 ^ p % 2 = 0
        · rw [h1, Nat.mul_zero, if_pos rfl]; omega
        · have h2 : n / 2 ^ p % 2 = 1 := by omega
          rw [h2, Nat.mul_one, if_neg (by omega)]; omega
      · rw [if_neg h0, if_neg (by omega), or1]
    rw [← key]
    by_cases h0 : n % 2 ^ p = 0
    · rw [if_pos ((lN_inj (by omega) (by omega)).mpr (hc.mpr h0)), if_pos h0]
    · rw [if_neg (fun h => h0 (hc.mp ((lN_inj (by omega) (by omega)).mp h))), if_neg h0, lN_one, wb_or (by omega) (by decide)]
end
section
/-! sums -/
theorem Sg_even {fb z : Nat} : Sg fb z * 2 ^ 9 = Mg fb z * 2 ^ (52 - (Mg fb z).log2) * 2 ^ 9 := rfl
/-- what is known of a finite number that isn't 0, moved up to 53 bits -/
theorem Eg_bounds {fb z : Nat} {em : Int} (hem : -1074 ≤ em) (hem2 : em ≤ 0) (hx : Xp fb z ≤ 2046) : -1200 ≤ Eg fb em z ∧ Eg fb em z ≤ 2100 := by
  unfold Eg; omega
/-- the second number of a sum in the grid of the first, E - 9 -/
def tt (S2 : Nat) (by' : Nat) : Nat := HJ (S2 * 2 ^ 9) by'
theorem tt_le {S2 b : Nat} (h : S2 < 2 ^ 53) : tt S2 b < 2 ^ 62 ∧ (1 ≤ b → tt S2 b ≤ 2 ^ 61) := by
  unfold tt
  have h1 := HJ_le (A := S2 * 2 ^ 9) (q := b)
  have h2 : S2 * 2 ^ 9 / 2 ^ b ≤ S2 * 2 ^ 9 := Nat.div_le_self _ _
  constructor
  · by_cases c : b = 0
    · rw [c, HJ_0]; omega
    · have h3 : S2 * 2 ^ 9 / 2 ^ b ≤ S2 * 2 ^ 9 / 2 ^ 1 := Nat.div_le_div_left (Nat.pow_le_pow_right (by omega) (by omega)) (by decide)
      omega
  · intro hb
    have h3 : S2 * 2 ^ 9 / 2 ^ b ≤ S2 * 2 ^ 9 / 2 ^ 1 := Nat.div_le_div_left (Nat.pow_le_pow_right (by omega) (by omega)) (by decide)
    omega
theorem tt_even {S2 b : Nat} (h : S2 < 2 ^ 53) (hst : ¬ (S2 * 2 ^ 8) % 2 ^ b = 0) : 9 ≤ b := by
  apply Nat.le_of_not_lt
  intro hb
  apply hst
  have : S2 * 2 ^ 8 = S2 * 2 ^ (8 - b) * 2 ^ b := by rw [Nat.mul_assoc, ← Nat.pow_add]; congr 2; omega
  rw [this, Nat.mul_mod_left]
theorem tt_split (S2 b : Nat) : tt S2 b = 2 * (S2 * 2 ^ 8 / 2 ^ b) + if (S2 * 2 ^ 8) % 2 ^ b = 0 then 0 else 1 := by
  unfold tt HJ
  rw [show S2 * 2 ^ 9 = S2 * 2 ^ 8 * 2 by omega, show (2 : Nat) ^ (b + 1) = 2 ^ b * 2 from rfl, Nat.mul_div_mul_right _ _ (by decide), Nat.mul_mod_mul_right]
  congr 1
  by_cases h : (S2 * 2 ^ 8) % 2 ^ b = 0
  · rw [if_pos h, if_pos (by omega)]
  · rw [if_neg h, if_neg (by omega)]
def sumRes (sb INF fb s1 s2 S1 S2 b : Nat) (w : Int) : Int64 :=
  if s1 = s2 then lN (s1 * 2 ^ sb + min INF (RD fb (S1 * 2 ^ 9 + tt S2 b) w)) else if S1 * 2 ^ 9 = tt S2 b then 0 else lN (s1 * 2 ^ sb + min INF (RD fb (S1 * 2 ^ 9 - tt S2 b) w))
theorem lt_2 {a b : Nat} (h : a ≤ b) : 2 ^ a ≤ 2 ^ b := Nat.pow_le_pow_right (by omega) h
set_option maxRecDepth 20000 in
theorem refAdd_core {s1 s2 b S1 S2 : Nat} {E1 E2 : Int} {D1 D2 : Int64} (hs1 : s1 ≤ 1) (hs2 : s2 ≤ 1) (q1 : D1 < 0 ↔ s1 = 1) (q2 : D2 < 0 ↔ s2 = 1)
    (e1 : fX2_exponent D1 = iI E1) (e1o : okX2_exponent D1) (e2 : fX2_exponent D2 = iI E2) (e2o : okX2_exponent D2) (g1 : fX2_significand D1 = lN S1) (g1o : okX2_significand D1) (g2 : fX2_significand D2 = lN S2) (g2o : okX2_significand D2)
    (a1 : 2 ^ 52 ≤ S1) (a2 : S1 < 2 ^ 53) (a3 : 2 ^ 52 ≤ S2) (a4 : S2 < 2 ^ 53) (c1 : -1200 ≤ E1) (c2 : E1 ≤ 1000) (c3 : -1200 ≤ E2) (c4 : E2 ≤ 1000) (hb : (b : Int) = E1 - E2) (hb0 : b = 0 → S2 ≤ S1) :
    fX2_add_115 D1 D2 = sumRes 63 INF64 52 s1 s2 S1 S2 b (E1 + 1065) ∧ okX2_add_115 D1 D2 := by
  rw [fX2_add_115, fX2_add_127, fX2_add_140, fX2_add_150, okX2_add_115, okX2_add_127, okX2_add_140, okX2_add_150, e1, e2, g1, g2]
  have ee : iI E1 - (8 : Int32) = iI (E1 - 8) := by rw [show (8 : Int32) = iI 8 from by decide, iI_sub]
  have eb : iI E1 - iI E2 = nI b := by rw [iI_sub, nI_iI]; congr 1; omega
  have em1 : jshl (lN S1) (8 : Int32) = lN (S1 * 2 ^ 8) := jshl_lN S1 (k := 8) (by decide)
  have em2 : jshl (lN S2) (8 : Int32) = lN (S2 * 2 ^ 8) := jshl_lN S2 (k := 8) (by decide)
  rw [ee, eb, em1, em2]
  have hsp := tt_split S2 b
  have htt := tt_le (b := b) a4
  -- what stands behind the shift
  have core : ∀ st : Nat, st = (if (S2 * 2 ^ 8) % 2 ^ b = 0 then 0 else 1) → fX2_add_201 D1 D2 (iI (E1 - 8)) (lN (S1 * 2 ^ 8)) (lN (S2 * 2 ^ 8 / 2 ^ b)) (nI st) = sumRes 63 INF64 52 s1 s2 S1 S2 b (E1 + 1065) ∧ okX2_add_201 D1 D2 (iI (E1 - 8)) (lN (S1 * 2 ^ 8)) (lN (S2 * 2 ^ 8 / 2 ^ b)) (nI st) := by
    intro st hst
    rw [← hst] at hsp
    have hst1 : st ≤ 1 := by rw [hst]; split <;> omega
    have hq : (nI st = 0) ↔ st = 0 := nI_eq (b := 0) (by omega) (by decide)
    have h9b : st = 1 → 9 ≤ b := by
      intro h; refine tt_even a4 ?_
      intro h0; rw [if_pos h0] at hst; omega
    have hn8 : S2 * 2 ^ 8 / 2 ^ b ≤ S2 * 2 ^ 8 := Nat.div_le_self _ _
    have hn8' : 1 ≤ b → S2 * 2 ^ 8 / 2 ^ b ≤ S2 * 2 ^ 8 / 2 ^ 1 := fun h => Nat.div_le_div_left (lt_2 h) (by decide)
    have hn9 : 9 ≤ b → S2 * 2 ^ 8 / 2 ^ b ≤ S2 * 2 ^ 8 / 2 ^ 9 := fun h => Nat.div_le_div_left (lt_2 h) (by decide)
    have hn0 : b = 0 → S2 * 2 ^ 8 / 2 ^ b = S2 * 2 ^ 8 := fun h => by rw [h, Nat.pow_zero, Nat.div_one]
    generalize hN : S2 * 2 ^ 8 / 2 ^ b = N at *
    -- signs
    have f227 : fX2_add_227 D1 (iI (E1 - 8)) (lN (S1 * 2 ^ 8)) (lN N) (nI st) (nI s1) (nI s2) = sumRes 63 INF64 52 s1 s2 S1 S2 b (E1 + 1065) ∧ okX2_add_227 D1 (iI (E1 - 8)) (lN (S1 * 2 ^ 8)) (lN N) (nI st) (nI s1) (nI s2) := by
      have qs : (nI s1 = nI s2) ↔ s1 = s2 := nI_eq (by omega) (by omega)
      rw [fX2_add_227, okX2_add_227]
      unfold sumRes
      by_cases cs : s1 = s2
      · rw [if_pos (qs.mpr cs), if_pos cs]
        obtain ⟨m1, m2⟩ := made_is (s := s1) (m := S1 * 2 ^ 8 + N) (st := st) (e := E1 - 8) hs1 (by omega) (by omega) hst1 (fun _ => by omega) (by omega) (by omega)
        rw [show 2 * (S1 * 2 ^ 8 + N) + st = S1 * 2 ^ 9 + tt S2 b by omega, show E1 - 8 + 1073 = E1 + 1065 by omega] at m1
        have f242 : fX2_add_242 (iI (E1 - 8)) (lN (S1 * 2 ^ 8)) (lN N) (nI st) (nI s1) = lN (s1 * 2 ^ 63 + min INF64 (RD 52 (S1 * 2 ^ 9 + tt S2 b) (E1 + 1065))) := by
          rw [fX2_add_242, lN_add]; exact m1
        have o242 : okX2_add_242 (iI (E1 - 8)) (lN (S1 * 2 ^ 8)) (lN N) (nI st) (nI s1) := by
          rw [okX2_add_242, lN_add]; exact ⟨m2, trivial⟩
        refine ⟨?_, fun _ => ?_, fun h => absurd (qs.mpr cs) h⟩
        · by_cases c : s1 = 1
          · rw [if_pos (q1.mpr c)]; rw [c] at f242 ⊢; exact f242
          · have c0 : s1 = 0 := by omega
            rw [if_neg (fun h => c (q1.mp h))]; rw [c0] at f242 ⊢; exact f242
        · by_cases c : s1 = 1
          · rw [c] at o242; exact ⟨fun _ => o242, fun h => absurd (q1.mpr c) h⟩
          · have c0 : s1 = 0 := by omega
            rw [c0] at o242; exact ⟨fun h => absurd (q1.mp h) c, fun _ => o242⟩
      · rw [if_neg (fun h => cs (qs.mp h)), if_neg cs]
        have hsub : N ≤ S1 * 2 ^ 8 := by
          by_cases c : b = 0
          · have := hn0 c; have := hb0 c; omega
          · have := hn8' (by omega); omega
        have hst2 : st = 1 → N + 1 + 2 ^ 53 ≤ S1 * 2 ^ 8 := by
          intro h; have := hn9 (h9b h); omega
        have hle : N + st ≤ S1 * 2 ^ 8 := by
          rcases (show st = 0 ∨ st = 1 by omega) with h | h
          · omega
          · have := hst2 h; omega
        have e18 : lN (S1 * 2 ^ 8) - lN N - (nI st).toInt64 = lN (S1 * 2 ^ 8 - N - st) := by
          rw [nI_toInt64 (by omega), lN_sub hsub, lN_sub (by omega)]
        have ej : 2 * (S1 * 2 ^ 8 - N - st) + st = S1 * 2 ^ 9 - tt S2 b := by omega
        have q18 : (lN (S1 * 2 ^ 8 - N - st) = 0) ↔ S1 * 2 ^ 8 - N - st = 0 := lN_inj (b := 0) (by omega) (by decide)
        have f274 : fX2_add_274 D1 (iI (E1 - 8)) (nI st) (lN (S1 * 2 ^ 8 - N - st)) = (if S1 * 2 ^ 9 = tt S2 b then 0 else lN (s1 * 2 ^ 63 + min INF64 (RD 52 (S1 * 2 ^ 9 - tt S2 b) (E1 + 1065)))) ∧ okX2_add_274 D1 (iI (E1 - 8)) (nI st) (lN (S1 * 2 ^ 8 - N - st)) := by
          rw [fX2_add_274, okX2_add_274]
          by_cases cz : S1 * 2 ^ 8 - N - st = 0
          · have c0 : st = 0 := by
              rcases (show st = 0 ∨ st = 1 by omega) with h | h
              · exact h
              · have := hst2 h; omega
            rw [if_pos (q18.mpr cz), if_pos (hq.mpr c0), if_pos (show S1 * 2 ^ 9 = tt S2 b by omega)]
            exact ⟨rfl, fun _ => ⟨fun _ => trivial, fun h => absurd (hq.mpr c0) h⟩, fun h => absurd (q18.mpr cz) h⟩
          · rw [if_neg (fun h => cz (q18.mp h)), if_neg (show ¬ S1 * 2 ^ 9 = tt S2 b by omega)]
            obtain ⟨m1, m2⟩ := made_is (s := s1) (m := S1 * 2 ^ 8 - N - st) (st := st) (e := E1 - 8) hs1 (by omega) (by omega) hst1 (fun h => by have := hst2 h; omega) (by omega) (by omega)
            rw [ej, show E1 - 8 + 1073 = E1 + 1065 by omega] at m1
            have f290 : fX2_add_290 D1 (iI (E1 - 8)) (nI st) (lN (S1 * 2 ^ 8 - N - st)) = lN (s1 * 2 ^ 63 + min INF64 (RD 52 (S1 * 2 ^ 9 - tt S2 b) (E1 + 1065))) ∧ okX2_add_290 D1 (iI (E1 - 8)) (nI st) (lN (S1 * 2 ^ 8 - N - st)) := by
              rw [fX2_add_290, okX2_add_290, fX2_add_302, fX2_add_302, okX2_add_302, okX2_add_302]
              by_cases c : s1 = 1
              · rw [if_pos (q1.mpr c)]; rw [c] at m1 m2 ⊢; exact ⟨m1, fun _ => ⟨m2, trivial⟩, fun h => absurd (q1.mpr c) h⟩
              · have c0 : s1 = 0 := by omega
                rw [if_neg (fun h => c (q1.mp h))]; rw [c0] at m1 m2 ⊢; exact ⟨m1, fun h => absurd (q1.mp h) c, fun _ => ⟨m2, trivial⟩⟩
            exact ⟨f290.1, fun h => absurd (q18.mp h) cz, fun _ => f290.2⟩
        have f270 : ∀ k : Int32, k = nI st → fX2_add_270 D1 (iI (E1 - 8)) (nI st) (lN (S1 * 2 ^ 8) - lN N) k = fX2_add_274 D1 (iI (E1 - 8)) (nI st) (lN (S1 * 2 ^ 8 - N - st)) := by
          intro k hk; rw [fX2_add_270, hk, e18]
        have o270 : ∀ k : Int32, k = nI st → okX2_add_270 D1 (iI (E1 - 8)) (nI st) (lN (S1 * 2 ^ 8) - lN N) k := by
          intro k hk; rw [okX2_add_270, hk, e18]; exact f274.2
        refine ⟨?_, fun h => absurd (qs.mp h) cs, fun _ => ⟨fun h => o270 0 h.symm, fun h => o270 1 ?_⟩⟩
        · by_cases c0 : st = 0
          · rw [if_pos (hq.mpr c0), f270 0 (hq.mpr c0).symm, f274.1]
          · have c1 : st = 1 := by omega
            rw [if_neg (fun h => c0 (hq.mp h)), f270 1 (by rw [c1]; rfl), f274.1]
        · have c1 : st = 1 := by
            have : ¬ st = 0 := fun h0 => h (hq.mpr h0)
            omega
          rw [c1]; rfl
    have f215 : ∀ k : Int32, k = nI s1 → fX2_add_215 D1 D2 (iI (E1 - 8)) (lN (S1 * 2 ^ 8)) (lN N) (nI st) k = sumRes 63 INF64 52 s1 s2 S1 S2 b (E1 + 1065) ∧ okX2_add_215 D1 D2 (iI (E1 - 8)) (lN (S1 * 2 ^ 8)) (lN N) (nI st) k := by
      intro k hk
      rw [fX2_add_215, okX2_add_215, hk]
      by_cases c : s2 = 1
      · have e : (1 : Int32) = nI s2 := by rw [c]; rfl
        rw [if_pos (q2.mpr c), e]
        exact ⟨f227.1, fun _ => f227.2, fun h => absurd (q2.mpr c) h⟩
      · have e : nI s2 = (0 : Int32) := by rw [show s2 = 0 by omega]; rfl
        rw [if_neg (fun h => c (q2.mp h))]
        rw [e] at f227
        exact ⟨f227.1, fun h => absurd (q2.mp h) c, fun _ => f227.2⟩
    rw [fX2_add_201, okX2_add_201]
    by_cases c : s1 = 1
    · obtain ⟨k1, k2⟩ := f215 1 (by rw [c]; rfl)
      rw [if_pos (q1.mpr c)]
      exact ⟨k1, fun _ => k2, fun h => absurd (q1.mpr c) h⟩
    · obtain ⟨k1, k2⟩ := f215 0 (by rw [show s1 = 0 by omega]; rfl)
      rw [if_neg (fun h => c (q1.mp h))]
      exact ⟨k1, fun h => absurd (q1.mp h) c, fun _ => k2⟩
  have q62 : ((62 : Int32) < nI b) ↔ 62 < b := by
    rw [show (62 : Int32) = nI 62 from rfl]; exact nI_ltI (by decide) (by omega)
  refine (fun (K : fX2_add_160 D1 D2 (iI (E1 - 8)) (nI b) (lN (S1 * 2 ^ 8)) (lN (S2 * 2 ^ 8)) = sumRes 63 INF64 52 s1 s2 S1 S2 b (E1 + 1065) ∧ okX2_add_160 D1 D2 (iI (E1 - 8)) (nI b) (lN (S1 * 2 ^ 8)) (lN (S2 * 2 ^ 8))) => ⟨K.1, e1o, e1o, e2o, g1o, g2o, K.2⟩) ?_
  rw [fX2_add_160, okX2_add_160]
  by_cases cb : 62 < b
  · have hp : 2 ^ 63 ≤ 2 ^ b := lt_2 (by omega)
    have hN0 : S2 * 2 ^ 8 / 2 ^ b = 0 := Nat.div_eq_of_lt (by omega)
    have hM0 : (S2 * 2 ^ 8) % 2 ^ b = S2 * 2 ^ 8 := Nat.mod_eq_of_lt (by omega)
    obtain ⟨k1, k2⟩ := core 1 (by rw [hM0, if_neg (by omega)])
    rw [hN0] at k1 k2
    have f176 : fX2_add_176 D1 D2 (iI (E1 - 8)) (nI b) (lN (S1 * 2 ^ 8)) (lN (S2 * 2 ^ 8)) 0 = sumRes 63 INF64 52 s1 s2 S1 S2 b (E1 + 1065) ∧ okX2_add_176 D1 D2 (iI (E1 - 8)) (nI b) (lN (S1 * 2 ^ 8)) (lN (S2 * 2 ^ 8)) 0 := by
      rw [fX2_add_176, okX2_add_176, if_pos (q62.mpr cb), fX2_add_196, okX2_add_196]
      exact ⟨k1, fun _ => k2, fun h => absurd (q62.mpr cb) h⟩
    rw [if_pos (q62.mpr cb)]
    exact ⟨f176.1, fun _ => f176.2, fun h => absurd (q62.mpr cb) h⟩
  · have ej : jushr (lN (S2 * 2 ^ 8)) (nI b) = lN (S2 * 2 ^ 8 / 2 ^ b) := jushr_lN (by omega) (by omega)
    rw [if_neg (fun h => cb (q62.mp h)), ej]
    have hd := Nat.div_add_mod (S2 * 2 ^ 8) (2 ^ b)
    have hdl : S2 * 2 ^ 8 / 2 ^ b * 2 ^ b ≤ S2 * 2 ^ 8 := Nat.div_mul_le_self _ _
    have hcx : S2 * 2 ^ 8 / 2 ^ b * 2 ^ b = S2 * 2 ^ 8 ↔ (S2 * 2 ^ 8) % 2 ^ b = 0 := by rw [Nat.mul_comm]; omega
    have f176 : fX2_add_176 D1 D2 (iI (E1 - 8)) (nI b) (lN (S1 * 2 ^ 8)) (lN (S2 * 2 ^ 8)) (lN (S2 * 2 ^ 8 / 2 ^ b)) = sumRes 63 INF64 52 s1 s2 S1 S2 b (E1 + 1065) ∧ okX2_add_176 D1 D2 (iI (E1 - 8)) (nI b) (lN (S1 * 2 ^ 8)) (lN (S2 * 2 ^ 8)) (lN (S2 * 2 ^ 8 / 2 ^ b)) := by
      rw [fX2_add_176, okX2_add_176, if_neg (fun h => cb (q62.mp h)), fX2_add_196, okX2_add_196, jshl_lN _ (by omega)]
      have qj := (lN_inj (a := S2 * 2 ^ 8 / 2 ^ b * 2 ^ b) (b := S2 * 2 ^ 8) (by omega) (by omega)).trans hcx
      by_cases c0 : (S2 * 2 ^ 8) % 2 ^ b = 0
      · obtain ⟨k1, k2⟩ := core 0 (by rw [if_pos c0])
        rw [if_pos (qj.mpr c0)]
        exact ⟨k1, fun h => absurd (q62.mp h) cb, fun _ => ⟨fun _ => k2, fun h => absurd (qj.mpr c0) h⟩⟩
      · obtain ⟨k1, k2⟩ := core 1 (by rw [if_neg c0])
        rw [if_neg (fun h => c0 (qj.mp h))]
        exact ⟨k1, fun h => absurd (q62.mp h) cb, fun _ => ⟨fun h => absurd (qj.mp h) c0, fun _ => k2⟩⟩
    exact ⟨f176.1, fun h => absurd (q62.mp h) cb, fun _ => f176.2⟩
theorem refAdd {s1 s2 Z1 Z2 b : Nat} (hs1 : s1 ≤ 1) (hs2 : s2 ≤ 1) (h1 : 0 < Z1) (hZ1 : Z1 < INF64) (h2 : 0 < Z2) (hZ2 : Z2 < INF64) (hb : (b : Int) = Eg 52 (-1074) Z1 - Eg 52 (-1074) Z2) (hb0 : b = 0 → Sg 52 Z2 ≤ Sg 52 Z1) :
    fX2_add_115 (lN (s1 * 2 ^ 63 + Z1)) (lN (s2 * 2 ^ 63 + Z2)) = sumRes 63 INF64 52 s1 s2 (Sg 52 Z1) (Sg 52 Z2) b (Eg 52 (-1074) Z1 + 1065) ∧ okX2_add_115 (lN (s1 * 2 ^ 63 + Z1)) (lN (s2 * 2 ^ 63 + Z2)) := by
  have hz1 : Z1 < 2 ^ 63 := lt63 (Nat.le_of_lt hZ1)
  have hz2 : Z2 < 2 ^ 63 := lt63 (Nat.le_of_lt hZ2)
  obtain ⟨e1, e1o⟩ := expd_is hs1 h1 hZ1
  obtain ⟨e2, e2o⟩ := expd_is hs2 h2 hZ2
  obtain ⟨g1, g1o⟩ := sigd_is hs1 h1 hZ1
  obtain ⟨g2, g2o⟩ := sigd_is hs2 h2 hZ2
  obtain ⟨a1, a2⟩ := Sg_bounds (fb := 52) (by omega) h1
  obtain ⟨a3, a4⟩ := Sg_bounds (fb := 52) (by omega) h2
  obtain ⟨c1, c2⟩ := Eg52_bounds hZ1
  obtain ⟨c3, c4⟩ := Eg52_bounds hZ2
  exact refAdd_core hs1 hs2 (d_lt0 hs1 hz1) (d_lt0 hs2 hz2) e1 e1o e2 e2o g1 g1o g2 g2o a1 a2 a3 a4 c1 c2 c3 c4 hb hb0
end
section
theorem HJ_zero (q : Nat) : HJ 0 q = 0 := by unfold HJ; rw [Nat.zero_div, Nat.zero_mod, if_pos rfl]
set_option maxRecDepth 20000 in
theorem clsSum {kind : Int32} {sb fb ga s1 s2 z1 z2 : Nat} {em : Int} (K : Ks kind sb) (F : Kd kind fb em ga) (hfs : fb < sb) (hI : (ga + 2) * 2 ^ fb < 2 ^ sb) (hs1 : s1 ≤ 1) (hs2 : s2 ≤ 1) (h1 : 0 < z1) (hz1 : z1 < (ga + 2) * 2 ^ fb) (hz2 : z2 < (ga + 2) * 2 ^ fb)
    (hb : 0 < z2 → Eg fb em z2 ≤ Eg fb em z1) (hb0 : 0 < z2 → Eg fb em z2 = Eg fb em z1 → Sg fb z2 ≤ Sg fb z1) :
    fX0_sumByGreater kind (lN (s1 * 2 ^ sb + z1)) (lN (s2 * 2 ^ sb + z2)) = if z2 = 0 then lN (s1 * 2 ^ sb + z1) else sumRes sb ((ga + 2) * 2 ^ fb) fb s1 s2 (Sg fb z1) (Sg fb z2) (Eg fb em z1 - Eg fb em z2).toNat (Eg fb em z1 - 9 - em) := by
  have hem := F.2.2.2.2.2.2.2.1
  have hem2 := F.2.2.2.2.2.2.2.2.1
  have hfb := F.2.2.2.2.1
  have hga := F.2.2.2.2.2.2.1
  have l1 : z1 < 2 ^ sb := by omega
  have l2 : z2 < 2 ^ sb := by omega
  have hd1 : z1 / 2 ^ fb < ga + 2 := (Nat.div_lt_iff_lt_mul (Nat.two_pow_pos fb)).mpr hz1
  have hd2 : z2 / 2 ^ fb < ga + 2 := (Nat.div_lt_iff_lt_mul (Nat.two_pow_pos fb)).mpr hz2
  have hx1 : Xp fb z1 ≤ 2046 := by unfold Xp; omega
  have hx2 : Xp fb z2 ≤ 2046 := by unfold Xp; omega
  have m1 := Mg_pos (fb := fb) h1
  have m1l := Mg_lt fb z1
  have m2l := Mg_lt fb z2
  have hp53 : 2 ^ (fb + 1) ≤ 2 ^ 53 := lt_2 (by omega)
  have lg1 := log2_lt m1 m1l
  obtain ⟨a1, a2⟩ := Sg_bounds (fb := fb) hfb h1
  have n1 := neg_is K hs1 l1
  have n2 := neg_is K hs2 l2
  have g1 := mag_is K F hfs hs1 l1
  have g2 := mag_is K F hfs hs2 l2
  have x1 := exp_is K F (by omega) hs1 l1
  have x2 := exp_is K F (by omega) hs2 l2
  have hroom : fX0_roomBelow (61 : Int32) (lN (Mg fb z1)) = nI (61 - (Mg fb z1).log2) := roomBelow_is (top := 61) m1 (by decide) (by omega)
  have e9 : Mg fb z1 * 2 ^ (61 - (Mg fb z1).log2) = Sg fb z1 * 2 ^ 9 := by
    unfold Sg; rw [Nat.mul_assoc, ← Nat.pow_add]; congr 2; omega
  have hE1 : Eg fb em z1 = em + Xp fb z1 - (52 - (Mg fb z1).log2 : Nat) := rfl
  have e8 : iI (em + Xp fb z1) - nI (61 - (Mg fb z1).log2) = iI (Eg fb em z1 - 9) := by rw [nI_iI, iI_sub, hE1]; congr 1; omega
  have e11 : iI (em + Xp fb z2) - iI (Eg fb em z1 - 9) = iI (em + Xp fb z2 - Eg fb em z1 + 9) := by rw [iI_sub]; congr 1; omega
  rw [fX0_sumByGreater, fX0_sumByGreater_0, fX0_sumByGreater_12, fX0_sumByGreater_22, fX0_sumByGreater_32, fX0_sumByGreater_39, fX0_sumByGreater_49, g1, g2, x1, x2, hroom, jshl_lN _ (by omega), e9, e8, e11]
  have bE1 : -1200 ≤ Eg fb em z1 ∧ Eg fb em z1 ≤ 2100 := Eg_bounds hem hem2 hx1
  -- what is added
  have main : ∀ t : Nat, t < 2 ^ 62 → t ≤ Sg fb z1 * 2 ^ 9 → fX0_sumByGreater_70 kind (lN (s1 * 2 ^ sb + z1)) (lN (s2 * 2 ^ sb + z2)) (lN (Sg fb z1 * 2 ^ 9)) (iI (Eg fb em z1 - 9)) (lN t) =
      if s1 = s2 then lN (s1 * 2 ^ sb + min ((ga + 2) * 2 ^ fb) (RD fb (Sg fb z1 * 2 ^ 9 + t) (Eg fb em z1 - 9 - em))) else if Sg fb z1 * 2 ^ 9 = t then 0 else lN (s1 * 2 ^ sb + min ((ga + 2) * 2 ^ fb) (RD fb (Sg fb z1 * 2 ^ 9 - t) (Eg fb em z1 - 9 - em))) := by
    intro t ht htle
    rw [fX0_sumByGreater_70, fX0_sumByGreater_79, n1, n2, lN_add, lN_sub htle]
    have qs : (nI s1 = nI s2) ↔ s1 = s2 := nI_eq (by omega) (by omega)
    have hsg : ∀ x : Nat, fX0_signed kind (nI s1) (lN (min ((ga + 2) * 2 ^ fb) x)) = lN (s1 * 2 ^ sb + min ((ga + 2) * 2 ^ fb) x) := fun x => signed_is K hs1 (Nat.lt_of_le_of_lt (Nat.min_le_left _ _) hI)
    by_cases cs : s1 = s2
    · rw [if_pos (qs.mpr cs), if_pos cs, nearest_is F (by omega) (by omega) (by omega) (by omega), hsg]
    · rw [if_neg (fun h => cs (qs.mp h)), if_neg cs]
      have qt : (lN (Sg fb z1 * 2 ^ 9) = lN t) ↔ Sg fb z1 * 2 ^ 9 = t := lN_inj (by omega) (by omega)
      by_cases ct : Sg fb z1 * 2 ^ 9 = t
      · rw [if_pos (qt.mpr ct), if_pos ct]
      · rw [if_neg (fun h => ct (qt.mp h)), if_neg ct, nearest_is F (by omega) (by omega) (by omega) (by omega), hsg]
  by_cases c0 : z2 = 0
  · rw [if_pos c0]
    have hM : Mg fb z2 = 0 := by rw [c0]; unfold Mg; rw [if_pos (Nat.two_pow_pos fb)]
    have hX : Xp fb z2 = 0 := by rw [c0]; exact Mg_Xp (Nat.two_pow_pos fb)
    have hself : RD fb (Sg fb z1 * 2 ^ 9) (Eg fb em z1 - 9 - em) = z1 := by
      rw [← e9, RD_shift m1]
      have : Eg fb em z1 - 9 - em + ((61 - (Mg fb z1).log2 : Nat) : Int) = Xp fb z1 := by rw [hE1]; omega
      rw [this, RD_self h1]
    have fin := main 0 (by decide) (Nat.zero_le _)
    rw [show Sg fb z1 * 2 ^ 9 + 0 = Sg fb z1 * 2 ^ 9 from rfl, show Sg fb z1 * 2 ^ 9 - 0 = Sg fb z1 * 2 ^ 9 from rfl, hself, Nat.min_eq_right (Nat.le_of_lt hz1), if_neg (show ¬ Sg fb z1 * 2 ^ 9 = 0 by omega)] at fin
    have fin2 : fX0_sumByGreater_70 kind (lN (s1 * 2 ^ sb + z1)) (lN (s2 * 2 ^ sb + z2)) (lN (Sg fb z1 * 2 ^ 9)) (iI (Eg fb em z1 - 9)) (lN 0) = lN (s1 * 2 ^ sb + z1) := by
      rw [fin]; split <;> rfl
    rw [hM, hX]
    by_cases cu : em + ((0 : Nat) : Int) - Eg fb em z1 + 9 < 0
    · rw [if_pos ((iI_lt0 (by omega) (by omega)).mpr cu), iI_neg, nI_iI_toNat (show 0 ≤ -(em + ((0 : Nat) : Int) - Eg fb em z1 + 9) by omega), movedDown_is (by decide) (by omega), HJ_zero]
      exact fin2
    · rw [if_neg (fun h => cu ((iI_lt0 (by omega) (by omega)).mp h)), nI_iI_toNat (show 0 ≤ em + ((0 : Nat) : Int) - Eg fb em z1 + 9 by omega), jshl_lN _ (by rw [hE1] at cu ⊢; omega), Nat.zero_mul]
      exact fin2
  · rw [if_neg c0]
    have h2 : 0 < z2 := by omega
    obtain ⟨a3, a4⟩ := Sg_bounds (fb := fb) hfb h2
    have m2 := Mg_pos (fb := fb) h2
    have lg2 := log2_lt m2 m2l
    have hhi := log2_hi (Mg fb z2)
    have hE2 : Eg fb em z2 = em + Xp fb z2 - (52 - (Mg fb z2).log2 : Nat) := rfl
    obtain ⟨b, hbb⟩ : ∃ b : Nat, (b : Int) = Eg fb em z1 - Eg fb em z2 := ⟨(Eg fb em z1 - Eg fb em z2).toNat, by have := hb h2; omega⟩
    rw [show (Eg fb em z1 - Eg fb em z2).toNat = b by omega]
    have htl := tt_le (b := b) a4
    have htle : tt (Sg fb z2) b ≤ Sg fb z1 * 2 ^ 9 := by
      by_cases c : b = 0
      · have := hb0 h2 (by omega)
        unfold tt; rw [c, HJ_0]; omega
      · have := htl.2 (by omega); omega
    have fin := main (tt (Sg fb z2) b) htl.1 htle
    have e29 : Mg fb z2 * 2 ^ (61 - (Mg fb z2).log2) = Sg fb z2 * 2 ^ 9 := by
      unfold Sg; rw [Nat.mul_assoc, ← Nat.pow_add]; congr 2; omega
    unfold sumRes
    by_cases cu : em + (Xp fb z2 : Int) - Eg fb em z1 + 9 < 0
    · rw [if_pos ((iI_lt0 (by omega) (by omega)).mpr cu), iI_neg, nI_iI_toNat (show 0 ≤ -(em + (Xp fb z2 : Int) - Eg fb em z1 + 9) by omega), movedDown_is (by omega) (by omega)]
      have et : HJ (Mg fb z2) (-(em + (Xp fb z2 : Int) - Eg fb em z1 + 9)).toNat = tt (Sg fb z2) b := by
        unfold tt
        rw [← e29, ← HJ_scale (Mg fb z2) _ (61 - (Mg fb z2).log2)]
        congr 1
        omega
      rw [et, fin]
    · rw [if_neg (fun h => cu ((iI_lt0 (by omega) (by omega)).mp h)), nI_iI_toNat (show 0 ≤ em + (Xp fb z2 : Int) - Eg fb em z1 + 9 by omega), jshl_lN _ (by omega)]
      have et : Mg fb z2 * 2 ^ (em + (Xp fb z2 : Int) - Eg fb em z1 + 9).toNat = tt (Sg fb z2) b := by
        unfold tt
        rw [← e29, ← HJ_0 (Mg fb z2 * 2 ^ (em + (Xp fb z2 : Int) - Eg fb em z1 + 9).toNat), ← HJ_scale _ 0 b, Nat.mul_assoc, ← Nat.pow_add, Nat.zero_add]
        congr 3
        omega
      rw [et, fin]
end
section
/-! sums, both sides -/
theorem lex {fb z z' : Nat} {em : Int} (hfb : fb ≤ 52) (h0 : 0 < z) (h : z < z') : Eg fb em z < Eg fb em z' ∨ (Eg fb em z = Eg fb em z' ∧ Sg fb z < Sg fb z') := by
  have m1 := Mg_pos (fb := fb) h0
  have m2 := Mg_pos (fb := fb) (show 0 < z' by omega)
  have l1 := log2_lt m1 (Mg_lt fb z)
  have l2 := log2_lt m2 (Mg_lt fb z')
  obtain ⟨a1, a2⟩ := Sg_bounds (fb := fb) hfb h0
  obtain ⟨a3, a4⟩ := Sg_bounds (fb := fb) hfb (show 0 < z' by omega)
  have hV := V_mono (fb := fb) h
  have e1 : Sg fb z * 2 ^ (Xp fb z + (Mg fb z).log2) = Mg fb z * 2 ^ Xp fb z * 2 ^ 52 := by
    unfold Sg; rw [Nat.mul_assoc, ← Nat.pow_add, Nat.mul_assoc, ← Nat.pow_add]; congr 2; omega
  have e2 : Sg fb z' * 2 ^ (Xp fb z' + (Mg fb z').log2) = Mg fb z' * 2 ^ Xp fb z' * 2 ^ 52 := by
    unfold Sg; rw [Nat.mul_assoc, ← Nat.pow_add, Nat.mul_assoc, ← Nat.pow_add]; congr 2; omega
  have hlt : Sg fb z * 2 ^ (Xp fb z + (Mg fb z).log2) < Sg fb z' * 2 ^ (Xp fb z' + (Mg fb z').log2) := by
    rw [e1, e2]; exact Nat.mul_lt_mul_of_pos_right hV (by decide)
  have hE1 : Eg fb em z = em + (Xp fb z + (Mg fb z).log2 : Nat) - 52 := by unfold Eg; omega
  have hE2 : Eg fb em z' = em + (Xp fb z' + (Mg fb z').log2 : Nat) - 52 := by unfold Eg; omega
  rw [hE1, hE2]
  generalize Xp fb z + (Mg fb z).log2 = e at *
  generalize Xp fb z' + (Mg fb z').log2 = e' at *
  rcases Nat.lt_trichotomy e e' with q | q | q
  · exact Or.inl (by omega)
  · subst q
    exact Or.inr ⟨rfl, Nat.lt_of_mul_lt_mul_right hlt⟩
  · exfalso
    have b1 : 2 ^ 52 * 2 ^ e ≤ Sg fb z * 2 ^ e := Nat.mul_le_mul_right _ a1
    have b2 : Sg fb z' * 2 ^ e' < 2 ^ 53 * 2 ^ e' := Nat.mul_lt_mul_of_pos_right a4 (Nat.two_pow_pos e')
    have b3 : 2 ^ 53 * 2 ^ e' ≤ 2 ^ 52 * 2 ^ e := by rw [← Nat.pow_add, ← Nat.pow_add]; exact lt_2 (by omega)
    omega
/-- a double that is a number -/
def D7 (x : Int64) : Prop := ∃ s z : Nat, s ≤ 1 ∧ z ≤ INF64 ∧ x = lN (s * 2 ^ 63 + z)
theorem D7_min {s x : Nat} (hs : s ≤ 1) : D7 (lN (s * 2 ^ 63 + min INF64 x)) := ⟨s, _, hs, Nat.min_le_left _ _, rfl⟩
theorem D7_0 : D7 0 := ⟨0, 0, by decide, by decide, rfl⟩
theorem D7_sum {fb s1 s2 S1 S2 b : Nat} {w : Int} (hs : s1 ≤ 1) : D7 (sumRes 63 INF64 fb s1 s2 S1 S2 b w) := by
  unfold sumRes
  split
  · exact D7_min hs
  · split
    · exact D7_0
    · exact D7_min hs
/-- both numbers finite and not 0: the reference picks the greater -/
theorem ref_add_pick {s1 s2 Z1 Z2 : Nat} (hs1 : s1 ≤ 1) (hs2 : s2 ≤ 1) (h1 : 0 < Z1) (hZ1 : Z1 < INF64) (h2 : 0 < Z2) (hZ2 : Z2 < INF64) :
    fX2_add (lN (s1 * 2 ^ 63 + Z1)) (lN (s2 * 2 ^ 63 + Z2)) = (if Z1 < Z2 then sumRes 63 INF64 52 s2 s1 (Sg 52 Z2) (Sg 52 Z1) (Eg 52 (-1074) Z2 - Eg 52 (-1074) Z1).toNat (Eg 52 (-1074) Z2 + 1065) else sumRes 63 INF64 52 s1 s2 (Sg 52 Z1) (Sg 52 Z2) (Eg 52 (-1074) Z1 - Eg 52 (-1074) Z2).toNat (Eg 52 (-1074) Z1 + 1065)) ∧ okX2_add (lN (s1 * 2 ^ 63 + Z1)) (lN (s2 * 2 ^ 63 + Z2)) := by
  have hz1 : Z1 < 2 ^ 63 := lt63 (Nat.le_of_lt hZ1)
  have hz2 : Z2 < 2 ^ 63 := lt63 (Nat.le_of_lt hZ2)
  obtain ⟨e1, e1o⟩ := expd_is hs1 h1 hZ1
  obtain ⟨e2, e2o⟩ := expd_is hs2 h2 hZ2
  obtain ⟨g1, g1o⟩ := sigd_is hs1 h1 hZ1
  obtain ⟨g2, g2o⟩ := sigd_is hs2 h2 hZ2
  obtain ⟨a1, a2⟩ := Sg_bounds (fb := 52) (by omega) h1
  obtain ⟨a3, a4⟩ := Sg_bounds (fb := 52) (by omega) h2
  obtain ⟨c1, c2⟩ := Eg52_bounds hZ1
  obtain ⟨c3, c4⟩ := Eg52_bounds hZ2
  have i1 := infd_is hs1 hz1
  have i2 := infd_is hs2 hz2
  have o1 := zerod_is hs1 hz1
  have o2 := zerod_is hs2 hz2
  rw [if_neg (show ¬ Z1 = INF64 by omega)] at i1
  rw [if_neg (show ¬ Z2 = INF64 by omega)] at i2
  rw [if_neg (show ¬ Z1 = 0 by omega)] at o1
  rw [if_neg (show ¬ Z2 = 0 by omega)] at o2
  have qe := iI_lt (a := Eg 52 (-1074) Z2) (b := Eg 52 (-1074) Z1) (by omega) (by omega) (by omega) (by omega)
  have qq := iI_eq (a := Eg 52 (-1074) Z1) (b := Eg 52 (-1074) Z2) (by omega) (by omega) (by omega) (by omega)
  have qs := lN_lt63 (a := Sg 52 Z1) (b := Sg 52 Z2) (by omega) (by omega)
  have n1 : ¬ (1 : Int32) = 0 := by decide
  rw [fX2_add, fX2_add_0, okX2_add, okX2_add_0, i1, i2, o1, o2, if_pos rfl, if_pos rfl, if_pos rfl, if_pos rfl, e1, e2, g1, g2]
  have wrap : ∀ (P : Prop) (x : Prop), x → ((0 : Int32) = 0 → x) ∧ (¬ (0 : Int32) = 0 → P) := fun P x hx => ⟨fun _ => hx, fun h => absurd rfl h⟩
  by_cases c : Z1 < Z2
  · rw [if_pos c]
    have hl := lex (fb := 52) (em := -1074) (by omega) h1 c
    obtain ⟨r1, r2⟩ := refAdd (b := (Eg 52 (-1074) Z2 - Eg 52 (-1074) Z1).toNat) hs2 hs1 h2 hZ2 h1 hZ1 (by omega) (fun hb => by omega)
    have k90 : fX2_add_90 (lN (s1 * 2 ^ 63 + Z1)) (lN (s2 * 2 ^ 63 + Z2)) = fX2_add_115 (lN (s2 * 2 ^ 63 + Z2)) (lN (s1 * 2 ^ 63 + Z1)) := by
      rw [fX2_add_90, fX2_add_91, if_pos rfl, fX2_add_103, if_pos rfl]
    have o90 : okX2_add_90 (lN (s1 * 2 ^ 63 + Z1)) (lN (s2 * 2 ^ 63 + Z2)) := by
      rw [okX2_add_90, okX2_add_91, okX2_add_103]
      exact ⟨fun _ => ⟨fun _ => r2, fun h => absurd rfl h⟩, fun h => absurd rfl h⟩
    have ne : ¬ Eg 52 (-1074) Z2 < Eg 52 (-1074) Z1 := by omega
    rw [k90, r1, if_neg (fun h => ne (qe.mp h))]
    constructor
    · by_cases ce : Eg 52 (-1074) Z1 = Eg 52 (-1074) Z2
      · rw [if_pos (qq.mpr ce), if_pos (qs.mpr (by omega))]
      · rw [if_neg (fun h => ce (qq.mp h))]
    · refine wrap _ _ (wrap _ _ (wrap _ _ (wrap _ _ ⟨e1o, e2o, fun h => absurd (qe.mp h) ne, fun _ => ⟨e1o, e2o, fun h => ⟨g1o, g2o, fun _ => o90, fun h2 => absurd (qs.mpr (by have := qq.mp h; omega)) h2⟩, fun _ => o90⟩⟩)))
  · rw [if_neg c]
    have hl : Eg 52 (-1074) Z2 < Eg 52 (-1074) Z1 ∨ (Eg 52 (-1074) Z2 = Eg 52 (-1074) Z1 ∧ Sg 52 Z2 ≤ Sg 52 Z1) := by
      rcases Nat.eq_or_lt_of_le (show Z2 ≤ Z1 by omega) with q | q
      · rw [q]; exact Or.inr ⟨rfl, Nat.le_refl _⟩
      · rcases lex (fb := 52) (em := -1074) (by omega) h2 q with h | h
        · exact Or.inl h
        · exact Or.inr ⟨h.1, Nat.le_of_lt h.2⟩
    obtain ⟨r1, r2⟩ := refAdd (b := (Eg 52 (-1074) Z1 - Eg 52 (-1074) Z2).toNat) hs1 hs2 h1 hZ1 h2 hZ2 (by omega) (fun hb => by omega)
    have k86 : fX2_add_86 (lN (s1 * 2 ^ 63 + Z1)) (lN (s2 * 2 ^ 63 + Z2)) = fX2_add_115 (lN (s1 * 2 ^ 63 + Z1)) (lN (s2 * 2 ^ 63 + Z2)) := by
      rw [fX2_add_86, fX2_add_91, if_neg n1, fX2_add_103, if_neg n1]
    have o86 : okX2_add_86 (lN (s1 * 2 ^ 63 + Z1)) (lN (s2 * 2 ^ 63 + Z2)) := by
      rw [okX2_add_86, okX2_add_91, okX2_add_103, okX2_add_103]
      exact ⟨fun h => absurd h n1, fun _ => ⟨fun h => absurd h n1, fun _ => r2⟩⟩
    rw [k86, r1]
    constructor
    · by_cases ce : Eg 52 (-1074) Z2 < Eg 52 (-1074) Z1
      · rw [if_pos (qe.mpr ce)]
      · rw [if_neg (fun h => ce (qe.mp h)), if_pos (qq.mpr (by omega)), if_neg (fun h => by have := qs.mp h; omega)]
    · refine wrap _ _ (wrap _ _ (wrap _ _ (wrap _ _ ⟨e1o, e2o, fun _ => o86, fun h => ⟨e1o, e2o, fun _ => ⟨g1o, g2o, fun h2 => absurd (qs.mp h2) (by have : ¬ Eg 52 (-1074) Z2 < Eg 52 (-1074) Z1 := fun h3 => h (qe.mpr h3); omega), fun _ => o86⟩, fun h2 => absurd (qq.mpr (by have : ¬ Eg 52 (-1074) Z2 < Eg 52 (-1074) Z1 := fun h3 => h (qe.mpr h3); omega)) h2⟩⟩)))
theorem and_zeros {s1 s2 sb : Nat} (hs1 : s1 ≤ 1) (hs2 : s2 ≤ 1) (hsb : sb ≤ 63) : lN (s1 * 2 ^ sb) &&& lN (s2 * 2 ^ sb) = lN (s1 * s2 * 2 ^ sb) := by
  have h1 : 2 ^ sb ≤ 2 ^ 63 := lt_2 hsb
  have b : ∀ s : Nat, s ≤ 1 → s * 2 ^ sb < 2 ^ 64 := fun s hs => by
    have := Nat.mul_le_mul_right (2 ^ sb) hs; omega
  rw [wb_and (b _ hs1) (b _ hs2)]
  rcases (show s1 = 0 ∨ s1 = 1 by omega) with rfl | rfl
  · rw [Nat.zero_mul, Nat.zero_mul, Nat.zero_mul, Nat.zero_and]
  · rcases (show s2 = 0 ∨ s2 = 1 by omega) with rfl | rfl
    · rw [Nat.zero_mul, Nat.and_zero]
    · rw [Nat.mul_one, Nat.and_self]
end
section
/-- the sum of two doubles that is a number -/
theorem sum7 {s1 s2 z1 z2 : Nat} (hs1 : s1 ≤ 1) (hs2 : s2 ≤ 1) (hz1 : z1 ≤ INF64) (hz2 : z2 ≤ INF64) (hn : ¬ (z1 = INF64 ∧ z2 = INF64 ∧ s1 ≠ s2)) :
    fX0_sum 7 (lN (s1 * 2 ^ 63 + z1)) (lN (s2 * 2 ^ 63 + z2)) = fX2_add (lN (s1 * 2 ^ 63 + z1)) (lN (s2 * 2 ^ 63 + z2)) ∧ okX2_add (lN (s1 * 2 ^ 63 + z1)) (lN (s2 * 2 ^ 63 + z2)) ∧ D7 (fX2_add (lN (s1 * 2 ^ 63 + z1)) (lN (s2 * 2 ^ 63 + z2))) := by
  have l1 := lt63 hz1
  have l2 := lt63 hz2
  have n1 : ¬ (1 : Int32) = 0 := by decide
  have i1 := infd_is hs1 l1
  have i2 := infd_is hs2 l2
  have o1 := zerod_is hs1 l1
  have o2 := zerod_is hs2 l2
  have j1 : fX0_isInfinite 7 (lN (s1 * 2 ^ 63 + z1)) = if z1 = INF64 then 1 else 0 := inf_is Ks7 Kd7 hs1 l1
  have j2 : fX0_isInfinite 7 (lN (s2 * 2 ^ 63 + z2)) = if z2 = INF64 then 1 else 0 := inf_is Ks7 Kd7 hs2 l2
  have p1 := zero_is Ks7 hs1 l1
  have p2 := zero_is Ks7 hs2 l2
  have w1 : D7 (lN (s1 * 2 ^ 63 + z1)) := ⟨s1, z1, hs1, hz1, rfl⟩
  have w2 : D7 (lN (s2 * 2 ^ 63 + z2)) := ⟨s2, z2, hs2, hz2, rfl⟩
  have hI0 : ¬ INF64 = 0 := by decide
  rw [fX0_sum, fX0_sum_0, j1, j2, p1, p2]
  by_cases c1 : z1 = INF64
  · have r : fX2_add (lN (s1 * 2 ^ 63 + z1)) (lN (s2 * 2 ^ 63 + z2)) = lN (s1 * 2 ^ 63 + z1) := by
      rw [fX2_add, fX2_add_0, i1, if_pos c1, if_neg n1, fX2_add_14, o1, if_neg (show ¬ z1 = 0 by omega), if_pos rfl]
    have ro : okX2_add (lN (s1 * 2 ^ 63 + z1)) (lN (s2 * 2 ^ 63 + z2)) := by
      rw [okX2_add, okX2_add_0, i1, if_pos c1]; exact ⟨fun h => absurd h n1, fun _ => trivial⟩
    rw [r, if_pos c1, if_neg n1]
    refine ⟨?_, ro, w1⟩
    by_cases c2 : z2 = INF64
    · have hs : s1 = s2 := Decidable.byContradiction fun h => hn ⟨c1, c2, h⟩
      rw [if_pos c2, if_neg n1, if_pos (by rw [c1, c2, hs])]
    · rw [if_neg c2, if_pos rfl]
  · rw [if_neg c1, if_pos rfl]
    rw [if_neg c1] at i1
    by_cases c2 : z2 = INF64
    · rw [if_pos c2] at i2
      have r : fX2_add (lN (s1 * 2 ^ 63 + z1)) (lN (s2 * 2 ^ 63 + z2)) = lN (s2 * 2 ^ 63 + z2) := by
        rw [fX2_add, fX2_add_0, i1, if_pos rfl, o2, if_neg (show ¬ z2 = 0 by omega), if_pos rfl, i2, if_neg n1]
      have ro : okX2_add (lN (s1 * 2 ^ 63 + z1)) (lN (s2 * 2 ^ 63 + z2)) := by
        rw [okX2_add, okX2_add_0, i1, o2, if_neg (show ¬ z2 = 0 by omega), i2]
        exact ⟨fun _ => ⟨fun _ => ⟨fun h => absurd h n1, fun _ => trivial⟩, fun h => absurd rfl h⟩, fun h => absurd rfl h⟩
      rw [r, if_pos c2, if_neg n1]
      exact ⟨rfl, ro, w2⟩
    · rw [if_neg c2, if_pos rfl]
      rw [if_neg c2] at i2
      have k1 : z1 < INF64 := by omega
      have k2 : z2 < INF64 := by omega
      have k1' : z1 < (2045 + 2) * 2 ^ 52 := k1
      have k2' : z2 < (2045 + 2) * 2 ^ 52 := k2
      have hIK : (2045 + 2) * 2 ^ 52 < 2 ^ 63 := by decide
      have sz1 := size_is Ks7 hs1 l1
      have sz2 := size_is Ks7 hs2 l2
      have qz := lN_lt63 l1 l2
      by_cases a0 : z1 = 0
      · by_cases b0 : z2 = 0
        · have r : fX2_add (lN (s1 * 2 ^ 63 + z1)) (lN (s2 * 2 ^ 63 + z2)) = lN (s1 * 2 ^ 63 + z1) &&& lN (s2 * 2 ^ 63 + z2) := by
            rw [fX2_add, fX2_add_0, i1, if_pos rfl, o2, if_pos b0, if_neg n1, fX2_add_14, o1, if_pos a0, if_neg n1, o2, if_pos b0, if_neg n1]
          have ro : okX2_add (lN (s1 * 2 ^ 63 + z1)) (lN (s2 * 2 ^ 63 + z2)) := by
            rw [okX2_add, okX2_add_0, i1, o2, if_pos b0]
            exact ⟨fun _ => ⟨fun h => absurd h n1, fun _ => trivial⟩, fun h => absurd rfl h⟩
          rw [r, if_pos a0, if_neg n1, if_pos b0, if_neg n1]
          refine ⟨rfl, ro, s1 * s2, 0, ?_, by decide, ?_⟩
          · have := Nat.mul_le_mul hs1 hs2; omega
          · rw [a0, b0, Nat.add_zero, Nat.add_zero, Nat.add_zero, and_zeros hs1 hs2 (by decide)]
        · have r : fX2_add (lN (s1 * 2 ^ 63 + z1)) (lN (s2 * 2 ^ 63 + z2)) = lN (s2 * 2 ^ 63 + z2) := by
            rw [fX2_add, fX2_add_0, i1, if_pos rfl, o2, if_neg b0, if_pos rfl, i2, if_pos rfl, o1, if_pos a0, if_neg n1]
          have ro : okX2_add (lN (s1 * 2 ^ 63 + z1)) (lN (s2 * 2 ^ 63 + z2)) := by
            rw [okX2_add, okX2_add_0, i1, o2, if_neg b0, i2, o1, if_pos a0]
            exact ⟨fun _ => ⟨fun _ => ⟨fun _ => ⟨fun h => absurd h n1, fun _ => trivial⟩, fun h => absurd rfl h⟩, fun h => absurd rfl h⟩, fun h => absurd rfl h⟩
          have cs := clsSum (s1 := s2) (s2 := s1) (z1 := z2) (z2 := z1) Ks7 Kd7 (by decide) hIK hs2 hs1 (by omega) k2' k1' (fun h => by omega) (fun h => by omega)
          rw [if_pos a0] at cs
          rw [r, if_pos a0, if_neg n1, if_neg b0, if_pos rfl, fX0_sum_61, sz1, sz2, if_pos (qz.mpr (by omega)), fX0_sum_80, if_pos rfl, cs]
          exact ⟨rfl, ro, w2⟩
      · rw [if_neg a0, if_pos rfl, fX0_sum_61, sz1, sz2]
        by_cases b0 : z2 = 0
        · have r : fX2_add (lN (s1 * 2 ^ 63 + z1)) (lN (s2 * 2 ^ 63 + z2)) = lN (s1 * 2 ^ 63 + z1) := by
            rw [fX2_add, fX2_add_0, i1, if_pos rfl, o2, if_pos b0, if_neg n1, fX2_add_14, o1, if_neg a0, if_pos rfl]
          have ro : okX2_add (lN (s1 * 2 ^ 63 + z1)) (lN (s2 * 2 ^ 63 + z2)) := by
            rw [okX2_add, okX2_add_0, i1, o2, if_pos b0]
            exact ⟨fun _ => ⟨fun h => absurd h n1, fun _ => trivial⟩, fun h => absurd rfl h⟩
          have cs := clsSum (s1 := s1) (s2 := s2) (z1 := z1) (z2 := z2) Ks7 Kd7 (by decide) hIK hs1 hs2 (by omega) k1' k2' (fun h => by omega) (fun h => by omega)
          rw [if_pos b0] at cs
          rw [r, if_neg (fun h => by have := qz.mp h; omega), fX0_sum_80, if_neg n1, cs]
          exact ⟨rfl, ro, w1⟩
        · obtain ⟨r, ro⟩ := ref_add_pick hs1 hs2 (show 0 < z1 by omega) k1 (show 0 < z2 by omega) k2
          rw [r]
          refine ⟨?_, ro, ?_⟩
          · by_cases c : z1 < z2
            · have hl := lex (fb := 52) (em := -1074) (by omega) (show 0 < z1 by omega) c
              have cs := clsSum (s1 := s2) (s2 := s1) (z1 := z2) (z2 := z1) Ks7 Kd7 (by decide) hIK hs2 hs1 (by omega) k2' k1' (fun _ => by omega) (fun _ h => by omega)
              rw [if_neg a0] at cs
              rw [if_pos (qz.mpr c), fX0_sum_80, if_pos rfl, if_pos c, cs, show Eg 52 (-1074) z2 - 9 - -1074 = Eg 52 (-1074) z2 + 1065 by omega]
              rfl
            · have hl : Eg 52 (-1074) z2 < Eg 52 (-1074) z1 ∨ (Eg 52 (-1074) z2 = Eg 52 (-1074) z1 ∧ Sg 52 z2 ≤ Sg 52 z1) := by
                rcases Nat.eq_or_lt_of_le (show z2 ≤ z1 by omega) with q | q
                · rw [q]; exact Or.inr ⟨rfl, Nat.le_refl _⟩
                · rcases lex (fb := 52) (em := -1074) (by omega) (show 0 < z2 by omega) q with h | h
                  · exact Or.inl h
                  · exact Or.inr ⟨h.1, Nat.le_of_lt h.2⟩
              have cs := clsSum (s1 := s1) (s2 := s2) (z1 := z1) (z2 := z2) Ks7 Kd7 (by decide) hIK hs1 hs2 (by omega) k1' k2' (fun _ => by omega) (fun _ h => by omega)
              rw [if_neg b0] at cs
              rw [if_neg (fun h => c (qz.mp h)), fX0_sum_80, if_neg n1, if_neg c, cs, show Eg 52 (-1074) z1 - 9 - -1074 = Eg 52 (-1074) z1 + 1065 by omega]
              rfl
          · split
            · exact D7_sum hs2
            · exact D7_sum hs1
/-! floats -/
theorem SgEg_Wd {z : Nat} (h0 : 0 < z) (hz : z < INF32) : Sg 52 (Wd z) = Sg 23 z ∧ Eg 52 (-1074) (Wd z) = Eg 23 (-149) z := by
  obtain ⟨d1, d2, -, -⟩ := Wd_dec h0 hz
  obtain ⟨b1, b2⟩ := Sg_bounds (fb := 23) (by omega) h0
  have hl := log2_lt (Mg_pos (fb := 23) h0) (Mg_lt 23 z)
  have lS : (Sg 23 z).log2 = 52 := log2_is b1 b2
  constructor
  · show Mg 52 (Wd z) * 2 ^ (52 - (Mg 52 (Wd z)).log2) = Sg 23 z
    rw [d1, lS, Nat.sub_self, Nat.pow_zero, Nat.mul_one]
  · show (-1074 : Int) + Xp 52 (Wd z) - (52 - (Mg 52 (Wd z)).log2 : Nat) = -149 + Xp 23 z - (52 - (Mg 23 z).log2 : Nat)
    rw [d1, d2, lS]; omega
/-- a float's 53 bits: 24 of them count -/
theorem Sg23 {z : Nat} (h0 : 0 < z) : ∃ k : Nat, 2 ^ 23 ≤ k ∧ k < 2 ^ 24 ∧ Sg 23 z = k * 2 ^ 29 := by
  have m := Mg_pos (fb := 23) h0
  have hl := log2_lt m (Mg_lt 23 z)
  obtain ⟨b1, b2⟩ := Sg_bounds (fb := 23) (by omega) h0
  have e : Sg 23 z = Mg 23 z * 2 ^ (23 - (Mg 23 z).log2) * 2 ^ 29 := by
    unfold Sg; rw [Nat.mul_assoc, ← Nat.pow_add]; congr 2; omega
  exact ⟨_, by omega, by omega, e⟩
theorem Eg23_bounds {z : Nat} (hz : z < INF32) : -201 ≤ Eg 23 (-149) z ∧ Eg 23 (-149) z ≤ 104 := by
  have := Xp_le hz
  unfold Eg; omega
theorem rne_near (N D : Nat) (hD : 0 < D) : 2 * (rne N D * D) ≤ 2 * N + D ∧ 2 * N ≤ 2 * (rne N D * D) + D := by
  have h1 := Nat.div_add_mod N D
  have h2 := Nat.mod_lt N hD
  rw [Nat.mul_comm] at h1
  unfold rne
  by_cases c : D < 2 * (N % D) ∨ (2 * (N % D) = D ∧ N / D % 2 = 1)
  · rw [if_pos c, Nat.add_mul, Nat.one_mul]; omega
  · rw [if_neg c]; omega
theorem exact_mod {j g p d : Nat} (h0 : 0 < j) (hj : j < 2 ^ 53) (hd : (d : Int) = (j * 2 ^ g).log2 - 52 + p) : (j * 2 ^ g * 2 ^ p) % 2 ^ d = 0 := by
  have hl := log2_lt h0 hj
  rw [log2_shl h0] at hd
  have e : j * 2 ^ g * 2 ^ p = j * 2 ^ (g + p - d) * 2 ^ d := by
    rw [Nat.mul_assoc, Nat.mul_assoc, ← Nat.pow_add, ← Nat.pow_add]; congr 2; omega
  rw [e, Nat.mul_mod_left]
theorem tt_near {k2 b : Nat} (h : b ≤ 38) : tt (k2 * 2 ^ 29) b = k2 * 2 ^ (38 - b) := by
  unfold tt
  rw [← HJ_0 (k2 * 2 ^ (38 - b)), ← HJ_scale _ 0 b, Nat.mul_assoc, Nat.mul_assoc, ← Nat.pow_add, ← Nat.pow_add, Nat.zero_add]
  congr 3
  omega
theorem tt_far {k2 b : Nat} (hk : k2 < 2 ^ 24) (h : 29 ≤ b) : tt (k2 * 2 ^ 29) b ≤ 2 ^ 33 := by
  unfold tt
  have h1 := HJ_le (A := k2 * 2 ^ 29 * 2 ^ 9) (q := b)
  have h2 : k2 * 2 ^ 29 * 2 ^ 9 / 2 ^ b ≤ k2 * 2 ^ 29 * 2 ^ 9 / 2 ^ 29 := Nat.div_le_div_left (lt_2 h) (by decide)
  omega
/-- no half of a float is near a sum that doubles don't have -/
theorem far_half {k1 t J d : Nat} (hJ : J = k1 * 2 ^ 38 + t ∨ J + t = k1 * 2 ^ 38) (h1 : 2 ^ 23 ≤ k1) (h2 : k1 < 2 ^ 24) (ht : t ≤ 2 ^ 33) (hd : (d : Int) = J.log2 - 52) : 60 ≤ J.log2 ∧ rne J (2 ^ d) % 2 ^ 29 ≠ 2 ^ 28 := by
  have hJ1 : 2 ^ 60 ≤ J := by omega
  have hJ2 : J < 2 ^ 62 := by omega
  have l1 := log2_ge hJ1
  have l2 := log2_lt (show 0 < J by omega) hJ2
  refine ⟨l1, ?_⟩
  intro hh
  have hn := rne_near J (2 ^ d) (Nat.two_pow_pos d)
  generalize rne J (2 ^ d) = r at *
  obtain ⟨c, hc⟩ : ∃ c, r = 2 ^ 29 * c + 2 ^ 28 := ⟨r / 2 ^ 29, by omega⟩
  rcases (show d = 8 ∨ d = 9 by omega) with rfl | rfl
  · rw [hc] at hn; rcases hJ with h | h <;> omega
  · rw [hc] at hn; rcases hJ with h | h <;> omega
theorem sum_nr {z1 z2 b J : Nat} (h1 : 0 < z1) (hz1 : z1 < INF32) (h2 : 0 < z2) (hz2 : z2 < INF32) (hb : (b : Int) = Eg 23 (-149) z1 - Eg 23 (-149) z2) (hJ0 : 0 < J)
    (hJ : J = Sg 23 z1 * 2 ^ 9 + tt (Sg 23 z2) b ∨ J + tt (Sg 23 z2) b = Sg 23 z1 * 2 ^ 9) :
    RD 52 J (Eg 23 (-149) z1 + 1065) < INF64 ∧ Nr (min INF64 (RD 52 J (Eg 23 (-149) z1 + 1065))) = min INF32 (RD 23 J (Eg 23 (-149) z1 - 9 - -149)) := by
  obtain ⟨k1, a1, a2, e1⟩ := Sg23 h1
  obtain ⟨k2, a3, a4, e2⟩ := Sg23 h2
  obtain ⟨c1, c2⟩ := Eg23_bounds hz1
  obtain ⟨c3, c4⟩ := Eg23_bounds hz2
  rw [e1, e2, show k1 * 2 ^ 29 * 2 ^ 9 = k1 * 2 ^ 38 by omega] at hJ
  have hw : Eg 23 (-149) z1 - 9 - -149 = Eg 23 (-149) z1 + 1065 - 925 := by omega
  rw [hw]
  by_cases cb : b ≤ 28
  · have ht := tt_near (k2 := k2) (b := b) (by omega)
    rw [ht] at hJ
    have e3 : k1 * 2 ^ 38 = k1 * 2 ^ b * 2 ^ (38 - b) := by rw [Nat.mul_assoc, ← Nat.pow_add]; congr 2; omega
    have hp28 : 2 ^ b ≤ 2 ^ 28 := lt_2 cb
    have hk : k1 * 2 ^ b ≤ 2 ^ 24 * 2 ^ 28 := Nat.mul_le_mul (by omega) hp28
    obtain ⟨j, hj, hjl⟩ : ∃ j : Nat, J = j * 2 ^ (38 - b) ∧ j < 2 ^ 53 := by
      rcases hJ with h | h
      · exact ⟨k1 * 2 ^ b + k2, by rw [h, e3, Nat.add_mul], by omega⟩
      · refine ⟨k1 * 2 ^ b - k2, by rw [Nat.sub_mul]; omega, by omega⟩
    have hj0 : 0 < j := by
      rcases Nat.eq_zero_or_pos j with q | q
      · rw [q, Nat.zero_mul] at hj; omega
      · exact q
    have hJl : J < 2 ^ 91 := by
      rw [hj]
      refine Nat.lt_of_lt_of_le (Nat.mul_lt_mul_of_pos_right hjl (Nat.two_pow_pos _)) ?_
      rw [← Nat.pow_add]; exact lt_2 (by omega)
    have hlJ := log2_lt hJ0 hJl
    refine NrRD (p := 64) (d := J.log2 + 12) hJ0 (by omega) (by omega) (by omega) (fun h _ => Or.inr ?_)
    rw [hj]
    exact exact_mod hj0 hjl (by rw [← hj]; omega)
  · have ht := tt_far (k2 := k2) (b := b) a4 (by omega)
    obtain ⟨d, hd⟩ : ∃ d : Nat, (d : Int) = J.log2 - 52 := by
      have hJ1 : 2 ^ 60 ≤ J := by omega
      have l1 := log2_ge hJ1
      exact ⟨J.log2 - 52, by omega⟩
    obtain ⟨l1, hh⟩ := far_half hJ a1 a2 ht hd
    have l2 := log2_lt hJ0 (show J < 2 ^ 63 by omega)
    refine NrRD (p := 0) (d := d) hJ0 (by omega) (by omega) (by omega) (fun h hhh => Or.inl ?_)
    have h29 : h = 29 := by omega
    rw [h29, Nat.pow_zero, Nat.mul_one]
    exact hh
end
section
/-- the reference's sum, case by case -/
theorem add_val {s1 s2 z1 z2 : Nat} (hs1 : s1 ≤ 1) (hs2 : s2 ≤ 1) (hz1 : z1 ≤ INF64) (hz2 : z2 ≤ INF64) :
    (z1 = INF64 → fX2_add (lN (s1 * 2 ^ 63 + z1)) (lN (s2 * 2 ^ 63 + z2)) = lN (s1 * 2 ^ 63 + z1)) ∧ (z1 ≠ INF64 → z2 = INF64 → fX2_add (lN (s1 * 2 ^ 63 + z1)) (lN (s2 * 2 ^ 63 + z2)) = lN (s2 * 2 ^ 63 + z2)) ∧
    (z1 ≠ INF64 → z2 ≠ INF64 → z1 = 0 → z2 = 0 → fX2_add (lN (s1 * 2 ^ 63 + z1)) (lN (s2 * 2 ^ 63 + z2)) = lN (s1 * s2 * 2 ^ 63 + 0)) ∧ (z1 ≠ INF64 → z2 ≠ INF64 → z1 = 0 → z2 ≠ 0 → fX2_add (lN (s1 * 2 ^ 63 + z1)) (lN (s2 * 2 ^ 63 + z2)) = lN (s2 * 2 ^ 63 + z2)) ∧
    (z1 ≠ INF64 → z2 ≠ INF64 → z1 ≠ 0 → z2 = 0 → fX2_add (lN (s1 * 2 ^ 63 + z1)) (lN (s2 * 2 ^ 63 + z2)) = lN (s1 * 2 ^ 63 + z1)) := by
  have l1 := lt63 hz1
  have l2 := lt63 hz2
  have n1 : ¬ (1 : Int32) = 0 := by decide
  have i1 := infd_is hs1 l1
  have i2 := infd_is hs2 l2
  have o1 := zerod_is hs1 l1
  have o2 := zerod_is hs2 l2
  have hI0 : ¬ INF64 = 0 := by decide
  refine ⟨fun c1 => ?_, fun c1 c2 => ?_, fun c1 c2 a0 b0 => ?_, fun c1 c2 a0 b0 => ?_, fun c1 c2 a0 b0 => ?_⟩
  · rw [fX2_add, fX2_add_0, i1, if_pos c1, if_neg n1, fX2_add_14, o1, if_neg (show ¬ z1 = 0 by omega), if_pos rfl]
  · rw [fX2_add, fX2_add_0, i1, if_neg c1, if_pos rfl, o2, if_neg (show ¬ z2 = 0 by omega), if_pos rfl, i2, if_pos c2, if_neg n1]
  · rw [fX2_add, fX2_add_0, i1, if_neg c1, if_pos rfl, o2, if_pos b0, if_neg n1, fX2_add_14, o1, if_pos a0, if_neg n1, o2, if_pos b0, if_neg n1, a0, b0, Nat.add_zero, Nat.add_zero, Nat.add_zero, and_zeros hs1 hs2 (by decide)]
  · rw [fX2_add, fX2_add_0, i1, if_neg c1, if_pos rfl, o2, if_neg b0, if_pos rfl, i2, if_neg c2, if_pos rfl, o1, if_pos a0, if_neg n1]
  · rw [fX2_add, fX2_add_0, i1, if_neg c1, if_pos rfl, o2, if_pos b0, if_neg n1, fX2_add_14, o1, if_neg a0, if_pos rfl]
def D6 (x : Int64) : Prop := ∃ s z : Nat, s ≤ 1 ∧ z ≤ INF32 ∧ x = lN (s * 2 ^ 31 + z)
theorem sumRes_nr {s1 s2 z1 z2 : Nat} (hs1 : s1 ≤ 1) (h1 : 0 < z1) (hz1 : z1 < INF32) (h2 : 0 < z2) (hz2 : z2 < INF32) (hE : Eg 23 (-149) z2 ≤ Eg 23 (-149) z1) (hS : Eg 23 (-149) z2 = Eg 23 (-149) z1 → Sg 23 z2 ≤ Sg 23 z1) :
    (fX2_narrow (sumRes 63 INF64 52 s1 s2 (Sg 23 z1) (Sg 23 z2) (Eg 23 (-149) z1 - Eg 23 (-149) z2).toNat (Eg 23 (-149) z1 + 1065))).toInt64 &&& (4294967295 : Int64) = sumRes 31 INF32 23 s1 s2 (Sg 23 z1) (Sg 23 z2) (Eg 23 (-149) z1 - Eg 23 (-149) z2).toNat (Eg 23 (-149) z1 - 9 - -149) ∧ D6 (sumRes 31 INF32 23 s1 s2 (Sg 23 z1) (Sg 23 z2) (Eg 23 (-149) z1 - Eg 23 (-149) z2).toNat (Eg 23 (-149) z1 - 9 - -149)) := by
  obtain ⟨b, hb⟩ : ∃ b : Nat, (b : Int) = Eg 23 (-149) z1 - Eg 23 (-149) z2 := ⟨(Eg 23 (-149) z1 - Eg 23 (-149) z2).toNat, by omega⟩
  rw [show (Eg 23 (-149) z1 - Eg 23 (-149) z2).toNat = b by omega]
  obtain ⟨a1, a2⟩ := Sg_bounds (fb := 23) (by omega) h1
  obtain ⟨a3, a4⟩ := Sg_bounds (fb := 23) (by omega) h2
  have htl := tt_le (b := b) a4
  have htle : tt (Sg 23 z2) b ≤ Sg 23 z1 * 2 ^ 9 := by
    by_cases c : b = 0
    · have := hS (by omega)
      unfold tt; rw [c, HJ_0]; omega
    · have := htl.2 (by omega); omega
  unfold sumRes
  by_cases cs : s1 = s2
  · rw [if_pos cs, if_pos cs]
    obtain ⟨r1, r2⟩ := sum_nr h1 hz1 h2 hz2 hb (J := Sg 23 z1 * 2 ^ 9 + tt (Sg 23 z2) b) (by omega) (Or.inl rfl)
    rw [Nr_mask hs1 (Nat.min_le_left _ _), r2]
    exact ⟨rfl, s1, _, hs1, Nat.min_le_left _ _, rfl⟩
  · rw [if_neg cs, if_neg cs]
    by_cases cj : Sg 23 z1 * 2 ^ 9 = tt (Sg 23 z2) b
    · rw [if_pos cj, if_pos cj]
      exact ⟨by decide, 0, 0, by decide, by decide, rfl⟩
    · rw [if_neg cj, if_neg cj]
      obtain ⟨r1, r2⟩ := sum_nr h1 hz1 h2 hz2 hb (J := Sg 23 z1 * 2 ^ 9 - tt (Sg 23 z2) b) (by omega) (Or.inr (by omega))
      rw [Nr_mask hs1 (Nat.min_le_left _ _), r2]
      exact ⟨rfl, s1, _, hs1, Nat.min_le_left _ _, rfl⟩
theorem sum6 {s1 s2 z1 z2 : Nat} (hs1 : s1 ≤ 1) (hs2 : s2 ≤ 1) (hz1 : z1 ≤ INF32) (hz2 : z2 ≤ INF32) (hn : ¬ (z1 = INF32 ∧ z2 = INF32 ∧ s1 ≠ s2)) :
    fX0_sum 6 (lN (s1 * 2 ^ 31 + z1)) (lN (s2 * 2 ^ 31 + z2)) = (fX2_narrow (fX2_add (lN (s1 * 2 ^ 63 + Wd z1)) (lN (s2 * 2 ^ 63 + Wd z2)))).toInt64 &&& (4294967295 : Int64) ∧ D6 (fX0_sum 6 (lN (s1 * 2 ^ 31 + z1)) (lN (s2 * 2 ^ 31 + z2))) := by
  have l1 := lt31 hz1
  have l2 := lt31 hz2
  have n1 : ¬ (1 : Int32) = 0 := by decide
  have j1 : fX0_isInfinite 6 (lN (s1 * 2 ^ 31 + z1)) = if z1 = INF32 then 1 else 0 := inf_is Ks6 Kd6 hs1 l1
  have j2 : fX0_isInfinite 6 (lN (s2 * 2 ^ 31 + z2)) = if z2 = INF32 then 1 else 0 := inf_is Ks6 Kd6 hs2 l2
  have p1 := zero_is Ks6 hs1 l1
  have p2 := zero_is Ks6 hs2 l2
  have w1 : D6 (lN (s1 * 2 ^ 31 + z1)) := ⟨s1, z1, hs1, hz1, rfl⟩
  have w2 : D6 (lN (s2 * 2 ^ 31 + z2)) := ⟨s2, z2, hs2, hz2, rfl⟩
  have b1 := Nr_mask hs1 (Wd_le' hz1)
  have b2 := Nr_mask hs2 (Wd_le' hz2)
  rw [Nr_Wd hz1] at b1
  rw [Nr_Wd hz2] at b2
  have qi1 := Wd_isinf l1
  have qi2 := Wd_isinf l2
  have q01 := Wd_zero l1
  have q02 := Wd_zero l2
  obtain ⟨v1', v2', v3', v4', v5'⟩ := add_val hs1 hs2 (Wd_le' hz1) (Wd_le' hz2)
  rw [fX0_sum, fX0_sum_0, j1, j2, p1, p2]
  by_cases c1 : z1 = INF32
  · rw [v1' (qi1.mpr c1), b1, if_pos c1, if_neg n1]
    by_cases c2 : z2 = INF32
    · have hs : s1 = s2 := Decidable.byContradiction fun h => hn ⟨c1, c2, h⟩
      rw [if_pos c2, if_neg n1, if_pos (by rw [c1, c2, hs])]; exact ⟨rfl, w1⟩
    · rw [if_neg c2, if_pos rfl]; exact ⟨rfl, w1⟩
  · have d1 : Wd z1 ≠ INF64 := fun h => c1 (qi1.mp h)
    rw [if_neg c1, if_pos rfl]
    by_cases c2 : z2 = INF32
    · rw [v2' d1 (qi2.mpr c2), b2, if_pos c2, if_neg n1]; exact ⟨rfl, w2⟩
    · have d2 : Wd z2 ≠ INF64 := fun h => c2 (qi2.mp h)
      rw [if_neg c2, if_pos rfl]
      have k1 : z1 < INF32 := by omega
      have k2 : z2 < INF32 := by omega
      have k1' : z1 < (253 + 2) * 2 ^ 23 := k1
      have k2' : z2 < (253 + 2) * 2 ^ 23 := k2
      have hIK : (253 + 2) * 2 ^ 23 < 2 ^ 31 := by decide
      have sz1 := size_is Ks6 hs1 l1
      have sz2 := size_is Ks6 hs2 l2
      have qz := lN_lt63 (show z1 < 2 ^ 63 by omega) (show z2 < 2 ^ 63 by omega)
      by_cases a0 : z1 = 0
      · by_cases b0 : z2 = 0
        · have hss : s1 * s2 ≤ 1 := Nat.mul_le_mul hs1 hs2
          have hb := Nr_mask (z := 0) hss (by decide)
          rw [show Nr 0 = 0 from rfl] at hb
          rw [v3' d1 d2 (q01.mpr a0) (q02.mpr b0), hb, if_pos a0, if_neg n1, if_pos b0, if_neg n1, a0, b0, Nat.add_zero, Nat.add_zero, Nat.add_zero, and_zeros hs1 hs2 (by decide)]
          exact ⟨rfl, s1 * s2, 0, hss, by decide, by rw [Nat.add_zero]⟩
        · have cs := clsSum (s1 := s2) (s2 := s1) (z1 := z2) (z2 := z1) Ks6 Kd6 (by decide) hIK hs2 hs1 (by omega) k2' k1' (fun h => by omega) (fun h => by omega)
          rw [if_pos a0] at cs
          rw [v4' d1 d2 (q01.mpr a0) (fun h => b0 (q02.mp h)), b2, if_pos a0, if_neg n1, if_neg b0, if_pos rfl, fX0_sum_61, sz1, sz2, if_pos (qz.mpr (by omega)), fX0_sum_80, if_pos rfl, cs]
          exact ⟨rfl, w2⟩
      · rw [if_neg a0, if_pos rfl, fX0_sum_61, sz1, sz2]
        by_cases b0 : z2 = 0
        · have cs := clsSum (s1 := s1) (s2 := s2) (z1 := z1) (z2 := z2) Ks6 Kd6 (by decide) hIK hs1 hs2 (by omega) k1' k2' (fun h => by omega) (fun h => by omega)
          rw [if_pos b0] at cs
          rw [v5' d1 d2 (fun h => a0 (q01.mp h)) (q02.mpr b0), b1, if_neg (fun h => by have := qz.mp h; omega), fX0_sum_80, if_neg n1, cs]
          exact ⟨rfl, w1⟩
        · have t1 : 0 < z1 := by omega
          have t2 : 0 < z2 := by omega
          obtain ⟨-, -, g1, g2⟩ := Wd_dec t1 k1
          obtain ⟨-, -, g3, g4⟩ := Wd_dec t2 k2
          obtain ⟨S1, E1⟩ := SgEg_Wd t1 k1
          obtain ⟨S2, E2⟩ := SgEg_Wd t2 k2
          obtain ⟨r, -⟩ := ref_add_pick hs1 hs2 g1 g2 g3 g4
          rw [r, S1, S2, E1, E2]
          have qw := Wd_lt_iff hz1 hz2
          by_cases c : z1 < z2
          · have hl := lex (fb := 23) (em := -149) (by omega) t1 c
            have cs := clsSum (s1 := s2) (s2 := s1) (z1 := z2) (z2 := z1) Ks6 Kd6 (by decide) hIK hs2 hs1 (by omega) k2' k1' (fun _ => by omega) (fun _ h => by omega)
            obtain ⟨m1, m2⟩ := sumRes_nr (s1 := s2) (s2 := s1) hs2 t2 k2 t1 k1 (by omega) (fun h => by omega)
            rw [if_neg a0] at cs
            rw [if_pos (qz.mpr c), fX0_sum_80, if_pos rfl, if_pos (qw.mpr c), cs, m1]
            exact ⟨rfl, m2⟩
          · have hl : Eg 23 (-149) z2 < Eg 23 (-149) z1 ∨ (Eg 23 (-149) z2 = Eg 23 (-149) z1 ∧ Sg 23 z2 ≤ Sg 23 z1) := by
              rcases Nat.eq_or_lt_of_le (show z2 ≤ z1 by omega) with q | q
              · rw [q]; exact Or.inr ⟨rfl, Nat.le_refl _⟩
              · rcases lex (fb := 23) (em := -149) (by omega) t2 q with h | h
                · exact Or.inl h
                · exact Or.inr ⟨h.1, Nat.le_of_lt h.2⟩
            have cs := clsSum (s1 := s1) (s2 := s2) (z1 := z1) (z2 := z2) Ks6 Kd6 (by decide) hIK hs1 hs2 (by omega) k1' k2' (fun _ => by omega) (fun _ h => by omega)
            obtain ⟨m1, m2⟩ := sumRes_nr (s1 := s1) (s2 := s2) hs1 t1 k1 t2 k2 (by omega) (fun h => by omega)
            rw [if_neg b0] at cs
            rw [if_neg (fun h => c (qz.mp h)), fX0_sum_80, if_neg n1, if_neg (fun h => c (qw.mp h)), cs, m1]
            exact ⟨rfl, m2⟩
end
section
/-! products -/
theorem RD_HJ {fb P q : Nat} {w : Int} (h : 2 ^ (fb + 1) ≤ P / 2 ^ (q + 1)) : RD fb (HJ P q) (w + q) = RD fb P w := by
  have hd := Nat.div_add_mod P (2 ^ (q + 1))
  have hm := Nat.mod_lt P (Nat.two_pow_pos (q + 1))
  have hp := Nat.two_pow_pos (fb + 1)
  unfold HJ
  by_cases c : P % 2 ^ (q + 1) = 0
  · rw [if_pos c, RD_2 (by omega)]
    have e : P = P / 2 ^ (q + 1) * 2 ^ (q + 1) := by rw [Nat.mul_comm]; omega
    conv => rhs; rw [e, RD_shift (by omega)]
    congr 1; omega
  · rw [if_neg c, RD_cell (M := P) (c := P / 2 ^ (q + 1)) (j := q + 1) (w := w) h (by rw [Nat.mul_comm]; omega) (by rw [Nat.add_mul, Nat.one_mul, Nat.mul_comm]; omega)]
    congr 1; omega
theorem mulsplit {a b ah al bh bl : Nat} (ha : a = 2 ^ 27 * ah + al) (hb : b = 2 ^ 27 * bh + bl) : a * b = 2 ^ 54 * (ah * bh) + 2 ^ 27 * (ah * bl + al * bh) + al * bl := by
  rw [ha, hb, Nat.add_mul, Nat.mul_add, Nat.mul_add, Nat.mul_mul_mul_comm, Nat.mul_assoc (2 ^ 27) ah bl, Nat.mul_left_comm al (2 ^ 27) bh, Nat.mul_add]
  omega
/-- the parts of a product of two numbers below 2^53 -/
theorem mulparts {a b : Nat} (ha : a < 2 ^ 53) (hb : b < 2 ^ 53) : ∃ low mid hi : Nat, low = a % 2 ^ 27 * (b % 2 ^ 27) ∧ mid = a / 2 ^ 27 * (b % 2 ^ 27) + a % 2 ^ 27 * (b / 2 ^ 27) + low / 2 ^ 27 ∧ hi = a / 2 ^ 27 * (b / 2 ^ 27) + mid / 2 ^ 27 ∧ low < 2 ^ 54 ∧ mid < 2 ^ 55 ∧ hi < 2 ^ 53 ∧
    a * b = hi * 2 ^ 54 + (mid % 2 ^ 27 * 2 ^ 27 + low % 2 ^ 27) := by
  refine ⟨_, _, _, rfl, rfl, rfl, ?_⟩
  have e := mulsplit (a := a) (b := b) (ah := a / 2 ^ 27) (al := a % 2 ^ 27) (bh := b / 2 ^ 27) (bl := b % 2 ^ 27) (by omega) (by omega)
  have b1 : a % 2 ^ 27 * (b % 2 ^ 27) ≤ (2 ^ 27 - 1) * (2 ^ 27 - 1) := Nat.mul_le_mul (by omega) (by omega)
  have b2 : a / 2 ^ 27 * (b % 2 ^ 27) ≤ (2 ^ 26 - 1) * (2 ^ 27 - 1) := Nat.mul_le_mul (by omega) (by omega)
  have b3 : a % 2 ^ 27 * (b / 2 ^ 27) ≤ (2 ^ 27 - 1) * (2 ^ 26 - 1) := Nat.mul_le_mul (by omega) (by omega)
  have b4 : a / 2 ^ 27 * (b / 2 ^ 27) ≤ (2 ^ 26 - 1) * (2 ^ 26 - 1) := Nat.mul_le_mul (by omega) (by omega)
  rw [e]
  generalize a % 2 ^ 27 * (b % 2 ^ 27) = x1 at *
  generalize a / 2 ^ 27 * (b % 2 ^ 27) = x2 at *
  generalize a % 2 ^ 27 * (b / 2 ^ 27) = x3 at *
  generalize a / 2 ^ 27 * (b / 2 ^ 27) = x4 at *
  omega
theorem lN_or {x y k : Nat} (hy : y < 2 ^ k) (h : x * 2 ^ k + y < 2 ^ 64) : lN (x * 2 ^ k) ||| lN y = lN (x * 2 ^ k + y) := g_or rfl hy h
theorem ushr27 {a : Nat} (h : a < 2 ^ 64) : jushr (lN a) (27 : Int32) = lN (a / 2 ^ 27) := jushr_lN (k := 27) h (by decide)
theorem mask27 {a : Nat} (h : a < 2 ^ 64) : lN a &&& (134217727 : Int64) = lN (a % 2 ^ 27) := by
  rw [show (134217727 : Int64) = lN (2 ^ 27 - 1) from rfl]; exact wb_mask h (by decide)
theorem top_tail {hi x : Nat} (hh : hi < 2 ^ 53) (h1 : x < 2 ^ 54) : lN (hi * 2 ^ 10) ||| lN (HJ x 44) = lN (HJ (hi * 2 ^ 54 + x) 44) := by
  have hx : HJ x 44 < 2 ^ 10 := by
    unfold HJ
    split <;> omega
  rw [lN_or hx (by omega)]
  congr 1
  unfold HJ
  rw [show (hi * 2 ^ 54 + x) / 2 ^ (44 + 1) = hi * 2 ^ 9 + x / 2 ^ (44 + 1) by omega, show (hi * 2 ^ 54 + x) % 2 ^ (44 + 1) = x % 2 ^ (44 + 1) by omega]
  omega
theorem topOfProduct_is {a b : Nat} (ha : a < 2 ^ 53) (hb : b < 2 ^ 53) : fX0_topOfProduct (lN a) (lN b) = lN (HJ (a * b) 44) := by
  obtain ⟨low, mid, hi, e1, e2, e3, b1, b2, b3, hP⟩ := mulparts ha hb
  rw [fX0_topOfProduct, fX0_topOfProduct_0, fX0_topOfProduct_11, fX0_topOfProduct_17, fX0_topOfProduct_23, fX0_topOfProduct_29, fX0_topOfProduct_36, ushr27 (by omega), ushr27 (by omega), mask27 (by omega), mask27 (by omega), lN_mul, lN_mul, lN_mul, ← e1, ushr27 (by omega), lN_add, lN_add, ← e2, fX0_topOfProduct_55, ushr27 (by omega), lN_mul, lN_add, ← e3, fX0_topOfProduct_68, mask27 (by omega), mask27 (by omega),
    show jshl (lN (mid % 2 ^ 27)) (27 : Int32) = lN (mid % 2 ^ 27 * 2 ^ 27) from jshl_lN _ (k := 27) (by decide), lN_or (by omega) (by omega), fX0_topOfProduct_84,
    show jshl (lN hi) (10 : Int32) = lN (hi * 2 ^ 10) from jshl_lN _ (k := 10) (by decide), show (44 : Int32) = nI 44 from rfl, movedDown_is (by omega) (by decide)]
  have h1 : mid % 2 ^ 27 * 2 ^ 27 + low % 2 ^ 27 < 2 ^ 54 := by omega
  rw [hP]
  exact top_tail b3 h1
/-- the sign of a product -/
def sx (s1 s2 : Nat) : Nat := if s1 = s2 then 0 else 1
theorem sx_le (s1 s2 : Nat) : sx s1 s2 ≤ 1 := by unfold sx; split <;> omega
theorem sign_xor {s1 s2 z1 z2 : Nat} (hs1 : s1 ≤ 1) (hs2 : s2 ≤ 1) (hz1 : z1 < 2 ^ 63) (hz2 : z2 < 2 ^ 63) : (lN (s1 * 2 ^ 63 + z1) ^^^ lN (s2 * 2 ^ 63 + z2)) &&& (-9223372036854775808 : Int64) = lN (sx s1 s2 * 2 ^ 63) := by
  have u1 := d_u hs1 hz1
  have u2 := d_u hs2 hz2
  rw [lN_xor, show (-9223372036854775808 : Int64) = lN (2 ^ 63) from by decide, wb_and (Nat.xor_lt_two_pow u1 u2) (by decide), Nat.and_xor_distrib_right, nat_and_pow hs1 hz1, nat_and_pow hs2 hz2]
  congr 1
  unfold sx
  rcases (show s1 = 0 ∨ s1 = 1 by omega) with rfl | rfl <;> rcases (show s2 = 0 ∨ s2 = 1 by omega) with rfl | rfl <;> decide
theorem HJ45 (P : Nat) : HJ P 45 = 2 * (P / 2 ^ 46) + if P % 2 ^ 46 = 0 then 0 else 1 := rfl
set_option maxRecDepth 20000 in
/-- finite factors that aren't 0 -/
theorem refMul_core {s S1 S2 : Nat} {E1 E2 : Int} {D1 D2 : Int64} (hs : s ≤ 1)
    (e1 : fX2_exponent D1 = iI E1) (e1o : okX2_exponent D1) (e2 : fX2_exponent D2 = iI E2) (e2o : okX2_exponent D2) (g2 : fX2_significand D2 = lN S2) (g2o : okX2_significand D2)
    (a1 : 2 ^ 52 ≤ S1) (a2 : S1 < 2 ^ 53) (a3 : 2 ^ 52 ≤ S2) (a4 : S2 < 2 ^ 53) (c1 : -1200 ≤ E1) (c2 : E1 ≤ 1000) (c3 : -1200 ≤ E2) (c4 : E2 ≤ 1000) :
    fX2_multiply_53 D1 D2 (lN (s * 2 ^ 63)) (lN S1) = lN (s * 2 ^ 63 + min INF64 (RD 52 (S1 * S2) (E1 + E2 + 1074))) ∧ okX2_multiply_53 D1 D2 (lN (s * 2 ^ 63)) (lN S1) := by
  obtain ⟨low, mid, hi, r1, r2, r3, b1, b2, b3, hP⟩ := mulparts a2 a4
  have hPl : 2 ^ 52 * 2 ^ 52 ≤ S1 * S2 := Nat.mul_le_mul a1 a3
  have hPu : S1 * S2 ≤ (2 ^ 53 - 1) * (2 ^ 53 - 1) := Nat.mul_le_mul (by omega) (by omega)
  have n1 : ¬ (1 : Int32) = 0 := by decide
  have ee : iI E1 + iI E2 + (46 : Int32) = iI (E1 + E2 + 46) := by rw [show (46 : Int32) = iI 46 from by decide, iI_add, iI_add]
  have q0 : (lN (s * 2 ^ 63) = 0) ↔ s = 0 := by
    rw [lN_0, lN_inj (by omega) (by decide)]; omega
  have core : ∀ st : Nat, st = (if (S1 * S2) % 2 ^ 46 = 0 then 0 else 1) → fX2_multiply_160 D1 D2 (lN (s * 2 ^ 63)) (lN hi) (lN (mid % 2 ^ 27)) (nI st) = lN (s * 2 ^ 63 + min INF64 (RD 52 (S1 * S2) (E1 + E2 + 1074))) ∧ okX2_multiply_160 D1 D2 (lN (s * 2 ^ 63)) (lN hi) (lN (mid % 2 ^ 27)) (nI st) := by
    intro st hst
    have hst1 : st ≤ 1 := by rw [hst]; split <;> omega
    have em : jshl (lN hi) (8 : Int32) ||| jushr (lN (mid % 2 ^ 27)) (19 : Int32) = lN (S1 * S2 / 2 ^ 46) := by
      rw [show jshl (lN hi) (8 : Int32) = lN (hi * 2 ^ 8) from jshl_lN _ (k := 8) (by decide), show jushr (lN (mid % 2 ^ 27)) (19 : Int32) = lN (mid % 2 ^ 27 / 2 ^ 19) from jushr_lN (k := 19) (by omega) (by decide), lN_or (by omega) (by omega)]
      congr 1
      rw [hP]; omega
    obtain ⟨m1, m2⟩ := made_is (s := s) (m := S1 * S2 / 2 ^ 46) (st := st) (e := E1 + E2 + 46) hs (by omega) (by omega) hst1 (fun _ => by omega) (by omega) (by omega)
    have hR : RD 52 (2 * (S1 * S2 / 2 ^ 46) + st) (E1 + E2 + 46 + 1073) = RD 52 (S1 * S2) (E1 + E2 + 1074) := by
      rw [hst, ← HJ45, ← RD_HJ (fb := 52) (q := 45) (w := E1 + E2 + 1074) (by omega)]
      congr 1; omega
    rw [hR] at m1
    have k174 : ∀ x : Int32, x = nI s → fX2_multiply_174 D1 D2 (lN hi) (lN (mid % 2 ^ 27)) (nI st) x = lN (s * 2 ^ 63 + min INF64 (RD 52 (S1 * S2) (E1 + E2 + 1074))) ∧ okX2_multiply_174 D1 D2 (lN hi) (lN (mid % 2 ^ 27)) (nI st) x := by
      intro x hx
      rw [fX2_multiply_174, okX2_multiply_174, hx, em, e1, e2, ee]
      exact ⟨m1, e1o, e2o, m2, trivial⟩
    rw [fX2_multiply_160, okX2_multiply_160]
    by_cases c : s = 0
    · obtain ⟨k1, k2⟩ := k174 0 (by rw [c]; rfl)
      rw [if_pos (q0.mpr c)]
      exact ⟨k1, fun _ => k2, fun h => absurd (q0.mpr c) h⟩
    · obtain ⟨k1, k2⟩ := k174 1 (by rw [show s = 1 by omega]; rfl)
      rw [if_neg (fun h => c (q0.mp h))]
      exact ⟨k1, fun h => absurd (q0.mp h) c, fun _ => k2⟩
  have ql : (lN (low % 2 ^ 27) = 0) ↔ low % 2 ^ 27 = 0 := lN_inj (b := 0) (by omega) (by decide)
  have em19 : lN (mid % 2 ^ 27) &&& (524287 : Int64) = lN (mid % 2 ^ 27 % 2 ^ 19) := by
    rw [show (524287 : Int64) = lN (2 ^ 19 - 1) from rfl]; exact wb_mask (by omega) (by decide)
  have qm : (lN (mid % 2 ^ 27 % 2 ^ 19) = 0) ↔ mid % 2 ^ 27 % 2 ^ 19 = 0 := lN_inj (b := 0) (by omega) (by decide)
  rw [fX2_multiply_53, fX2_multiply_59, fX2_multiply_77, fX2_multiply_108, fX2_multiply_127, fX2_multiply_134, fX2_multiply_155, okX2_multiply_53, okX2_multiply_59, okX2_multiply_77, okX2_multiply_108, okX2_multiply_127, okX2_multiply_134, okX2_multiply_155, g2, ushr27 (show S1 < 2 ^ 64 by omega), ushr27 (show S2 < 2 ^ 64 by omega), mask27 (show S1 < 2 ^ 64 by omega), mask27 (show S2 < 2 ^ 64 by omega), lN_mul, lN_mul, lN_mul, ← r1, ushr27 (show low < 2 ^ 64 by omega), lN_add, lN_add, ← r2, ushr27 (show mid < 2 ^ 64 by omega), lN_mul, lN_add, ← r3, mask27 (show mid < 2 ^ 64 by omega), mask27 (show low < 2 ^ 64 by omega), em19]
  by_cases cl : low % 2 ^ 27 = 0
  · rw [if_pos (ql.mpr cl)]
    by_cases cm : mid % 2 ^ 27 % 2 ^ 19 = 0
    · obtain ⟨k1, k2⟩ := core 0 (by rw [if_pos (by rw [hP]; omega)])
      rw [if_pos (qm.mpr cm)]
      exact ⟨k1, g2o, fun _ => ⟨fun _ => k2, fun h => absurd (qm.mpr cm) h⟩, fun h => absurd (ql.mpr cl) h⟩
    · obtain ⟨k1, k2⟩ := core 1 (by rw [if_neg (by rw [hP]; omega)])
      rw [if_neg (fun h => cm (qm.mp h))]
      exact ⟨k1, g2o, fun _ => ⟨fun h => absurd (qm.mp h) cm, fun _ => k2⟩, fun h => absurd (ql.mpr cl) h⟩
  · obtain ⟨k1, k2⟩ := core 1 (by rw [if_neg (by rw [hP]; omega)])
    rw [if_neg (fun h => cl (ql.mp h))]
    exact ⟨k1, g2o, fun h => absurd (ql.mp h) cl, fun _ => k2⟩
end
section
theorem roomBelow_0 {top : Nat} (ht : top ≤ 62) : ∀ (fuel r : Nat), r ≤ top → top + 1 ≤ fuel + r → fX0_roomBelow_2 fuel (nI top) (lN 0) (nI r) = nI top := by
  intro fuel
  induction fuel with
  | zero => intro r h1 h2; omega
  | succ fuel ih =>
    intro r h1 h2
    rw [fX0_roomBelow_2]
    by_cases hr : r < top
    · have b2 : 2 ^ top < 2 ^ 63 := Nat.pow_lt_pow_right (by omega) (by omega)
      rw [if_pos ((nI_ltI (by omega) (by omega)).mpr hr), jshl_lN _ (by omega), Nat.zero_mul, lN_one, jshl_lN _ (by omega), Nat.one_mul, if_pos ((lN_lt63 (by decide) b2).mpr (Nat.two_pow_pos top)), show nI r + 1 = nI (r + 1) from nI_1 r]
      exact ih (r + 1) (by omega) (by omega)
    · rw [if_neg (fun h => hr ((nI_ltI (by omega) (by omega)).mp h))]
      congr 1; omega
theorem room52 {n : Nat} (hn : n < 2 ^ 53) : ∃ k : Nat, k ≤ 52 ∧ fX0_roomBelow (52 : Int32) (lN n) = nI k ∧ (0 < n → k = 52 - n.log2) := by
  by_cases h : n = 0
  · refine ⟨52, by omega, ?_, fun h2 => by omega⟩
    rw [h, fX0_roomBelow, fX0_roomBelow_0]
    exact roomBelow_0 (top := 52) (by decide) _ 0 (by decide) (by decide)
  · exact ⟨52 - n.log2, by omega, roomBelow_is (top := 52) (by omega) (by decide) hn, fun _ => rfl⟩
/-- the class's product of two finite numbers -/
theorem clsMul {kind : Int32} {sb fb ga s1 s2 z1 z2 s : Nat} {em : Int} (K : Ks kind sb) (F : Kd kind fb em ga) (hfs : fb < sb) (hI : (ga + 2) * 2 ^ fb < 2 ^ sb) (hs : s ≤ 1) (hs1 : s1 ≤ 1) (hs2 : s2 ≤ 1) (hz1 : z1 < (ga + 2) * 2 ^ fb) (hz2 : z2 < (ga + 2) * 2 ^ fb) :
    fX0_product_94 kind (lN (s1 * 2 ^ sb + z1)) (lN (s2 * 2 ^ sb + z2)) (nI s) (fX0_roomBelow (52 : Int32) (fX0_magnitude kind (lN (s1 * 2 ^ sb + z1)))) = if z1 = 0 ∨ z2 = 0 then lN (s * 2 ^ sb) else lN (s * 2 ^ sb + min ((ga + 2) * 2 ^ fb) (RD fb (Sg fb z1 * Sg fb z2) (Eg fb em z1 + Eg fb em z2 - em))) := by
  have hem := F.2.2.2.2.2.2.2.1
  have hem2 := F.2.2.2.2.2.2.2.2.1
  have hfb := F.2.2.2.2.1
  have hga := F.2.2.2.2.2.2.1
  have l1 : z1 < 2 ^ sb := by omega
  have l2 : z2 < 2 ^ sb := by omega
  have hd1 : z1 / 2 ^ fb < ga + 2 := (Nat.div_lt_iff_lt_mul (Nat.two_pow_pos fb)).mpr hz1
  have hd2 : z2 / 2 ^ fb < ga + 2 := (Nat.div_lt_iff_lt_mul (Nat.two_pow_pos fb)).mpr hz2
  have hx1 : Xp fb z1 ≤ 2046 := by unfold Xp; omega
  have hx2 : Xp fb z2 ≤ 2046 := by unfold Xp; omega
  have hp53 : 2 ^ (fb + 1) ≤ 2 ^ 53 := lt_2 (by omega)
  have m1l : Mg fb z1 < 2 ^ 53 := Nat.lt_of_lt_of_le (Mg_lt fb z1) hp53
  have m2l : Mg fb z2 < 2 ^ 53 := Nat.lt_of_lt_of_le (Mg_lt fb z2) hp53
  have g1 := mag_is K F hfs hs1 l1
  have g2 := mag_is K F hfs hs2 l2
  have x1 := exp_is K F (by omega) hs1 l1
  have x2 := exp_is K F (by omega) hs2 l2
  obtain ⟨k1, k1l, r1, k1e⟩ := room52 m1l
  obtain ⟨k2, k2l, r2, k2e⟩ := room52 m2l
  have hb : ∀ (n k : Nat), n < 2 ^ 53 → (0 < n → k = 52 - n.log2) → n * 2 ^ k < 2 ^ 53 := by
    intro n k hn hk
    rcases Nat.eq_zero_or_pos n with q | q
    · rw [q, Nat.zero_mul]; decide
    · have := log2_lt q hn
      refine Nat.lt_of_lt_of_le (Nat.mul_lt_mul_of_pos_right (log2_hi n) (Nat.two_pow_pos k)) ?_
      rw [← Nat.pow_add]; exact lt_2 (by rw [hk q]; omega)
  have t := topOfProduct_is (hb _ _ m1l k1e) (hb _ _ m2l k2e)
  rw [fX0_product_94, fX0_product_106, fX0_product_127, fX0_product_146, g1, g2, x1, x2, r1, r2, jshl_lN _ (by omega), jshl_lN _ (by omega), t]
  have ee : iI (em + Xp fb z1) - nI k1 + iI (em + Xp fb z2) - nI k2 + (54 : Int32) - (10 : Int32) = iI (em + Xp fb z1 - k1 + (em + Xp fb z2 - k2) + 44) := by
    rw [nI_iI, nI_iI, show (54 : Int32) = iI 54 from by decide, show (10 : Int32) = iI 10 from by decide, iI_sub, iI_add, iI_sub, iI_add, iI_sub]; congr 1; omega
  rw [ee]
  have hsg : ∀ x : Nat, fX0_signed kind (nI s) (lN (min ((ga + 2) * 2 ^ fb) x)) = lN (s * 2 ^ sb + min ((ga + 2) * 2 ^ fb) x) := fun x => signed_is K hs (Nat.lt_of_le_of_lt (Nat.min_le_left _ _) hI)
  by_cases c : z1 = 0 ∨ z2 = 0
  · have hP : Mg fb z1 * 2 ^ k1 * (Mg fb z2 * 2 ^ k2) = 0 := by
      rcases c with h | h
      · rw [show Mg fb z1 = 0 by rw [h]; unfold Mg; rw [if_pos (Nat.two_pow_pos fb)], Nat.zero_mul, Nat.zero_mul]
      · rw [show Mg fb z2 = 0 by rw [h]; unfold Mg; rw [if_pos (Nat.two_pow_pos fb)], Nat.zero_mul, Nat.mul_zero]
    rw [if_pos c, hP, HJ_zero, nearest_0]
    have := signed_is K hs (Nat.two_pow_pos sb)
    rw [this, Nat.add_zero]
  · have h1 : 0 < z1 := by omega
    have h2 : 0 < z2 := by omega
    have e1 : Mg fb z1 * 2 ^ k1 = Sg fb z1 := by unfold Sg; rw [k1e (Mg_pos h1)]
    have e2 : Mg fb z2 * 2 ^ k2 = Sg fb z2 := by unfold Sg; rw [k2e (Mg_pos h2)]
    obtain ⟨a1, a2⟩ := Sg_bounds (fb := fb) hfb h1
    obtain ⟨a3, a4⟩ := Sg_bounds (fb := fb) hfb h2
    have hPl : 2 ^ 52 * 2 ^ 52 ≤ Sg fb z1 * Sg fb z2 := Nat.mul_le_mul a1 a3
    have hPu : Sg fb z1 * Sg fb z2 ≤ (2 ^ 53 - 1) * (2 ^ 53 - 1) := Nat.mul_le_mul (by omega) (by omega)
    have hE1 : Eg fb em z1 = em + Xp fb z1 - k1 := by unfold Eg; rw [k1e (Mg_pos h1)]
    have hE2 : Eg fb em z2 = em + Xp fb z2 - k2 := by unfold Eg; rw [k2e (Mg_pos h2)]
    have hJ : HJ (Sg fb z1 * Sg fb z2) 44 ≤ Sg fb z1 * Sg fb z2 / 2 ^ 44 + 1 := HJ_le
    have hJ0 : 0 < HJ (Sg fb z1 * Sg fb z2) 44 := by unfold HJ; omega
    rw [if_neg c, e1, e2, ← hE1, ← hE2]
    have bE1 : -1200 ≤ Eg fb em z1 ∧ Eg fb em z1 ≤ 2100 := Eg_bounds hem hem2 hx1
    have bE2 : -1200 ≤ Eg fb em z2 ∧ Eg fb em z2 ≤ 2100 := Eg_bounds hem hem2 hx2
    have hcell : 2 ^ (fb + 1) ≤ Sg fb z1 * Sg fb z2 / 2 ^ (44 + 1) := by omega
    rw [nearest_is F hJ0 (by omega) (by omega) (by omega), hsg, ← RD_HJ (fb := fb) (q := 44) (w := Eg fb em z1 + Eg fb em z2 - em) hcell]
    congr 4
    omega
/-- the reference's product, case by case -/
theorem mul_val {s1 s2 z1 z2 : Nat} (hs1 : s1 ≤ 1) (hs2 : s2 ≤ 1) (hz1 : z1 ≤ INF64) (hz2 : z2 ≤ INF64) :
    fX2_multiply (lN (s1 * 2 ^ 63 + z1)) (lN (s2 * 2 ^ 63 + z2)) = (if z1 = INF64 ∨ z2 = INF64 then lN (sx s1 s2 * 2 ^ 63 + INF64) else if z1 = 0 ∨ z2 = 0 then lN (sx s1 s2 * 2 ^ 63) else lN (sx s1 s2 * 2 ^ 63 + min INF64 (RD 52 (Sg 52 z1 * Sg 52 z2) (Eg 52 (-1074) z1 + Eg 52 (-1074) z2 + 1074)))) ∧ okX2_multiply (lN (s1 * 2 ^ 63 + z1)) (lN (s2 * 2 ^ 63 + z2)) := by
  have l1 := lt63 hz1
  have l2 := lt63 hz2
  have n1 : ¬ (1 : Int32) = 0 := by decide
  have i1 := infd_is hs1 l1
  have i2 := infd_is hs2 l2
  have o1 := zerod_is hs1 l1
  have o2 := zerod_is hs2 l2
  have hor := or_sign (sx_le s1 s2) INF64_lt
  rw [fX2_multiply, fX2_multiply_0, okX2_multiply, okX2_multiply_0, sign_xor hs1 hs2 l1 l2, fX2_multiply_9, okX2_multiply_9, i1, i2, o1, o2, show (9218868437227405312 : Int64) = lN INF64 from rfl, hor]
  by_cases c1 : z1 = INF64
  · rw [if_pos c1, if_neg n1, if_pos (Or.inl c1)]
    exact ⟨rfl, fun h => absurd h n1, fun _ => trivial⟩
  rw [if_neg c1, if_pos rfl]
  by_cases c2 : z2 = INF64
  · rw [if_pos c2, if_neg n1, if_pos (Or.inr c2)]
    exact ⟨rfl, fun _ => ⟨fun h => absurd h n1, fun _ => trivial⟩, fun h => absurd rfl h⟩
  rw [if_neg c2, if_pos rfl, if_neg (show ¬ (z1 = INF64 ∨ z2 = INF64) by omega)]
  by_cases d1 : z1 = 0
  · rw [if_pos d1, if_neg n1, if_pos (Or.inl d1)]
    exact ⟨rfl, fun _ => ⟨fun _ => ⟨fun h => absurd h n1, fun _ => trivial⟩, fun h => absurd rfl h⟩, fun h => absurd rfl h⟩
  rw [if_neg d1, if_pos rfl]
  by_cases d2 : z2 = 0
  · rw [if_pos d2, if_neg n1, if_pos (Or.inr d2)]
    exact ⟨rfl, fun _ => ⟨fun _ => ⟨fun _ => ⟨fun h => absurd h n1, fun _ => trivial⟩, fun h => absurd rfl h⟩, fun h => absurd rfl h⟩, fun h => absurd rfl h⟩
  rw [if_neg d2, if_pos rfl, if_neg (show ¬ (z1 = 0 ∨ z2 = 0) by omega)]
  have k1 : z1 < INF64 := by omega
  have k2 : z2 < INF64 := by omega
  have t1 : 0 < z1 := by omega
  have t2 : 0 < z2 := by omega
  obtain ⟨e1, e1o⟩ := expd_is hs1 t1 k1
  obtain ⟨e2, e2o⟩ := expd_is hs2 t2 k2
  obtain ⟨g1, g1o⟩ := sigd_is hs1 t1 k1
  obtain ⟨g2, g2o⟩ := sigd_is hs2 t2 k2
  obtain ⟨a1, a2⟩ := Sg_bounds (fb := 52) (by omega) t1
  obtain ⟨a3, a4⟩ := Sg_bounds (fb := 52) (by omega) t2
  obtain ⟨b1, b2⟩ := Eg52_bounds k1
  obtain ⟨b3, b4⟩ := Eg52_bounds k2
  obtain ⟨r1, r2⟩ := refMul_core (sx_le s1 s2) e1 e1o e2 e2o g2 g2o a1 a2 a3 a4 b1 b2 b3 b4
  rw [g1]
  exact ⟨r1, fun _ => ⟨fun _ => ⟨fun _ => ⟨fun _ => ⟨g1o, r2⟩, fun h => absurd rfl h⟩, fun h => absurd rfl h⟩, fun h => absurd rfl h⟩, fun h => absurd rfl h⟩
/-- the class's product, case by case -/
theorem cmul_val {kind : Int32} {sb fb ga s1 s2 z1 z2 : Nat} {em : Int} (K : Ks kind sb) (F : Kd kind fb em ga) (hfs : fb < sb) (hI : (ga + 2) * 2 ^ fb < 2 ^ sb) (hs1 : s1 ≤ 1) (hs2 : s2 ≤ 1) (hz1 : z1 ≤ (ga + 2) * 2 ^ fb) (hz2 : z2 ≤ (ga + 2) * 2 ^ fb) :
    fX0_product kind (lN (s1 * 2 ^ sb + z1)) (lN (s2 * 2 ^ sb + z2)) = (if z1 = (ga + 2) * 2 ^ fb ∨ z2 = (ga + 2) * 2 ^ fb then (if z1 = 0 ∨ z2 = 0 then fX0_notANumber kind else lN (sx s1 s2 * 2 ^ sb + (ga + 2) * 2 ^ fb)) else if z1 = 0 ∨ z2 = 0 then lN (sx s1 s2 * 2 ^ sb) else lN (sx s1 s2 * 2 ^ sb + min ((ga + 2) * 2 ^ fb) (RD fb (Sg fb z1 * Sg fb z2) (Eg fb em z1 + Eg fb em z2 - em)))) := by
  have l1 : z1 < 2 ^ sb := by omega
  have l2 : z2 < 2 ^ sb := by omega
  have n1 : ¬ (1 : Int32) = 0 := by decide
  have i1 := inf_is K F hs1 l1
  have i2 := inf_is K F hs2 l2
  have o1 := zero_is K hs1 l1
  have o2 := zero_is K hs2 l2
  have qs : (nI s1 = nI s2) ↔ s1 = s2 := nI_eq (by omega) (by omega)
  have main : fX0_product_18 kind (lN (s1 * 2 ^ sb + z1)) (lN (s2 * 2 ^ sb + z2)) (nI (sx s1 s2)) = (if z1 = (ga + 2) * 2 ^ fb ∨ z2 = (ga + 2) * 2 ^ fb then (if z1 = 0 ∨ z2 = 0 then fX0_notANumber kind else lN (sx s1 s2 * 2 ^ sb + (ga + 2) * 2 ^ fb)) else if z1 = 0 ∨ z2 = 0 then lN (sx s1 s2 * 2 ^ sb) else lN (sx s1 s2 * 2 ^ sb + min ((ga + 2) * 2 ^ fb) (RD fb (Sg fb z1 * Sg fb z2) (Eg fb em z1 + Eg fb em z2 - em)))) := by
    have k36 : fX0_product_36 kind (lN (s1 * 2 ^ sb + z1)) (lN (s2 * 2 ^ sb + z2)) (nI (sx s1 s2)) = if z1 = 0 ∨ z2 = 0 then fX0_notANumber kind else lN (sx s1 s2 * 2 ^ sb + (ga + 2) * 2 ^ fb) := by
      rw [fX0_product_36, fX0_product_52, fX0_product_57, fX0_product_57, o1, o2, F.2.2.2.1, signed_is K (sx_le s1 s2) hI, if_neg n1, if_pos rfl]
      by_cases d1 : z1 = 0
      · rw [if_pos d1, if_neg n1, if_pos (Or.inl d1)]
      · rw [if_neg d1, if_pos rfl]
        by_cases d2 : z2 = 0
        · rw [if_pos d2, if_neg n1, if_pos (Or.inr d2)]
        · rw [if_neg d2, if_pos rfl, if_neg (show ¬ (z1 = 0 ∨ z2 = 0) by omega)]
    rw [fX0_product_18, i1, i2, k36]
    by_cases c1 : z1 = (ga + 2) * 2 ^ fb
    · rw [if_pos c1, if_neg n1, if_pos (Or.inl c1)]
    · rw [if_neg c1, if_pos rfl]
      by_cases c2 : z2 = (ga + 2) * 2 ^ fb
      · rw [if_pos c2, if_neg n1, if_pos (Or.inr c2)]
      · rw [if_neg c2, if_pos rfl, if_neg (show ¬ (z1 = (ga + 2) * 2 ^ fb ∨ z2 = (ga + 2) * 2 ^ fb) by omega)]
        exact clsMul K F hfs hI (sx_le s1 s2) hs1 hs2 (by omega) (by omega)
  rw [fX0_product, fX0_product_0, neg_is K hs1 l1, neg_is K hs2 l2]
  by_cases c : s1 = s2
  · rw [if_pos (qs.mpr c), ← main, show sx s1 s2 = 0 by unfold sx; rw [if_pos c]]; rfl
  · rw [if_neg (fun h => c (qs.mp h)), ← main, show sx s1 s2 = 1 by unfold sx; rw [if_neg c]]; rfl
theorem prod7 {s1 s2 z1 z2 : Nat} (hs1 : s1 ≤ 1) (hs2 : s2 ≤ 1) (hz1 : z1 ≤ INF64) (hz2 : z2 ≤ INF64) (hn : ¬ ((z1 = INF64 ∨ z2 = INF64) ∧ (z1 = 0 ∨ z2 = 0))) :
    fX0_product 7 (lN (s1 * 2 ^ 63 + z1)) (lN (s2 * 2 ^ 63 + z2)) = fX2_multiply (lN (s1 * 2 ^ 63 + z1)) (lN (s2 * 2 ^ 63 + z2)) ∧ D7 (fX2_multiply (lN (s1 * 2 ^ 63 + z1)) (lN (s2 * 2 ^ 63 + z2))) := by
  have a := cmul_val Ks7 Kd7 (by decide) (by decide) hs1 hs2 (show z1 ≤ (2045 + 2) * 2 ^ 52 from hz1) (show z2 ≤ (2045 + 2) * 2 ^ 52 from hz2)
  have b := (mul_val hs1 hs2 hz1 hz2).1
  rw [b, a, show (2045 + 2) * 2 ^ 52 = INF64 from rfl]
  have hs := sx_le s1 s2
  by_cases c1 : z1 = INF64 ∨ z2 = INF64
  · rw [if_pos c1, if_pos c1, if_neg (fun h => hn ⟨c1, h⟩)]
    exact ⟨rfl, _, _, hs, Nat.le_refl _, rfl⟩
  · rw [if_neg c1, if_neg c1]
    by_cases c2 : z1 = 0 ∨ z2 = 0
    · rw [if_pos c2, if_pos c2]
      exact ⟨rfl, _, 0, hs, by decide, by rw [Nat.add_zero]⟩
    · rw [if_neg c2, if_neg c2, show Eg 52 (-1074) z1 + Eg 52 (-1074) z2 - -1074 = Eg 52 (-1074) z1 + Eg 52 (-1074) z2 + 1074 by omega]
      exact ⟨rfl, D7_min hs⟩
theorem mul_nr {z1 z2 : Nat} (h1 : 0 < z1) (hz1 : z1 < INF32) (h2 : 0 < z2) (hz2 : z2 < INF32) :
    Nr (min INF64 (RD 52 (Sg 23 z1 * Sg 23 z2) (Eg 23 (-149) z1 + Eg 23 (-149) z2 + 1074))) = min INF32 (RD 23 (Sg 23 z1 * Sg 23 z2) (Eg 23 (-149) z1 + Eg 23 (-149) z2 - -149)) := by
  obtain ⟨k1, a1, a2, e1⟩ := Sg23 h1
  obtain ⟨k2, a3, a4, e2⟩ := Sg23 h2
  obtain ⟨c1, c2⟩ := Eg23_bounds hz1
  obtain ⟨c3, c4⟩ := Eg23_bounds hz2
  have eP : Sg 23 z1 * Sg 23 z2 = k1 * k2 * 2 ^ 58 := by rw [e1, e2, Nat.mul_mul_mul_comm, ← Nat.pow_add]
  have b1 : 2 ^ 23 * 2 ^ 23 ≤ k1 * k2 := Nat.mul_le_mul a1 a3
  have b2 : k1 * k2 ≤ (2 ^ 24 - 1) * (2 ^ 24 - 1) := Nat.mul_le_mul (by omega) (by omega)
  rw [eP]
  have lg := log2_shl (n := k1 * k2) (by omega) 58
  have lk1 := log2_ge (k := 46) (show 2 ^ 46 ≤ k1 * k2 by omega)
  have lk2 := log2_lt (show 0 < k1 * k2 by omega) (show k1 * k2 < 2 ^ 48 by omega)
  rw [show Eg 23 (-149) z1 + Eg 23 (-149) z2 - -149 = Eg 23 (-149) z1 + Eg 23 (-149) z2 + 1074 - 925 by omega]
  refine (NrRD (p := 64) (d := (k1 * k2 * 2 ^ 58).log2 + 12) (by omega) (by rw [lg]; omega) (by rw [lg]; omega) (by omega) (fun h _ => Or.inr ?_)).2
  exact exact_mod (by omega) (by omega) (by omega)
theorem prod6 {s1 s2 z1 z2 : Nat} (hs1 : s1 ≤ 1) (hs2 : s2 ≤ 1) (hz1 : z1 ≤ INF32) (hz2 : z2 ≤ INF32) (hn : ¬ ((z1 = INF32 ∨ z2 = INF32) ∧ (z1 = 0 ∨ z2 = 0))) :
    fX0_product 6 (lN (s1 * 2 ^ 31 + z1)) (lN (s2 * 2 ^ 31 + z2)) = (fX2_narrow (fX2_multiply (lN (s1 * 2 ^ 63 + Wd z1)) (lN (s2 * 2 ^ 63 + Wd z2)))).toInt64 &&& (4294967295 : Int64) ∧ D6 (fX0_product 6 (lN (s1 * 2 ^ 31 + z1)) (lN (s2 * 2 ^ 31 + z2))) := by
  have a := cmul_val Ks6 Kd6 (by decide) (by decide) hs1 hs2 (show z1 ≤ (253 + 2) * 2 ^ 23 from hz1) (show z2 ≤ (253 + 2) * 2 ^ 23 from hz2)
  have b := (mul_val hs1 hs2 (Wd_le' hz1) (Wd_le' hz2)).1
  have hs := sx_le s1 s2
  have qi1 := Wd_isinf (lt31 hz1)
  have qi2 := Wd_isinf (lt31 hz2)
  have q01 := Wd_zero (lt31 hz1)
  have q02 := Wd_zero (lt31 hz2)
  rw [b, a, show (253 + 2) * 2 ^ 23 = INF32 from rfl]
  by_cases c1 : z1 = INF32 ∨ z2 = INF32
  · have c1' : Wd z1 = INF64 ∨ Wd z2 = INF64 := c1.imp qi1.mpr qi2.mpr
    have m := Nr_mask hs (Nat.le_refl INF64)
    rw [show Nr INF64 = INF32 from by rw [← Wd_inf, Nr_Wd (Nat.le_refl _)]] at m
    rw [if_pos c1, if_pos c1', if_neg (fun h => hn ⟨c1, h⟩), m]
    exact ⟨rfl, _, _, hs, Nat.le_refl _, rfl⟩
  · have c1' : ¬ (Wd z1 = INF64 ∨ Wd z2 = INF64) := fun h => c1 (h.imp qi1.mp qi2.mp)
    rw [if_neg c1, if_neg c1']
    by_cases c2 : z1 = 0 ∨ z2 = 0
    · have c2' : Wd z1 = 0 ∨ Wd z2 = 0 := c2.imp q01.mpr q02.mpr
      have m := Nr_mask (z := 0) hs (by decide)
      rw [show Nr 0 = 0 from rfl, Nat.add_zero, Nat.add_zero] at m
      rw [if_pos c2, if_pos c2', m]
      exact ⟨rfl, _, 0, hs, by decide, by rw [Nat.add_zero]⟩
    · have c2' : ¬ (Wd z1 = 0 ∨ Wd z2 = 0) := fun h => c2 (h.imp q01.mp q02.mp)
      have t1 : 0 < z1 := by omega
      have t2 : 0 < z2 := by omega
      have k1 : z1 < INF32 := by omega
      have k2 : z2 < INF32 := by omega
      obtain ⟨S1, E1⟩ := SgEg_Wd t1 k1
      obtain ⟨S2, E2⟩ := SgEg_Wd t2 k2
      rw [if_neg c2, if_neg c2', S1, S2, E1, E2, Nr_mask hs (Nat.min_le_left _ _), mul_nr t1 k1 t2 k2]
      exact ⟨rfl, _, _, hs, Nat.min_le_left _ _, rfl⟩
end
section
/-! quotients -/
theorem lN_div {a b : Nat} (ha : a < 2 ^ 63) (h0 : 0 < b) (hb : b < 2 ^ 63) : lN a / lN b = lN (a / b) := pk_lDiv ha h0 hb
theorem jrem_lN {a b : Nat} (ha : a < 2 ^ 63) (h0 : 0 < b) (hb : b < 2 ^ 63) : jrem (lN a) (lN b) = lN (a % b) := pk_lRem ha h0 hb
theorem div_step (A b k : Nat) (hb : 0 < b) : A * 2 ^ k / b = A / b * 2 ^ k + A % b * 2 ^ k / b ∧ A * 2 ^ k % b = A % b * 2 ^ k % b := by
  have e : A * 2 ^ k = b * (A / b * 2 ^ k) + A % b * 2 ^ k := by
    conv => lhs; rw [← Nat.div_add_mod A b]
    rw [Nat.add_mul, Nat.mul_assoc]
  constructor
  · conv => lhs; rw [e]
    rw [Nat.mul_add_div hb]
  · conv => lhs; rw [e]
    rw [Nat.mul_add_mod]
/-- a quotient, with a bit for the rest -/
def QJ (A b : Nat) : Nat := if A % b = 0 then A / b else (A / b) ||| 1
theorem quot_loop {b : Nat} (hb : 0 < b) (hb2 : b < 2 ^ 53) : ∀ (fuel i A : Nat), i ≤ 6 → 7 ≤ fuel + i → A / b < 2 ^ (1 + 10 * i) → fX0_topOfQuotient_21 fuel (lN b) (lN (A / b)) (lN (A % b)) (nI i) = lN (QJ (A * 2 ^ (10 * (6 - i))) b) := by
  intro fuel
  induction fuel with
  | zero => intro i A h1 h2; omega
  | succ fuel ih =>
    intro i A h1 h2 hA
    have hm := Nat.mod_lt A hb
    have hp : 2 ^ (1 + 10 * i) ≤ 2 ^ 61 := lt_2 (by omega)
    rw [fX0_topOfQuotient_21, show (6 : Int32) = nI 6 from rfl]
    have q := nI_ltI (a := i) (b := 6) (by omega) (by decide)
    by_cases c : i < 6
    · obtain ⟨d1, d2⟩ := div_step A b 10 hb
      have hp2 : 2 ^ (1 + 10 * i) ≤ 2 ^ 51 := lt_2 (by omega)
      have hd2 : A % b * 2 ^ 10 / b < 2 ^ 10 := (Nat.div_lt_iff_lt_mul hb).mpr (by rw [Nat.mul_comm]; exact Nat.mul_lt_mul_of_pos_left hm (by decide))
      rw [if_pos (q.mpr c), show (10 : Int32) = nI 10 from rfl, jshl_lN _ (by decide), jshl_lN _ (by decide), lN_div (by omega) hb (by omega), jrem_lN (by omega) hb (by omega), lN_add, ← d1, ← d2, show nI i + 1 = nI (i + 1) from nI_1 i]
      have hA2 : A * 2 ^ 10 / b < 2 ^ (1 + 10 * (i + 1)) := by
        rw [d1, show 1 + 10 * (i + 1) = 1 + 10 * i + 10 by omega, Nat.pow_add 2 (1 + 10 * i) 10]
        omega
      rw [ih (i + 1) (A * 2 ^ 10) (by omega) (by omega) hA2, Nat.mul_assoc, ← Nat.pow_add]
      congr 4
      omega
    · have e6 : i = 6 := by omega
      rw [if_neg (fun h => c (q.mp h)), fX0_topOfQuotient_59, e6, Nat.sub_self, Nat.mul_zero, Nat.pow_zero, Nat.mul_one]
      unfold QJ
      have q0 : (lN (A % b) = 0) ↔ A % b = 0 := lN_inj (b := 0) (by omega) (by decide)
      by_cases c0 : A % b = 0
      · rw [if_pos (q0.mpr c0), if_pos c0]
      · rw [if_neg (fun h => c0 (q0.mp h)), if_neg c0, lN_one, wb_or (by omega) (by decide)]
theorem topOfQuotient_is {a b : Nat} (ha : a < 2 ^ 53) (hb : 2 ^ 52 ≤ b) (hb2 : b < 2 ^ 53) : fX0_topOfQuotient (lN a) (lN b) = lN (QJ (a * 2 ^ 60) b) := by
  have hb0 : 0 < b := by omega
  rw [fX0_topOfQuotient, fX0_topOfQuotient_0, if_neg (by rw [lN_0, lN_inj (by omega) (by decide)]; omega), fX0_topOfQuotient_13, fX0_topOfQuotient_18, lN_div (by omega) hb0 (by omega), jrem_lN (by omega) hb0 (by omega)]
  have h2 : a / b < 2 ^ (1 + 10 * 0) := (Nat.div_lt_iff_lt_mul hb0).mpr (by omega)
  have := quot_loop hb0 hb2 64 0 a (by decide) (by decide) h2
  exact this
theorem ev1 (q b R p : Nat) : (q * 2 ^ 1 * (2 * b) + R * 2 ^ 1) * p = (q * (2 * b) + R) * (p * 2) := by
  rw [Nat.mul_comm p 2, ← Nat.mul_assoc (q * (2 * b) + R) 2 p, Nat.add_mul (q * (2 * b)) R 2, Nat.pow_one, Nat.mul_right_comm q 2 (2 * b)]
theorem ev2 (q b R p : Nat) (h : b ≤ R) : ((q * 2 ^ 1 + 1) * (2 * b) + (R - b) * 2 ^ 1) * p = (q * (2 * b) + R) * (p * 2) := by
  rw [Nat.mul_comm p 2, ← Nat.mul_assoc (q * (2 * b) + R) 2 p, Nat.add_mul (q * (2 * b)) R 2, Nat.pow_one, Nat.add_mul (q * 2) 1 (2 * b), Nat.mul_right_comm q 2 (2 * b)]
  congr 1
  omega
/-- the reference divides bit by bit -/
theorem div_loop {b : Nat} (D1 D2 sg : Int64) (hb : 2 ^ 52 ≤ b) (hb2 : b < 2 ^ 53) : ∀ (fuel k q R : Nat), k ≤ 57 → 58 ≤ fuel + k → R < 2 * b → q < 2 ^ k →
    (fX2_divide_65 fuel D1 D2 sg (lN R) (lN b) (lN q) (nI k) = fX2_divide_111 D1 D2 sg (lN ((q * (2 * b) + R) * 2 ^ (57 - k) % (2 * b))) (lN ((q * (2 * b) + R) * 2 ^ (57 - k) / (2 * b)))) ∧
    (okX2_divide_111 D1 D2 sg (lN ((q * (2 * b) + R) * 2 ^ (57 - k) % (2 * b))) (lN ((q * (2 * b) + R) * 2 ^ (57 - k) / (2 * b))) → okX2_divide_65 fuel D1 D2 sg (lN R) (lN b) (lN q) (nI k)) := by
  intro fuel
  induction fuel with
  | zero => intro k q R h1 h2; omega
  | succ fuel ih =>
    intro k q R h1 h2 hR hq
    rw [fX2_divide_65, okX2_divide_65, show (57 : Int32) = nI 57 from rfl]
    have qk := nI_ltI (a := k) (b := 57) (by omega) (by decide)
    have hp : 2 ^ k ≤ 2 ^ 57 := lt_2 h1
    by_cases c : k < 57
    · have hp2 : 2 ^ k * 2 = 2 ^ (k + 1) := rfl
      have hr := lN_lt63 (a := R) (b := b) (by omega) (by omega)
      have e2 : 2 ^ (57 - k) = 2 ^ (57 - (k + 1)) * 2 := by rw [← Nat.pow_succ]; congr 1; omega
      rw [if_pos (qk.mpr c), show nI k + 1 = nI (k + 1) from nI_1 k, show jshl (lN q) (1 : Int32) = lN (q * 2 ^ 1) from jshl_lN _ (k := 1) (by decide), show jshl (lN R) (1 : Int32) = lN (R * 2 ^ 1) from jshl_lN _ (k := 1) (by decide)]
      by_cases cr : R < b
      · obtain ⟨i1, i2⟩ := ih (k + 1) (q * 2 ^ 1) (R * 2 ^ 1) (by omega) (by omega) (by omega) (by omega)
        have ev : (q * 2 ^ 1 * (2 * b) + R * 2 ^ 1) * 2 ^ (57 - (k + 1)) = (q * (2 * b) + R) * 2 ^ (57 - k) := by
          rw [e2]; exact ev1 _ _ _ _
        rw [ev] at i1 i2
        rw [if_pos (hr.mpr cr), i1]
        exact ⟨rfl, fun h => ⟨fun _ => ⟨fun _ => i2 h, fun h2 => absurd (hr.mpr cr) h2⟩, fun h2 => absurd (qk.mpr c) h2⟩⟩
      · have es : jshl (lN R - lN b) (1 : Int32) = lN ((R - b) * 2 ^ 1) := by
          rw [lN_sub (by omega)]; exact jshl_lN _ (k := 1) (by decide)
        have eo : lN (q * 2 ^ 1) ||| (1 : Int64) = lN (q * 2 ^ 1 + 1) := lN_or (x := q) (y := 1) (k := 1) (by decide) (by omega)
        obtain ⟨i1, i2⟩ := ih (k + 1) (q * 2 ^ 1 + 1) ((R - b) * 2 ^ 1) (by omega) (by omega) (by omega) (by omega)
        have ev : ((q * 2 ^ 1 + 1) * (2 * b) + (R - b) * 2 ^ 1) * 2 ^ (57 - (k + 1)) = (q * (2 * b) + R) * 2 ^ (57 - k) := by
          rw [e2]; exact ev2 _ _ _ _ (by omega)
        rw [ev] at i1 i2
        rw [if_neg (fun h => cr (hr.mp h)), es, eo, i1]
        exact ⟨rfl, fun h => ⟨fun _ => ⟨fun h2 => absurd (hr.mp h2) cr, fun _ => i2 h⟩, fun h2 => absurd (qk.mpr c) h2⟩⟩
    · have ek : k = 57 := by omega
      have h1 : (q * (2 * b) + R) * 2 ^ (57 - k) = q * (2 * b) + R := by rw [ek, Nat.sub_self, Nat.pow_zero, Nat.mul_one]
      rw [if_neg (fun h => c (qk.mp h)), h1, Nat.mul_comm q, Nat.mul_add_mod, Nat.mod_eq_of_lt hR, Nat.mul_add_div (by omega), Nat.div_eq_of_lt hR, Nat.add_zero]
      exact ⟨rfl, fun h => ⟨fun h2 => absurd (qk.mp h2) c, fun _ => h⟩⟩
def stq (A b : Nat) : Nat := if A % b = 0 then 0 else 1
theorem stq_le (A b : Nat) : stq A b ≤ 1 := by unfold stq; split <;> omega
theorem refDiv_core {s S1 S2 : Nat} {E1 E2 : Int} {D1 D2 : Int64} (hs : s ≤ 1)
    (e1 : fX2_exponent D1 = iI E1) (e1o : okX2_exponent D1) (e2 : fX2_exponent D2 = iI E2) (e2o : okX2_exponent D2) (g2 : fX2_significand D2 = lN S2) (g2o : okX2_significand D2)
    (a1 : 2 ^ 52 ≤ S1) (a2 : S1 < 2 ^ 53) (a3 : 2 ^ 52 ≤ S2) (a4 : S2 < 2 ^ 53) (c1 : -1200 ≤ E1) (c2 : E1 ≤ 1000) (c3 : -1200 ≤ E2) (c4 : E2 ≤ 1000) :
    fX2_divide_53 D1 D2 (lN (s * 2 ^ 63)) (lN S1) = lN (s * 2 ^ 63 + min INF64 (RD 52 (2 * (S1 * 2 ^ 56 / S2) + stq (S1 * 2 ^ 56) S2) (E1 - E2 + 1017))) ∧ okX2_divide_53 D1 D2 (lN (s * 2 ^ 63)) (lN S1) := by
  obtain ⟨l1, l2⟩ := div_loop D1 D2 (lN (s * 2 ^ 63)) a3 a4 64 0 0 S1 (by decide) (by decide) (by omega) (by decide)
  rw [Nat.zero_mul, Nat.zero_add, Nat.sub_zero, show S1 * 2 ^ 57 = 2 * (S1 * 2 ^ 56) by omega, Nat.mul_mod_mul_left, Nat.mul_div_mul_left _ _ (by decide)] at l1 l2
  have hb0 : 0 < S2 := by omega
  have q1 : 2 ^ 55 ≤ S1 * 2 ^ 56 / S2 := (Nat.le_div_iff_mul_le hb0).mpr (by omega)
  have q2 : S1 * 2 ^ 56 / S2 < 2 ^ 57 := (Nat.div_lt_iff_lt_mul hb0).mpr (by omega)
  have hm := Nat.mod_lt (S1 * 2 ^ 56) hb0
  have ee : iI E1 - iI E2 - (56 : Int32) = iI (E1 - E2 - 56) := by rw [show (56 : Int32) = iI 56 from by decide, iI_sub, iI_sub]
  have q0 : (lN (s * 2 ^ 63) = 0) ↔ s = 0 := by
    rw [lN_0, lN_inj (by omega) (by decide)]; omega
  have qr : (lN (2 * (S1 * 2 ^ 56 % S2)) = 0) ↔ S1 * 2 ^ 56 % S2 = 0 := by
    rw [lN_0, lN_inj (by omega) (by decide)]; omega
  obtain ⟨m1, m2⟩ := made_is (s := s) (m := S1 * 2 ^ 56 / S2) (st := stq (S1 * 2 ^ 56) S2) (e := E1 - E2 - 56) hs (by omega) (by omega) (stq_le _ _) (fun _ => by omega) (by omega) (by omega)
  rw [show E1 - E2 - 56 + 1073 = E1 - E2 + 1017 by omega] at m1
  have k123 : ∀ x : Int32, x = nI s → fX2_divide_123 D1 D2 (lN (2 * (S1 * 2 ^ 56 % S2))) (lN (S1 * 2 ^ 56 / S2)) x = lN (s * 2 ^ 63 + min INF64 (RD 52 (2 * (S1 * 2 ^ 56 / S2) + stq (S1 * 2 ^ 56) S2) (E1 - E2 + 1017))) ∧ okX2_divide_123 D1 D2 (lN (2 * (S1 * 2 ^ 56 % S2))) (lN (S1 * 2 ^ 56 / S2)) x := by
    intro x hx
    rw [fX2_divide_123, okX2_divide_123, fX2_divide_149, fX2_divide_149, okX2_divide_149, okX2_divide_149, hx, e1, e2, ee]
    by_cases c : S1 * 2 ^ 56 % S2 = 0
    · have es : stq (S1 * 2 ^ 56) S2 = 0 := by unfold stq; rw [if_pos c]
      rw [es] at m1 m2 ⊢
      rw [if_pos (qr.mpr c)]
      exact ⟨m1, e1o, e2o, fun _ => ⟨m2, trivial⟩, fun h => absurd (qr.mpr c) h⟩
    · have es : stq (S1 * 2 ^ 56) S2 = 1 := by unfold stq; rw [if_neg c]
      rw [es] at m1 m2 ⊢
      rw [if_neg (fun h => c (qr.mp h))]
      exact ⟨m1, e1o, e2o, fun h => absurd (qr.mp h) c, fun _ => ⟨m2, trivial⟩⟩
  have k111 : fX2_divide_111 D1 D2 (lN (s * 2 ^ 63)) (lN (2 * (S1 * 2 ^ 56 % S2))) (lN (S1 * 2 ^ 56 / S2)) = lN (s * 2 ^ 63 + min INF64 (RD 52 (2 * (S1 * 2 ^ 56 / S2) + stq (S1 * 2 ^ 56) S2) (E1 - E2 + 1017))) ∧ okX2_divide_111 D1 D2 (lN (s * 2 ^ 63)) (lN (2 * (S1 * 2 ^ 56 % S2))) (lN (S1 * 2 ^ 56 / S2)) := by
    rw [fX2_divide_111, okX2_divide_111]
    by_cases c : s = 0
    · obtain ⟨k1, k2⟩ := k123 0 (by rw [c]; rfl)
      rw [if_pos (q0.mpr c)]
      exact ⟨k1, fun _ => k2, fun h => absurd (q0.mpr c) h⟩
    · obtain ⟨k1, k2⟩ := k123 1 (by rw [show s = 1 by omega]; rfl)
      rw [if_neg (fun h => c (q0.mp h))]
      exact ⟨k1, fun h => absurd (q0.mp h) c, fun _ => k2⟩
  rw [fX2_divide_53, fX2_divide_59, okX2_divide_53, okX2_divide_59, g2]
  exact ⟨l1.trans k111.1, g2o, l2 k111.2⟩
/-- the class's quotient in the reference's words -/
theorem RD_QJ {fb a b : Nat} {w : Int} (hfb : fb ≤ 52) (ha : 2 ^ 52 ≤ a) (ha2 : a < 2 ^ 53) (hb : 2 ^ 52 ≤ b) (hb2 : b < 2 ^ 53) : RD fb (QJ (a * 2 ^ 60) b) (w - 60) = RD fb (2 * (a * 2 ^ 56 / b) + stq (a * 2 ^ 56) b) (w - 57) := by
  have hb0 : 0 < b := by omega
  have q1 : 2 ^ 55 ≤ a * 2 ^ 56 / b := (Nat.le_div_iff_mul_le hb0).mpr (by omega)
  obtain ⟨d1, d2⟩ := div_step (a * 2 ^ 56) b 4 hb0
  rw [show a * 2 ^ 56 * 2 ^ 4 = a * 2 ^ 60 by omega] at d1 d2
  have hm := Nat.mod_lt (a * 2 ^ 56) hb0
  have hd2 : a * 2 ^ 56 % b * 2 ^ 4 / b < 2 ^ 4 := (Nat.div_lt_iff_lt_mul hb0).mpr (by rw [Nat.mul_comm]; exact Nat.mul_lt_mul_of_pos_left hm (by decide))
  unfold QJ stq
  by_cases c : a * 2 ^ 56 % b = 0
  · rw [if_pos c, RD_2 (by omega), d2, c, Nat.zero_mul, Nat.zero_mod, if_pos rfl, d1, c, Nat.zero_mul, Nat.zero_div, Nat.add_zero, RD_shift (by omega)]
    congr 1; omega
  · rw [if_neg c]
    have hcell : ∀ J : Nat, a * 2 ^ 56 / b * 2 ^ 4 < J → J < (a * 2 ^ 56 / b + 1) * 2 ^ 4 → RD fb J (w - 60) = RD fb (2 * (a * 2 ^ 56 / b) + 1) (w - 57) := by
      intro J j1 j2
      have hp : 2 ^ (fb + 1) ≤ 2 ^ 53 := lt_2 (by omega)
      rw [RD_cell (c := a * 2 ^ 56 / b) (j := 4) (by omega) j1 j2]
      congr 1; omega
    by_cases c2 : a * 2 ^ 60 % b = 0
    · rw [if_pos c2]
      refine hcell _ ?_ ?_
      · rw [d1]
        have : 0 < a * 2 ^ 56 % b * 2 ^ 4 / b := by
          apply Nat.pos_of_ne_zero
          intro h0
          have hlt : a * 2 ^ 56 % b * 2 ^ 4 < b := (Nat.div_eq_zero_iff_lt hb0).mp h0
          rw [d2, Nat.mod_eq_of_lt hlt] at c2
          omega
        omega
      · rw [d1]; omega
    · rw [if_neg c2, or1]
      have hnn := Nat.zero_le (a * 2 ^ 56 % b * 2 ^ 4 / b)
      refine hcell _ ?_ ?_
      · rw [d1]; omega
      · rw [d1]; omega
end
section
theorem QJ_le (A b : Nat) : QJ A b ≤ A / b + 1 ∧ A / b ≤ QJ A b := by
  unfold QJ
  split
  · omega
  · rw [or1]; omega
/-- the class's quotient of two finite numbers -/
theorem clsDiv {kind : Int32} {sb fb ga s1 s2 z1 z2 s : Nat} {em : Int} (K : Ks kind sb) (F : Kd kind fb em ga) (hfs : fb < sb) (hI : (ga + 2) * 2 ^ fb < 2 ^ sb) (hs : s ≤ 1) (hs1 : s1 ≤ 1) (hs2 : s2 ≤ 1) (hz1 : z1 < (ga + 2) * 2 ^ fb) (h2 : 0 < z2) (hz2 : z2 < (ga + 2) * 2 ^ fb) :
    fX0_quotient_124 kind (lN (s1 * 2 ^ sb + z1)) (lN (s2 * 2 ^ sb + z2)) (nI s) (fX0_roomBelow (52 : Int32) (fX0_magnitude kind (lN (s1 * 2 ^ sb + z1)))) = if z1 = 0 then lN (s * 2 ^ sb) else lN (s * 2 ^ sb + min ((ga + 2) * 2 ^ fb) (RD fb (2 * (Sg fb z1 * 2 ^ 56 / Sg fb z2) + stq (Sg fb z1 * 2 ^ 56) (Sg fb z2)) (Eg fb em z1 - Eg fb em z2 - em - 57))) := by
  have hem := F.2.2.2.2.2.2.2.1
  have hem2 := F.2.2.2.2.2.2.2.2.1
  have hfb := F.2.2.2.2.1
  have hga := F.2.2.2.2.2.2.1
  have l1 : z1 < 2 ^ sb := by omega
  have l2 : z2 < 2 ^ sb := by omega
  have hd1 : z1 / 2 ^ fb < ga + 2 := (Nat.div_lt_iff_lt_mul (Nat.two_pow_pos fb)).mpr hz1
  have hd2 : z2 / 2 ^ fb < ga + 2 := (Nat.div_lt_iff_lt_mul (Nat.two_pow_pos fb)).mpr hz2
  have hx1 : Xp fb z1 ≤ 2046 := by unfold Xp; omega
  have hx2 : Xp fb z2 ≤ 2046 := by unfold Xp; omega
  have hp53 : 2 ^ (fb + 1) ≤ 2 ^ 53 := lt_2 (by omega)
  have m1l : Mg fb z1 < 2 ^ 53 := Nat.lt_of_lt_of_le (Mg_lt fb z1) hp53
  have m2l : Mg fb z2 < 2 ^ 53 := Nat.lt_of_lt_of_le (Mg_lt fb z2) hp53
  have g1 := mag_is K F hfs hs1 l1
  have g2 := mag_is K F hfs hs2 l2
  have x1 := exp_is K F (by omega) hs1 l1
  have x2 := exp_is K F (by omega) hs2 l2
  obtain ⟨k1, k1l, r1, k1e⟩ := room52 m1l
  obtain ⟨k2, k2l, r2, k2e⟩ := room52 m2l
  have e2 : Mg fb z2 * 2 ^ k2 = Sg fb z2 := by unfold Sg; rw [k2e (Mg_pos h2)]
  obtain ⟨a3, a4⟩ := Sg_bounds (fb := fb) hfb h2
  have hE2 : Eg fb em z2 = em + Xp fb z2 - k2 := by unfold Eg; rw [k2e (Mg_pos h2)]
  have hb1 : Mg fb z1 * 2 ^ k1 < 2 ^ 53 := by
    rcases Nat.eq_zero_or_pos (Mg fb z1) with q | q
    · rw [q, Nat.zero_mul]; decide
    · have := log2_lt q m1l
      refine Nat.lt_of_lt_of_le (Nat.mul_lt_mul_of_pos_right (log2_hi _) (Nat.two_pow_pos k1)) ?_
      rw [← Nat.pow_add]; exact lt_2 (by rw [k1e q]; omega)
  have t := topOfQuotient_is hb1 a3 a4
  rw [fX0_quotient_124, fX0_quotient_136, fX0_quotient_146, fX0_quotient_161, fX0_quotient_180, g1, g2, x1, x2, r1, r2, jshl_lN _ (by omega), jshl_lN _ (by omega), e2, t]
  have ee : iI (em + Xp fb z1) - nI k1 - iI (em + Xp fb z2) + nI k2 - (60 : Int32) = iI (em + Xp fb z1 - k1 - (em + Xp fb z2 - k2) - 60) := by
    rw [nI_iI, nI_iI, show (60 : Int32) = iI 60 from by decide, iI_sub, iI_sub, iI_add, iI_sub]; congr 1; omega
  rw [ee, ← hE2]
  have bE2 : -1200 ≤ Eg fb em z2 ∧ Eg fb em z2 ≤ 2100 := Eg_bounds hem hem2 hx2
  have hsg : ∀ x : Nat, fX0_signed kind (nI s) (lN (min ((ga + 2) * 2 ^ fb) x)) = lN (s * 2 ^ sb + min ((ga + 2) * 2 ^ fb) x) := fun x => signed_is K hs (Nat.lt_of_le_of_lt (Nat.min_le_left _ _) hI)
  by_cases c : z1 = 0
  · have hM : Mg fb z1 = 0 := by rw [c]; unfold Mg; rw [if_pos (Nat.two_pow_pos fb)]
    have hQ : QJ (Mg fb z1 * 2 ^ k1 * 2 ^ 60) (Sg fb z2) = 0 := by
      rw [hM, Nat.zero_mul, Nat.zero_mul]; unfold QJ; rw [Nat.zero_mod, if_pos rfl, Nat.zero_div]
    have := signed_is K hs (Nat.two_pow_pos sb)
    rw [if_pos c, hQ, nearest_0, this, Nat.add_zero]
  · have h1 : 0 < z1 := by omega
    have e1 : Mg fb z1 * 2 ^ k1 = Sg fb z1 := by unfold Sg; rw [k1e (Mg_pos h1)]
    obtain ⟨a1, a2⟩ := Sg_bounds (fb := fb) hfb h1
    have hE1 : Eg fb em z1 = em + Xp fb z1 - k1 := by unfold Eg; rw [k1e (Mg_pos h1)]
    have bE1 : -1200 ≤ Eg fb em z1 ∧ Eg fb em z1 ≤ 2100 := Eg_bounds hem hem2 hx1
    have hb0 : 0 < Sg fb z2 := by omega
    have q1 : 2 ^ 59 ≤ Sg fb z1 * 2 ^ 60 / Sg fb z2 := (Nat.le_div_iff_mul_le hb0).mpr (by omega)
    have q2 : Sg fb z1 * 2 ^ 60 / Sg fb z2 < 2 ^ 61 := (Nat.div_lt_iff_lt_mul hb0).mpr (by omega)
    have hq := QJ_le (Sg fb z1 * 2 ^ 60) (Sg fb z2)
    rw [if_neg c, e1, ← hE1, nearest_is F (by omega) (by omega) (by omega) (by omega), hsg, ← RD_QJ hfb a1 a2 a3 a4]
    congr 4
    omega
/-- the reference's quotient, case by case -/
theorem div_val {s1 s2 z1 z2 : Nat} (hs1 : s1 ≤ 1) (hs2 : s2 ≤ 1) (hz1 : z1 ≤ INF64) (hz2 : z2 ≤ INF64) :
    fX2_divide (lN (s1 * 2 ^ 63 + z1)) (lN (s2 * 2 ^ 63 + z2)) = (if z1 = INF64 ∨ z2 = 0 then lN (sx s1 s2 * 2 ^ 63 + INF64) else if z1 = 0 ∨ z2 = INF64 then lN (sx s1 s2 * 2 ^ 63) else lN (sx s1 s2 * 2 ^ 63 + min INF64 (RD 52 (2 * (Sg 52 z1 * 2 ^ 56 / Sg 52 z2) + stq (Sg 52 z1 * 2 ^ 56) (Sg 52 z2)) (Eg 52 (-1074) z1 - Eg 52 (-1074) z2 + 1017)))) ∧ okX2_divide (lN (s1 * 2 ^ 63 + z1)) (lN (s2 * 2 ^ 63 + z2)) := by
  have l1 := lt63 hz1
  have l2 := lt63 hz2
  have n1 : ¬ (1 : Int32) = 0 := by decide
  have i1 := infd_is hs1 l1
  have i2 := infd_is hs2 l2
  have o1 := zerod_is hs1 l1
  have o2 := zerod_is hs2 l2
  have hor := or_sign (sx_le s1 s2) INF64_lt
  rw [fX2_divide, fX2_divide_0, okX2_divide, okX2_divide_0, sign_xor hs1 hs2 l1 l2, fX2_divide_9, okX2_divide_9, i1, i2, o1, o2, show (9218868437227405312 : Int64) = lN INF64 from rfl, hor]
  by_cases c1 : z1 = INF64
  · rw [if_pos c1, if_neg n1, if_pos (Or.inl c1)]
    exact ⟨rfl, fun h => absurd h n1, fun _ => trivial⟩
  rw [if_neg c1, if_pos rfl]
  by_cases c2 : z2 = 0
  · rw [if_pos c2, if_neg n1, if_pos (Or.inr c2)]
    exact ⟨rfl, fun _ => ⟨fun h => absurd h n1, fun _ => trivial⟩, fun h => absurd rfl h⟩
  rw [if_neg c2, if_pos rfl, if_neg (show ¬ (z1 = INF64 ∨ z2 = 0) by omega)]
  by_cases d1 : z1 = 0
  · rw [if_pos d1, if_neg n1, if_pos (Or.inl d1)]
    exact ⟨rfl, fun _ => ⟨fun _ => ⟨fun h => absurd h n1, fun _ => trivial⟩, fun h => absurd rfl h⟩, fun h => absurd rfl h⟩
  rw [if_neg d1, if_pos rfl]
  by_cases d2 : z2 = INF64
  · rw [if_pos d2, if_neg n1, if_pos (Or.inr d2)]
    exact ⟨rfl, fun _ => ⟨fun _ => ⟨fun _ => ⟨fun h => absurd h n1, fun _ => trivial⟩, fun h => absurd rfl h⟩, fun h => absurd rfl h⟩, fun h => absurd rfl h⟩
  rw [if_neg d2, if_pos rfl, if_neg (show ¬ (z1 = 0 ∨ z2 = INF64) by omega)]
  have k1 : z1 < INF64 := by omega
  have k2 : z2 < INF64 := by omega
  have t1 : 0 < z1 := by omega
  have t2 : 0 < z2 := by omega
  obtain ⟨e1, e1o⟩ := expd_is hs1 t1 k1
  obtain ⟨e2, e2o⟩ := expd_is hs2 t2 k2
  obtain ⟨g1, g1o⟩ := sigd_is hs1 t1 k1
  obtain ⟨g2, g2o⟩ := sigd_is hs2 t2 k2
  obtain ⟨a1, a2⟩ := Sg_bounds (fb := 52) (by omega) t1
  obtain ⟨a3, a4⟩ := Sg_bounds (fb := 52) (by omega) t2
  obtain ⟨b1, b2⟩ := Eg52_bounds k1
  obtain ⟨b3, b4⟩ := Eg52_bounds k2
  obtain ⟨r1, r2⟩ := refDiv_core (sx_le s1 s2) e1 e1o e2 e2o g2 g2o a1 a2 a3 a4 b1 b2 b3 b4
  rw [g1]
  exact ⟨r1, fun _ => ⟨fun _ => ⟨fun _ => ⟨fun _ => ⟨g1o, r2⟩, fun h => absurd rfl h⟩, fun h => absurd rfl h⟩, fun h => absurd rfl h⟩, fun h => absurd rfl h⟩
/-- the class's quotient, case by case -/
theorem cdiv_val {kind : Int32} {sb fb ga s1 s2 z1 z2 : Nat} {em : Int} (K : Ks kind sb) (F : Kd kind fb em ga) (hfs : fb < sb) (hI : (ga + 2) * 2 ^ fb < 2 ^ sb) (hs1 : s1 ≤ 1) (hs2 : s2 ≤ 1) (hz1 : z1 ≤ (ga + 2) * 2 ^ fb) (hz2 : z2 ≤ (ga + 2) * 2 ^ fb) :
    fX0_quotient kind (lN (s1 * 2 ^ sb + z1)) (lN (s2 * 2 ^ sb + z2)) = (if (z1 = (ga + 2) * 2 ^ fb ∧ z2 = (ga + 2) * 2 ^ fb) ∨ (z1 = 0 ∧ z2 = 0) then fX0_notANumber kind else if z1 = (ga + 2) * 2 ^ fb ∨ z2 = 0 then lN (sx s1 s2 * 2 ^ sb + (ga + 2) * 2 ^ fb) else if z1 = 0 ∨ z2 = (ga + 2) * 2 ^ fb then lN (sx s1 s2 * 2 ^ sb) else lN (sx s1 s2 * 2 ^ sb + min ((ga + 2) * 2 ^ fb) (RD fb (2 * (Sg fb z1 * 2 ^ 56 / Sg fb z2) + stq (Sg fb z1 * 2 ^ 56) (Sg fb z2)) (Eg fb em z1 - Eg fb em z2 - em - 57)))) := by
  have l1 : z1 < 2 ^ sb := by omega
  have l2 : z2 < 2 ^ sb := by omega
  have n1 : ¬ (1 : Int32) = 0 := by decide
  have i1 := inf_is K F hs1 l1
  have i2 := inf_is K F hs2 l2
  have o1 := zero_is K hs1 l1
  have o2 := zero_is K hs2 l2
  have qs : (nI s1 = nI s2) ↔ s1 = s2 := nI_eq (by omega) (by omega)
  have hI0 : 0 < (ga + 2) * 2 ^ fb := Nat.mul_pos (by omega) (Nat.two_pow_pos fb)
  have k67 : fX0_quotient_67 kind (lN (s1 * 2 ^ sb + z1)) (lN (s2 * 2 ^ sb + z2)) (nI (sx s1 s2)) = (if z1 = (ga + 2) * 2 ^ fb ∨ z2 = 0 then lN (sx s1 s2 * 2 ^ sb + (ga + 2) * 2 ^ fb) else if z1 = 0 ∨ z2 = (ga + 2) * 2 ^ fb then lN (sx s1 s2 * 2 ^ sb) else lN (sx s1 s2 * 2 ^ sb + min ((ga + 2) * 2 ^ fb) (RD fb (2 * (Sg fb z1 * 2 ^ 56 / Sg fb z2) + stq (Sg fb z1 * 2 ^ 56) (Sg fb z2)) (Eg fb em z1 - Eg fb em z2 - em - 57)))) := by
    have s0 := signed_is K (sx_le s1 s2) (Nat.two_pow_pos sb)
    rw [Nat.add_zero] at s0
    rw [fX0_quotient_67, fX0_quotient_85, i1, i2, o2, F.2.2.2.1, signed_is K (sx_le s1 s2) hI, show (0 : Int64) = lN 0 from rfl, s0]
    by_cases c1 : z1 = (ga + 2) * 2 ^ fb
    · rw [if_pos c1, if_neg n1, if_pos (Or.inl c1)]
    rw [if_neg c1, if_pos rfl]
    by_cases c2 : z2 = 0
    · rw [if_pos c2, if_neg n1, if_pos (Or.inr c2)]
    rw [if_neg c2, if_pos rfl, if_neg (show ¬ (z1 = (ga + 2) * 2 ^ fb ∨ z2 = 0) by omega)]
    by_cases c3 : z2 = (ga + 2) * 2 ^ fb
    · rw [if_pos c3, if_neg n1, if_pos (Or.inr c3)]
    rw [if_neg c3, if_pos rfl, clsDiv K F hfs hI (sx_le s1 s2) hs1 hs2 (by omega) (by omega) (by omega)]
    by_cases c4 : z1 = 0
    · rw [if_pos c4, if_pos (Or.inl c4)]
    · rw [if_neg c4, if_neg (show ¬ (z1 = 0 ∨ z2 = (ga + 2) * 2 ^ fb) by omega)]
  have k49 : fX0_quotient_49 kind (lN (s1 * 2 ^ sb + z1)) (lN (s2 * 2 ^ sb + z2)) = fX0_quotient_67 kind (lN (s1 * 2 ^ sb + z1)) (lN (s2 * 2 ^ sb + z2)) (nI (sx s1 s2)) := by
    rw [fX0_quotient_49, neg_is K hs1 l1, neg_is K hs2 l2]
    by_cases c : s1 = s2
    · rw [if_pos (qs.mpr c), show sx s1 s2 = 0 by unfold sx; rw [if_pos c]]; rfl
    · rw [if_neg (fun h => c (qs.mp h)), show sx s1 s2 = 1 by unfold sx; rw [if_neg c]]; rfl
  rw [fX0_quotient, fX0_quotient_0, fX0_quotient_20, fX0_quotient_21, fX0_quotient_21, if_pos rfl, if_neg n1, fX0_quotient_44, k49, k67, i1, i2, o1, o2]
  by_cases a1 : z1 = (ga + 2) * 2 ^ fb
  · rw [if_pos a1, if_neg n1]
    by_cases a2 : z2 = (ga + 2) * 2 ^ fb
    · rw [if_pos a2, if_neg n1, if_pos (Or.inl ⟨a1, a2⟩)]
    · rw [if_neg a2, if_pos rfl, if_neg (show ¬ z1 = 0 by omega), if_pos rfl, if_neg (show ¬ ((z1 = (ga + 2) * 2 ^ fb ∧ z2 = (ga + 2) * 2 ^ fb) ∨ (z1 = 0 ∧ z2 = 0)) by omega)]
  · rw [if_neg a1, if_pos rfl]
    by_cases b1 : z1 = 0
    · rw [if_pos b1, if_neg n1]
      by_cases b2 : z2 = 0
      · rw [if_pos b2, if_neg n1, if_pos (Or.inr ⟨b1, b2⟩)]
      · rw [if_neg b2, if_pos rfl, if_neg (show ¬ ((z1 = (ga + 2) * 2 ^ fb ∧ z2 = (ga + 2) * 2 ^ fb) ∨ (z1 = 0 ∧ z2 = 0)) by omega)]
    · rw [if_neg b1, if_pos rfl, if_neg (show ¬ ((z1 = (ga + 2) * 2 ^ fb ∧ z2 = (ga + 2) * 2 ^ fb) ∨ (z1 = 0 ∧ z2 = 0)) by omega)]
theorem quot7 {s1 s2 z1 z2 : Nat} (hs1 : s1 ≤ 1) (hs2 : s2 ≤ 1) (hz1 : z1 ≤ INF64) (hz2 : z2 ≤ INF64) (hn : ¬ ((z1 = INF64 ∧ z2 = INF64) ∨ (z1 = 0 ∧ z2 = 0))) :
    fX0_quotient 7 (lN (s1 * 2 ^ 63 + z1)) (lN (s2 * 2 ^ 63 + z2)) = fX2_divide (lN (s1 * 2 ^ 63 + z1)) (lN (s2 * 2 ^ 63 + z2)) ∧ D7 (fX2_divide (lN (s1 * 2 ^ 63 + z1)) (lN (s2 * 2 ^ 63 + z2))) := by
  have a := cdiv_val Ks7 Kd7 (by decide) (by decide) hs1 hs2 (show z1 ≤ (2045 + 2) * 2 ^ 52 from hz1) (show z2 ≤ (2045 + 2) * 2 ^ 52 from hz2)
  have b := (div_val hs1 hs2 hz1 hz2).1
  rw [b, a, show (2045 + 2) * 2 ^ 52 = INF64 from rfl, if_neg hn]
  have hs := sx_le s1 s2
  by_cases c1 : z1 = INF64 ∨ z2 = 0
  · rw [if_pos c1, if_pos c1]
    exact ⟨rfl, _, _, hs, Nat.le_refl _, rfl⟩
  · rw [if_neg c1, if_neg c1]
    by_cases c2 : z1 = 0 ∨ z2 = INF64
    · rw [if_pos c2, if_pos c2]
      exact ⟨rfl, _, 0, hs, by decide, by rw [Nat.add_zero]⟩
    · rw [if_neg c2, if_neg c2, show Eg 52 (-1074) z1 - Eg 52 (-1074) z2 - -1074 - 57 = Eg 52 (-1074) z1 - Eg 52 (-1074) z2 + 1017 by omega]
      exact ⟨rfl, D7_min hs⟩
/-- no half of a float is near a quotient that doubles don't have -/
theorem p32 {r x h d : Nat} (h1 : 2 ^ h * x + 2 ^ (h - 1) = r) (hh : 29 ≤ h) (hd : 4 ≤ d) : r * 2 ^ d = 2 ^ 32 * ((2 ^ (h - 28) * x + 2 ^ (h - 1 - 28)) * 2 ^ (d - 4)) := by
  rw [← h1]
  rw [show (2 : Nat) ^ 32 = 2 ^ 28 * 2 ^ 4 from by decide, show (2 : Nat) ^ d = 2 ^ 4 * 2 ^ (d - 4) by rw [← Nat.pow_add]; congr 1; omega, show (2 : Nat) ^ h = 2 ^ 28 * 2 ^ (h - 28) by rw [← Nat.pow_add]; congr 1; omega, show (2 : Nat) ^ (h - 1) = 2 ^ 28 * 2 ^ (h - 1 - 28) by rw [← Nat.pow_add]; congr 1; omega]
  rw [Nat.mul_assoc (2 ^ 28) (2 ^ (h - 28)), ← Nat.mul_add, Nat.mul_assoc, Nat.mul_assoc, Nat.mul_left_comm (2 ^ 4)]
theorem div_half {k1 k2 d h M : Nat} (a3 : 2 ^ 23 ≤ k2) (a4 : k2 < 2 ^ 24) (hM : M = 2 * (k1 * 2 ^ 56 / k2) + stq (k1 * 2 ^ 56) k2) (hd1 : 4 ≤ d) (hd2 : d ≤ 5) (hh : 29 ≤ h) (hk : rne M (2 ^ d) % 2 ^ h = 2 ^ (h - 1)) : M % 2 ^ d = 0 := by
  have hn := rne_near M (2 ^ d) (Nat.two_pow_pos d)
  obtain ⟨c, hc⟩ : ∃ c : Nat, rne M (2 ^ d) * 2 ^ d = 2 ^ 32 * c := by
    have h1 := Nat.div_add_mod (rne M (2 ^ d)) (2 ^ h)
    rw [hk] at h1
    exact ⟨_, p32 h1 hh hd1⟩
  have hdd : 2 ^ d ≤ 32 := by have := lt_2 hd2; omega
  have hqr := Nat.div_add_mod (k1 * 2 ^ 56) k2
  have hrl := Nat.mod_lt (k1 * 2 ^ 56) (show 0 < k2 by omega)
  have hY : M = 2 ^ 32 * c := by
    rw [hc] at hn
    unfold stq at hM
    generalize hQ : k1 * 2 ^ 56 / k2 = Q at *
    generalize hR : k1 * 2 ^ 56 % k2 = R at *
    have hMk : M * k2 + 2 * R = 2 * (k1 * 2 ^ 56) + (if R = 0 then 0 else 1) * k2 := by
      rw [hM, Nat.add_mul, Nat.mul_assoc, Nat.mul_comm Q k2]; omega
    have hu : 2 ^ 32 * c * k2 = 2 ^ 32 * (c * k2) := Nat.mul_assoc _ _ _
    rcases Nat.lt_trichotomy M (2 ^ 32 * c) with q | q | q
    · exfalso
      obtain ⟨e, he⟩ : ∃ e, 2 ^ 32 * c = M + e := ⟨2 ^ 32 * c - M, by omega⟩
      have e1 : 1 * k2 ≤ e * k2 := Nat.mul_le_mul_right _ (by omega)
      have e2 : e * k2 ≤ 16 * k2 := Nat.mul_le_mul_right _ (by omega)
      rw [he, Nat.add_mul] at hu
      generalize c * k2 = u at *
      generalize M * k2 = m at *
      generalize e * k2 = x at *
      by_cases r0 : R = 0
      · rw [if_pos r0] at hMk; omega
      · rw [if_neg r0] at hMk; omega
    · exact q
    · exfalso
      obtain ⟨e, he⟩ : ∃ e, M = 2 ^ 32 * c + e := ⟨M - 2 ^ 32 * c, by omega⟩
      have e1 : 1 * k2 ≤ e * k2 := Nat.mul_le_mul_right _ (by omega)
      have e2 : e * k2 ≤ 16 * k2 := Nat.mul_le_mul_right _ (by omega)
      rw [he, Nat.add_mul, hu] at hMk
      generalize c * k2 = u at *
      generalize e * k2 = x at *
      by_cases r0 : R = 0
      · rw [if_pos r0] at hMk; omega
      · rw [if_neg r0] at hMk; omega
  rw [hY, show (2 : Nat) ^ 32 * c = c * 2 ^ (32 - d) * 2 ^ d by rw [Nat.mul_assoc, ← Nat.pow_add, Nat.mul_comm]; congr 2; omega, Nat.mul_mod_left]
theorem div_nr {z1 z2 : Nat} (h1 : 0 < z1) (hz1 : z1 < INF32) (h2 : 0 < z2) (hz2 : z2 < INF32) :
    Nr (min INF64 (RD 52 (2 * (Sg 23 z1 * 2 ^ 56 / Sg 23 z2) + stq (Sg 23 z1 * 2 ^ 56) (Sg 23 z2)) (Eg 23 (-149) z1 - Eg 23 (-149) z2 + 1017))) = min INF32 (RD 23 (2 * (Sg 23 z1 * 2 ^ 56 / Sg 23 z2) + stq (Sg 23 z1 * 2 ^ 56) (Sg 23 z2)) (Eg 23 (-149) z1 - Eg 23 (-149) z2 - -149 - 57)) := by
  obtain ⟨k1, a1, a2, e1⟩ := Sg23 h1
  obtain ⟨k2, a3, a4, e2⟩ := Sg23 h2
  obtain ⟨c1, c2⟩ := Eg23_bounds hz1
  obtain ⟨c3, c4⟩ := Eg23_bounds hz2
  have hk0 : 0 < k2 := by omega
  have eA : Sg 23 z1 * 2 ^ 56 = k1 * 2 ^ 56 * 2 ^ 29 := by rw [e1, Nat.mul_right_comm]
  have eQ : Sg 23 z1 * 2 ^ 56 / Sg 23 z2 = k1 * 2 ^ 56 / k2 := by rw [eA, e2, Nat.mul_div_mul_right _ _ (by decide)]
  have eS : stq (Sg 23 z1 * 2 ^ 56) (Sg 23 z2) = stq (k1 * 2 ^ 56) k2 := by
    unfold stq
    rw [eA, e2, Nat.mul_mod_mul_right]
    by_cases c : k1 * 2 ^ 56 % k2 = 0
    · rw [if_pos c, c, Nat.zero_mul, if_pos rfl]
    · rw [if_neg c, if_neg]
      intro h; rcases Nat.mul_eq_zero.mp h with q | q
      · exact c q
      · omega
  rw [eQ, eS]
  have q1 : 2 ^ 55 ≤ k1 * 2 ^ 56 / k2 := (Nat.le_div_iff_mul_le hk0).mpr (by omega)
  have q2 : k1 * 2 ^ 56 / k2 < 2 ^ 57 := (Nat.div_lt_iff_lt_mul hk0).mpr (by omega)
  have hst := stq_le (k1 * 2 ^ 56) k2
  obtain ⟨M, hM⟩ : ∃ M, M = 2 * (k1 * 2 ^ 56 / k2) + stq (k1 * 2 ^ 56) k2 := ⟨_, rfl⟩
  rw [← hM]
  have m1 : 2 ^ 56 ≤ M := by omega
  have m2 : M < 2 ^ 58 := by omega
  have l1 := log2_ge m1
  have l2 := log2_lt (show 0 < M by omega) m2
  rw [show Eg 23 (-149) z1 - Eg 23 (-149) z2 - -149 - 57 = Eg 23 (-149) z1 - Eg 23 (-149) z2 + 1017 - 925 by omega]
  refine (NrRD (p := 0) (d := M.log2 - 52) (by omega) (by omega) (by omega) (by omega) (fun h hh => ?_)).2
  rw [Nat.pow_zero, Nat.mul_one]
  by_cases c : rne M (2 ^ (M.log2 - 52)) % 2 ^ h = 2 ^ (h - 1)
  · exact Or.inr (div_half a3 a4 hM (by omega) (by omega) (by omega) c)
  · exact Or.inl c
theorem quot6 {s1 s2 z1 z2 : Nat} (hs1 : s1 ≤ 1) (hs2 : s2 ≤ 1) (hz1 : z1 ≤ INF32) (hz2 : z2 ≤ INF32) (hn : ¬ ((z1 = INF32 ∧ z2 = INF32) ∨ (z1 = 0 ∧ z2 = 0))) :
    fX0_quotient 6 (lN (s1 * 2 ^ 31 + z1)) (lN (s2 * 2 ^ 31 + z2)) = (fX2_narrow (fX2_divide (lN (s1 * 2 ^ 63 + Wd z1)) (lN (s2 * 2 ^ 63 + Wd z2)))).toInt64 &&& (4294967295 : Int64) ∧ D6 (fX0_quotient 6 (lN (s1 * 2 ^ 31 + z1)) (lN (s2 * 2 ^ 31 + z2))) := by
  have a := cdiv_val Ks6 Kd6 (by decide) (by decide) hs1 hs2 (show z1 ≤ (253 + 2) * 2 ^ 23 from hz1) (show z2 ≤ (253 + 2) * 2 ^ 23 from hz2)
  have b := (div_val hs1 hs2 (Wd_le' hz1) (Wd_le' hz2)).1
  have hs := sx_le s1 s2
  have qi1 := Wd_isinf (lt31 hz1)
  have qi2 := Wd_isinf (lt31 hz2)
  have q01 := Wd_zero (lt31 hz1)
  have q02 := Wd_zero (lt31 hz2)
  rw [b, a, show (253 + 2) * 2 ^ 23 = INF32 from rfl, if_neg hn]
  by_cases c1 : z1 = INF32 ∨ z2 = 0
  · have c1' : Wd z1 = INF64 ∨ Wd z2 = 0 := c1.imp qi1.mpr q02.mpr
    have m := Nr_mask hs (Nat.le_refl INF64)
    rw [show Nr INF64 = INF32 from by rw [← Wd_inf, Nr_Wd (Nat.le_refl _)]] at m
    rw [if_pos c1, if_pos c1', m]
    exact ⟨rfl, _, _, hs, Nat.le_refl _, rfl⟩
  · have c1' : ¬ (Wd z1 = INF64 ∨ Wd z2 = 0) := fun h => c1 (h.imp qi1.mp q02.mp)
    rw [if_neg c1, if_neg c1']
    by_cases c2 : z1 = 0 ∨ z2 = INF32
    · have c2' : Wd z1 = 0 ∨ Wd z2 = INF64 := c2.imp q01.mpr qi2.mpr
      have m := Nr_mask (z := 0) hs (by decide)
      rw [show Nr 0 = 0 from rfl, Nat.add_zero, Nat.add_zero] at m
      rw [if_pos c2, if_pos c2', m]
      exact ⟨rfl, _, 0, hs, by decide, by rw [Nat.add_zero]⟩
    · have c2' : ¬ (Wd z1 = 0 ∨ Wd z2 = INF64) := fun h => c2 (h.imp q01.mp qi2.mp)
      have t1 : 0 < z1 := by omega
      have t2 : 0 < z2 := by omega
      have k1 : z1 < INF32 := by omega
      have k2 : z2 < INF32 := by omega
      obtain ⟨S1, E1⟩ := SgEg_Wd t1 k1
      obtain ⟨S2, E2⟩ := SgEg_Wd t2 k2
      rw [if_neg c2, if_neg c2', S1, S2, E1, E2, Nr_mask hs (Nat.min_le_left _ _), div_nr t1 k1 t2 k2]
      exact ⟨rfl, _, _, hs, Nat.min_le_left _ _, rfl⟩
end
section
/-! remainders -/
theorem rest_step {b : Nat} (A k m : Nat) (hb : 0 < b) : (A * 2 ^ m % b) * 2 ^ k % b = A * 2 ^ (m + k) % b := by
  rw [Nat.pow_add, ← Nat.mul_assoc]; exact ((div_step (A * 2 ^ m) b k hb).2).symm
theorem imin10 {left : Int} (h1 : 0 < left) (h2 : left ≤ 100000) : imin (iI left) (10 : Int32) = nI (min left 10).toNat := by
  have q := iI_lt (a := 10) (b := left) (by decide) (by decide) (by omega) (by omega)
  unfold imin
  rw [show (10 : Int32) = iI 10 from by decide]
  by_cases c : 10 < left
  · rw [if_pos (q.mpr c), show min left 10 = 10 by omega]; rfl
  · rw [if_neg (fun h => c (q.mp h)), show min left 10 = left by omega, nI_iI_toNat (show 0 ≤ left by omega)]
theorem restAbove_loop {b : Nat} (hb : 0 < b) (hb2 : b < 2 ^ 53) : ∀ (fuel : Nat) (left : Int) (r : Nat), left < fuel → 1 ≤ fuel → -10 ≤ left → left ≤ 100000 → r < b → fX0_restAbove_16 fuel (lN b) (lN r) (iI left) = lN (r * 2 ^ left.toNat % b) := by
  intro fuel
  induction fuel with
  | zero => intro left r h1 h2; omega
  | succ fuel ih =>
    intro left r h1 h2 h3 h4 hr
    have q := iI_0lt (a := left) (by omega) (by omega)
    rw [fX0_restAbove_16]
    by_cases c : 0 < left
    · obtain ⟨m, hm⟩ : ∃ m : Nat, m = (min left 10).toNat := ⟨_, rfl⟩
      have hp : 2 ^ m ≤ 2 ^ 10 := lt_2 (by omega)
      have hrm : r * 2 ^ m < 2 ^ 53 * 2 ^ 10 := by
        refine Nat.lt_of_le_of_lt (Nat.mul_le_mul_left r hp) ?_
        exact Nat.mul_lt_mul_of_pos_right (by omega) (by decide)
      rw [if_pos (q.mpr c), imin10 c h4, ← hm, jshl_lN _ (by omega), jrem_lN (by omega) hb (by omega), show (-10 : Int32) = iI (-10) from by decide, iI_add, ih (left + -10) _ (by omega) (by omega) (by omega) (by omega) (Nat.mod_lt _ hb), rest_step _ _ _ hb]
      congr 4
      omega
    · rw [if_neg (fun h => c (q.mp h)), show left.toNat = 0 by omega, Nat.pow_zero, Nat.mul_one, Nat.mod_eq_of_lt hr]
theorem restAbove_is {a b : Nat} {e : Int} (ha : a < 2 ^ 53) (hb : 0 < b) (hb2 : b < 2 ^ 53) (h1 : 0 ≤ e) (h2 : e ≤ 100000) : fX0_restAbove (lN a) (iI e) (lN b) = lN (a * 2 ^ e.toNat % b) := by
  have hc : (iI e).toNatClampNeg = e.toNat := by
    rw [show (iI e).toNatClampNeg = (iI e).toInt.toNat from rfl, iI_toInt (by omega) (by omega)]
  rw [fX0_restAbove, fX0_restAbove_0, if_neg (by rw [lN_0, lN_inj (by omega) (by decide)]; omega), fX0_restAbove_13, jrem_lN (by omega) hb (by omega), hc, restAbove_loop hb hb2 _ _ _ (by omega) (by omega) (by omega) (by omega) (Nat.mod_lt _ hb)]
  rw [← (div_step a b e.toNat hb).2]
theorem rest_loop {b : Nat} {E2 : Int} {sg : Int64} (hb : 0 < b) (hb2 : b < 2 ^ 53) (hE1 : -100000 ≤ E2) : ∀ (fuel : Nat) (k : Int) (r : Nat), k - E2 < fuel → E2 ≤ k → k ≤ 100000 → r < b →
    fX3_rest_67 fuel (lN b) (iI E2) sg (lN r) (iI k) = fX3_rest_89 (iI E2) sg (lN (r * 2 ^ (k - E2).toNat % b)) ∧ (okX3_rest_89 (iI E2) sg (lN (r * 2 ^ (k - E2).toNat % b)) → okX3_rest_67 fuel (lN b) (iI E2) sg (lN r) (iI k)) := by
  intro fuel
  induction fuel with
  | zero => intro k r h1 h2; omega
  | succ fuel ih =>
    intro k r h1 h2 h3 hr
    have q := iI_lt (a := E2) (b := k) (by omega) (by omega) (by omega) (by omega)
    have hb0 : ¬ lN b = 0 := by rw [lN_0, lN_inj (by omega) (by decide)]; omega
    rw [fX3_rest_67, okX3_rest_67]
    by_cases c : E2 < k
    · obtain ⟨i1, i2⟩ := ih (k + -1) (r * 2 ^ 1 % b) (by omega) (by omega) (by omega) (Nat.mod_lt _ hb)
      have e : (r * 2 ^ 1 % b) * 2 ^ (k + -1 - E2).toNat % b = r * 2 ^ (k - E2).toNat % b := by
        rw [rest_step _ _ _ hb]; congr 3; omega
      rw [e] at i1 i2
      rw [if_pos (q.mpr c), show jshl (lN r) (1 : Int32) = lN (r * 2 ^ 1) from jshl_lN _ (k := 1) (by decide), jrem_lN (by omega) hb (by omega), show (-1 : Int32) = iI (-1) from by decide, iI_add]
      exact ⟨i1, fun h => ⟨fun _ => ⟨hb0, i2 h⟩, fun h2 => absurd (q.mpr c) h2⟩⟩
    · rw [if_neg (fun h => c (q.mp h)), show (k - E2).toNat = 0 by omega, Nat.pow_zero, Nat.mul_one, Nat.mod_eq_of_lt hr]
      exact ⟨rfl, fun h => ⟨fun h2 => absurd (q.mp h2) c, fun _ => h⟩⟩
/-- the end of the reference's remainder -/
theorem rest_end {s r : Nat} {E2 : Int} (hs : s ≤ 1) (hr : r < 2 ^ 53) (h1 : -1200 ≤ E2) (h2 : E2 ≤ 1000) :
    fX3_rest_89 (iI E2) (lN (s * 2 ^ 63)) (lN r) = lN (s * 2 ^ 63 + min INF64 (RZ 52 r (E2 + 1074))) ∧ okX3_rest_89 (iI E2) (lN (s * 2 ^ 63)) (lN r) := by
  have q0 : (lN r = 0) ↔ r = 0 := lN_inj (b := 0) (by omega) (by decide)
  rw [fX3_rest_89, okX3_rest_89]
  unfold RZ
  by_cases c : r = 0
  · rw [if_pos (q0.mpr c), if_pos c, Nat.min_eq_right (Nat.zero_le _), Nat.add_zero]
    exact ⟨rfl, fun _ => trivial, fun h => absurd (q0.mpr c) h⟩
  · obtain ⟨m1, m2⟩ := made_is (s := 0) (m := r) (st := 0) (e := E2) (by decide) (by omega) (by omega) (by decide) (fun h => absurd h (by decide)) (by omega) (by omega)
    have m1' : fX2_made (0 : Int32) (lN r) (iI E2) (0 : Int32) = lN (min INF64 (RD 52 r (E2 + 1074))) := by
      rw [RD_2 (by omega), Nat.zero_mul, Nat.zero_add, show E2 + 1073 + 1 = E2 + 1074 by omega] at m1
      exact m1
    rw [if_neg (fun h => c (q0.mp h)), if_neg c, m1', or_sign hs (Nat.lt_of_le_of_lt (Nat.min_le_left _ _) INF64_lt)]
    exact ⟨rfl, fun h => absurd (q0.mp h) c, fun _ => ⟨m2, trivial⟩⟩
theorem sign_and {s z : Nat} (hs : s ≤ 1) (hz : z < 2 ^ 63) : lN (s * 2 ^ 63 + z) &&& (-9223372036854775808 : Int64) = lN (s * 2 ^ 63) := by
  rw [show (-9223372036854775808 : Int64) = lN (2 ^ 63) from by decide, wb_and (d_u hs hz) (by decide), nat_and_pow hs hz]
/-- the reference's remainder, case by case -/
theorem rest_val {s1 s2 z1 z2 : Nat} (hs1 : s1 ≤ 1) (hs2 : s2 ≤ 1) (hz1 : z1 < INF64) (h2 : 0 < z2) (hz2 : z2 ≤ INF64) :
    fX3_rest (lN (s1 * 2 ^ 63 + z1)) (lN (s2 * 2 ^ 63 + z2)) = (if z1 < z2 then lN (s1 * 2 ^ 63 + z1) else lN (s1 * 2 ^ 63 + min INF64 (RZ 52 (Sg 52 z1 * 2 ^ (Eg 52 (-1074) z1 - Eg 52 (-1074) z2).toNat % Sg 52 z2) (Eg 52 (-1074) z2 + 1074)))) ∧ okX3_rest (lN (s1 * 2 ^ 63 + z1)) (lN (s2 * 2 ^ 63 + z2)) := by
  have l1 := lt63 (Nat.le_of_lt hz1)
  have l2 := lt63 hz2
  have n1 : ¬ (1 : Int32) = 0 := by decide
  have i2 := infd_is hs2 l2
  have o1 := zerod_is hs1 l1
  rw [fX3_rest, fX3_rest_0, okX3_rest, okX3_rest_0, i2, o1]
  by_cases c1 : z2 = INF64
  · rw [if_pos c1, if_neg n1, if_pos (show z1 < z2 by omega)]
    exact ⟨rfl, fun h => absurd h n1, fun _ => trivial⟩
  rw [if_neg c1, if_pos rfl]
  by_cases c2 : z1 = 0
  · rw [if_pos c2, if_neg n1, if_pos (show z1 < z2 by omega)]
    exact ⟨rfl, fun _ => ⟨fun h => absurd h n1, fun _ => trivial⟩, fun h => absurd rfl h⟩
  rw [if_neg c2, if_pos rfl]
  have k2 : z2 < INF64 := by omega
  have t1 : 0 < z1 := by omega
  obtain ⟨e1, e1o⟩ := expd_is hs1 t1 hz1
  obtain ⟨e2, e2o⟩ := expd_is hs2 h2 k2
  obtain ⟨g1, g1o⟩ := sigd_is hs1 t1 hz1
  obtain ⟨g2, g2o⟩ := sigd_is hs2 h2 k2
  obtain ⟨a1, a2⟩ := Sg_bounds (fb := 52) (by omega) t1
  obtain ⟨a3, a4⟩ := Sg_bounds (fb := 52) (by omega) h2
  obtain ⟨b1, b2⟩ := Eg52_bounds hz1
  obtain ⟨b3, b4⟩ := Eg52_bounds k2
  have hb0 : ¬ lN (Sg 52 z2) = 0 := by rw [lN_0, lN_inj (by omega) (by decide)]; omega
  have qe := iI_lt (a := Eg 52 (-1074) z1) (b := Eg 52 (-1074) z2) (by omega) (by omega) (by omega) (by omega)
  have core : fX3_rest_22 (lN (s1 * 2 ^ 63 + z1)) (lN (s2 * 2 ^ 63 + z2)) (lN (Sg 52 z1)) = (if z1 < z2 then lN (s1 * 2 ^ 63 + z1) else lN (s1 * 2 ^ 63 + min INF64 (RZ 52 (Sg 52 z1 * 2 ^ (Eg 52 (-1074) z1 - Eg 52 (-1074) z2).toNat % Sg 52 z2) (Eg 52 (-1074) z2 + 1074)))) ∧ okX3_rest_22 (lN (s1 * 2 ^ 63 + z1)) (lN (s2 * 2 ^ 63 + z2)) (lN (Sg 52 z1)) := by
    rw [fX3_rest_22, fX3_rest_28, fX3_rest_34, fX3_rest_40, fX3_rest_47, okX3_rest_22, okX3_rest_28, okX3_rest_34, okX3_rest_40, okX3_rest_47, g2, e1, e2, sign_and hs1 l1]
    by_cases ce : Eg 52 (-1074) z1 < Eg 52 (-1074) z2
    · have hlt : z1 < z2 := by
        apply Nat.lt_of_not_le; intro hle
        rcases Nat.eq_or_lt_of_le hle with q | q
        · rw [q] at ce; omega
        · have := lex (fb := 52) (em := -1074) (by omega) h2 q; omega
      rw [if_pos (qe.mpr ce), if_pos hlt]
      exact ⟨rfl, g2o, e1o, e2o, fun _ => trivial, fun h => absurd (qe.mpr ce) h⟩
    · have hr : Sg 52 z1 % Sg 52 z2 < Sg 52 z2 := Nat.mod_lt _ (by omega)
      have hcl : ((iI (Eg 52 (-1074) z1)).toInt - (iI (Eg 52 (-1074) z2)).toInt).toNat + 1 = (Eg 52 (-1074) z1 - Eg 52 (-1074) z2).toNat + 1 := by
        rw [iI_toInt (by omega) (by omega), iI_toInt (by omega) (by omega)]
      obtain ⟨p1, p2⟩ := rest_loop (E2 := Eg 52 (-1074) z2) (sg := lN (s1 * 2 ^ 63)) (show 0 < Sg 52 z2 by omega) a4 (by omega) ((Eg 52 (-1074) z1 - Eg 52 (-1074) z2).toNat + 1) (Eg 52 (-1074) z1) _ (by omega) (by omega) (by omega) hr
      rw [← (div_step (Sg 52 z1) (Sg 52 z2) _ (by omega)).2] at p1 p2
      obtain ⟨w1, w2⟩ := rest_end (s := s1) (r := Sg 52 z1 * 2 ^ (Eg 52 (-1074) z1 - Eg 52 (-1074) z2).toNat % Sg 52 z2) (E2 := Eg 52 (-1074) z2) hs1 (Nat.lt_trans (Nat.mod_lt _ (by omega)) a4) b3 b4
      rw [if_neg (fun h => ce (qe.mp h)), jrem_lN (by omega) (by omega) (by omega), fX3_rest_63, okX3_rest_63, hcl, p1, w1]
      refine ⟨?_, g2o, e1o, e2o, fun h => absurd (qe.mp h) ce, fun _ => ⟨hb0, p2 w2⟩⟩
      by_cases hlt : z1 < z2
      · rcases lex (fb := 52) (em := -1074) (by omega) t1 hlt with q | ⟨q, q2⟩
        · exact absurd q ce
        · have hs := RD_sg (fb := 52) t1 (-1074) 1074
          rw [show (-1074 : Int) + Xp 52 z1 + 1074 = Xp 52 z1 by omega, RD_self t1] at hs
          rw [if_pos hlt, ← q, Int.sub_self, Int.toNat_zero, Nat.pow_zero, Nat.mul_one, Nat.mod_eq_of_lt q2]
          unfold RZ
          rw [if_neg (show ¬ Sg 52 z1 = 0 by omega), hs, Nat.min_eq_right (by omega)]
      · rw [if_neg hlt]
  rw [g1]
  exact ⟨core.1, fun _ => ⟨fun _ => ⟨g1o, core.2⟩, fun h => absurd rfl h⟩, fun h => absurd rfl h⟩
/-- the class's remainder, case by case -/
theorem crest_val {kind : Int32} {sb fb ga s1 s2 z1 z2 : Nat} {em : Int} (K : Ks kind sb) (F : Kd kind fb em ga) (hfs : fb < sb) (hI : (ga + 2) * 2 ^ fb < 2 ^ sb) (hs1 : s1 ≤ 1) (hs2 : s2 ≤ 1) (hz1 : z1 ≤ (ga + 2) * 2 ^ fb) (hz2 : z2 ≤ (ga + 2) * 2 ^ fb) :
    fX0_rest kind (lN (s1 * 2 ^ sb + z1)) (lN (s2 * 2 ^ sb + z2)) = (if z1 = (ga + 2) * 2 ^ fb ∨ z2 = 0 then fX0_notANumber kind else if z1 < z2 then lN (s1 * 2 ^ sb + z1) else lN (s1 * 2 ^ sb + min ((ga + 2) * 2 ^ fb) (RZ fb (Sg fb z1 * 2 ^ (Eg fb em z1 - Eg fb em z2).toNat % Sg fb z2) (Eg fb em z2 - em)))) := by
  have hem := F.2.2.2.2.2.2.2.1
  have hem2 := F.2.2.2.2.2.2.2.2.1
  have hfb := F.2.2.2.2.1
  have hga := F.2.2.2.2.2.2.1
  have l1 : z1 < 2 ^ sb := by omega
  have l2 : z2 < 2 ^ sb := by omega
  have n1 : ¬ (1 : Int32) = 0 := by decide
  have i1 := inf_is K F hs1 l1
  have o2 := zero_is K hs2 l2
  have hsb : 2 ^ sb ≤ 2 ^ 63 := lt_2 K.2.1
  have qz : lN z1 < lN z2 ↔ z1 < z2 := lN_lt63 (by omega) (by omega)
  rw [fX0_rest, fX0_rest_0, fX0_rest_16, i1, o2, size_is K hs1 l1, size_is K hs2 l2]
  by_cases c1 : z1 = (ga + 2) * 2 ^ fb
  · rw [if_pos c1, if_neg n1, if_pos (Or.inl c1)]
  rw [if_neg c1, if_pos rfl]
  by_cases c2 : z2 = 0
  · rw [if_pos c2, if_neg n1, if_pos (Or.inr c2)]
  rw [if_neg c2, if_pos rfl, if_neg (show ¬ (z1 = (ga + 2) * 2 ^ fb ∨ z2 = 0) by omega)]
  by_cases c3 : z1 < z2
  · rw [if_pos (qz.mpr c3), if_pos c3]
  rw [if_neg (fun h => c3 (qz.mp h)), if_neg c3]
  have hz1' : z1 < (ga + 2) * 2 ^ fb := by omega
  have hz2' : z2 < (ga + 2) * 2 ^ fb := by omega
  have h1 : 0 < z1 := by omega
  have h2 : 0 < z2 := by omega
  have hd1 : z1 / 2 ^ fb < ga + 2 := (Nat.div_lt_iff_lt_mul (Nat.two_pow_pos fb)).mpr hz1'
  have hd2 : z2 / 2 ^ fb < ga + 2 := (Nat.div_lt_iff_lt_mul (Nat.two_pow_pos fb)).mpr hz2'
  have hx1 : Xp fb z1 ≤ 2046 := by unfold Xp; omega
  have hx2 : Xp fb z2 ≤ 2046 := by unfold Xp; omega
  have hp53 : 2 ^ (fb + 1) ≤ 2 ^ 53 := lt_2 (by omega)
  have m1l : Mg fb z1 < 2 ^ 53 := Nat.lt_of_lt_of_le (Mg_lt fb z1) hp53
  have m2l : Mg fb z2 < 2 ^ 53 := Nat.lt_of_lt_of_le (Mg_lt fb z2) hp53
  have g1 := mag_is K F hfs hs1 l1
  have g2 := mag_is K F hfs hs2 l2
  have x1 := exp_is K F (by omega) hs1 l1
  have x2 := exp_is K F (by omega) hs2 l2
  obtain ⟨k1, k1l, r1, k1e⟩ := room52 m1l
  obtain ⟨k2, k2l, r2, k2e⟩ := room52 m2l
  have e1 : Mg fb z1 * 2 ^ k1 = Sg fb z1 := by unfold Sg; rw [k1e (Mg_pos h1)]
  have e2 : Mg fb z2 * 2 ^ k2 = Sg fb z2 := by unfold Sg; rw [k2e (Mg_pos h2)]
  obtain ⟨a1, a2⟩ := Sg_bounds (fb := fb) hfb h1
  obtain ⟨a3, a4⟩ := Sg_bounds (fb := fb) hfb h2
  have hE1 : Eg fb em z1 = em + Xp fb z1 - k1 := by unfold Eg; rw [k1e (Mg_pos h1)]
  have hE2 : Eg fb em z2 = em + Xp fb z2 - k2 := by unfold Eg; rw [k2e (Mg_pos h2)]
  have bE1 : -1200 ≤ Eg fb em z1 ∧ Eg fb em z1 ≤ 2100 := Eg_bounds hem hem2 hx1
  have bE2 : -1200 ≤ Eg fb em z2 ∧ Eg fb em z2 ≤ 2100 := Eg_bounds hem hem2 hx2
  have hle : Eg fb em z2 ≤ Eg fb em z1 := by
    rcases Nat.eq_or_lt_of_le (Nat.le_of_not_lt c3) with q | q
    · rw [q]; omega
    · have := lex (fb := fb) (em := em) hfb h2 q; omega
  rw [fX0_rest_49, fX0_rest_61, fX0_rest_71, fX0_rest_84, fX0_rest_107, g1, g2, x1, x2, r1, r2, jshl_lN _ (by omega), jshl_lN _ (by omega), e1, e2, nI_iI, nI_iI, iI_sub, iI_sub, iI_sub, ← hE1, ← hE2, restAbove_is a2 (by omega) a4 (by omega) (by omega), neg_is K hs1 l1]
  have hr : Sg fb z1 * 2 ^ (Eg fb em z1 - Eg fb em z2).toNat % Sg fb z2 < Sg fb z2 := Nat.mod_lt _ (by omega)
  rw [nearest_z F (by omega) (by omega) (by omega), signed_is K hs1 (Nat.lt_of_le_of_lt (Nat.min_le_left _ _) hI)]
theorem rest7 {s1 s2 z1 z2 : Nat} (hs1 : s1 ≤ 1) (hs2 : s2 ≤ 1) (hz1 : z1 ≤ INF64) (hz2 : z2 ≤ INF64) (hn : ¬ (z1 = INF64 ∨ z2 = 0)) :
    fX0_rest 7 (lN (s1 * 2 ^ 63 + z1)) (lN (s2 * 2 ^ 63 + z2)) = fX3_rest (lN (s1 * 2 ^ 63 + z1)) (lN (s2 * 2 ^ 63 + z2)) ∧ D7 (fX3_rest (lN (s1 * 2 ^ 63 + z1)) (lN (s2 * 2 ^ 63 + z2))) := by
  have a := crest_val Ks7 Kd7 (by decide) (by decide) hs1 hs2 (show z1 ≤ (2045 + 2) * 2 ^ 52 from hz1) (show z2 ≤ (2045 + 2) * 2 ^ 52 from hz2)
  have b := (rest_val (s1 := s1) (s2 := s2) (z1 := z1) (z2 := z2) hs1 hs2 (by omega) (by omega) hz2).1
  rw [b, a, show (2045 + 2) * 2 ^ 52 = INF64 from rfl, if_neg hn]
  by_cases c : z1 < z2
  · rw [if_pos c, if_pos c]
    exact ⟨rfl, _, _, hs1, hz1, rfl⟩
  · rw [if_neg c, if_neg c, show Eg 52 (-1074) z2 - -1074 = Eg 52 (-1074) z2 + 1074 by omega]
    exact ⟨rfl, D7_min hs1⟩
theorem rest_nr {r : Nat} {E : Int} (hr : r < 2 ^ 53) (h1 : -201 ≤ E) (h2 : E ≤ 104) : Nr (min INF64 (RZ 52 r (E + 1074))) = min INF32 (RZ 23 r (E - -149)) := by
  unfold RZ
  by_cases c : r = 0
  · rw [if_pos c, if_pos c, Nat.min_eq_right (Nat.zero_le _), Nat.min_eq_right (Nat.zero_le _)]; rfl
  · have hl := log2_lt (show 0 < r by omega) hr
    have hm := exact_mod (j := r) (g := 0) (p := 64) (d := r.log2 + 12) (by omega) hr (by rw [Nat.pow_zero, Nat.mul_one]; omega)
    rw [Nat.pow_zero, Nat.mul_one] at hm
    rw [if_neg c, if_neg c, (NrRD (M := r) (w := E + 1074) (p := 64) (d := r.log2 + 12) (by omega) (by omega) (by omega) (by omega) (fun _ _ => Or.inr hm)).2, show E + 1074 - 925 = E - -149 by omega]
theorem rest6 {s1 s2 z1 z2 : Nat} (hs1 : s1 ≤ 1) (hs2 : s2 ≤ 1) (hz1 : z1 ≤ INF32) (hz2 : z2 ≤ INF32) (hn : ¬ (z1 = INF32 ∨ z2 = 0)) :
    fX0_rest 6 (lN (s1 * 2 ^ 31 + z1)) (lN (s2 * 2 ^ 31 + z2)) = (fX2_narrow (fX3_rest (lN (s1 * 2 ^ 63 + Wd z1)) (lN (s2 * 2 ^ 63 + Wd z2)))).toInt64 &&& (4294967295 : Int64) ∧ D6 (fX0_rest 6 (lN (s1 * 2 ^ 31 + z1)) (lN (s2 * 2 ^ 31 + z2))) := by
  have a := crest_val Ks6 Kd6 (by decide) (by decide) hs1 hs2 (show z1 ≤ (253 + 2) * 2 ^ 23 from hz1) (show z2 ≤ (253 + 2) * 2 ^ 23 from hz2)
  have qi1 := Wd_isinf (lt31 hz1)
  have q02 := Wd_zero (lt31 hz2)
  have w1 := Wd_le' hz1
  have w2 := Wd_le' hz2
  have b := (rest_val (s1 := s1) (s2 := s2) (z1 := Wd z1) (z2 := Wd z2) hs1 hs2 (by omega) (by omega) w2).1
  have ql := Wd_lt_iff hz1 hz2
  rw [b, a, show (253 + 2) * 2 ^ 23 = INF32 from rfl, if_neg hn]
  by_cases c : z1 < z2
  · rw [if_pos c, if_pos (ql.mpr c), Nr_mask hs1 w1, Nr_Wd hz1]
    exact ⟨rfl, _, _, hs1, hz1, rfl⟩
  · have t1 : 0 < z1 := by omega
    have t2 : 0 < z2 := by omega
    have k1 : z1 < INF32 := by omega
    have k2 : z2 < INF32 := by omega
    obtain ⟨S1, E1⟩ := SgEg_Wd t1 k1
    obtain ⟨S2, E2⟩ := SgEg_Wd t2 k2
    obtain ⟨a3, a4⟩ := Sg_bounds (fb := 23) (by omega) t2
    obtain ⟨c3, c4⟩ := Eg23_bounds k2
    rw [if_neg c, if_neg (fun h => c (ql.mp h)), S1, S2, E1, E2, Nr_mask hs1 (Nat.min_le_left _ _), rest_nr (Nat.lt_trans (Nat.mod_lt _ (by omega)) a4) c3 c4]
    exact ⟨rfl, _, _, hs1, Nat.min_le_left _ _, rfl⟩
end
section
/-! arithmetic -/
theorem div_m1 (x : Int64) : x / (-1 : Int64) = -x := by
  apply Int64.toInt_inj.mp
  rw [Int64.toInt_div, show (-1 : Int64).toInt = -1 from rfl, Int64.toInt_neg, Int.tdiv_neg, Int.tdiv_one]
theorem jrem_m1 (x : Int64) : jrem x (-1 : Int64) = 0 := by
  unfold jrem
  rw [div_m1, Int64.neg_mul, Int64.mul_neg, Int64.mul_one, Int64.neg_neg, Int64.sub_self]
theorem what_of {k : Int32} (h1 : ¬ k < 1) (h2 : ¬ 5 < k) : k = 1 ∨ k = 2 ∨ k = 3 ∨ k = 4 ∨ k = 5 := by
  have e1 : (1 : Int32).toInt = 1 := rfl
  have e5 : (5 : Int32).toInt = 5 := rfl
  rw [Int32.lt_iff_toInt_lt, e1] at h1
  rw [Int32.lt_iff_toInt_lt, e5] at h2
  have f : ∀ (n : Int) (m : Int32), m.toInt = n → k.toInt = n → k = m := fun n m h h' => Int32.toInt_inj.mp (h'.trans h.symm)
  rcases (show k.toInt = 1 ∨ k.toInt = 2 ∨ k.toInt = 3 ∨ k.toInt = 4 ∨ k.toInt = 5 by omega) with h | h | h | h | h
  · exact Or.inl (f 1 1 rfl h)
  · exact Or.inr (Or.inl (f 2 2 rfl h))
  · exact Or.inr (Or.inr (Or.inl (f 3 3 rfl h)))
  · exact Or.inr (Or.inr (Or.inr (Or.inl (f 4 4 rfl h))))
  · exact Or.inr (Or.inr (Or.inr (Or.inr (f 5 5 rfl h))))
theorem nar_109 {t : Int32} (v : Int64) (f : Int32) (h4 : ¬ t < 4) : (fX1_narrowed t v, f) = fX3_whole_109 t v f := by
  rw [fX1_narrowed, fX1_narrowed_0, fX3_whole_109, if_neg (show ¬ t = 1 from fun h => h4 (by rw [h]; decide)), if_neg (show ¬ t = 2 from fun h => h4 (by rw [h]; decide)), if_neg (show ¬ t = 3 from fun h => h4 (by rw [h]; decide))]
  by_cases c : t = 4
  · rw [if_pos c, if_pos c]
  · rw [if_neg c, if_neg c]
theorem whole_eq {w t : Int32} {x y : Int64} (f : Int32) (h1 : ¬ w < 1) (h5 : ¬ 5 < w) (h4 : ¬ t < 4) : fX1_workWhole w t x y f = fX3_whole w t x y f := by
  rw [fX1_workWhole, fX1_workWhole_0, fX3_whole, fX3_whole_0, fX3_whole_20, fX3_whole_31, fX3_whole_45, fX3_whole_59, fX3_whole_85, fX3_whole_85, fX3_whole_107, fX3_whole_107]
  rcases what_of h1 h5 with rfl | rfl | rfl | rfl | rfl
  · exact nar_109 _ f h4
  · exact nar_109 _ f h4
  · exact nar_109 _ f h4
  · rw [if_neg (show ¬ (4 : Int32) = 1 by decide), if_neg (show ¬ (4 : Int32) = 2 by decide), if_neg (show ¬ (4 : Int32) = 3 by decide), if_pos rfl, if_pos (show (3 : Int32) < 4 by decide), if_neg (show ¬ (4 : Int32) = 1 by decide), if_neg (show ¬ (4 : Int32) = 2 by decide), if_neg (show ¬ (4 : Int32) = 3 by decide), if_pos rfl]
    by_cases c : y = 0
    · rw [if_pos c, if_pos c]; rfl
    · rw [if_neg c, if_neg c]
      by_cases c1 : y = -1
      · rw [if_pos c1, c1, div_m1]; exact nar_109 _ f h4
      · rw [if_neg c1]; exact nar_109 _ f h4
  · rw [if_neg (show ¬ (5 : Int32) = 1 by decide), if_neg (show ¬ (5 : Int32) = 2 by decide), if_neg (show ¬ (5 : Int32) = 3 by decide), if_neg (show ¬ (5 : Int32) = 4 by decide), if_pos (show (3 : Int32) < 5 by decide), if_neg (show ¬ (5 : Int32) = 1 by decide), if_neg (show ¬ (5 : Int32) = 2 by decide), if_neg (show ¬ (5 : Int32) = 3 by decide), if_neg (show ¬ (5 : Int32) = 4 by decide)]
    by_cases c : y = 0
    · rw [if_pos c, if_pos c]; rfl
    · rw [if_neg c, if_neg c]
      by_cases c1 : y = -1
      · rw [if_pos c1, c1, jrem_m1]; exact nar_109 _ f h4
      · rw [if_neg c1]; exact nar_109 _ f h4
theorem whole_ok {w t : Int32} {x y : Int64} (f : Int32) (h1 : ¬ w < 1) (h5 : ¬ 5 < w) : okX3_whole w t x y f := by
  rw [okX3_whole, okX3_whole_0, okX3_whole_20]
  rcases what_of h1 h5 with rfl | rfl | rfl | rfl | rfl
  · exact ⟨fun h => absurd h (by decide), fun _ => ⟨fun _ => trivial, fun h => absurd rfl h⟩⟩
  · exact ⟨fun h => absurd h (by decide), fun _ => ⟨fun _ => trivial, fun _ => ⟨fun _ => trivial, fun h => absurd rfl h⟩⟩⟩
  · exact ⟨fun h => absurd h (by decide), fun _ => ⟨fun _ => trivial, fun _ => ⟨fun _ => trivial, fun _ => ⟨fun _ => trivial, fun h => absurd rfl h⟩⟩⟩⟩
  · exact ⟨fun _ => ⟨fun _ => trivial, fun h0 => ⟨fun _ => trivial, fun _ => ⟨fun _ => trivial, fun _ => ⟨fun _ => trivial, fun _ => ⟨fun _ => ⟨fun _ => trivial, fun _ => ⟨h0, trivial⟩⟩, fun h => absurd rfl h⟩⟩⟩⟩⟩, fun h => absurd (show (3 : Int32) < 4 by decide) h⟩
  · exact ⟨fun _ => ⟨fun _ => trivial, fun h0 => ⟨fun _ => trivial, fun _ => ⟨fun _ => trivial, fun _ => ⟨fun _ => trivial, fun _ => ⟨fun h => absurd h (by decide), fun _ => ⟨fun _ => trivial, fun _ => ⟨h0, trivial⟩⟩⟩⟩⟩⟩⟩, fun h => absurd (show (3 : Int32) < 5 by decide) h⟩
theorem add_ok {s1 s2 z1 z2 : Nat} (hs1 : s1 ≤ 1) (hs2 : s2 ≤ 1) (hz1 : z1 ≤ INF64) (hz2 : z2 ≤ INF64) : okX2_add (lN (s1 * 2 ^ 63 + z1)) (lN (s2 * 2 ^ 63 + z2)) := by
  by_cases c : z1 = INF64
  · rw [okX2_add, okX2_add_0, infd_is hs1 (lt63 hz1), if_pos c]; exact ⟨fun h => absurd h (by decide), fun _ => trivial⟩
  · exact (sum7 hs1 hs2 hz1 hz2 (fun h => c h.1)).2.1
theorem negd {s z : Nat} (hs : s ≤ 1) (hz : z ≤ INF64) : fX2_negative (lN (s * 2 ^ 63 + z)) = lN ((1 - s) * 2 ^ 63 + z) := by
  rw [fX2_negative, fX2_negative_0, show (-9223372036854775808 : Int64) = lN (2 ^ 63) from by decide, lN_xor, nat_xor_pow hs (lt63 hz)]
theorem ok162 {w : Int32} {x y z : Int64} {v f : Int32} (ha : okX2_add x z) (hm : okX2_multiply x y) (hd : okX2_divide x y) (hr : v = 0 → ¬ w < 3 → ¬ w = 3 → ¬ w = 4 → okX3_rest x y) : okX3_floating_162 w x y z v f := by
  rw [okX3_floating_162]
  exact ⟨fun h0 => ⟨fun _ => ⟨ha, trivial⟩, fun h3 => ⟨fun _ => ⟨hm, trivial⟩, fun h4 => ⟨fun _ => ⟨hd, trivial⟩, fun h5 => ⟨hr h0 h3 h4 h5, trivial⟩⟩⟩⟩, fun _ => trivial⟩
theorem ok28 {w : Int32} {x y z : Int64} {v6 v7 f : Int32} (ha : okX2_add x z) (hm : okX2_multiply x y) (hd : okX2_divide x y) (hr : v6 = 0 → fX2_isZero y = 0 → okX3_rest x y) : okX3_floating_28 w x y v6 v7 z f := by
  rw [okX3_floating_28]
  refine ⟨fun h3 => ?_, fun h3 => ⟨fun e3 => ?_, fun e3 => ⟨fun e4 => ?_, fun e4 => ?_⟩⟩⟩
  · have A : ∀ v, okX3_floating_162 w x y z v f := fun v => ok162 ha hm hd (fun _ h => absurd h3 h)
    exact ⟨fun _ => A 0, fun _ => ⟨fun _ => A 0, fun _ => ⟨fun _ => A 0, fun _ => A 1⟩⟩⟩
  · have A : ∀ v, okX3_floating_162 w x y z v f := fun v => ok162 ha hm hd (fun _ _ h => absurd e3 h)
    exact ⟨fun _ => ⟨fun _ => A 0, fun _ => ⟨fun _ => A 0, fun _ => A 1⟩⟩, fun _ => ⟨fun _ => ⟨fun _ => A 0, fun _ => ⟨fun _ => A 0, fun _ => A 1⟩⟩, fun _ => A 1⟩⟩
  · have A : ∀ v, okX3_floating_162 w x y z v f := fun v => ok162 ha hm hd (fun _ _ _ h => absurd e4 h)
    exact ⟨fun _ => ⟨fun _ => A 0, fun _ => ⟨fun _ => A 0, fun _ => A 1⟩⟩, fun _ => ⟨fun _ => ⟨fun _ => A 0, fun _ => ⟨fun _ => A 0, fun _ => A 1⟩⟩, fun _ => A 1⟩⟩
  · have B : okX3_floating_162 w x y z 1 f := ok162 ha hm hd (fun h => absurd h (by decide))
    exact ⟨fun a => ⟨fun b => ok162 ha hm hd (fun _ _ _ _ => hr a b), fun _ => B⟩, fun _ => B⟩
theorem floating_ok {s1 s2 z1 z2 : Nat} (w f : Int32) (hs1 : s1 ≤ 1) (hs2 : s2 ≤ 1) (hz1 : z1 ≤ INF64) (hz2 : z2 ≤ INF64) : okX3_floating w (lN (s1 * 2 ^ 63 + z1)) (lN (s2 * 2 ^ 63 + z2)) f := by
  rw [okX3_floating, okX3_floating_0, okX3_floating_6, okX3_floating_13, infd_is hs1 (lt63 hz1), negd hs2 hz2]
  have hr : (if z1 = INF64 then (1 : Int32) else 0) = 0 → fX2_isZero (lN (s2 * 2 ^ 63 + z2)) = 0 → okX3_rest (lN (s1 * 2 ^ 63 + z1)) (lN (s2 * 2 ^ 63 + z2)) := by
    intro a b
    rw [zerod_is hs2 (lt63 hz2)] at b
    have c1 : ¬ z1 = INF64 := fun h => by rw [if_pos h] at a; exact absurd a (by decide)
    have c2 : ¬ z2 = 0 := fun h => by rw [if_pos h] at b; exact absurd b (by decide)
    exact (rest_val hs1 hs2 (by omega) (by omega) hz2).2
  have hm := (mul_val hs1 hs2 hz1 hz2).2
  have hd := (div_val hs1 hs2 hz1 hz2).2
  exact ⟨fun _ => ok28 (add_ok hs1 (by omega) hz1 hz2) hm hd hr, fun _ => ok28 (add_ok hs1 hs2 hz1 hz2) hm hd hr⟩
theorem dbl_eq {s1 s2 z1 z2 : Nat} (hs1 : s1 ≤ 1) (hs2 : s2 ≤ 1) (hz1 : z1 ≤ INF64) (hz2 : z2 ≤ INF64) : lN (s1 * 2 ^ 63 + z1) = lN (s2 * 2 ^ 63 + z2) ↔ s1 = s2 ∧ z1 = z2 := by
  have l1 := lt63 hz1
  have l2 := lt63 hz2
  rw [lN_inj (d_u hs1 l1) (d_u hs2 l2)]
  omega
theorem fl28 {w : Int32} {s1 s2 z1 z2 : Nat} {y : Int64} (hw : w < 3) (hs1 : s1 ≤ 1) (hs2 : s2 ≤ 1) (hz1 : z1 ≤ INF64) (hz2 : z2 ≤ INF64) :
    fX3_floating_28 w (lN (s1 * 2 ^ 63 + z1)) y (if z1 = INF64 then 1 else 0) (if z2 = INF64 then 1 else 0) (lN (s2 * 2 ^ 63 + z2)) 0 = if z1 = INF64 ∧ z2 = INF64 ∧ s1 ≠ s2 then (0, 8) else (fX2_add (lN (s1 * 2 ^ 63 + z1)) (lN (s2 * 2 ^ 63 + z2)), 0) := by
  have n1 : ¬ (1 : Int32) = 0 := by decide
  have g0 : fX3_floating_162 w (lN (s1 * 2 ^ 63 + z1)) y (lN (s2 * 2 ^ 63 + z2)) 0 0 = (fX2_add (lN (s1 * 2 ^ 63 + z1)) (lN (s2 * 2 ^ 63 + z2)), 0) := by
    rw [fX3_floating_162, if_pos rfl, if_pos hw]
  have q := dbl_eq hs1 hs2 hz1 hz2
  rw [fX3_floating_28, if_pos hw, fX3_floating_56, fX3_floating_57, fX3_floating_57, g0]
  by_cases c1 : z1 = INF64
  · rw [if_pos c1, if_neg n1]
    by_cases c2 : z2 = INF64
    · rw [if_pos c2, if_neg n1]
      by_cases c3 : s1 = s2
      · rw [if_pos (q.mpr ⟨c3, by omega⟩), if_neg (fun h => h.2.2 c3)]
      · rw [if_neg (fun h => c3 (q.mp h).1), if_pos ⟨c1, c2, c3⟩, fX3_floating_162, if_neg n1]
    · rw [if_neg c2, if_pos rfl, if_neg (fun h => c2 h.2.1)]
  · rw [if_neg c1, if_pos rfl, if_neg (fun h => c1 h.1)]
theorem fl1 {s1 s2 z1 z2 : Nat} (hs1 : s1 ≤ 1) (hs2 : s2 ≤ 1) (hz1 : z1 ≤ INF64) (hz2 : z2 ≤ INF64) :
    fX3_floating 1 (lN (s1 * 2 ^ 63 + z1)) (lN (s2 * 2 ^ 63 + z2)) 0 = if z1 = INF64 ∧ z2 = INF64 ∧ s1 ≠ s2 then (0, 8) else (fX2_add (lN (s1 * 2 ^ 63 + z1)) (lN (s2 * 2 ^ 63 + z2)), 0) := by
  rw [fX3_floating, fX3_floating_0, fX3_floating_6, fX3_floating_13, if_neg (show ¬ (1 : Int32) = 2 by decide), infd_is hs1 (lt63 hz1), infd_is hs2 (lt63 hz2), fl28 (by decide) hs1 hs2 hz1 hz2]
theorem fl2 {s1 s2 z1 z2 : Nat} (hs1 : s1 ≤ 1) (hs2 : s2 ≤ 1) (hz1 : z1 ≤ INF64) (hz2 : z2 ≤ INF64) :
    fX3_floating 2 (lN (s1 * 2 ^ 63 + z1)) (lN (s2 * 2 ^ 63 + z2)) 0 = if z1 = INF64 ∧ z2 = INF64 ∧ s1 ≠ 1 - s2 then (0, 8) else (fX2_add (lN (s1 * 2 ^ 63 + z1)) (lN ((1 - s2) * 2 ^ 63 + z2)), 0) := by
  rw [fX3_floating, fX3_floating_0, fX3_floating_6, fX3_floating_13, if_pos rfl, infd_is hs1 (lt63 hz1), infd_is hs2 (lt63 hz2), negd hs2 hz2, fl28 (by decide) hs1 (by omega) hz1 hz2]
theorem fl3 {s1 s2 z1 z2 : Nat} (hs1 : s1 ≤ 1) (hs2 : s2 ≤ 1) (hz1 : z1 ≤ INF64) (hz2 : z2 ≤ INF64) :
    fX3_floating 3 (lN (s1 * 2 ^ 63 + z1)) (lN (s2 * 2 ^ 63 + z2)) 0 = if (z1 = INF64 ∨ z2 = INF64) ∧ (z1 = 0 ∨ z2 = 0) then (0, 8) else (fX2_multiply (lN (s1 * 2 ^ 63 + z1)) (lN (s2 * 2 ^ 63 + z2)), 0) := by
  have n1 : ¬ (1 : Int32) = 0 := by decide
  have hI : INF64 = 2047 * 2 ^ 52 := rfl
  have g0 : ∀ v, fX3_floating_162 3 (lN (s1 * 2 ^ 63 + z1)) (lN (s2 * 2 ^ 63 + z2)) v 0 0 = (fX2_multiply (lN (s1 * 2 ^ 63 + z1)) (lN (s2 * 2 ^ 63 + z2)), 0) := fun v => rfl
  have g1 : ∀ v, fX3_floating_162 3 (lN (s1 * 2 ^ 63 + z1)) (lN (s2 * 2 ^ 63 + z2)) v 1 0 = (0, 8) := fun v => rfl
  rw [fX3_floating, fX3_floating_0, fX3_floating_6, fX3_floating_13, if_neg (show ¬ (3 : Int32) = 2 by decide), fX3_floating_28, if_neg (show ¬ (3 : Int32) < 3 by decide), if_pos rfl, fX3_floating_80, fX3_floating_96, fX3_floating_92, fX3_floating_97, fX3_floating_97, g0, g1, infd_is hs1 (lt63 hz1), infd_is hs2 (lt63 hz2), zerod_is hs1 (lt63 hz1), zerod_is hs2 (lt63 hz2)]
  by_cases c1 : z1 = INF64
  · rw [if_pos c1, if_neg n1]
    by_cases c2 : z2 = 0
    · rw [if_pos c2, if_neg n1, if_pos ⟨Or.inl c1, Or.inr c2⟩]
    · rw [if_neg c2, if_pos rfl, if_neg (show ¬ z1 = 0 by omega), if_pos rfl, if_neg (show ¬ ((z1 = INF64 ∨ z2 = INF64) ∧ (z1 = 0 ∨ z2 = 0)) by omega)]
      by_cases c3 : z2 = INF64
      · rw [if_pos c3, if_neg n1]
      · rw [if_neg c3, if_pos rfl]
  · rw [if_neg c1, if_pos rfl]
    by_cases c2 : z2 = INF64
    · rw [if_pos c2, if_neg n1]
      by_cases c3 : z1 = 0
      · rw [if_pos c3, if_neg n1, if_pos ⟨Or.inr c2, Or.inl c3⟩]
      · rw [if_neg c3, if_pos rfl, if_neg (show ¬ ((z1 = INF64 ∨ z2 = INF64) ∧ (z1 = 0 ∨ z2 = 0)) by omega)]
    · rw [if_neg c2, if_pos rfl, if_neg (show ¬ ((z1 = INF64 ∨ z2 = INF64) ∧ (z1 = 0 ∨ z2 = 0)) by omega)]
theorem fl4 {s1 s2 z1 z2 : Nat} (hs1 : s1 ≤ 1) (hs2 : s2 ≤ 1) (hz1 : z1 ≤ INF64) (hz2 : z2 ≤ INF64) :
    fX3_floating 4 (lN (s1 * 2 ^ 63 + z1)) (lN (s2 * 2 ^ 63 + z2)) 0 = if (z1 = INF64 ∧ z2 = INF64) ∨ (z1 = 0 ∧ z2 = 0) then (0, 8) else (fX2_divide (lN (s1 * 2 ^ 63 + z1)) (lN (s2 * 2 ^ 63 + z2)), 0) := by
  have n1 : ¬ (1 : Int32) = 0 := by decide
  have hI : INF64 = 2047 * 2 ^ 52 := rfl
  have g0 : ∀ v, fX3_floating_162 4 (lN (s1 * 2 ^ 63 + z1)) (lN (s2 * 2 ^ 63 + z2)) v 0 0 = (fX2_divide (lN (s1 * 2 ^ 63 + z1)) (lN (s2 * 2 ^ 63 + z2)), 0) := fun v => rfl
  have g1 : ∀ v, fX3_floating_162 4 (lN (s1 * 2 ^ 63 + z1)) (lN (s2 * 2 ^ 63 + z2)) v 1 0 = (0, 8) := fun v => rfl
  rw [fX3_floating, fX3_floating_0, fX3_floating_6, fX3_floating_13, if_neg (show ¬ (4 : Int32) = 2 by decide), fX3_floating_28, if_neg (show ¬ (4 : Int32) < 3 by decide), if_neg (show ¬ (4 : Int32) = 3 by decide), if_pos rfl, fX3_floating_117, fX3_floating_136, fX3_floating_132, fX3_floating_137, fX3_floating_137, g0, g1, infd_is hs1 (lt63 hz1), infd_is hs2 (lt63 hz2), zerod_is hs1 (lt63 hz1), zerod_is hs2 (lt63 hz2)]
  by_cases c1 : z1 = INF64
  · rw [if_pos c1, if_neg n1]
    by_cases c2 : z2 = INF64
    · rw [if_pos c2, if_neg n1, if_pos (Or.inl ⟨c1, c2⟩)]
    · rw [if_neg c2, if_pos rfl, if_neg (show ¬ z1 = 0 by omega), if_pos rfl, if_neg (show ¬ ((z1 = INF64 ∧ z2 = INF64) ∨ (z1 = 0 ∧ z2 = 0)) by omega)]
  · rw [if_neg c1, if_pos rfl]
    by_cases c2 : z1 = 0
    · rw [if_pos c2, if_neg n1]
      by_cases c3 : z2 = 0
      · rw [if_pos c3, if_neg n1, if_pos (Or.inr ⟨c2, c3⟩)]
      · rw [if_neg c3, if_pos rfl, if_neg (show ¬ ((z1 = INF64 ∧ z2 = INF64) ∨ (z1 = 0 ∧ z2 = 0)) by omega)]
    · rw [if_neg c2, if_pos rfl, if_neg (show ¬ ((z1 = INF64 ∧ z2 = INF64) ∨ (z1 = 0 ∧ z2 = 0)) by omega)]
theorem fl5 {s1 s2 z1 z2 : Nat} (hs1 : s1 ≤ 1) (hs2 : s2 ≤ 1) (hz1 : z1 ≤ INF64) (hz2 : z2 ≤ INF64) :
    fX3_floating 5 (lN (s1 * 2 ^ 63 + z1)) (lN (s2 * 2 ^ 63 + z2)) 0 = if z1 = INF64 ∨ z2 = 0 then (0, 8) else (fX3_rest (lN (s1 * 2 ^ 63 + z1)) (lN (s2 * 2 ^ 63 + z2)), 0) := by
  have n1 : ¬ (1 : Int32) = 0 := by decide
  have g0 : ∀ v, fX3_floating_162 5 (lN (s1 * 2 ^ 63 + z1)) (lN (s2 * 2 ^ 63 + z2)) v 0 0 = (fX3_rest (lN (s1 * 2 ^ 63 + z1)) (lN (s2 * 2 ^ 63 + z2)), 0) := fun v => rfl
  have g1 : ∀ v, fX3_floating_162 5 (lN (s1 * 2 ^ 63 + z1)) (lN (s2 * 2 ^ 63 + z2)) v 1 0 = (0, 8) := fun v => rfl
  rw [fX3_floating, fX3_floating_0, fX3_floating_6, fX3_floating_13, if_neg (show ¬ (5 : Int32) = 2 by decide), fX3_floating_28, if_neg (show ¬ (5 : Int32) < 3 by decide), if_neg (show ¬ (5 : Int32) = 3 by decide), if_neg (show ¬ (5 : Int32) = 4 by decide), fX3_floating_155, fX3_floating_160, fX3_floating_160, g0, g1, infd_is hs1 (lt63 hz1), zerod_is hs2 (lt63 hz2)]
  by_cases c1 : z1 = INF64
  · rw [if_pos c1, if_neg n1, if_pos (Or.inl c1)]
  · rw [if_neg c1, if_pos rfl]
    by_cases c2 : z2 = 0
    · rw [if_pos c2, if_neg n1, if_pos (Or.inr c2)]
    · rw [if_neg c2, if_pos rfl, if_neg (show ¬ (z1 = INF64 ∨ z2 = 0) by omega)]
end
section
theorem r93_nan {k : Int32} {v : Int64} (h : fX0_isNumber k v = 0) : fX1_workReal_93 k v 0 = (0, 8) := by
  rw [fX1_workReal_93, if_pos h]; rfl
theorem comb7 {P : Prop} [Decidable P] {v r : Int64} (h1 : P → v = fX0_notANumber 7) (h2 : ¬ P → v = r ∧ D7 r) : fX1_workReal_93 7 v 0 = if P then (0, 8) else (r, 0) := by
  by_cases c : P
  · rw [if_pos c, h1 c]; exact r93_nan (by decide)
  · obtain ⟨e, s, z, hs, hz, e2⟩ := h2 c
    rw [if_neg c, e, fX1_workReal_93, if_neg]
    rw [e2, isValue7 hs (lt63 hz), if_pos hz]; decide
theorem comb6 {P : Prop} [Decidable P] {v r : Int64} (h1 : P → v = fX0_notANumber 6) (h2 : ¬ P → v = r ∧ D6 v) : fX1_workReal_93 6 v 0 = if P then (0, 8) else (r, 0) := by
  by_cases c : P
  · rw [if_pos c, h1 c]; exact r93_nan (by decide)
  · obtain ⟨e, s, z, hs, hz, e2⟩ := h2 c
    rw [if_neg c, ← e, fX1_workReal_93, if_neg]
    rw [e2, isValue6 hs (lt31 hz), if_pos hz]; decide
theorem w128_7 {P : Prop} [Decidable P] {r : Int64} : fX3_work_128 7 (if P then ((0 : Int64), (8 : Int32)) else (r, 0)).1 (if P then ((0 : Int64), (8 : Int32)) else (r, 0)).2 = if P then (0, 8) else (r, 0) := by
  by_cases c : P
  · simp only [if_pos c]; rfl
  · simp only [if_neg c]; rfl
theorem w128_6 {P : Prop} [Decidable P] {r : Int64} : fX3_work_128 6 (if P then ((0 : Int64), (8 : Int32)) else (r, 0)).1 (if P then ((0 : Int64), (8 : Int32)) else (r, 0)).2 = if P then (0, 8) else ((fX2_narrow r).toInt64 &&& (4294967295 : Int64), 0) := by
  by_cases c : P
  · simp only [if_pos c]; rfl
  · simp only [if_neg c]; rfl
theorem okw {P : Prop} [Decidable P] {r : Int64} (k : Int32) (h : ¬ P → D7 r) : okX3_work_128 k (if P then ((0 : Int64), (8 : Int32)) else (r, 0)).1 (if P then ((0 : Int64), (8 : Int32)) else (r, 0)).2 := by
  by_cases c : P
  · simp only [if_pos c]; exact ⟨fun _ => trivial, fun h => absurd (by decide) h⟩
  · simp only [if_neg c]
    obtain ⟨s, z, hs, hz, e⟩ := h c
    refine ⟨fun _ => trivial, fun _ => ⟨fun _ => ⟨?_, trivial⟩, fun _ => trivial⟩⟩
    rw [e]; exact (narrow_is hs hz).2
theorem csum_nan {kind : Int32} {sb fb ga s1 s2 z1 z2 : Nat} {em : Int} (K : Ks kind sb) (F : Kd kind fb em ga) (hI : (ga + 2) * 2 ^ fb < 2 ^ sb) (hs1 : s1 ≤ 1) (hs2 : s2 ≤ 1) (h : z1 = (ga + 2) * 2 ^ fb ∧ z2 = (ga + 2) * 2 ^ fb ∧ s1 ≠ s2) : fX0_sum kind (lN (s1 * 2 ^ sb + z1)) (lN (s2 * 2 ^ sb + z2)) = fX0_notANumber kind := by
  obtain ⟨h1, h2, h3⟩ := h
  have l1 : z1 < 2 ^ sb := by omega
  have l2 : z2 < 2 ^ sb := by omega
  have n1 : ¬ (1 : Int32) = 0 := by decide
  have u1 := sz_lt hs1 l1
  have u2 := sz_lt hs2 l2
  have h64 : 2 ^ (sb + 1) ≤ 2 ^ 64 := lt_2 (by have := K.2.1; omega)
  have q : ¬ lN (s1 * 2 ^ sb + z1) = lN (s2 * 2 ^ sb + z2) := by
    rw [lN_inj (by omega) (by omega)]
    have := sz_mod (s := s1) l1
    rcases (show (s1 = 0 ∧ s2 = 1) ∨ (s1 = 1 ∧ s2 = 0) by omega) with ⟨a, b⟩ | ⟨a, b⟩ <;> rw [a, b] <;> omega
  rw [fX0_sum, fX0_sum_0, inf_is K F hs1 l1, inf_is K F hs2 l2, if_pos h1, if_pos h2, if_neg n1, if_neg n1, if_neg q]
theorem real7 {w : Int32} {s1 s2 z1 z2 : Nat} (h1 : ¬ w < 1) (h5 : ¬ 5 < w) (hs1 : s1 ≤ 1) (hs2 : s2 ≤ 1) (hz1 : z1 ≤ INF64) (hz2 : z2 ≤ INF64) :
    fX1_workReal w 7 (lN (s1 * 2 ^ 63 + z1)) (lN (s2 * 2 ^ 63 + z2)) 0 = fX3_work_128 7 (fX3_floating w (lN (s1 * 2 ^ 63 + z1)) (lN (s2 * 2 ^ 63 + z2)) 0).1 (fX3_floating w (lN (s1 * 2 ^ 63 + z1)) (lN (s2 * 2 ^ 63 + z2)) 0).2 := by
  rw [fX1_workReal, fX1_workReal_0]
  rcases what_of h1 h5 with rfl | rfl | rfl | rfl | rfl
  · rw [fl1 hs1 hs2 hz1 hz2, w128_7, if_pos rfl, fX1_workReal_41]
    exact comb7 (fun h => csum_nan Ks7 Kd7 (by decide) hs1 hs2 h) (fun h => ⟨(sum7 hs1 hs2 hz1 hz2 h).1, (sum7 hs1 hs2 hz1 hz2 h).2.2⟩)
  · rw [fl2 hs1 hs2 hz1 hz2, w128_7, if_neg (show ¬ (2 : Int32) = 1 by decide), if_pos rfl, fX1_workReal_57, negated_is Ks7 hs2 (lt63 hz2)]
    exact comb7 (fun h => csum_nan Ks7 Kd7 (by decide) hs1 (by omega) h) (fun h => ⟨(sum7 hs1 (by omega) hz1 hz2 h).1, (sum7 hs1 (by omega) hz1 hz2 h).2.2⟩)
  · rw [fl3 hs1 hs2 hz1 hz2, w128_7, if_neg (show ¬ (3 : Int32) = 1 by decide), if_neg (show ¬ (3 : Int32) = 2 by decide), if_pos rfl, fX1_workReal_69]
    refine comb7 (fun h => ?_) (fun h => prod7 hs1 hs2 hz1 hz2 h)
    rw [cmul_val Ks7 Kd7 (by decide) (by decide) hs1 hs2 (show z1 ≤ (2045 + 2) * 2 ^ 52 from hz1) (show z2 ≤ (2045 + 2) * 2 ^ 52 from hz2), show (2045 + 2) * 2 ^ 52 = INF64 from rfl, if_pos h.1, if_pos h.2]
  · rw [fl4 hs1 hs2 hz1 hz2, w128_7, if_neg (show ¬ (4 : Int32) = 1 by decide), if_neg (show ¬ (4 : Int32) = 2 by decide), if_neg (show ¬ (4 : Int32) = 3 by decide), if_pos rfl, fX1_workReal_81]
    refine comb7 (fun h => ?_) (fun h => quot7 hs1 hs2 hz1 hz2 h)
    rw [cdiv_val Ks7 Kd7 (by decide) (by decide) hs1 hs2 (show z1 ≤ (2045 + 2) * 2 ^ 52 from hz1) (show z2 ≤ (2045 + 2) * 2 ^ 52 from hz2), show (2045 + 2) * 2 ^ 52 = INF64 from rfl, if_pos h]
  · rw [fl5 hs1 hs2 hz1 hz2, w128_7, if_neg (show ¬ (5 : Int32) = 1 by decide), if_neg (show ¬ (5 : Int32) = 2 by decide), if_neg (show ¬ (5 : Int32) = 3 by decide), if_neg (show ¬ (5 : Int32) = 4 by decide)]
    refine comb7 (fun h => ?_) (fun h => rest7 hs1 hs2 hz1 hz2 h)
    rw [crest_val Ks7 Kd7 (by decide) (by decide) hs1 hs2 (show z1 ≤ (2045 + 2) * 2 ^ 52 from hz1) (show z2 ≤ (2045 + 2) * 2 ^ 52 from hz2), show (2045 + 2) * 2 ^ 52 = INF64 from rfl, if_pos h]
theorem real_ok {w : Int32} {s1 s2 z1 z2 : Nat} (k : Int32) (h1 : ¬ w < 1) (h5 : ¬ 5 < w) (hs1 : s1 ≤ 1) (hs2 : s2 ≤ 1) (hz1 : z1 ≤ INF64) (hz2 : z2 ≤ INF64) :
    okX3_work_128 k (fX3_floating w (lN (s1 * 2 ^ 63 + z1)) (lN (s2 * 2 ^ 63 + z2)) 0).1 (fX3_floating w (lN (s1 * 2 ^ 63 + z1)) (lN (s2 * 2 ^ 63 + z2)) 0).2 := by
  rcases what_of h1 h5 with rfl | rfl | rfl | rfl | rfl
  · rw [fl1 hs1 hs2 hz1 hz2]; exact okw k (fun h => (sum7 hs1 hs2 hz1 hz2 h).2.2)
  · rw [fl2 hs1 hs2 hz1 hz2]; exact okw k (fun h => (sum7 hs1 (by omega) hz1 hz2 h).2.2)
  · rw [fl3 hs1 hs2 hz1 hz2]; exact okw k (fun h => (prod7 hs1 hs2 hz1 hz2 h).2)
  · rw [fl4 hs1 hs2 hz1 hz2]; exact okw k (fun h => (quot7 hs1 hs2 hz1 hz2 h).2)
  · rw [fl5 hs1 hs2 hz1 hz2]; exact okw k (fun h => (rest7 hs1 hs2 hz1 hz2 h).2)
theorem real6 {w : Int32} {s1 s2 z1 z2 : Nat} (h1 : ¬ w < 1) (h5 : ¬ 5 < w) (hs1 : s1 ≤ 1) (hs2 : s2 ≤ 1) (hz1 : z1 ≤ INF32) (hz2 : z2 ≤ INF32) :
    fX1_workReal w 6 (lN (s1 * 2 ^ 31 + z1)) (lN (s2 * 2 ^ 31 + z2)) 0 = fX3_work_128 6 (fX3_floating w (lN (s1 * 2 ^ 63 + Wd z1)) (lN (s2 * 2 ^ 63 + Wd z2)) 0).1 (fX3_floating w (lN (s1 * 2 ^ 63 + Wd z1)) (lN (s2 * 2 ^ 63 + Wd z2)) 0).2 := by
  have qi1 := Wd_isinf (lt31 hz1)
  have qi2 := Wd_isinf (lt31 hz2)
  have q01 := Wd_zero (lt31 hz1)
  have q02 := Wd_zero (lt31 hz2)
  have w1 := Wd_le' hz1
  have w2 := Wd_le' hz2
  rw [fX1_workReal, fX1_workReal_0]
  rcases what_of h1 h5 with rfl | rfl | rfl | rfl | rfl
  · have e := fl1 hs1 hs2 w1 w2
    simp only [qi1, qi2] at e
    rw [e, w128_6, if_pos rfl, fX1_workReal_41]
    exact comb6 (fun h => csum_nan Ks6 Kd6 (by decide) hs1 hs2 h) (fun h => sum6 hs1 hs2 hz1 hz2 h)
  · have e := fl2 hs1 hs2 w1 w2
    simp only [qi1, qi2] at e
    rw [e, w128_6, if_neg (show ¬ (2 : Int32) = 1 by decide), if_pos rfl, fX1_workReal_57, negated_is Ks6 hs2 (lt31 hz2)]
    exact comb6 (fun h => csum_nan Ks6 Kd6 (by decide) hs1 (by omega) h) (fun h => sum6 hs1 (by omega) hz1 hz2 h)
  · have e := fl3 hs1 hs2 w1 w2
    simp only [qi1, qi2, q01, q02] at e
    rw [e, w128_6, if_neg (show ¬ (3 : Int32) = 1 by decide), if_neg (show ¬ (3 : Int32) = 2 by decide), if_pos rfl, fX1_workReal_69]
    refine comb6 (fun h => ?_) (fun h => prod6 hs1 hs2 hz1 hz2 h)
    rw [cmul_val Ks6 Kd6 (by decide) (by decide) hs1 hs2 (show z1 ≤ (253 + 2) * 2 ^ 23 from hz1) (show z2 ≤ (253 + 2) * 2 ^ 23 from hz2), show (253 + 2) * 2 ^ 23 = INF32 from rfl, if_pos h.1, if_pos h.2]
  · have e := fl4 hs1 hs2 w1 w2
    simp only [qi1, qi2, q01, q02] at e
    rw [e, w128_6, if_neg (show ¬ (4 : Int32) = 1 by decide), if_neg (show ¬ (4 : Int32) = 2 by decide), if_neg (show ¬ (4 : Int32) = 3 by decide), if_pos rfl, fX1_workReal_81]
    refine comb6 (fun h => ?_) (fun h => quot6 hs1 hs2 hz1 hz2 h)
    rw [cdiv_val Ks6 Kd6 (by decide) (by decide) hs1 hs2 (show z1 ≤ (253 + 2) * 2 ^ 23 from hz1) (show z2 ≤ (253 + 2) * 2 ^ 23 from hz2), show (253 + 2) * 2 ^ 23 = INF32 from rfl, if_pos h]
  · have e := fl5 hs1 hs2 w1 w2
    simp only [qi1, q02] at e
    rw [e, w128_6, if_neg (show ¬ (5 : Int32) = 1 by decide), if_neg (show ¬ (5 : Int32) = 2 by decide), if_neg (show ¬ (5 : Int32) = 3 by decide), if_neg (show ¬ (5 : Int32) = 4 by decide)]
    refine comb6 (fun h => ?_) (fun h => rest6 hs1 hs2 hz1 hz2 h)
    rw [crest_val Ks6 Kd6 (by decide) (by decide) hs1 hs2 (show z1 ≤ (253 + 2) * 2 ^ 23 from hz1) (show z2 ≤ (253 + 2) * 2 ^ 23 from hz2), show (253 + 2) * 2 ^ 23 = INF32 from rfl, if_pos h]
theorem T_work (w k : Int32) (x : Int64) (o : Int32) (y : Int64) (f : Int32) : fX1_work w k x o y f = fX3_work w k x o y f := by
  rw [fX1_work, fX1_work_0, fX3_work, fX3_work_0, are_eq]
  by_cases h1 : w < 1
  · rw [if_pos h1, if_pos h1]; rfl
  rw [if_neg h1, if_neg h1]
  by_cases h5 : 5 < w
  · rw [if_pos h5, if_pos h5]; rfl
  rw [if_neg h5, if_neg h5]
  by_cases c : fX1_areNumbers k x o y = 0
  · rw [if_pos c, if_pos c]; rfl
  · rw [if_neg c, if_neg c, fX3_work_29, if_neg (show ¬ (0 : Int32) < 0 by decide)]
    obtain ⟨⟨k1, k7⟩, ⟨o1, o7⟩, hx, hy⟩ := are_ne c
    obtain ⟨t4, t7, tk, to⟩ := wk_facts k7 o7
    rw [fX1_work_43, fX1_work_52, fX1_work_63, fX3_work_53, fX3_work_62, fX3_work_73, fX1_workKind, fX1_workKind_0]
    generalize imax 4 (imax k o) = t at *
    rw [wid_eq k1 k7 t4 t7 tk hx, wid_eq o1 o7 t4 t7 to hy]
    by_cases t6 : t < 6
    · rw [if_pos t6, if_pos t6, whole_eq 0 h1 h5 t4]
    · rw [if_neg t6, if_neg t6]
      rcases k_ge6 t6 t7 with rfl | rfl
      · obtain ⟨s, z, hs, hz, e1⟩ := wid_val6 k1 tk hx
        obtain ⟨s', z', hs', hz', e2⟩ := wid_val6 o1 to hy
        rw [e1, e2, if_pos rfl, lN_i, lN_i, (wide_is hs (lt31 hz)).1, (wide_is hs' (lt31 hz')).1]
        exact real6 h1 h5 hs hs' hz hz'
      · obtain ⟨s, z, hs, hz, e1⟩ := wid_val7 k1 k7 hx
        obtain ⟨s', z', hs', hz', e2⟩ := wid_val7 o1 o7 hy
        rw [e1, e2, if_neg (show ¬ (7 : Int32) = 6 by decide)]
        exact real7 h1 h5 hs hs' hz hz'
theorem O_work (w k : Int32) (x : Int64) (o : Int32) (y : Int64) (f : Int32) : okX3_work w k x o y f := by
  rw [okX3_work, okX3_work_0, are_eq]
  have a28 : ∀ g : Int32, okX3_work_28 w k x o y g := fun g => ⟨fun _ => trivial, fun h => absurd (by decide) h⟩
  refine ⟨fun _ => a28 f, fun h1 => ⟨fun _ => a28 f, fun h5 => ⟨are_ok k x o y f, fun _ => a28 f, fun c => ?_⟩⟩⟩
  obtain ⟨⟨k1, k7⟩, ⟨o1, o7⟩, hx, hy⟩ := are_ne c
  obtain ⟨t4, t7, tk, to⟩ := wk_facts k7 o7
  refine ⟨fun _ => trivial, fun _ => ?_⟩
  rw [okX3_work_53, okX3_work_62, okX3_work_73]
  generalize imax 4 (imax k o) = t at *
  refine ⟨widened_ok _ _ _, widened_ok _ _ _, fun _ => ⟨whole_ok 0 h1 h5, trivial⟩, fun t6 => ⟨fun e6 => ?_, fun n6 => ?_⟩⟩
  · subst e6
    obtain ⟨s, z, hs, hz, e1⟩ := wid_val6 k1 tk hx
    obtain ⟨s', z', hs', hz', e2⟩ := wid_val6 o1 to hy
    rw [e1, e2, lN_i, lN_i, (wide_is hs (lt31 hz)).1, (wide_is hs' (lt31 hz')).1]
    exact ⟨wide_ok _, wide_ok _, floating_ok w 0 hs hs' (Wd_le' hz) (Wd_le' hz'), real_ok 6 h1 h5 hs hs' (Wd_le' hz) (Wd_le' hz')⟩
  · have e7 : t = 7 := (k_ge6 t6 t7).resolve_left n6
    subst e7
    obtain ⟨s, z, hs, hz, e1⟩ := wid_val7 k1 k7 hx
    obtain ⟨s', z', hs', hz', e2⟩ := wid_val7 o1 o7 hy
    rw [e1, e2]
    exact ⟨floating_ok w 0 hs hs' hz hz', real_ok 7 h1 h5 hs hs' hz hz'⟩
theorem T_failed (f : Int32) : fX1_failed f = fX3_failed f := rfl
end
