/-! ===== Int32 by its bits: bt x i ===== -/
def bt (x : Int32) (i : Nat) : Bool := x.toBitVec.getLsbD i
theorem b_ext {x y : Int32} (h : ∀ i, i < 32 → bt x i = bt y i) : x = y := Int32.toBitVec_inj.mp (BitVec.eq_of_getLsbD_eq (fun i hi => h i hi))
theorem b_or (x y : Int32) (i : Nat) : bt (x ||| y) i = (bt x i || bt y i) := by unfold bt; rw [Int32.toBitVec_or, BitVec.getLsbD_or]
theorem b_and (x y : Int32) (i : Nat) : bt (x &&& y) i = (bt x i && bt y i) := by unfold bt; rw [Int32.toBitVec_and, BitVec.getLsbD_and]
theorem b_xor (x y : Int32) (i : Nat) : bt (x ^^^ y) i = (bt x i ^^ bt y i) := by unfold bt; rw [Int32.toBitVec_xor, BitVec.getLsbD_xor]
theorem b_big {x : Int32} {i : Nat} (h : 32 ≤ i) : bt x i = false := BitVec.getLsbD_of_ge _ _ h
theorem b_255 (i : Nat) : bt 255 i = decide (i < 8) := by
  rcases Nat.lt_or_ge i 32 with h | h
  · exact (by decide +kernel : ∀ i, i < 32 → bt 255 i = decide (i < 8)) i h
  · rw [b_big h, decide_eq_false (by omega)]
theorem b_65535 (i : Nat) : bt 65535 i = decide (i < 16) := by
  rcases Nat.lt_or_ge i 32 with h | h
  · exact (by decide +kernel : ∀ i, i < 32 → bt 65535 i = decide (i < 16)) i h
  · rw [b_big h, decide_eq_false (by omega)]
theorem b_m1 : ∀ i, i < 32 → bt (-1) i = true := by decide +kernel
theorem b_0 (i : Nat) : bt 0 i = false := BitVec.getLsbD_zero
theorem s_l : ∀ n, n < 32 → ((nI n &&& 31).toBitVec.smod 32).toNat = n := by decide +kernel
theorem s_u : ∀ n, n < 32 → (((nI n).toUInt32 &&& Int32.toUInt32 31).toBitVec % 32).toNat = n := by decide +kernel
theorem b_shl (n : Nat) (hn : n < 32) (x : Int32) {i : Nat} (hi : i < 32) : bt (x <<< (nI n &&& 31)) i = (decide (n ≤ i) && bt x (i - n)) := by
  unfold bt
  rw [Int32.toBitVec_shiftLeft]
  show (x.toBitVec <<< ((nI n &&& 31).toBitVec.smod 32).toNat).getLsbD i = _
  rw [s_l n hn, BitVec.getLsbD_shiftLeft]
  rcases Nat.lt_or_ge i n with h | h
  · simp [h, Nat.not_le.mpr h]
  · simp [hi, h, Nat.not_lt.mpr h]
theorem b_ushr (n : Nat) (hn : n < 32) (x : Int32) (i : Nat) : bt ((x.toUInt32 >>> ((nI n).toUInt32 &&& Int32.toUInt32 31)).toInt32) i = bt x (n + i) := by
  show (x.toUInt32 >>> ((nI n).toUInt32 &&& Int32.toUInt32 31)).toBitVec.getLsbD i = x.toUInt32.toBitVec.getLsbD (n + i)
  rw [UInt32.toBitVec_shiftRight]
  show (x.toUInt32.toBitVec >>> (((nI n).toUInt32 &&& Int32.toUInt32 31).toBitVec % 32).toNat).getLsbD i = _
  rw [s_u n hn, BitVec.getLsbD_ushiftRight]
theorem b_sshr (n : Nat) (hn : n < 32) (x : Int32) {i : Nat} (hi : i < 32) : bt (x >>> (nI n &&& 31)) i = if n + i < 32 then bt x (n + i) else bt x 31 := by
  unfold bt
  rw [Int32.toBitVec_shiftRight]
  show (x.toBitVec.sshiftRight ((nI n &&& 31).toBitVec.smod 32).toNat).getLsbD i = _
  rw [s_l n hn, BitVec.getLsbD_sshiftRight, BitVec.msb_eq_getLsbD_last]
  simp [hi]
theorem b_shl8 (x : Int32) {i : Nat} (hi : i < 32) : bt (x <<< ((8 : Int32) &&& 31)) i = (decide (8 ≤ i) && bt x (i - 8)) := b_shl 8 (by omega) x hi
theorem b_shl16 (x : Int32) {i : Nat} (hi : i < 32) : bt (x <<< ((16 : Int32) &&& 31)) i = (decide (16 ≤ i) && bt x (i - 16)) := b_shl 16 (by omega) x hi
theorem b_shl24 (x : Int32) {i : Nat} (hi : i < 32) : bt (x <<< ((24 : Int32) &&& 31)) i = (decide (24 ≤ i) && bt x (i - 24)) := b_shl 24 (by omega) x hi
theorem b_sshr8 (x : Int32) {i : Nat} (hi : i < 32) : bt (x >>> ((8 : Int32) &&& 31)) i = if 8 + i < 32 then bt x (8 + i) else bt x 31 := b_sshr 8 (by omega) x hi
/-! a sign s and a size z in one word -/
theorem nat_and_pow {s z sb : Nat} (hs : s ≤ 1) (hz : z < 2 ^ sb) : (s * 2 ^ sb + z) &&& 2 ^ sb = s * 2 ^ sb := by
  apply Nat.eq_of_testBit_eq
  intro i
  rw [Nat.testBit_and, Nat.testBit_two_pow]
  rcases (show s = 0 ∨ s = 1 by omega) with rfl | rfl
  · rw [Nat.zero_mul, Nat.zero_add, Nat.zero_testBit]
    by_cases hi : sb = i
    · subst hi; rw [Nat.testBit_lt_two_pow hz]; rfl
    · simp [hi]
  · rw [Nat.one_mul, Nat.testBit_two_pow]
    by_cases hi : sb = i
    · subst hi; rw [Nat.testBit_two_pow_add_eq, Nat.testBit_lt_two_pow hz]; simp
    · simp [hi]
theorem nat_or_pow {z sb : Nat} (hz : z < 2 ^ sb) : z ||| 2 ^ sb = 1 * 2 ^ sb + z := by
  have := Nat.two_pow_add_eq_or_of_lt hz 1
  rw [Nat.mul_one] at this
  rw [Nat.or_comm, ← this, Nat.one_mul]
theorem nat_xor_pow {s z sb : Nat} (hs : s ≤ 1) (hz : z < 2 ^ sb) : (s * 2 ^ sb + z) ^^^ 2 ^ sb = (1 - s) * 2 ^ sb + z := by
  have h0 : z ^^^ 2 ^ sb = 2 ^ sb + z := by
    apply Nat.eq_of_testBit_eq
    intro i
    rw [Nat.testBit_xor, Nat.testBit_two_pow]
    by_cases hi : sb = i
    · subst hi; rw [Nat.testBit_two_pow_add_eq, Nat.testBit_lt_two_pow hz]; simp
    · rcases Nat.lt_or_ge i sb with q | q
      · rw [Nat.testBit_two_pow_add_gt q]; simp [hi]
      · have hz2 : z < 2 ^ i := Nat.lt_of_lt_of_le hz (Nat.pow_le_pow_right (by omega) q)
        have h2 : 2 ^ sb + z < 2 ^ i := by
          have : 2 ^ (sb + 1) ≤ 2 ^ i := Nat.pow_le_pow_right (by omega) (by omega)
          rw [Nat.pow_succ] at this; omega
        rw [Nat.testBit_lt_two_pow hz2, Nat.testBit_lt_two_pow h2]; simp [hi]
  rcases (show s = 0 ∨ s = 1 by omega) with rfl | rfl
  · rw [Nat.zero_mul, Nat.zero_add, h0]; omega
  · rw [Nat.one_mul, ← h0, Nat.xor_assoc, Nat.xor_self, Nat.xor_zero]; omega
/-- the sign's bit of a kind -/
def Ks (kind : Int32) (sb : Nat) : Prop := fX0_signBit kind = lN (2 ^ sb) ∧ sb ≤ 63 ∧ (∀ u : Nat, u < 2 ^ (sb + 1) → lN u &&& (fX0_signBit kind ^^^ (-1 : Int64)) = lN (u % 2 ^ sb))
theorem Ks6 : Ks 6 31 := by
  refine ⟨by decide, by decide, fun u hu => ?_⟩
  rw [show fX0_signBit 6 ^^^ (-1 : Int64) = lN (2 ^ 64 - 1 - 2 ^ 31) from by decide, wb_and (by omega) (by decide)]
  congr 1
  have e1 : u = u &&& (2 ^ 32 - 1) := by rw [Nat.and_two_pow_sub_one_eq_mod, Nat.mod_eq_of_lt hu]
  rw [e1, Nat.and_assoc, show (2 ^ 32 - 1) &&& (2 ^ 64 - 1 - 2 ^ 31) = 2 ^ 31 - 1 from by decide, Nat.and_two_pow_sub_one_eq_mod, ← e1]
theorem Ks7 : Ks 7 63 := by
  refine ⟨by decide, by decide, fun u hu => ?_⟩
  rw [show fX0_signBit 7 ^^^ (-1 : Int64) = lN (2 ^ 63 - 1) from by decide]
  exact wb_mask (by omega) (by decide)
theorem sz_lt {s z sb : Nat} (hs : s ≤ 1) (hz : z < 2 ^ sb) : s * 2 ^ sb + z < 2 ^ (sb + 1) := by
  rw [Nat.pow_succ]
  have := Nat.mul_le_mul_right (2 ^ sb) hs
  omega
theorem sz_mod {s z sb : Nat} (hz : z < 2 ^ sb) : (s * 2 ^ sb + z) % 2 ^ sb = z := by
  rw [Nat.mul_comm, Nat.mul_add_mod, Nat.mod_eq_of_lt hz]
section KIND
variable {kind : Int32} {sb s z : Nat}
theorem size_is (K : Ks kind sb) (hs : s ≤ 1) (hz : z < 2 ^ sb) : fX0_size kind (lN (s * 2 ^ sb + z)) = lN z := by
  rw [fX0_size, fX0_size_0, K.2.2 _ (sz_lt hs hz), sz_mod hz]
theorem neg_is (K : Ks kind sb) (hs : s ≤ 1) (hz : z < 2 ^ sb) : fX0_isNegative kind (lN (s * 2 ^ sb + z)) = nI s := by
  have h1 := sz_lt hs hz
  have hsb := K.2.1
  have h2 : 2 ^ (sb + 1) ≤ 2 ^ 64 := Nat.pow_le_pow_right (by omega) (by omega)
  have h3 : 2 ^ sb < 2 ^ (sb + 1) := Nat.pow_lt_pow_right (by omega) (by omega)
  rw [fX0_isNegative, fX0_isNegative_0, K.1, wb_and (by omega) (by omega), nat_and_pow hs hz, lN_0]
  rcases (show s = 0 ∨ s = 1 by omega) with rfl | rfl
  · rw [Nat.zero_mul, if_pos rfl]; rfl
  · rw [Nat.one_mul, if_neg (by rw [lN_inj (by omega) (by decide)]; omega)]; rfl
theorem signed_is (K : Ks kind sb) (hs : s ≤ 1) (hz : z < 2 ^ sb) : fX0_signed kind (nI s) (lN z) = lN (s * 2 ^ sb + z) := by
  have hsb := K.2.1
  have h2 : 2 ^ sb ≤ 2 ^ 63 := Nat.pow_le_pow_right (by omega) (by omega)
  rw [fX0_signed, fX0_signed_0, K.1]
  rcases (show s = 0 ∨ s = 1 by omega) with rfl | rfl
  · rw [if_pos (show nI 0 = 0 from rfl), Nat.zero_mul, Nat.zero_add]
  · rw [if_neg (show ¬ nI 1 = 0 by decide), wb_or (by omega) (by omega), nat_or_pow hz]
theorem negated_is (K : Ks kind sb) (hs : s ≤ 1) (hz : z < 2 ^ sb) : fX0_negated kind (lN (s * 2 ^ sb + z)) = lN ((1 - s) * 2 ^ sb + z) := by
  rw [fX0_negated, fX0_negated_0, K.1, lN_xor, nat_xor_pow hs hz]
theorem ite_eq10 {c d : Prop} [Decidable c] [Decidable d] (h : c ↔ d) : (if c then (1 : Int32) else 0) = if d then 1 else 0 := by simp only [h]
theorem inf_is {fb ga : Nat} {em : Int} (K : Ks kind sb) (F : Kd kind fb em ga) (hs : s ≤ 1) (hz : z < 2 ^ sb) : fX0_isInfinite kind (lN (s * 2 ^ sb + z)) = if z = (ga + 2) * 2 ^ fb then 1 else 0 := by
  have h2 : 2 ^ sb ≤ 2 ^ 63 := Nat.pow_le_pow_right (by omega) K.2.1
  have h10 := F.2.2.2.2.2.2.2.2.2
  rw [fX0_isInfinite, fX0_isInfinite_0, size_is K hs hz, F.2.2.2.1]
  exact ite_eq10 (lN_inj (by omega) (by omega))
theorem zero_is (K : Ks kind sb) (hs : s ≤ 1) (hz : z < 2 ^ sb) : fX0_isZero kind (lN (s * 2 ^ sb + z)) = if z = 0 then 1 else 0 := by
  have h2 : 2 ^ sb ≤ 2 ^ 63 := Nat.pow_le_pow_right (by omega) K.2.1
  rw [fX0_isZero, fX0_isZero_0, size_is K hs hz, lN_0]
  exact ite_eq10 (lN_inj (by omega) (by omega))
theorem num_is {fb ga : Nat} {em : Int} (K : Ks kind sb) (F : Kd kind fb em ga) (hs : s ≤ 1) (hz : z < 2 ^ sb) : fX0_isNumber kind (lN (s * 2 ^ sb + z)) = if z ≤ (ga + 2) * 2 ^ fb then 1 else 0 := by
  have h2 : 2 ^ sb ≤ 2 ^ 63 := Nat.pow_le_pow_right (by omega) K.2.1
  have h10 := F.2.2.2.2.2.2.2.2.2
  rw [fX0_isNumber, fX0_isNumber_0, size_is K hs hz, fX0_isNumber_6, lN_0, F.2.2.2.1, if_neg (by rw [lN_lt63 (by omega) (by omega)]; omega)]
  by_cases h : z ≤ (ga + 2) * 2 ^ fb
  · rw [if_neg (by rw [lN_lt63 (by omega) (by omega)]; omega), if_pos h]
  · rw [if_pos (by rw [lN_lt63 (by omega) (by omega)]; omega), if_neg h]
theorem mag_is {fb ga : Nat} {em : Int} (K : Ks kind sb) (F : Kd kind fb em ga) (hfs : fb < sb) (hs : s ≤ 1) (hz : z < 2 ^ sb) : fX0_magnitude kind (lN (s * 2 ^ sb + z)) = lN (Mg fb z) := by
  have hlt := sz_lt hs hz
  have hsb := K.2.1
  have hfb := F.2.2.2.2.1
  have h2 : 2 ^ (sb + 1) ≤ 2 ^ 64 := Nat.pow_le_pow_right (by omega) (by omega)
  have h3 : 2 ^ fb < 2 ^ 63 := Nat.pow_lt_pow_right (by omega) (by omega)
  have h4 : 2 ^ sb ≤ 2 ^ 63 := Nat.pow_le_pow_right (by omega) K.2.1
  rw [fX0_magnitude, fX0_magnitude_0, fX0_magnitude_7, fX0_magnitude_14, size_is K hs hz, F.1, mask_lN (by omega) (by omega), lN_one, jshl_lN _ (by omega), Nat.one_mul]
  have e1 : (s * 2 ^ sb + z) % 2 ^ fb = z % 2 ^ fb := by
    rw [show 2 ^ sb = 2 ^ fb * 2 ^ (sb - fb) by rw [← Nat.pow_add]; congr 1; omega, Nat.mul_comm s, Nat.mul_assoc, Nat.mul_add_mod]
  rw [e1, lN_add]
  unfold Mg
  by_cases h : z < 2 ^ fb
  · rw [if_pos ((lN_lt63 (by omega) (by omega)).mpr h), if_pos h, Nat.mod_eq_of_lt h]
  · rw [if_neg (fun q => h ((lN_lt63 (by omega) (by omega)).mp q)), if_neg h]
theorem exp_is {fb ga : Nat} {em : Int} (K : Ks kind sb) (F : Kd kind fb em ga) (hb : z / 2 ^ fb < 100000) (hs : s ≤ 1) (hz : z < 2 ^ sb) : fX0_exponent kind (lN (s * 2 ^ sb + z)) = iI (em + Xp fb z) := by
  have h4 : 2 ^ sb ≤ 2 ^ 63 := Nat.pow_le_pow_right (by omega) K.2.1
  have hfb := F.2.2.2.2.1
  rw [fX0_exponent, fX0_exponent_0, fX0_exponent_12, size_is K hs hz, F.1, F.2.1, jushr_lN (by omega) (by omega), lN_i, imax, show (1 : Int32) = nI 1 from rfl]
  unfold Xp
  by_cases h : z / 2 ^ fb < 1
  · rw [if_pos ((nI_ltI (by omega) (by omega)).mpr h), nI_iI, iI_add, iI_sub]; congr 1; omega
  · rw [if_neg (fun q => h ((nI_ltI (by omega) (by omega)).mp q)), nI_iI, nI_iI, iI_add, iI_sub]; congr 1; omega
end KIND
