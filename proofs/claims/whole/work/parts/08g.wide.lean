/-! the reference's view of a double: sign s, size z -/
def INF64 : Nat := 2047 * 2 ^ 52
def INF32 : Nat := 255 * 2 ^ 23
def Sg (fb z : Nat) : Nat := Mg fb z * 2 ^ (52 - (Mg fb z).log2)
def Eg (fb : Nat) (em : Int) (z : Nat) : Int := em + Xp fb z - (52 - (Mg fb z).log2 : Nat)
theorem Sg_bounds {fb z : Nat} (hfb : fb ≤ 52) (h : 0 < z) : 2 ^ 52 ≤ Sg fb z ∧ Sg fb z < 2 ^ 53 := by
  have hm := Mg_pos (fb := fb) h
  have h1 := log2_lt hm (Mg_lt fb z)
  have hlo := log2_lo hm
  have hhi := log2_hi (Mg fb z)
  unfold Sg
  constructor
  · refine Nat.le_trans ?_ (Nat.mul_le_mul_right _ hlo)
    rw [← Nat.pow_add]; exact Nat.pow_le_pow_right (by omega) (by omega)
  · refine Nat.lt_of_lt_of_le (Nat.mul_lt_mul_of_pos_right hhi (Nat.two_pow_pos _)) ?_
    rw [← Nat.pow_add]; exact Nat.pow_le_pow_right (by omega) (by omega)
section DBL
variable {s z : Nat}
theorem d_u (hs : s ≤ 1) (hz : z < 2 ^ 63) : s * 2 ^ 63 + z < 2 ^ 64 := sz_lt hs hz
theorem d_abs (hs : s ≤ 1) (hz : z < 2 ^ 63) : lN (s * 2 ^ 63 + z) &&& (9223372036854775807 : Int64) = lN z := by
  rw [show (9223372036854775807 : Int64) = lN (2 ^ 63 - 1) from rfl, wb_mask (d_u hs hz) (by decide), sz_mod hz]
theorem d_lt0 (hs : s ≤ 1) (hz : z < 2 ^ 63) : lN (s * 2 ^ 63 + z) < 0 ↔ s = 1 := by
  have := d_u hs hz
  rw [Int64.lt_iff_toInt_lt, lN_ti this, show (0 : Int64).toInt = 0 from rfl]
  rcases (show s = 0 ∨ s = 1 by omega) with rfl | rfl
  · rw [if_pos (by omega)]; omega
  · rw [if_neg (by omega)]; omega
theorem none_is (hs : s ≤ 1) (hz : z < 2 ^ 63) : fX2_isNone (lN (s * 2 ^ 63 + z)) = if z ≤ INF64 then 0 else 1 := by
  rw [fX2_isNone, fX2_isNone_0, d_abs hs hz, show (9218868437227405312 : Int64) = lN INF64 from rfl]
  have h9 : INF64 < 2 ^ 63 := by decide
  by_cases h : z ≤ INF64
  · rw [if_neg (by rw [lN_lt63 h9 hz]; omega), if_pos h]
  · rw [if_pos (by rw [lN_lt63 h9 hz]; omega), if_neg h]
theorem infd_is (hs : s ≤ 1) (hz : z < 2 ^ 63) : fX2_isInfinite (lN (s * 2 ^ 63 + z)) = if z = INF64 then 1 else 0 := by
  rw [fX2_isInfinite, fX2_isInfinite_0, d_abs hs hz, show (9218868437227405312 : Int64) = lN INF64 from rfl]
  exact ite_eq10 (lN_inj (by omega) (by decide))
theorem zerod_is (hs : s ≤ 1) (hz : z < 2 ^ 63) : fX2_isZero (lN (s * 2 ^ 63 + z)) = if z = 0 then 1 else 0 := by
  rw [fX2_isZero, fX2_isZero_0, d_abs hs hz, lN_0]
  exact ite_eq10 (lN_inj (by omega) (by decide))
theorem jshr_pos {n k : Nat} (hn : n < 2 ^ 63) (hk : k < 64) : jshr (lN n) (nI k) = lN (n / 2 ^ k) := by
  unfold jshr
  rw [wb_c k hk]
  apply Int64.toBitVec_inj.mp
  rw [Int64.toBitVec_shiftRight, wb_tb, wb_tb, wb_tb, wb_sm k hk]
  apply BitVec.eq_of_toNat_eq
  have hm : (BitVec.ofNat 64 n).msb = false := by
    rw [BitVec.msb_eq_decide, BitVec.toNat_ofNat, Nat.mod_eq_of_lt (by omega)]
    simp; omega
  rw [BitVec.sshiftRight'] 
  rw [BitVec.sshiftRight_eq_of_msb_false hm]
  rw [BitVec.toNat_ushiftRight, BitVec.toNat_ofNat, BitVec.toNat_ofNat, BitVec.toNat_ofNat, Nat.mod_eq_of_lt (show k < 2 ^ 64 by omega), Nat.mod_eq_of_lt (show n < 2 ^ 64 by omega), Nat.shiftRight_eq_div_pow, Nat.mod_eq_of_lt (Nat.lt_of_le_of_lt (Nat.div_le_self _ _) (show n < 2 ^ 64 by omega))]
theorem jshr_neg {n k : Nat} (hn : n < 2 ^ 64) (hn2 : 2 ^ 63 ≤ n) (hk : k < 64) : jshr (lN n) (nI k) = lN (2 ^ 64 - 1 - (2 ^ 64 - 1 - n) / 2 ^ k) := by
  unfold jshr
  rw [wb_c k hk]
  apply Int64.toBitVec_inj.mp
  rw [Int64.toBitVec_shiftRight, wb_tb, wb_tb, wb_tb, wb_sm k hk]
  apply BitVec.eq_of_toNat_eq
  have hm : (BitVec.ofNat 64 n).msb = true := by
    rw [BitVec.msb_eq_decide, BitVec.toNat_ofNat, Nat.mod_eq_of_lt (by omega)]
    simp; omega
  rw [BitVec.sshiftRight']
  rw [BitVec.sshiftRight_eq_of_msb_true hm]
  rw [BitVec.toNat_not, BitVec.toNat_ushiftRight, BitVec.toNat_not, BitVec.toNat_ofNat, BitVec.toNat_ofNat, BitVec.toNat_ofNat, Nat.mod_eq_of_lt (show k < 2 ^ 64 by omega), Nat.mod_eq_of_lt hn, Nat.shiftRight_eq_div_pow, Nat.mod_eq_of_lt (Nat.lt_of_le_of_lt (Nat.sub_le _ _) (by decide))]
theorem d_field (hs : s ≤ 1) (hz : z < 2 ^ 63) : jshr (lN (s * 2 ^ 63 + z)) (52 : Int32) &&& (2047 : Int64) = lN (z / 2 ^ 52) := by
  have hu := d_u hs hz
  rw [show (52 : Int32) = nI 52 from rfl, show (2047 : Int64) = lN (2 ^ 11 - 1) from rfl]
  rcases (show s = 0 ∨ s = 1 by omega) with rfl | rfl
  · rw [Nat.zero_mul, Nat.zero_add, jshr_pos hz (by decide), wb_mask (by omega) (by decide), Nat.mod_eq_of_lt (by omega)]
  · rw [jshr_neg hu (by omega) (by decide), wb_mask (by omega) (by decide)]
    congr 1
    omega
theorem d_frac (hs : s ≤ 1) (hz : z < 2 ^ 63) : lN (s * 2 ^ 63 + z) &&& (4503599627370495 : Int64) = lN (z % 2 ^ 52) := by
  have hu := d_u hs hz
  rw [show (4503599627370495 : Int64) = lN (2 ^ 52 - 1) from rfl, wb_mask hu (by decide)]
  congr 1
  omega
theorem exp_loop : ∀ (fuel m : Nat) (e : Int), 0 < m → m < 2 ^ 53 → 53 ≤ fuel + m.log2 → fX2_exponent_31 fuel (iI e) (lN m) = iI (e - (52 - m.log2 : Nat)) ∧ okX2_exponent_31 fuel (iI e) (lN m) := by
  intro fuel
  induction fuel with
  | zero => intro m e h0 hm hf; have := log2_lt h0 hm; omega
  | succ fuel ih =>
    intro m e h0 hm hf
    rw [fX2_exponent_31, okX2_exponent_31, show (4503599627370496 : Int64) = lN (2 ^ 52) from rfl]
    have hq := lN_lt63 (show m < 2 ^ 63 by omega) (show 2 ^ 52 < 2 ^ 63 by decide)
    have hl := log2_lt h0 hm
    by_cases hc : m < 2 ^ 52
    · have hl1 := log2_lt h0 hc
      have l2 := log2_shl h0 1
      rw [if_pos (hq.mpr hc), show jshl (lN m) (1 : Int32) = lN (m * 2 ^ 1) from jshl_lN m (k := 1) (by decide), show (-1 : Int32) = iI (-1) from by decide, iI_add]
      obtain ⟨h1, h2⟩ := ih (m * 2 ^ 1) (e + -1) (by omega) (by omega) (by omega)
      refine ⟨?_, fun _ => h2, fun h => absurd (hq.mpr hc) h⟩
      rw [h1, l2]; congr 1; omega
    · have := log2_ge (show 2 ^ 52 ≤ m by omega)
      rw [if_neg (fun h => hc (hq.mp h))]
      refine ⟨?_, fun h => absurd (hq.mp h) hc, fun _ => trivial⟩
      congr 1; omega
theorem sig_loop : ∀ (fuel m : Nat), 0 < m → m < 2 ^ 53 → 53 ≤ fuel + m.log2 → fX2_significand_25 fuel (lN m) = lN (m * 2 ^ (52 - m.log2)) ∧ okX2_significand_25 fuel (lN m) := by
  intro fuel
  induction fuel with
  | zero => intro m h0 hm hf; have := log2_lt h0 hm; omega
  | succ fuel ih =>
    intro m h0 hm hf
    rw [fX2_significand_25, okX2_significand_25, show (4503599627370496 : Int64) = lN (2 ^ 52) from rfl]
    have hq := lN_lt63 (show m < 2 ^ 63 by omega) (show 2 ^ 52 < 2 ^ 63 by decide)
    have hl := log2_lt h0 hm
    by_cases hc : m < 2 ^ 52
    · have hl1 := log2_lt h0 hc
      have l2 := log2_shl h0 1
      rw [if_pos (hq.mpr hc), show jshl (lN m) (1 : Int32) = lN (m * 2 ^ 1) from jshl_lN m (k := 1) (by decide)]
      obtain ⟨h1, h2⟩ := ih (m * 2 ^ 1) (by omega) (by omega) (by omega)
      refine ⟨?_, fun _ => h2, fun h => absurd (hq.mpr hc) h⟩
      rw [h1, l2, Nat.mul_assoc, ← Nat.pow_add]; congr 3; omega
    · have := log2_ge (show 2 ^ 52 ≤ m by omega)
      rw [if_neg (fun h => hc (hq.mp h))]
      refine ⟨?_, fun h => absurd (hq.mp h) hc, fun _ => trivial⟩
      rw [show 52 - m.log2 = 0 by omega, Nat.pow_zero, Nat.mul_one]
theorem Mg52_log {z : Nat} (h : 2 ^ 52 ≤ z) : (Mg 52 z).log2 = 52 := log2_is (Mg_ge h) (Mg_lt 52 z)
theorem expd_is (hs : s ≤ 1) (h0 : 0 < z) (hz : z < INF64) : fX2_exponent (lN (s * 2 ^ 63 + z)) = iI (Eg 52 (-1074) z) ∧ okX2_exponent (lN (s * 2 ^ 63 + z)) := by
  have h9 : INF64 = 2047 * 2 ^ 52 := rfl
  have hz63 : z < 2 ^ 63 := by omega
  rw [fX2_exponent, fX2_exponent_0, fX2_exponent_10, okX2_exponent, okX2_exponent_0, okX2_exponent_10, d_field hs hz63, d_frac hs hz63, lN_i]
  unfold Eg
  by_cases h : z < 2 ^ 52
  · have hF : z / 2 ^ 52 = 0 := by omega
    have hn : ¬ (0 : Int32) < nI 0 := by decide
    rw [hF, if_neg hn, Nat.mod_eq_of_lt h, Mg_Xp h]
    obtain ⟨h1, h2⟩ := exp_loop 64 z (-1074) h0 (by omega) (by omega)
    refine ⟨?_, fun q => absurd q hn, fun _ => h2⟩
    rw [show Mg 52 z = z by unfold Mg; rw [if_pos h], show (-1074 : Int32) = iI (-1074) from by decide, h1]
    congr 1
  · have hp : (0 : Int32) < nI (z / 2 ^ 52) := (nI_ltI (a := 0) (by decide) (by omega)).mpr (by omega)
    rw [if_pos hp, Mg52_log (by omega)]
    refine ⟨?_, fun _ => trivial, fun q => absurd hp q⟩
    unfold Xp
    rw [nI_iI, show (1075 : Int32) = iI 1075 from by decide, iI_sub]; congr 1; omega
theorem sigd_is (hs : s ≤ 1) (h0 : 0 < z) (hz : z < INF64) : fX2_significand (lN (s * 2 ^ 63 + z)) = lN (Sg 52 z) ∧ okX2_significand (lN (s * 2 ^ 63 + z)) := by
  have h9 : INF64 = 2047 * 2 ^ 52 := rfl
  have hz63 : z < 2 ^ 63 := by omega
  rw [fX2_significand, fX2_significand_0, fX2_significand_6, okX2_significand, okX2_significand_0, okX2_significand_6, d_field hs hz63, d_frac hs hz63]
  unfold Sg
  by_cases h : z < 2 ^ 52
  · have hF : z / 2 ^ 52 = 0 := by omega
    have hn : ¬ (0 : Int64) < lN 0 := by decide
    rw [hF, if_neg hn, Nat.mod_eq_of_lt h]
    obtain ⟨h1, h2⟩ := sig_loop 64 z h0 (by omega) (by omega)
    refine ⟨?_, fun q => absurd q hn, fun _ => h2⟩
    rw [show Mg 52 z = z by unfold Mg; rw [if_pos h], h1]
  · have hp : (0 : Int64) < lN (z / 2 ^ 52) := (lN_lt63 (a := 0) (by decide) (by omega)).mpr (by omega)
    rw [if_pos hp, Mg52_log (by omega)]
    refine ⟨?_, fun _ => trivial, fun q => absurd hp q⟩
    have hm := Nat.mod_lt z (show 0 < 2 ^ 52 by decide)
    rw [show (4503599627370496 : Int64) = lN (2 ^ 52) from rfl, wb_or (by omega) (by decide), nat_or_pow hm, show 52 - 52 = 0 from rfl, Nat.pow_zero, Nat.mul_one]
    unfold Mg
    rw [if_neg h]; congr 1; omega
end DBL
