theorem iI_lt0 {a : Int} (h1 : -2147483648 ≤ a) (h2 : a < 2147483648) : iI a < 0 ↔ a < 0 := iI_lt (b := 0) h1 h2 (by decide) (by decide)
theorem iI_0lt {a : Int} (h1 : -2147483648 ≤ a) (h2 : a < 2147483648) : 0 < iI a ↔ 0 < a := iI_lt (a := 0) (by decide) (by decide) h1 h2
/-- what is known of a kind of floating numbers -/
def Kd (kind : Int32) (fb : Nat) (em : Int) (ga : Nat) : Prop := fX0_fractionBits kind = nI fb ∧ fX0_leastExponent kind = iI em ∧ fX0_greatestAbove kind = iI ga ∧ fX0_infinity kind = lN ((ga + 2) * 2 ^ fb) ∧ fb ≤ 52 ∧ 1 ≤ fb ∧ ga ≤ 2045 ∧ -1074 ≤ em ∧ em ≤ 0 ∧ (ga + 2) * 2 ^ fb < 2 ^ 63
theorem Kd6 : Kd 6 23 (-149) 253 := ⟨by decide, by decide, by decide, by decide, by decide, by decide, by decide, by decide, by decide, by decide⟩
theorem Kd7 : Kd 7 52 (-1074) 2045 := ⟨by decide, by decide, by decide, by decide, by decide, by decide, by decide, by decide, by decide, by decide⟩
theorem nearest_is {kind neg : Int32} {fb ga M : Nat} {em e : Int} (K : Kd kind fb em ga) (h0 : 0 < M) (hM : M < 2 ^ 63) (he1 : -100000 ≤ e) (he2 : e ≤ 100000) :
    fX0_nearest kind neg (lN M) (iI e) = fX0_signed kind neg (lN (min ((ga + 2) * 2 ^ fb) (RD fb M (e - em)))) := by
  obtain ⟨k1, k2, k3, k4, h5, h6, h7, h8, h9, h10⟩ := K
  have hlg := log2_lt h0 hM
  have hlo := log2_lo h0
  have hhi := log2_hi M
  have e6 : (62 : Int32) - nI fb = iI (62 - fb) := by rw [nI_iI, show (62 : Int32) = iI 62 from by decide, iI_sub]
  have e7 : ((iI e - nI (62 - M.log2)) + iI (62 - fb)) - iI em = iI (e - em + M.log2 - fb) := by
    rw [nI_iI, iI_sub, iI_add, iI_sub]; congr 1; omega
  rw [fX0_nearest, fX0_nearest_0, if_neg (by rw [lN_0, lN_inj (by omega) (by omega)]; omega), fX0_nearest_21, fX0_nearest_30, fX0_nearest_45, fX0_nearest_76, k1, k2, k3, k4,
    show fX0_roomBelow (62 : Int32) (lN M) = nI (62 - M.log2) from roomBelow_is (top := 62) h0 (by decide) hM, e6, e7]
  have hsh : jshl (lN M) (nI (62 - M.log2)) = lN (M * 2 ^ (62 - M.log2)) := jshl_lN _ (by omega)
  have hX : M * 2 ^ (62 - M.log2) < 2 ^ 63 := by
    refine Nat.lt_of_lt_of_le (Nat.mul_lt_mul_of_pos_right hhi (Nat.two_pow_pos _)) ?_
    rw [← Nat.pow_add]; exact Nat.pow_le_pow_right (by omega) (by omega)
  have hfb : 2 ^ (fb + 1) = 2 ^ fb + 2 ^ fb := by rw [Nat.pow_succ]; omega
  by_cases c1 : (ga : Int) < e - em + M.log2 - fb
  · rw [if_pos ((iI_lt (by omega) (by omega) (by omega) (by omega)).mpr c1)]
    obtain ⟨d, hd⟩ : ∃ d : Nat, (d : Int) = (e - em + M.log2 - fb).toNat - (e - em) + (62 - M.log2 : Nat) := ⟨(62 - fb : Int).toNat, by omega⟩
    have hb := (kept_bounds h0 hd).2 (by omega)
    have hge : (ga + 2) * 2 ^ fb ≤ RD fb M (e - em) := by
      rw [RD_eval h0 hd]
      have h1 : (ga + 1) * 2 ^ fb ≤ (e - em + M.log2 - fb).toNat * 2 ^ fb := Nat.mul_le_mul_right _ (by omega)
      rw [show ga + 2 = ga + 1 + 1 from rfl, Nat.add_mul, Nat.one_mul]; omega
    rw [Nat.min_eq_left hge]
  · rw [if_neg (fun q => c1 ((iI_lt (by omega) (by omega) (by omega) (by omega)).mp q))]
    have fin : ∀ (t d : Nat), (t : Int) = (e - em + M.log2 - fb).toNat → (d : Int) = (e - em + M.log2 - fb).toNat - (e - em) + (62 - M.log2 : Nat) → 1 ≤ d → d < 2147483648 →
        fX0_nearest_79 kind neg (lN M) (nI (62 - M.log2)) (iI d) (nI t) = fX0_signed kind neg (lN (min ((ga + 2) * 2 ^ fb) (RD fb M (e - em)))) := by
      intro t d ht hd hd1 hd2
      rw [fX0_nearest_79, fX0_nearest_90, k1, hsh, roundedDown_is hX (by omega) (by omega), Int.toNat_natCast, nI_toInt64 (by omega), jshl_lN _ (by omega), lN_add]
      have hR := RD_eval (fb := fb) h0 hd
      have hk := (kept_bounds h0 hd).1
      have hle : RD fb M (e - em) ≤ (ga + 2) * 2 ^ fb := by
        rw [hR]
        have h1 : (e - em + M.log2 - fb).toNat * 2 ^ fb ≤ ga * 2 ^ fb := Nat.mul_le_mul_right _ (by omega)
        rw [Nat.add_mul]; omega
      rw [Nat.min_eq_right hle, hR, show (e - em + M.log2 - fb).toNat = t by omega]
    by_cases c2 : e - em + M.log2 - fb < 0
    · rw [if_pos ((iI_lt0 (by omega) (by omega)).mpr c2), iI_sub]
      have := fin 0 (62 - fb - (e - em + M.log2 - fb) : Int).toNat (by omega) (by omega) (by omega) (by omega)
      rw [Int.toNat_of_nonneg (by omega)] at this
      exact this
    · rw [if_neg (fun q => c2 ((iI_lt0 (by omega) (by omega)).mp q))]
      have := fin (e - em + M.log2 - fb).toNat (62 - fb) (by omega) (by omega) (by omega) (by omega)
      rw [nI_iI (e - em + M.log2 - fb).toNat, Int.toNat_of_nonneg (by omega), show ((62 - fb : Nat) : Int) = 62 - (fb : Int) by omega] at this
      exact this
