/-! ints as whole numbers, longs as naturals -/
def iI (z : Int) : Int32 := Int32.ofInt z
theorem iI_add (a b : Int) : iI a + iI b = iI (a + b) := (Int32.ofInt_add a b).symm
theorem iI_sub (a b : Int) : iI a - iI b = iI (a - b) := (Int32.ofInt_sub a b).symm
theorem iI_neg (a : Int) : -iI a = iI (-a) := (Int32.ofInt_neg a).symm
theorem iI_toInt {z : Int} (h1 : -2147483648 ≤ z) (h2 : z < 2147483648) : (iI z).toInt = z := fb_ofI h1 h2
theorem iI_self (x : Int32) : iI x.toInt = x := fb_asI x
theorem iI_lt {a b : Int} (h1 : -2147483648 ≤ a) (h2 : a < 2147483648) (h3 : -2147483648 ≤ b) (h4 : b < 2147483648) : iI a < iI b ↔ a < b := by
  rw [Int32.lt_iff_toInt_lt, iI_toInt h1 h2, iI_toInt h3 h4]
theorem iI_eq {a b : Int} (h1 : -2147483648 ≤ a) (h2 : a < 2147483648) (h3 : -2147483648 ≤ b) (h4 : b < 2147483648) : iI a = iI b ↔ a = b := by
  rw [← Int32.toInt_inj, iI_toInt h1 h2, iI_toInt h3 h4]
theorem nI_iI (n : Nat) : nI n = iI n := (Int32.ofInt_eq_ofNat (n := n)).symm
theorem nI_iI_toNat {z : Int} (h : 0 ≤ z) : iI z = nI z.toNat := by rw [nI_iI, Int.toNat_of_nonneg h]
theorem jshl_lN (n : Nat) {k : Nat} (hk : k < 64) : jshl (lN n) (nI k) = lN (n * 2 ^ k) := wb_shl n hk
theorem jushr_lN {n k : Nat} (hn : n < 2 ^ 64) (hk : k < 64) : jushr (lN n) (nI k) = lN (n / 2 ^ k) := wb_shr hn hk
theorem lN_0 : (0 : Int64) = lN 0 := rfl
theorem lN_one : (1 : Int64) = lN 1 := rfl
theorem lN_inj {a b : Nat} (ha : a < 2 ^ 64) (hb : b < 2 ^ 64) : lN a = lN b ↔ a = b := by
  constructor
  · intro h
    have := congrArg (fun x : Int64 => x.toBitVec.toNat) h
    simp only [wb_tn ha, wb_tn hb] at this
    exact this
  · intro h; rw [h]
theorem lN_lt63 {a b : Nat} (ha : a < 2 ^ 63) (hb : b < 2 ^ 63) : lN a < lN b ↔ a < b := pk_lLT ha hb
theorem nI_toInt64 {n : Nat} (h : n < 2 ^ 31) : (nI n).toInt64 = lN n := nI_l h
theorem rne_le {N D c : Nat} (hD : 0 < D) (h : N < c * D) : rne N D ≤ c := by
  have : N / D < c := (Nat.div_lt_iff_lt_mul hD).mpr h
  unfold rne; split <;> omega
theorem rne_ge {N D c : Nat} (hD : 0 < D) (h : c * D ≤ N) : c ≤ rne N D := by
  have : c ≤ N / D := (Nat.le_div_iff_mul_le hD).mpr h
  unfold rne; split <;> omega
/-- the bits that RD keeps, where the number isn't below the least exponent -/
theorem kept_bounds {fb M p d : Nat} {w : Int} (hM : 0 < M) (hd : (d : Int) = (w + M.log2 - fb).toNat - w + p) : rne (M * 2 ^ p) (2 ^ d) ≤ 2 ^ (fb + 1) ∧ (0 ≤ w + M.log2 - fb → 2 ^ fb ≤ rne (M * 2 ^ p) (2 ^ d)) := by
  have hlo := log2_lo hM
  have hhi := log2_hi M
  constructor
  · refine rne_le (Nat.two_pow_pos d) ?_
    rw [← Nat.pow_add]
    refine Nat.lt_of_lt_of_le (Nat.mul_lt_mul_of_pos_right hhi (Nat.two_pow_pos p)) ?_
    rw [← Nat.pow_add]
    exact Nat.pow_le_pow_right (by omega) (by omega)
  · intro h
    refine rne_ge (Nat.two_pow_pos d) ?_
    rw [← Nat.pow_add]
    refine Nat.le_trans ?_ (Nat.mul_le_mul_right (2 ^ p) hlo)
    rw [← Nat.pow_add]
    exact Nat.pow_le_pow_right (by omega) (by omega)
theorem roomBelow_loop {top n : Nat} (h0 : 0 < n) (ht : top ≤ 62) : ∀ (fuel r : Nat), r + n.log2 ≤ top → top + 1 ≤ fuel + r → fX0_roomBelow_2 fuel (nI top) (lN n) (nI r) = nI (top - n.log2) := by
  intro fuel
  induction fuel with
  | zero => intro r h1 h2; omega
  | succ fuel ih =>
    intro r h1 h2
    rw [fX0_roomBelow_2]
    have hhi := log2_hi n
    have hlo := log2_lo h0
    by_cases hr : r < top
    · rw [if_pos ((nI_ltI (by omega) (by omega)).mpr hr), jshl_lN _ (by omega), lN_one, jshl_lN _ (by omega), Nat.one_mul]
      have b1 : n * 2 ^ r < 2 ^ 63 := by
        refine Nat.lt_of_lt_of_le (Nat.mul_lt_mul_of_pos_right hhi (Nat.two_pow_pos r)) ?_
        rw [← Nat.pow_add]; exact Nat.pow_le_pow_right (by omega) (by omega)
      have b2 : 2 ^ top < 2 ^ 63 := Nat.pow_lt_pow_right (by omega) (by omega)
      by_cases hc : n * 2 ^ r < 2 ^ top
      · rw [if_pos ((lN_lt63 b1 b2).mpr hc), show nI r + 1 = nI (r + 1) from nI_1 r]
        refine ih (r + 1) ?_ (by omega)
        have h3 : 2 ^ (n.log2 + r) < 2 ^ top := by
          rw [Nat.pow_add]; exact Nat.lt_of_le_of_lt (Nat.mul_le_mul_right _ hlo) hc
        have := (Nat.pow_lt_pow_iff_right (a := 2) (by omega)).mp h3
        omega
      · rw [if_neg (fun h => hc ((lN_lt63 b1 b2).mp h))]
        congr 1
        have h3 : 2 ^ top < 2 ^ (n.log2 + 1 + r) := by
          rw [Nat.pow_add]; exact Nat.lt_of_le_of_lt (by omega) (Nat.mul_lt_mul_of_pos_right hhi (Nat.two_pow_pos r))
        have := (Nat.pow_lt_pow_iff_right (a := 2) (by omega)).mp h3
        omega
    · rw [if_neg (fun h => hr ((nI_ltI (by omega) (by omega)).mp h))]
      congr 1; omega
theorem roomBelow_is {top n : Nat} (h0 : 0 < n) (ht : top ≤ 62) (hn : n < 2 ^ (top + 1)) : fX0_roomBelow (nI top) (lN n) = nI (top - n.log2) := by
  rw [fX0_roomBelow, fX0_roomBelow_0, nI_clamp (by omega), show (0 : Int32) = nI 0 from rfl]
  have := log2_lt h0 hn
  exact roomBelow_loop h0 ht _ _ (by omega) (by omega)
theorem mask_lN {X d : Nat} (hX : X < 2 ^ 64) (hd : d < 64) : lN X &&& (jshl (1 : Int64) (nI d) - (1 : Int64)) = lN (X % 2 ^ d) := by
  rw [lN_one, jshl_lN _ hd, Nat.one_mul, lN_sub (Nat.two_pow_pos d)]
  exact wb_mask hX hd
theorem roundedDown_is {X : Nat} {d : Int} (hX : X < 2 ^ 63) (hd : 1 ≤ d) (hd2 : d < 2147483648) : fX0_roundedDown (lN X) (iI d) = lN (rne X (2 ^ d.toNat)) := by
  rw [fX0_roundedDown, fX0_roundedDown_0, show (63 : Int32) = iI 63 from by decide]
  by_cases h : 63 < d
  · rw [if_pos ((iI_lt (by omega) (by omega) (by omega) (by omega)).mpr h)]
    have h1 : 2 ^ 64 ≤ 2 ^ d.toNat := Nat.pow_le_pow_right (by omega) (by omega)
    have h2 : X < 2 ^ d.toNat := by omega
    unfold rne
    rw [Nat.mod_eq_of_lt h2, Nat.div_eq_of_lt h2, if_neg (by omega)]
    rfl
  · rw [if_neg (fun q => h ((iI_lt (by omega) (by omega) (by omega) (by omega)).mp q))]
    obtain ⟨k, rfl⟩ : ∃ k : Nat, d = (k : Int) + 1 := ⟨(d - 1).toNat, by omega⟩
    rw [show ((k : Int) + 1).toNat = k + 1 by omega, show iI ((k : Int) + 1) = nI (k + 1) from by rw [nI_iI]; rfl]
    rw [fX0_roundedDown_12, fX0_roundedDown_21, fX0_roundedDown_28, fX0_roundedDown_52, fX0_roundedDown_56, fX0_roundedDown_57, fX0_roundedDown_57]
    rw [mask_lN (by omega) (by omega), jushr_lN (by omega) (by omega), show nI (k + 1) - 1 = nI k from nI_pred k, lN_one, jshl_lN _ (by omega), Nat.one_mul]
    rw [if_neg (show ¬ (1 : Int32) = 0 by decide), if_pos rfl]
    have b1 : 2 ^ k < 2 ^ 63 := Nat.pow_lt_pow_right (by omega) (by omega)
    have b2 := Nat.mod_lt X (Nat.two_pow_pos (k + 1))
    have b3 : X % 2 ^ (k + 1) < 2 ^ 63 := Nat.lt_of_le_of_lt (Nat.mod_le _ _) hX
    have b4 : X / 2 ^ (k + 1) < 2 ^ 63 := Nat.lt_of_le_of_lt (Nat.div_le_self _ _) hX
    have e1 : (lN (2 ^ k) < lN (X % 2 ^ (k + 1))) ↔ 2 ^ (k + 1) < 2 * (X % 2 ^ (k + 1)) := by rw [lN_lt63 b1 b3, Nat.pow_succ]; omega
    have e2 : (lN (X % 2 ^ (k + 1)) = lN (2 ^ k)) ↔ 2 * (X % 2 ^ (k + 1)) = 2 ^ (k + 1) := by rw [lN_inj (by omega) (by omega), Nat.pow_succ]; omega
    have e3 : (lN (X / 2 ^ (k + 1)) &&& lN 1 = lN 1) ↔ X / 2 ^ (k + 1) % 2 = 1 := by
      rw [show lN (X / 2 ^ (k + 1)) &&& lN 1 = lN (X / 2 ^ (k + 1) % 2) from wb_a1 (by omega), lN_inj (by omega) (by omega)]
    unfold rne
    simp only [e1, e2, e3, lN_add]
    by_cases c1 : 2 ^ (k + 1) < 2 * (X % 2 ^ (k + 1))
    · rw [if_pos c1, if_pos (Or.inl c1)]
    · rw [if_neg c1]
      by_cases c2 : 2 * (X % 2 ^ (k + 1)) = 2 ^ (k + 1)
      · rw [if_pos c2]
        by_cases c3 : X / 2 ^ (k + 1) % 2 = 1
        · rw [if_pos c3, if_pos (Or.inr ⟨c2, c3⟩)]
        · rw [if_neg c3, if_neg (fun h => h.elim c1 (fun h => c3 h.2))]
      · rw [if_neg c2, if_neg (fun h => h.elim c1 (fun h => c2 h.1))]
