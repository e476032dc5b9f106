theorem HJ_zero (q : Nat) : HJ 0 q = 0 := by unfold HJ; rw [Nat.zero_div, Nat.zero_mod, if_pos rfl]
set_option maxRecDepth 20000 in
theorem clsSum {kind : Int32} {sb fb ga s1 s2 z1 z2 : Nat} {em : Int} (K : Ks kind sb) (F : Kd kind fb em ga) (hfs : fb < sb) (hI : (ga + 2) * 2 ^ fb < 2 ^ sb) (hs1 : s1 ≤ 1) (hs2 : s2 ≤ 1) (h1 : 0 < z1) (hz1 : z1 < (ga + 2) * 2 ^ fb) (hz2 : z2 < (ga + 2) * 2 ^ fb)
    (hb : 0 < z2 → Eg fb em z2 ≤ Eg fb em z1) (hb0 : 0 < z2 → Eg fb em z2 = Eg fb em z1 → Sg fb z2 ≤ Sg fb z1) :
    fX0_sumByGreater kind (lN (s1 * 2 ^ sb + z1)) (lN (s2 * 2 ^ sb + z2)) = if z2 = 0 then lN (s1 * 2 ^ sb + z1) else sumRes sb ((ga + 2) * 2 ^ fb) fb s1 s2 (Sg fb z1) (Sg fb z2) (Eg fb em z1 - Eg fb em z2).toNat (Eg fb em z1 - 9 - em) := by
  have hem := F.2.2.2.2.2.2.2.1
  have hem2 := F.2.2.2.2.2.2.2.2.1
  have hfb := F.2.2.2.2.1
  have hga := F.2.2.2.2.2.2.1
  have l1 : z1 < 2 ^ sb := by omega
  have l2 : z2 < 2 ^ sb := by omega
  have hd1 : z1 / 2 ^ fb < ga + 2 := (Nat.div_lt_iff_lt_mul (Nat.two_pow_pos fb)).mpr hz1
  have hd2 : z2 / 2 ^ fb < ga + 2 := (Nat.div_lt_iff_lt_mul (Nat.two_pow_pos fb)).mpr hz2
  have hx1 : Xp fb z1 ≤ 2046 := by unfold Xp; omega
  have hx2 : Xp fb z2 ≤ 2046 := by unfold Xp; omega
  have m1 := Mg_pos (fb := fb) h1
  have m1l := Mg_lt fb z1
  have m2l := Mg_lt fb z2
  have hp53 : 2 ^ (fb + 1) ≤ 2 ^ 53 := lt_2 (by omega)
  have lg1 := log2_lt m1 m1l
  obtain ⟨a1, a2⟩ := Sg_bounds (fb := fb) hfb h1
  have n1 := neg_is K hs1 l1
  have n2 := neg_is K hs2 l2
  have g1 := mag_is K F hfs hs1 l1
  have g2 := mag_is K F hfs hs2 l2
  have x1 := exp_is K F (by omega) hs1 l1
  have x2 := exp_is K F (by omega) hs2 l2
  have hroom : fX0_roomBelow (61 : Int32) (lN (Mg fb z1)) = nI (61 - (Mg fb z1).log2) := roomBelow_is (top := 61) m1 (by decide) (by omega)
  have e9 : Mg fb z1 * 2 ^ (61 - (Mg fb z1).log2) = Sg fb z1 * 2 ^ 9 := by
    unfold Sg; rw [Nat.mul_assoc, ← Nat.pow_add]; congr 2; omega
  have hE1 : Eg fb em z1 = em + Xp fb z1 - (52 - (Mg fb z1).log2 : Nat) := rfl
  have e8 : iI (em + Xp fb z1) - nI (61 - (Mg fb z1).log2) = iI (Eg fb em z1 - 9) := by rw [nI_iI, iI_sub, hE1]; congr 1; omega
  have e11 : iI (em + Xp fb z2) - iI (Eg fb em z1 - 9) = iI (em + Xp fb z2 - Eg fb em z1 + 9) := by rw [iI_sub]; congr 1; omega
  rw [fX0_sumByGreater, fX0_sumByGreater_0, fX0_sumByGreater_12, fX0_sumByGreater_22, fX0_sumByGreater_32, fX0_sumByGreater_39, fX0_sumByGreater_49, g1, g2, x1, x2, hroom, jshl_lN _ (by omega), e9, e8, e11]
  have bE1 : -1200 ≤ Eg fb em z1 ∧ Eg fb em z1 ≤ 2100 := Eg_bounds hem hem2 hx1
  -- what is added
  have main : ∀ t : Nat, t < 2 ^ 62 → t ≤ Sg fb z1 * 2 ^ 9 → fX0_sumByGreater_70 kind (lN (s1 * 2 ^ sb + z1)) (lN (s2 * 2 ^ sb + z2)) (lN (Sg fb z1 * 2 ^ 9)) (iI (Eg fb em z1 - 9)) (lN t) =
      if s1 = s2 then lN (s1 * 2 ^ sb + min ((ga + 2) * 2 ^ fb) (RD fb (Sg fb z1 * 2 ^ 9 + t) (Eg fb em z1 - 9 - em))) else if Sg fb z1 * 2 ^ 9 = t then 0 else lN (s1 * 2 ^ sb + min ((ga + 2) * 2 ^ fb) (RD fb (Sg fb z1 * 2 ^ 9 - t) (Eg fb em z1 - 9 - em))) := by
    intro t ht htle
    rw [fX0_sumByGreater_70, fX0_sumByGreater_79, n1, n2, lN_add, lN_sub htle]
    have qs : (nI s1 = nI s2) ↔ s1 = s2 := nI_eq (by omega) (by omega)
    have hsg : ∀ x : Nat, fX0_signed kind (nI s1) (lN (min ((ga + 2) * 2 ^ fb) x)) = lN (s1 * 2 ^ sb + min ((ga + 2) * 2 ^ fb) x) := fun x => signed_is K hs1 (Nat.lt_of_le_of_lt (Nat.min_le_left _ _) hI)
    by_cases cs : s1 = s2
    · rw [if_pos (qs.mpr cs), if_pos cs, nearest_is F (by omega) (by omega) (by omega) (by omega), hsg]
    · rw [if_neg (fun h => cs (qs.mp h)), if_neg cs]
      have qt : (lN (Sg fb z1 * 2 ^ 9) = lN t) ↔ Sg fb z1 * 2 ^ 9 = t := lN_inj (by omega) (by omega)
      by_cases ct : Sg fb z1 * 2 ^ 9 = t
      · rw [if_pos (qt.mpr ct), if_pos ct]
      · rw [if_neg (fun h => ct (qt.mp h)), if_neg ct, nearest_is F (by omega) (by omega) (by omega) (by omega), hsg]
  by_cases c0 : z2 = 0
  · rw [if_pos c0]
    have hM : Mg fb z2 = 0 := by rw [c0]; unfold Mg; rw [if_pos (Nat.two_pow_pos fb)]
    have hX : Xp fb z2 = 0 := by rw [c0]; exact Mg_Xp (Nat.two_pow_pos fb)
    have hself : RD fb (Sg fb z1 * 2 ^ 9) (Eg fb em z1 - 9 - em) = z1 := by
      rw [← e9, RD_shift m1]
      have : Eg fb em z1 - 9 - em + ((61 - (Mg fb z1).log2 : Nat) : Int) = Xp fb z1 := by rw [hE1]; omega
      rw [this, RD_self h1]
    have fin := main 0 (by decide) (Nat.zero_le _)
    rw [show Sg fb z1 * 2 ^ 9 + 0 = Sg fb z1 * 2 ^ 9 from rfl, show Sg fb z1 * 2 ^ 9 - 0 = Sg fb z1 * 2 ^ 9 from rfl, hself, Nat.min_eq_right (Nat.le_of_lt hz1), if_neg (show ¬ Sg fb z1 * 2 ^ 9 = 0 by omega)] at fin
    have fin2 : fX0_sumByGreater_70 kind (lN (s1 * 2 ^ sb + z1)) (lN (s2 * 2 ^ sb + z2)) (lN (Sg fb z1 * 2 ^ 9)) (iI (Eg fb em z1 - 9)) (lN 0) = lN (s1 * 2 ^ sb + z1) := by
      rw [fin]; split <;> rfl
    rw [hM, hX]
    by_cases cu : em + ((0 : Nat) : Int) - Eg fb em z1 + 9 < 0
    · rw [if_pos ((iI_lt0 (by omega) (by omega)).mpr cu), iI_neg, nI_iI_toNat (show 0 ≤ -(em + ((0 : Nat) : Int) - Eg fb em z1 + 9) by omega), movedDown_is (by decide) (by omega), HJ_zero]
      exact fin2
    · rw [if_neg (fun h => cu ((iI_lt0 (by omega) (by omega)).mp h)), nI_iI_toNat (show 0 ≤ em + ((0 : Nat) : Int) - Eg fb em z1 + 9 by omega), jshl_lN _ (by rw [hE1] at cu ⊢; omega), Nat.zero_mul]
      exact fin2
  · rw [if_neg c0]
    have h2 : 0 < z2 := by omega
    obtain ⟨a3, a4⟩ := Sg_bounds (fb := fb) hfb h2
    have m2 := Mg_pos (fb := fb) h2
    have lg2 := log2_lt m2 m2l
    have hhi := log2_hi (Mg fb z2)
    have hE2 : Eg fb em z2 = em + Xp fb z2 - (52 - (Mg fb z2).log2 : Nat) := rfl
    obtain ⟨b, hbb⟩ : ∃ b : Nat, (b : Int) = Eg fb em z1 - Eg fb em z2 := ⟨(Eg fb em z1 - Eg fb em z2).toNat, by have := hb h2; omega⟩
    rw [show (Eg fb em z1 - Eg fb em z2).toNat = b by omega]
    have htl := tt_le (b := b) a4
    have htle : tt (Sg fb z2) b ≤ Sg fb z1 * 2 ^ 9 := by
      by_cases c : b = 0
      · have := hb0 h2 (by omega)
        unfold tt; rw [c, HJ_0]; omega
      · have := htl.2 (by omega); omega
    have fin := main (tt (Sg fb z2) b) htl.1 htle
    have e29 : Mg fb z2 * 2 ^ (61 - (Mg fb z2).log2) = Sg fb z2 * 2 ^ 9 := by
      unfold Sg; rw [Nat.mul_assoc, ← Nat.pow_add]; congr 2; omega
    unfold sumRes
    by_cases cu : em + (Xp fb z2 : Int) - Eg fb em z1 + 9 < 0
    · rw [if_pos ((iI_lt0 (by omega) (by omega)).mpr cu), iI_neg, nI_iI_toNat (show 0 ≤ -(em + (Xp fb z2 : Int) - Eg fb em z1 + 9) by omega), movedDown_is (by omega) (by omega)]
      have et : HJ (Mg fb z2) (-(em + (Xp fb z2 : Int) - Eg fb em z1 + 9)).toNat = tt (Sg fb z2) b := by
        unfold tt
        rw [← e29, ← HJ_scale (Mg fb z2) _ (61 - (Mg fb z2).log2)]
        congr 1
        omega
      rw [et, fin]
    · rw [if_neg (fun h => cu ((iI_lt0 (by omega) (by omega)).mp h)), nI_iI_toNat (show 0 ≤ em + (Xp fb z2 : Int) - Eg fb em z1 + 9 by omega), jshl_lN _ (by omega)]
      have et : Mg fb z2 * 2 ^ (em + (Xp fb z2 : Int) - Eg fb em z1 + 9).toNat = tt (Sg fb z2) b := by
        unfold tt
        rw [← e29, ← HJ_0 (Mg fb z2 * 2 ^ (em + (Xp fb z2 : Int) - Eg fb em z1 + 9).toNat), ← HJ_scale _ 0 b, Nat.mul_assoc, ← Nat.pow_add, Nat.zero_add]
        congr 3
        omega
      rw [et, fin]
