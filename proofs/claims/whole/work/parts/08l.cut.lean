/-! a floating number cut to a whole one -/
def CM (most s n : Nat) : Int64 := if n ≤ most then (if s = 0 then lN n else -lN n) else (if s = 0 then lN most else -lN most - 1)
theorem CM_le {most s n : Nat} (h : n ≤ most) : CM most s n = if s = 0 then lN n else -lN n := by unfold CM; rw [if_pos h]
theorem CM_gt {most s n : Nat} (h : most < n) : CM most s n = if s = 0 then lN most else -lN most - 1 := by unfold CM; rw [if_neg (show ¬ n ≤ most by omega)]
theorem CM_big {most s n k : Nat} (h1 : most < n) (h2 : most < k) : CM most s n = CM most s k := by rw [CM_gt h1, CM_gt h2]
theorem iI_neg_eq {e : Int} : -iI e = iI (-e) := iI_neg e
theorem wholePart_is {kind : Int32} {sb fb ga s z : Nat} {em : Int} (K : Ks kind sb) (F : Kd kind fb em ga) (hfs : fb < sb) (hs : s ≤ 1) (hz : z < 2 ^ sb) (hb : z / 2 ^ fb < 100000) : fX0_wholePart kind (lN (s * 2 ^ sb + z)) = CM (2 ^ 63 - 1) s (FL (Mg fb z) (em + Xp fb z)) := by
  have hem := F.2.2.2.2.2.2.2.1
  have hem2 := F.2.2.2.2.2.2.2.2.1
  have hfb := F.2.2.2.2.1
  have hml : Mg fb z < 2 ^ 53 := Nat.lt_of_lt_of_le (Mg_lt fb z) (Nat.pow_le_pow_right (by omega) (by omega))
  have hx : Xp fb z < 100000 := by unfold Xp; omega
  have hpos : 0 < em + Xp fb z → 0 < Mg fb z := by
    intro h
    refine Mg_pos ?_
    rcases Nat.eq_zero_or_pos z with q | q
    · rw [q, Mg_Xp (Nat.two_pow_pos fb)] at h; omega
    · exact q
  rw [fX0_wholePart, fX0_wholePart_0, fX0_wholePart_6, fX0_wholePart_13, neg_is K hs hz, mag_is K F hfs hs hz, exp_is K F hb hs hz]
  have he1 : -1074 ≤ em + Xp fb z := by omega
  have he2 : em + Xp fb z ≤ 100000 := by omega
  generalize em + Xp fb z = e at *
  generalize Mg fb z = M at *
  have q0 : (nI s = 0) ↔ s = 0 := nI_eq (b := 0) (by omega) (by decide)
  have hsgn : ∀ x y : Int64, (if nI s = 0 then x else y) = if s = 0 then x else y := fun x y => by simp only [q0]
  rw [fX0_wholePart_20, fX0_wholePart_76, fX0_wholePart_42, fX0_wholePart_42]
  simp only [hsgn]
  rw [show (9223372036854775807 : Int64) = lN (2 ^ 63 - 1) from rfl, show (-9223372036854775808 : Int64) = -lN (2 ^ 63 - 1) - 1 from by decide]
  by_cases c1 : 0 < e
  · have hM := hpos c1
    rw [if_pos ((iI_0lt (by omega) (by omega)).mpr c1), FL_pos (by omega), show (63 : Int32) = iI 63 from by decide]
    by_cases c2 : 63 < e
    · rw [if_pos ((iI_lt (by omega) (by omega) (by omega) (by omega)).mpr c2)]
      have h64 : 2 ^ 64 ≤ 2 ^ e.toNat := Nat.pow_le_pow_right (by omega) (by omega)
      have := Nat.mul_le_mul hM h64
      rw [CM_gt (by omega)]
    · rw [if_neg (fun q => c2 ((iI_lt (by omega) (by omega) (by omega) (by omega)).mp q)), nI_iI_toNat (show 0 ≤ e by omega), jushr_lN (by decide) (by omega), jshl_lN _ (by omega)]
      have hd := Nat.div_lt_iff_lt_mul (x := 2 ^ 63 - 1) (y := M) (Nat.two_pow_pos e.toNat)
      have hdl : (2 ^ 63 - 1) / 2 ^ e.toNat < 2 ^ 63 := Nat.lt_of_le_of_lt (Nat.div_le_self _ _) (by decide)
      have q := lN_lt63 hdl (show M < 2 ^ 63 by omega)
      by_cases c3 : (2 ^ 63 - 1) / 2 ^ e.toNat < M
      · rw [if_pos (q.mpr c3), CM_gt (hd.mp c3)]
      · rw [if_neg (fun h => c3 (q.mp h)), CM_le (Nat.le_of_not_lt (fun h => c3 (hd.mpr h)))]
  · rw [if_neg (fun q => c1 ((iI_0lt (by omega) (by omega)).mp q)), FL_neg (by omega), show (-63 : Int32) = iI (-63) from by decide]
    have hle : M / 2 ^ (-e).toNat ≤ M := Nat.div_le_self _ _
    rw [CM_le (by omega)]
    by_cases c2 : e < -63
    · rw [if_pos ((iI_lt (by omega) (by omega) (by omega) (by omega)).mpr c2)]
      have h64 : 2 ^ 63 ≤ 2 ^ (-e).toNat := Nat.pow_le_pow_right (by omega) (by omega)
      rw [Nat.div_eq_of_lt (by omega)]; rfl
    · rw [if_neg (fun q => c2 ((iI_lt (by omega) (by omega) (by omega) (by omega)).mp q)), iI_neg, nI_iI_toNat (show 0 ≤ -e by omega), jushr_lN (by omega) (by omega)]
section CUT
variable {s z : Nat}
theorem great_is (hs : s ≤ 1) (hz : z ≤ INF64) : fX2_isGreat (lN (s * 2 ^ 63 + z)) = (if z = INF64 then 1 else if z = 0 then 0 else if 11 < Eg 52 (-1074) z then 1 else 0) ∧ okX2_isGreat (lN (s * 2 ^ 63 + z)) := by
  have h9 : INF64 = 2047 * 2 ^ 52 := rfl
  have hz63 : z < 2 ^ 63 := by omega
  have n1 : ¬ (1 : Int32) = 0 := by decide
  rw [fX2_isGreat, fX2_isGreat_0, okX2_isGreat, okX2_isGreat_0, infd_is hs hz63, zerod_is hs hz63]
  by_cases c1 : z = INF64
  · rw [if_pos c1, if_pos c1, if_neg n1]
    exact ⟨rfl, fun h => absurd h n1, fun _ => trivial⟩
  · rw [if_neg c1, if_neg c1, if_pos rfl]
    by_cases c2 : z = 0
    · rw [if_pos c2, if_pos c2, if_neg n1]
      exact ⟨rfl, fun _ => ⟨fun h => absurd h n1, fun _ => trivial⟩, fun h => absurd rfl h⟩
    · rw [if_neg c2, if_neg c2, if_pos rfl]
      obtain ⟨e1, e2⟩ := expd_is hs (show 0 < z by omega) (show z < INF64 by omega)
      obtain ⟨b3, b4⟩ := Eg52_bounds (show z < INF64 by omega)
      rw [e1, show (11 : Int32) = iI 11 from by decide]
      have q := iI_lt (a := 11) (b := Eg 52 (-1074) z) (by omega) (by omega) (by omega) (by omega)
      refine ⟨?_, fun _ => ⟨fun _ => ⟨e2, ⟨fun _ => trivial, fun _ => trivial⟩⟩, fun h => absurd rfl h⟩, fun h => absurd rfl h⟩
      simp only [q]
theorem FL_sg {z : Nat} {em : Int} : FL (Sg 52 z) (Eg 52 em z) = FL (Mg 52 z) (em + Xp 52 z) := by
  unfold Sg Eg; rw [FL_shift]; congr 1; omega
theorem cutd_is (hs : s ≤ 1) (hz : z < INF64) (hE : z ≠ 0 → Eg 52 (-1074) z ≤ 11) : fX2_cut (lN (s * 2 ^ 63 + z)) = lN (FL (Mg 52 z) (-1074 + Xp 52 z)) ∧ okX2_cut (lN (s * 2 ^ 63 + z)) ∧ FL (Mg 52 z) (-1074 + Xp 52 z) < 2 ^ 64 := by
  have h9 : INF64 = 2047 * 2 ^ 52 := rfl
  have hz63 : z < 2 ^ 63 := by omega
  have n1 : ¬ (1 : Int32) = 0 := by decide
  rw [fX2_cut, fX2_cut_0, okX2_cut, okX2_cut_0, zerod_is hs hz63]
  by_cases c2 : z = 0
  · rw [if_pos c2, if_neg n1, c2]
    have e0 : FL (Mg 52 0) (-1074 + Xp 52 0) = 0 := by
      rw [Mg_Xp (Nat.two_pow_pos 52), FL_neg (by omega), show Mg 52 0 = 0 from rfl, Nat.zero_div]
    rw [e0]
    exact ⟨rfl, ⟨fun h => absurd h n1, fun _ => trivial⟩, by decide⟩
  · rw [if_neg c2, if_pos rfl]
    have h0 : 0 < z := by omega
    obtain ⟨e1, e2⟩ := expd_is hs h0 hz
    obtain ⟨g1, g2⟩ := sigd_is hs h0 hz
    obtain ⟨b1, b2⟩ := Sg_bounds (fb := 52) (by omega) h0
    obtain ⟨b3, b4⟩ := Eg52_bounds hz
    have hE := hE c2
    rw [← FL_sg, fX2_cut_14, fX2_cut_19, okX2_cut_14, e1, g1]
    generalize Eg 52 (-1074) z = E at *
    generalize Sg 52 z = S at *
    by_cases c3 : E < 0
    · rw [if_pos ((iI_lt0 (by omega) (by omega)).mpr c3), FL_neg (by omega), show (-52 : Int32) = iI (-52) from by decide]
      have hle : S / 2 ^ (-E).toNat ≤ S := Nat.div_le_self _ _
      refine ⟨?_, ⟨fun _ => ⟨e2, g2, trivial⟩, fun h => absurd rfl h⟩, by omega⟩
      by_cases c4 : E < -52
      · rw [if_pos ((iI_lt (by omega) (by omega) (by omega) (by omega)).mpr c4)]
        have : 2 ^ 53 ≤ 2 ^ (-E).toNat := Nat.pow_le_pow_right (by omega) (by omega)
        rw [Nat.div_eq_of_lt (by omega)]; rfl
      · rw [if_neg (fun q => c4 ((iI_lt (by omega) (by omega) (by omega) (by omega)).mp q)), iI_neg, nI_iI_toNat (show 0 ≤ -E by omega), jushr_lN (by omega) (by omega)]
    · rw [if_neg (fun q => c3 ((iI_lt0 (by omega) (by omega)).mp q)), FL_pos (by omega), nI_iI_toNat (show 0 ≤ E by omega), jshl_lN _ (by omega)]
      refine ⟨rfl, ⟨fun _ => ⟨e2, g2, trivial⟩, fun h => absurd rfl h⟩, ?_⟩
      have h1 : 2 ^ E.toNat ≤ 2 ^ 11 := Nat.pow_le_pow_right (by omega) (by omega)
      have h2 := Nat.mul_lt_mul_of_lt_of_le b2 h1 (Nat.two_pow_pos 11)
      exact Nat.lt_of_lt_of_le h2 (by decide)
theorem cut_is {w : Nat} (hw : w ≤ 1) (hs : s ≤ 1) (hz : z ≤ INF64) : fX3_cut (lN (s * 2 ^ 63 + z)) (nI w) = CM (if w = 0 then 2 ^ 31 - 1 else 2 ^ 63 - 1) s (FL (Mg 52 z) (-1074 + Xp 52 z)) ∧ okX3_cut (lN (s * 2 ^ 63 + z)) (nI w) := by
  have h9 : INF64 = 2047 * 2 ^ 52 := rfl
  have hz63 : z < 2 ^ 63 := by omega
  have n1 : ¬ (1 : Int32) = 0 := by decide
  have main : ∀ most : Nat, most < 2 ^ 63 → fX3_cut_13 (lN (s * 2 ^ 63 + z)) (lN most) = CM most s (FL (Mg 52 z) (-1074 + Xp 52 z)) ∧ okX3_cut_13 (lN (s * 2 ^ 63 + z)) (lN most) := by
    intro most hmost
    obtain ⟨gr, go⟩ := great_is hs hz
    have q0 : (nI s = 0) ↔ s = 0 := nI_eq (b := 0) (by omega) (by decide)
    have h25 : fX3_cut_25 (lN (s * 2 ^ 63 + z)) (lN most) (nI s) = CM most s (FL (Mg 52 z) (-1074 + Xp 52 z)) ∧ okX3_cut_25 (lN (s * 2 ^ 63 + z)) (lN most) (nI s) := by
      rw [fX3_cut_25, fX3_cut_33, okX3_cut_25, okX3_cut_33]
      have hgreat : most < FL (Mg 52 z) (-1074 + Xp 52 z) → ∀ x : Int64, fX3_cut_67 (lN most) (nI s) x = CM most s (FL (Mg 52 z) (-1074 + Xp 52 z)) := by
        intro h x
        rw [fX3_cut_67, fX3_cut_72, if_neg n1]
        rw [CM_gt h]
        simp only [q0]
      by_cases cg : fX2_isGreat (lN (s * 2 ^ 63 + z)) = 0
      · rw [if_pos cg, fX3_cut_46, if_pos cg]
        rw [gr] at cg
        have hI : z ≠ INF64 := fun h => by rw [if_pos h] at cg; exact n1 cg
        have hE : z ≠ 0 → Eg 52 (-1074) z ≤ 11 := by
          intro h
          rw [if_neg hI, if_neg h] at cg
          apply Int.not_lt.mp
          intro h2; rw [if_pos h2] at cg; exact n1 cg
        obtain ⟨k1, k2, k3⟩ := cutd_is hs (show z < INF64 by omega) hE
        refine ⟨?_, go, fun _ => ⟨k2, trivial⟩, fun _ => trivial⟩
        rw [k1]
        by_cases c1 : 2 ^ 63 ≤ FL (Mg 52 z) (-1074 + Xp 52 z)
        · rw [if_pos ((lN_lt0 k3).mpr c1)]
          exact hgreat (by omega) _
        · rw [if_neg (fun h => c1 ((lN_lt0 k3).mp h))]
          have q := lN_lt63 hmost (show FL (Mg 52 z) (-1074 + Xp 52 z) < 2 ^ 63 by omega)
          by_cases c2 : most < FL (Mg 52 z) (-1074 + Xp 52 z)
          · rw [if_pos (q.mpr c2)]; exact hgreat c2 _
          · rw [if_neg (fun h => c2 (q.mp h)), fX3_cut_72, if_pos rfl]
            rw [CM_le (by omega)]
            simp only [q0]
      · rw [if_neg cg, fX3_cut_46, if_neg cg]
        refine ⟨hgreat ?_ _, go, fun h => absurd h cg, fun _ => trivial⟩
        by_cases hI : z = INF64
        · rw [hI, show Xp 52 INF64 = 2046 from by decide, show Mg 52 INF64 = 2 ^ 52 from by decide, FL_pos (by decide), show ((-1074 : Int) + ((2046 : Nat) : Int)).toNat = 972 from by decide, ← Nat.pow_add]
          refine Nat.lt_of_lt_of_le hmost ?_
          exact Nat.pow_le_pow_right (by omega) (by omega)
        · rw [gr, if_neg hI] at cg
          by_cases c0 : z = 0
          · rw [if_pos c0] at cg; exact absurd rfl cg
          · rw [if_neg c0] at cg
            have hE : 11 < Eg 52 (-1074) z := by
              apply Decidable.byContradiction; intro h; rw [if_neg h] at cg; exact cg rfl
            obtain ⟨b1, b2⟩ := Sg_bounds (fb := 52) (by omega) (show 0 < z by omega)
            rw [← FL_sg, FL_pos (by omega)]
            have h1 : 2 ^ 12 ≤ 2 ^ (Eg 52 (-1074) z).toNat := Nat.pow_le_pow_right (by omega) (by omega)
            have h2 := Nat.mul_le_mul b1 h1
            refine Nat.lt_of_lt_of_le hmost (Nat.le_trans ?_ h2)
            decide
    have qs := d_lt0 hs hz63
    rw [fX3_cut_13, okX3_cut_13]
    by_cases c : s = 1
    · rw [if_pos (qs.mpr c)]
      have e1 : (1 : Int32) = nI s := by rw [c]; rfl
      rw [e1]
      exact ⟨h25.1, fun _ => h25.2, fun h => absurd (qs.mpr c) h⟩
    · rw [if_neg (fun h => c (qs.mp h))]
      have e1 : nI s = (0 : Int32) := by rw [show s = 0 by omega]; rfl
      rw [e1] at h25
      exact ⟨h25.1, fun h => absurd (qs.mp h) c, fun _ => h25.2⟩
  rw [fX3_cut, fX3_cut_0, okX3_cut, okX3_cut_0, show (2147483647 : Int64) = lN (2 ^ 31 - 1) from rfl, show (9223372036854775807 : Int64) = lN (2 ^ 63 - 1) from rfl]
  rcases (show w = 0 ∨ w = 1 by omega) with rfl | rfl
  · have e0 : nI 0 = (0 : Int32) := rfl
    obtain ⟨m1, m2⟩ := main (2 ^ 31 - 1) (by decide)
    rw [if_pos e0, if_pos rfl]
    exact ⟨m1, fun _ => m2, fun h => absurd e0 h⟩
  · have e0 : ¬ nI 1 = (0 : Int32) := by decide
    obtain ⟨m1, m2⟩ := main (2 ^ 63 - 1) (by decide)
    rw [if_neg e0, if_neg (by decide)]
    exact ⟨m1, fun h => absurd h e0, fun _ => m2⟩
end CUT
theorem toInt_lN {n : Nat} (h : n < 2 ^ 63) : (lN n).toInt = n := pk_lT h
theorem toInt_nlN {n : Nat} (h : n ≤ 2 ^ 63) : (-lN n).toInt = -(n : Int) := by
  rw [neg_lN (by omega)]
  by_cases c : n = 0
  · rw [c]; decide
  · rw [lN_ti (by omega), if_neg (by omega)]; omega
theorem cutToInt_is {s n : Nat} : fX1_cutToInt (CM (2 ^ 63 - 1) s n) = CM (2 ^ 31 - 1) s n := by
  have a1 : (-2147483648 : Int64).toInt = -2147483648 := by decide
  have a2 : (2147483647 : Int64).toInt = 2147483647 := by decide
  have key : ∀ (x : Int64) (k : Int), x.toInt = k → (fX1_cutToInt x).toInt = max (-2147483648) (min 2147483647 k) := by
    intro x k hk
    rw [fX1_cutToInt, fX1_cutToInt_0]
    unfold jmax jmin
    by_cases c1 : x < 2147483647
    · rw [if_pos c1]
      rw [Int64.lt_iff_toInt_lt, a2, hk] at c1
      by_cases c2 : x < -2147483648
      · rw [if_pos c2]; rw [Int64.lt_iff_toInt_lt, a1, hk] at c2; rw [a1]; omega
      · rw [if_neg c2]; rw [Int64.lt_iff_toInt_lt, a1, hk] at c2; rw [hk]; omega
    · rw [if_neg c1]
      rw [Int64.lt_iff_toInt_lt, a2, hk] at c1
      rw [if_neg (by decide), a2]; omega
  apply Int64.toInt_inj.mp
  have tC : ∀ most : Nat, most < 2 ^ 63 → (CM most s n).toInt = if n ≤ most then (if s = 0 then (n : Int) else -(n : Int)) else (if s = 0 then (most : Int) else -(most : Int) - 1) := by
    intro most hm
    unfold CM
    by_cases c1 : n ≤ most
    · rw [if_pos c1, if_pos c1]
      by_cases c2 : s = 0
      · rw [if_pos c2, if_pos c2, toInt_lN (by omega)]
      · rw [if_neg c2, if_neg c2, toInt_nlN (by omega)]
    · rw [if_neg c1, if_neg c1]
      by_cases c2 : s = 0
      · rw [if_pos c2, if_pos c2, toInt_lN (by omega)]
      · rw [if_neg c2, if_neg c2, fb_subL, toInt_nlN (by omega)]
        · rfl
        · rw [toInt_nlN (by omega), show (1 : Int64).toInt = 1 from rfl]; omega
        · rw [toInt_nlN (by omega), show (1 : Int64).toInt = 1 from rfl]; omega
  rw [key _ _ (tC _ (by decide)), tC _ (by decide)]
  by_cases c2 : s = 0
  · simp only [if_pos c2]
    split <;> split <;> omega
  · simp only [if_neg c2]
    split <;> split <;> omega
