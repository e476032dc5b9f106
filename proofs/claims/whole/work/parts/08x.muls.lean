theorem roomBelow_0 {top : Nat} (ht : top ≤ 62) : ∀ (fuel r : Nat), r ≤ top → top + 1 ≤ fuel + r → fX0_roomBelow_2 fuel (nI top) (lN 0) (nI r) = nI top := by
  intro fuel
  induction fuel with
  | zero => intro r h1 h2; omega
  | succ fuel ih =>
    intro r h1 h2
    rw [fX0_roomBelow_2]
    by_cases hr : r < top
    · have b2 : 2 ^ top < 2 ^ 63 := Nat.pow_lt_pow_right (by omega) (by omega)
      rw [if_pos ((nI_ltI (by omega) (by omega)).mpr hr), jshl_lN _ (by omega), Nat.zero_mul, lN_one, jshl_lN _ (by omega), Nat.one_mul, if_pos ((lN_lt63 (by decide) b2).mpr (Nat.two_pow_pos top)), show nI r + 1 = nI (r + 1) from nI_1 r]
      exact ih (r + 1) (by omega) (by omega)
    · rw [if_neg (fun h => hr ((nI_ltI (by omega) (by omega)).mp h))]
      congr 1; omega
theorem room52 {n : Nat} (hn : n < 2 ^ 53) : ∃ k : Nat, k ≤ 52 ∧ fX0_roomBelow (52 : Int32) (lN n) = nI k ∧ (0 < n → k = 52 - n.log2) := by
  by_cases h : n = 0
  · refine ⟨52, by omega, ?_, fun h2 => by omega⟩
    rw [h, fX0_roomBelow, fX0_roomBelow_0]
    exact roomBelow_0 (top := 52) (by decide) _ 0 (by decide) (by decide)
  · exact ⟨52 - n.log2, by omega, roomBelow_is (top := 52) (by omega) (by decide) hn, fun _ => rfl⟩
/-- the class's product of two finite numbers -/
theorem clsMul {kind : Int32} {sb fb ga s1 s2 z1 z2 s : Nat} {em : Int} (K : Ks kind sb) (F : Kd kind fb em ga) (hfs : fb < sb) (hI : (ga + 2) * 2 ^ fb < 2 ^ sb) (hs : s ≤ 1) (hs1 : s1 ≤ 1) (hs2 : s2 ≤ 1) (hz1 : z1 < (ga + 2) * 2 ^ fb) (hz2 : z2 < (ga + 2) * 2 ^ fb) :
    fX0_product_94 kind (lN (s1 * 2 ^ sb + z1)) (lN (s2 * 2 ^ sb + z2)) (nI s) (fX0_roomBelow (52 : Int32) (fX0_magnitude kind (lN (s1 * 2 ^ sb + z1)))) = if z1 = 0 ∨ z2 = 0 then lN (s * 2 ^ sb) else lN (s * 2 ^ sb + min ((ga + 2) * 2 ^ fb) (RD fb (Sg fb z1 * Sg fb z2) (Eg fb em z1 + Eg fb em z2 - em))) := by
  have hem := F.2.2.2.2.2.2.2.1
  have hem2 := F.2.2.2.2.2.2.2.2.1
  have hfb := F.2.2.2.2.1
  have hga := F.2.2.2.2.2.2.1
  have l1 : z1 < 2 ^ sb := by omega
  have l2 : z2 < 2 ^ sb := by omega
  have hd1 : z1 / 2 ^ fb < ga + 2 := (Nat.div_lt_iff_lt_mul (Nat.two_pow_pos fb)).mpr hz1
  have hd2 : z2 / 2 ^ fb < ga + 2 := (Nat.div_lt_iff_lt_mul (Nat.two_pow_pos fb)).mpr hz2
  have hx1 : Xp fb z1 ≤ 2046 := by unfold Xp; omega
  have hx2 : Xp fb z2 ≤ 2046 := by unfold Xp; omega
  have hp53 : 2 ^ (fb + 1) ≤ 2 ^ 53 := lt_2 (by omega)
  have m1l : Mg fb z1 < 2 ^ 53 := Nat.lt_of_lt_of_le (Mg_lt fb z1) hp53
  have m2l : Mg fb z2 < 2 ^ 53 := Nat.lt_of_lt_of_le (Mg_lt fb z2) hp53
  have g1 := mag_is K F hfs hs1 l1
  have g2 := mag_is K F hfs hs2 l2
  have x1 := exp_is K F (by omega) hs1 l1
  have x2 := exp_is K F (by omega) hs2 l2
  obtain ⟨k1, k1l, r1, k1e⟩ := room52 m1l
  obtain ⟨k2, k2l, r2, k2e⟩ := room52 m2l
  have hb : ∀ (n k : Nat), n < 2 ^ 53 → (0 < n → k = 52 - n.log2) → n * 2 ^ k < 2 ^ 53 := by
    intro n k hn hk
    rcases Nat.eq_zero_or_pos n with q | q
    · rw [q, Nat.zero_mul]; decide
    · have := log2_lt q hn
      refine Nat.lt_of_lt_of_le (Nat.mul_lt_mul_of_pos_right (log2_hi n) (Nat.two_pow_pos k)) ?_
      rw [← Nat.pow_add]; exact lt_2 (by rw [hk q]; omega)
  have t := topOfProduct_is (hb _ _ m1l k1e) (hb _ _ m2l k2e)
  rw [fX0_product_94, fX0_product_106, fX0_product_127, fX0_product_146, g1, g2, x1, x2, r1, r2, jshl_lN _ (by omega), jshl_lN _ (by omega), t]
  have ee : iI (em + Xp fb z1) - nI k1 + iI (em + Xp fb z2) - nI k2 + (54 : Int32) - (10 : Int32) = iI (em + Xp fb z1 - k1 + (em + Xp fb z2 - k2) + 44) := by
    rw [nI_iI, nI_iI, show (54 : Int32) = iI 54 from by decide, show (10 : Int32) = iI 10 from by decide, iI_sub, iI_add, iI_sub, iI_add, iI_sub]; congr 1; omega
  rw [ee]
  have hsg : ∀ x : Nat, fX0_signed kind (nI s) (lN (min ((ga + 2) * 2 ^ fb) x)) = lN (s * 2 ^ sb + min ((ga + 2) * 2 ^ fb) x) := fun x => signed_is K hs (Nat.lt_of_le_of_lt (Nat.min_le_left _ _) hI)
  by_cases c : z1 = 0 ∨ z2 = 0
  · have hP : Mg fb z1 * 2 ^ k1 * (Mg fb z2 * 2 ^ k2) = 0 := by
      rcases c with h | h
      · rw [show Mg fb z1 = 0 by rw [h]; unfold Mg; rw [if_pos (Nat.two_pow_pos fb)], Nat.zero_mul, Nat.zero_mul]
      · rw [show Mg fb z2 = 0 by rw [h]; unfold Mg; rw [if_pos (Nat.two_pow_pos fb)], Nat.zero_mul, Nat.mul_zero]
    rw [if_pos c, hP, HJ_zero, nearest_0]
    have := signed_is K hs (Nat.two_pow_pos sb)
    rw [this, Nat.add_zero]
  · have h1 : 0 < z1 := by omega
    have h2 : 0 < z2 := by omega
    have e1 : Mg fb z1 * 2 ^ k1 = Sg fb z1 := by unfold Sg; rw [k1e (Mg_pos h1)]
    have e2 : Mg fb z2 * 2 ^ k2 = Sg fb z2 := by unfold Sg; rw [k2e (Mg_pos h2)]
    obtain ⟨a1, a2⟩ := Sg_bounds (fb := fb) hfb h1
    obtain ⟨a3, a4⟩ := Sg_bounds (fb := fb) hfb h2
    have hPl : 2 ^ 52 * 2 ^ 52 ≤ Sg fb z1 * Sg fb z2 := Nat.mul_le_mul a1 a3
    have hPu : Sg fb z1 * Sg fb z2 ≤ (2 ^ 53 - 1) * (2 ^ 53 - 1) := Nat.mul_le_mul (by omega) (by omega)
    have hE1 : Eg fb em z1 = em + Xp fb z1 - k1 := by unfold Eg; rw [k1e (Mg_pos h1)]
    have hE2 : Eg fb em z2 = em + Xp fb z2 - k2 := by unfold Eg; rw [k2e (Mg_pos h2)]
    have hJ : HJ (Sg fb z1 * Sg fb z2) 44 ≤ Sg fb z1 * Sg fb z2 / 2 ^ 44 + 1 := HJ_le
    have hJ0 : 0 < HJ (Sg fb z1 * Sg fb z2) 44 := by unfold HJ; omega
    rw [if_neg c, e1, e2, ← hE1, ← hE2]
    have bE1 : -1200 ≤ Eg fb em z1 ∧ Eg fb em z1 ≤ 2100 := Eg_bounds hem hem2 hx1
    have bE2 : -1200 ≤ Eg fb em z2 ∧ Eg fb em z2 ≤ 2100 := Eg_bounds hem hem2 hx2
    have hcell : 2 ^ (fb + 1) ≤ Sg fb z1 * Sg fb z2 / 2 ^ (44 + 1) := by omega
    rw [nearest_is F hJ0 (by omega) (by omega) (by omega), hsg, ← RD_HJ (fb := fb) (q := 44) (w := Eg fb em z1 + Eg fb em z2 - em) hcell]
    congr 4
    omega
/-- the reference's product, case by case -/
theorem mul_val {s1 s2 z1 z2 : Nat} (hs1 : s1 ≤ 1) (hs2 : s2 ≤ 1) (hz1 : z1 ≤ INF64) (hz2 : z2 ≤ INF64) :
    fX2_multiply (lN (s1 * 2 ^ 63 + z1)) (lN (s2 * 2 ^ 63 + z2)) = (if z1 = INF64 ∨ z2 = INF64 then lN (sx s1 s2 * 2 ^ 63 + INF64) else if z1 = 0 ∨ z2 = 0 then lN (sx s1 s2 * 2 ^ 63) else lN (sx s1 s2 * 2 ^ 63 + min INF64 (RD 52 (Sg 52 z1 * Sg 52 z2) (Eg 52 (-1074) z1 + Eg 52 (-1074) z2 + 1074)))) ∧ okX2_multiply (lN (s1 * 2 ^ 63 + z1)) (lN (s2 * 2 ^ 63 + z2)) := by
  have l1 := lt63 hz1
  have l2 := lt63 hz2
  have n1 : ¬ (1 : Int32) = 0 := by decide
  have i1 := infd_is hs1 l1
  have i2 := infd_is hs2 l2
  have o1 := zerod_is hs1 l1
  have o2 := zerod_is hs2 l2
  have hor := or_sign (sx_le s1 s2) INF64_lt
  rw [fX2_multiply, fX2_multiply_0, okX2_multiply, okX2_multiply_0, sign_xor hs1 hs2 l1 l2, fX2_multiply_9, okX2_multiply_9, i1, i2, o1, o2, show (9218868437227405312 : Int64) = lN INF64 from rfl, hor]
  by_cases c1 : z1 = INF64
  · rw [if_pos c1, if_neg n1, if_pos (Or.inl c1)]
    exact ⟨rfl, fun h => absurd h n1, fun _ => trivial⟩
  rw [if_neg c1, if_pos rfl]
  by_cases c2 : z2 = INF64
  · rw [if_pos c2, if_neg n1, if_pos (Or.inr c2)]
    exact ⟨rfl, fun _ => ⟨fun h => absurd h n1, fun _ => trivial⟩, fun h => absurd rfl h⟩
  rw [if_neg c2, if_pos rfl, if_neg (show ¬ (z1 = INF64 ∨ z2 = INF64) by omega)]
  by_cases d1 : z1 = 0
  · rw [if_pos d1, if_neg n1, if_pos (Or.inl d1)]
    exact ⟨rfl, fun _ => ⟨fun _ => ⟨fun h => absurd h n1, fun _ => trivial⟩, fun h => absurd rfl h⟩, fun h => absurd rfl h⟩
  rw [if_neg d1, if_pos rfl]
  by_cases d2 : z2 = 0
  · rw [if_pos d2, if_neg n1, if_pos (Or.inr d2)]
    exact ⟨rfl, fun _ => ⟨fun _ => ⟨fun _ => ⟨fun h => absurd h n1, fun _ => trivial⟩, fun h => absurd rfl h⟩, fun h => absurd rfl h⟩, fun h => absurd rfl h⟩
  rw [if_neg d2, if_pos rfl, if_neg (show ¬ (z1 = 0 ∨ z2 = 0) by omega)]
  have k1 : z1 < INF64 := by omega
  have k2 : z2 < INF64 := by omega
  have t1 : 0 < z1 := by omega
  have t2 : 0 < z2 := by omega
  obtain ⟨e1, e1o⟩ := expd_is hs1 t1 k1
  obtain ⟨e2, e2o⟩ := expd_is hs2 t2 k2
  obtain ⟨g1, g1o⟩ := sigd_is hs1 t1 k1
  obtain ⟨g2, g2o⟩ := sigd_is hs2 t2 k2
  obtain ⟨a1, a2⟩ := Sg_bounds (fb := 52) (by omega) t1
  obtain ⟨a3, a4⟩ := Sg_bounds (fb := 52) (by omega) t2
  obtain ⟨b1, b2⟩ := Eg52_bounds k1
  obtain ⟨b3, b4⟩ := Eg52_bounds k2
  obtain ⟨r1, r2⟩ := refMul_core (sx_le s1 s2) e1 e1o e2 e2o g2 g2o a1 a2 a3 a4 b1 b2 b3 b4
  rw [g1]
  exact ⟨r1, fun _ => ⟨fun _ => ⟨fun _ => ⟨fun _ => ⟨g1o, r2⟩, fun h => absurd rfl h⟩, fun h => absurd rfl h⟩, fun h => absurd rfl h⟩, fun h => absurd rfl h⟩
/-- the class's product, case by case -/
theorem cmul_val {kind : Int32} {sb fb ga s1 s2 z1 z2 : Nat} {em : Int} (K : Ks kind sb) (F : Kd kind fb em ga) (hfs : fb < sb) (hI : (ga + 2) * 2 ^ fb < 2 ^ sb) (hs1 : s1 ≤ 1) (hs2 : s2 ≤ 1) (hz1 : z1 ≤ (ga + 2) * 2 ^ fb) (hz2 : z2 ≤ (ga + 2) * 2 ^ fb) :
    fX0_product kind (lN (s1 * 2 ^ sb + z1)) (lN (s2 * 2 ^ sb + z2)) = (if z1 = (ga + 2) * 2 ^ fb ∨ z2 = (ga + 2) * 2 ^ fb then (if z1 = 0 ∨ z2 = 0 then fX0_notANumber kind else lN (sx s1 s2 * 2 ^ sb + (ga + 2) * 2 ^ fb)) else if z1 = 0 ∨ z2 = 0 then lN (sx s1 s2 * 2 ^ sb) else lN (sx s1 s2 * 2 ^ sb + min ((ga + 2) * 2 ^ fb) (RD fb (Sg fb z1 * Sg fb z2) (Eg fb em z1 + Eg fb em z2 - em)))) := by
  have l1 : z1 < 2 ^ sb := by omega
  have l2 : z2 < 2 ^ sb := by omega
  have n1 : ¬ (1 : Int32) = 0 := by decide
  have i1 := inf_is K F hs1 l1
  have i2 := inf_is K F hs2 l2
  have o1 := zero_is K hs1 l1
  have o2 := zero_is K hs2 l2
  have qs : (nI s1 = nI s2) ↔ s1 = s2 := nI_eq (by omega) (by omega)
  have main : fX0_product_18 kind (lN (s1 * 2 ^ sb + z1)) (lN (s2 * 2 ^ sb + z2)) (nI (sx s1 s2)) = (if z1 = (ga + 2) * 2 ^ fb ∨ z2 = (ga + 2) * 2 ^ fb then (if z1 = 0 ∨ z2 = 0 then fX0_notANumber kind else lN (sx s1 s2 * 2 ^ sb + (ga + 2) * 2 ^ fb)) else if z1 = 0 ∨ z2 = 0 then lN (sx s1 s2 * 2 ^ sb) else lN (sx s1 s2 * 2 ^ sb + min ((ga + 2) * 2 ^ fb) (RD fb (Sg fb z1 * Sg fb z2) (Eg fb em z1 + Eg fb em z2 - em)))) := by
    have k36 : fX0_product_36 kind (lN (s1 * 2 ^ sb + z1)) (lN (s2 * 2 ^ sb + z2)) (nI (sx s1 s2)) = if z1 = 0 ∨ z2 = 0 then fX0_notANumber kind else lN (sx s1 s2 * 2 ^ sb + (ga + 2) * 2 ^ fb) := by
      rw [fX0_product_36, fX0_product_52, fX0_product_57, fX0_product_57, o1, o2, F.2.2.2.1, signed_is K (sx_le s1 s2) hI, if_neg n1, if_pos rfl]
      by_cases d1 : z1 = 0
      · rw [if_pos d1, if_neg n1, if_pos (Or.inl d1)]
      · rw [if_neg d1, if_pos rfl]
        by_cases d2 : z2 = 0
        · rw [if_pos d2, if_neg n1, if_pos (Or.inr d2)]
        · rw [if_neg d2, if_pos rfl, if_neg (show ¬ (z1 = 0 ∨ z2 = 0) by omega)]
    rw [fX0_product_18, i1, i2, k36]
    by_cases c1 : z1 = (ga + 2) * 2 ^ fb
    · rw [if_pos c1, if_neg n1, if_pos (Or.inl c1)]
    · rw [if_neg c1, if_pos rfl]
      by_cases c2 : z2 = (ga + 2) * 2 ^ fb
      · rw [if_pos c2, if_neg n1, if_pos (Or.inr c2)]
      · rw [if_neg c2, if_pos rfl, if_neg (show ¬ (z1 = (ga + 2) * 2 ^ fb ∨ z2 = (ga + 2) * 2 ^ fb) by omega)]
        exact clsMul K F hfs hI (sx_le s1 s2) hs1 hs2 (by omega) (by omega)
  rw [fX0_product, fX0_product_0, neg_is K hs1 l1, neg_is K hs2 l2]
  by_cases c : s1 = s2
  · rw [if_pos (qs.mpr c), ← main, show sx s1 s2 = 0 by unfold sx; rw [if_pos c]]; rfl
  · rw [if_neg (fun h => c (qs.mp h)), ← main, show sx s1 s2 = 1 by unfold sx; rw [if_neg c]]; rfl
theorem prod7 {s1 s2 z1 z2 : Nat} (hs1 : s1 ≤ 1) (hs2 : s2 ≤ 1) (hz1 : z1 ≤ INF64) (hz2 : z2 ≤ INF64) (hn : ¬ ((z1 = INF64 ∨ z2 = INF64) ∧ (z1 = 0 ∨ z2 = 0))) :
    fX0_product 7 (lN (s1 * 2 ^ 63 + z1)) (lN (s2 * 2 ^ 63 + z2)) = fX2_multiply (lN (s1 * 2 ^ 63 + z1)) (lN (s2 * 2 ^ 63 + z2)) ∧ D7 (fX2_multiply (lN (s1 * 2 ^ 63 + z1)) (lN (s2 * 2 ^ 63 + z2))) := by
  have a := cmul_val Ks7 Kd7 (by decide) (by decide) hs1 hs2 (show z1 ≤ (2045 + 2) * 2 ^ 52 from hz1) (show z2 ≤ (2045 + 2) * 2 ^ 52 from hz2)
  have b := (mul_val hs1 hs2 hz1 hz2).1
  rw [b, a, show (2045 + 2) * 2 ^ 52 = INF64 from rfl]
  have hs := sx_le s1 s2
  by_cases c1 : z1 = INF64 ∨ z2 = INF64
  · rw [if_pos c1, if_pos c1, if_neg (fun h => hn ⟨c1, h⟩)]
    exact ⟨rfl, _, _, hs, Nat.le_refl _, rfl⟩
  · rw [if_neg c1, if_neg c1]
    by_cases c2 : z1 = 0 ∨ z2 = 0
    · rw [if_pos c2, if_pos c2]
      exact ⟨rfl, _, 0, hs, by decide, by rw [Nat.add_zero]⟩
    · rw [if_neg c2, if_neg c2, show Eg 52 (-1074) z1 + Eg 52 (-1074) z2 - -1074 = Eg 52 (-1074) z1 + Eg 52 (-1074) z2 + 1074 by omega]
      exact ⟨rfl, D7_min hs⟩
theorem mul_nr {z1 z2 : Nat} (h1 : 0 < z1) (hz1 : z1 < INF32) (h2 : 0 < z2) (hz2 : z2 < INF32) :
    Nr (min INF64 (RD 52 (Sg 23 z1 * Sg 23 z2) (Eg 23 (-149) z1 + Eg 23 (-149) z2 + 1074))) = min INF32 (RD 23 (Sg 23 z1 * Sg 23 z2) (Eg 23 (-149) z1 + Eg 23 (-149) z2 - -149)) := by
  obtain ⟨k1, a1, a2, e1⟩ := Sg23 h1
  obtain ⟨k2, a3, a4, e2⟩ := Sg23 h2
  obtain ⟨c1, c2⟩ := Eg23_bounds hz1
  obtain ⟨c3, c4⟩ := Eg23_bounds hz2
  have eP : Sg 23 z1 * Sg 23 z2 = k1 * k2 * 2 ^ 58 := by rw [e1, e2, Nat.mul_mul_mul_comm, ← Nat.pow_add]
  have b1 : 2 ^ 23 * 2 ^ 23 ≤ k1 * k2 := Nat.mul_le_mul a1 a3
  have b2 : k1 * k2 ≤ (2 ^ 24 - 1) * (2 ^ 24 - 1) := Nat.mul_le_mul (by omega) (by omega)
  rw [eP]
  have lg := log2_shl (n := k1 * k2) (by omega) 58
  have lk1 := log2_ge (k := 46) (show 2 ^ 46 ≤ k1 * k2 by omega)
  have lk2 := log2_lt (show 0 < k1 * k2 by omega) (show k1 * k2 < 2 ^ 48 by omega)
  rw [show Eg 23 (-149) z1 + Eg 23 (-149) z2 - -149 = Eg 23 (-149) z1 + Eg 23 (-149) z2 + 1074 - 925 by omega]
  refine (NrRD (p := 64) (d := (k1 * k2 * 2 ^ 58).log2 + 12) (by omega) (by rw [lg]; omega) (by rw [lg]; omega) (by omega) (fun h _ => Or.inr ?_)).2
  exact exact_mod (by omega) (by omega) (by omega)
theorem prod6 {s1 s2 z1 z2 : Nat} (hs1 : s1 ≤ 1) (hs2 : s2 ≤ 1) (hz1 : z1 ≤ INF32) (hz2 : z2 ≤ INF32) (hn : ¬ ((z1 = INF32 ∨ z2 = INF32) ∧ (z1 = 0 ∨ z2 = 0))) :
    fX0_product 6 (lN (s1 * 2 ^ 31 + z1)) (lN (s2 * 2 ^ 31 + z2)) = (fX2_narrow (fX2_multiply (lN (s1 * 2 ^ 63 + Wd z1)) (lN (s2 * 2 ^ 63 + Wd z2)))).toInt64 &&& (4294967295 : Int64) ∧ D6 (fX0_product 6 (lN (s1 * 2 ^ 31 + z1)) (lN (s2 * 2 ^ 31 + z2))) := by
  have a := cmul_val Ks6 Kd6 (by decide) (by decide) hs1 hs2 (show z1 ≤ (253 + 2) * 2 ^ 23 from hz1) (show z2 ≤ (253 + 2) * 2 ^ 23 from hz2)
  have b := (mul_val hs1 hs2 (Wd_le' hz1) (Wd_le' hz2)).1
  have hs := sx_le s1 s2
  have qi1 := Wd_isinf (lt31 hz1)
  have qi2 := Wd_isinf (lt31 hz2)
  have q01 := Wd_zero (lt31 hz1)
  have q02 := Wd_zero (lt31 hz2)
  rw [b, a, show (253 + 2) * 2 ^ 23 = INF32 from rfl]
  by_cases c1 : z1 = INF32 ∨ z2 = INF32
  · have c1' : Wd z1 = INF64 ∨ Wd z2 = INF64 := c1.imp qi1.mpr qi2.mpr
    have m := Nr_mask hs (Nat.le_refl INF64)
    rw [show Nr INF64 = INF32 from by rw [← Wd_inf, Nr_Wd (Nat.le_refl _)]] at m
    rw [if_pos c1, if_pos c1', if_neg (fun h => hn ⟨c1, h⟩), m]
    exact ⟨rfl, _, _, hs, Nat.le_refl _, rfl⟩
  · have c1' : ¬ (Wd z1 = INF64 ∨ Wd z2 = INF64) := fun h => c1 (h.imp qi1.mp qi2.mp)
    rw [if_neg c1, if_neg c1']
    by_cases c2 : z1 = 0 ∨ z2 = 0
    · have c2' : Wd z1 = 0 ∨ Wd z2 = 0 := c2.imp q01.mpr q02.mpr
      have m := Nr_mask (z := 0) hs (by decide)
      rw [show Nr 0 = 0 from rfl, Nat.add_zero, Nat.add_zero] at m
      rw [if_pos c2, if_pos c2', m]
      exact ⟨rfl, _, 0, hs, by decide, by rw [Nat.add_zero]⟩
    · have c2' : ¬ (Wd z1 = 0 ∨ Wd z2 = 0) := fun h => c2 (h.imp q01.mp q02.mp)
      have t1 : 0 < z1 := by omega
      have t2 : 0 < z2 := by omega
      have k1 : z1 < INF32 := by omega
      have k2 : z2 < INF32 := by omega
      obtain ⟨S1, E1⟩ := SgEg_Wd t1 k1
      obtain ⟨S2, E2⟩ := SgEg_Wd t2 k2
      rw [if_neg c2, if_neg c2', S1, S2, E1, E2, Nr_mask hs (Nat.min_le_left _ _), mul_nr t1 k1 t2 k2]
      exact ⟨rfl, _, _, hs, Nat.min_le_left _ _, rfl⟩
