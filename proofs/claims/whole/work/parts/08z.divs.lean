theorem QJ_le (A b : Nat) : QJ A b ≤ A / b + 1 ∧ A / b ≤ QJ A b := by
  unfold QJ
  split
  · omega
  · rw [or1]; omega
/-- the class's quotient of two finite numbers -/
theorem clsDiv {kind : Int32} {sb fb ga s1 s2 z1 z2 s : Nat} {em : Int} (K : Ks kind sb) (F : Kd kind fb em ga) (hfs : fb < sb) (hI : (ga + 2) * 2 ^ fb < 2 ^ sb) (hs : s ≤ 1) (hs1 : s1 ≤ 1) (hs2 : s2 ≤ 1) (hz1 : z1 < (ga + 2) * 2 ^ fb) (h2 : 0 < z2) (hz2 : z2 < (ga + 2) * 2 ^ fb) :
    fX0_quotient_124 kind (lN (s1 * 2 ^ sb + z1)) (lN (s2 * 2 ^ sb + z2)) (nI s) (fX0_roomBelow (52 : Int32) (fX0_magnitude kind (lN (s1 * 2 ^ sb + z1)))) = if z1 = 0 then lN (s * 2 ^ sb) else lN (s * 2 ^ sb + min ((ga + 2) * 2 ^ fb) (RD fb (2 * (Sg fb z1 * 2 ^ 56 / Sg fb z2) + stq (Sg fb z1 * 2 ^ 56) (Sg fb z2)) (Eg fb em z1 - Eg fb em z2 - em - 57))) := by
  have hem := F.2.2.2.2.2.2.2.1
  have hem2 := F.2.2.2.2.2.2.2.2.1
  have hfb := F.2.2.2.2.1
  have hga := F.2.2.2.2.2.2.1
  have l1 : z1 < 2 ^ sb := by omega
  have l2 : z2 < 2 ^ sb := by omega
  have hd1 : z1 / 2 ^ fb < ga + 2 := (Nat.div_lt_iff_lt_mul (Nat.two_pow_pos fb)).mpr hz1
  have hd2 : z2 / 2 ^ fb < ga + 2 := (Nat.div_lt_iff_lt_mul (Nat.two_pow_pos fb)).mpr hz2
  have hx1 : Xp fb z1 ≤ 2046 := by unfold Xp; omega
  have hx2 : Xp fb z2 ≤ 2046 := by unfold Xp; omega
  have hp53 : 2 ^ (fb + 1) ≤ 2 ^ 53 := lt_2 (by omega)
  have m1l : Mg fb z1 < 2 ^ 53 := Nat.lt_of_lt_of_le (Mg_lt fb z1) hp53
  have m2l : Mg fb z2 < 2 ^ 53 := Nat.lt_of_lt_of_le (Mg_lt fb z2) hp53
  have g1 := mag_is K F hfs hs1 l1
  have g2 := mag_is K F hfs hs2 l2
  have x1 := exp_is K F (by omega) hs1 l1
  have x2 := exp_is K F (by omega) hs2 l2
  obtain ⟨k1, k1l, r1, k1e⟩ := room52 m1l
  obtain ⟨k2, k2l, r2, k2e⟩ := room52 m2l
  have e2 : Mg fb z2 * 2 ^ k2 = Sg fb z2 := by unfold Sg; rw [k2e (Mg_pos h2)]
  obtain ⟨a3, a4⟩ := Sg_bounds (fb := fb) hfb h2
  have hE2 : Eg fb em z2 = em + Xp fb z2 - k2 := by unfold Eg; rw [k2e (Mg_pos h2)]
  have hb1 : Mg fb z1 * 2 ^ k1 < 2 ^ 53 := by
    rcases Nat.eq_zero_or_pos (Mg fb z1) with q | q
    · rw [q, Nat.zero_mul]; decide
    · have := log2_lt q m1l
      refine Nat.lt_of_lt_of_le (Nat.mul_lt_mul_of_pos_right (log2_hi _) (Nat.two_pow_pos k1)) ?_
      rw [← Nat.pow_add]; exact lt_2 (by rw [k1e q]; omega)
  have t := topOfQuotient_is hb1 a3 a4
  rw [fX0_quotient_124, fX0_quotient_136, fX0_quotient_146, fX0_quotient_161, fX0_quotient_180, g1, g2, x1, x2, r1, r2, jshl_lN _ (by omega), jshl_lN _ (by omega), e2, t]
  have ee : iI (em + Xp fb z1) - nI k1 - iI (em + Xp fb z2) + nI k2 - (60 : Int32) = iI (em + Xp fb z1 - k1 - (em + Xp fb z2 - k2) - 60) := by
    rw [nI_iI, nI_iI, show (60 : Int32) = iI 60 from by decide, iI_sub, iI_sub, iI_add, iI_sub]; congr 1; omega
  rw [ee, ← hE2]
  have bE2 : -1200 ≤ Eg fb em z2 ∧ Eg fb em z2 ≤ 2100 := Eg_bounds hem hem2 hx2
  have hsg : ∀ x : Nat, fX0_signed kind (nI s) (lN (min ((ga + 2) * 2 ^ fb) x)) = lN (s * 2 ^ sb + min ((ga + 2) * 2 ^ fb) x) := fun x => signed_is K hs (Nat.lt_of_le_of_lt (Nat.min_le_left _ _) hI)
  by_cases c : z1 = 0
  · have hM : Mg fb z1 = 0 := by rw [c]; unfold Mg; rw [if_pos (Nat.two_pow_pos fb)]
    have hQ : QJ (Mg fb z1 * 2 ^ k1 * 2 ^ 60) (Sg fb z2) = 0 := by
      rw [hM, Nat.zero_mul, Nat.zero_mul]; unfold QJ; rw [Nat.zero_mod, if_pos rfl, Nat.zero_div]
    have := signed_is K hs (Nat.two_pow_pos sb)
    rw [if_pos c, hQ, nearest_0, this, Nat.add_zero]
  · have h1 : 0 < z1 := by omega
    have e1 : Mg fb z1 * 2 ^ k1 = Sg fb z1 := by unfold Sg; rw [k1e (Mg_pos h1)]
    obtain ⟨a1, a2⟩ := Sg_bounds (fb := fb) hfb h1
    have hE1 : Eg fb em z1 = em + Xp fb z1 - k1 := by unfold Eg; rw [k1e (Mg_pos h1)]
    have bE1 : -1200 ≤ Eg fb em z1 ∧ Eg fb em z1 ≤ 2100 := Eg_bounds hem hem2 hx1
    have hb0 : 0 < Sg fb z2 := by omega
    have q1 : 2 ^ 59 ≤ Sg fb z1 * 2 ^ 60 / Sg fb z2 := (Nat.le_div_iff_mul_le hb0).mpr (by omega)
    have q2 : Sg fb z1 * 2 ^ 60 / Sg fb z2 < 2 ^ 61 := (Nat.div_lt_iff_lt_mul hb0).mpr (by omega)
    have hq := QJ_le (Sg fb z1 * 2 ^ 60) (Sg fb z2)
    rw [if_neg c, e1, ← hE1, nearest_is F (by omega) (by omega) (by omega) (by omega), hsg, ← RD_QJ hfb a1 a2 a3 a4]
    congr 4
    omega
/-- the reference's quotient, case by case -/
theorem div_val {s1 s2 z1 z2 : Nat} (hs1 : s1 ≤ 1) (hs2 : s2 ≤ 1) (hz1 : z1 ≤ INF64) (hz2 : z2 ≤ INF64) :
    fX2_divide (lN (s1 * 2 ^ 63 + z1)) (lN (s2 * 2 ^ 63 + z2)) = (if z1 = INF64 ∨ z2 = 0 then lN (sx s1 s2 * 2 ^ 63 + INF64) else if z1 = 0 ∨ z2 = INF64 then lN (sx s1 s2 * 2 ^ 63) else lN (sx s1 s2 * 2 ^ 63 + min INF64 (RD 52 (2 * (Sg 52 z1 * 2 ^ 56 / Sg 52 z2) + stq (Sg 52 z1 * 2 ^ 56) (Sg 52 z2)) (Eg 52 (-1074) z1 - Eg 52 (-1074) z2 + 1017)))) ∧ okX2_divide (lN (s1 * 2 ^ 63 + z1)) (lN (s2 * 2 ^ 63 + z2)) := by
  have l1 := lt63 hz1
  have l2 := lt63 hz2
  have n1 : ¬ (1 : Int32) = 0 := by decide
  have i1 := infd_is hs1 l1
  have i2 := infd_is hs2 l2
  have o1 := zerod_is hs1 l1
  have o2 := zerod_is hs2 l2
  have hor := or_sign (sx_le s1 s2) INF64_lt
  rw [fX2_divide, fX2_divide_0, okX2_divide, okX2_divide_0, sign_xor hs1 hs2 l1 l2, fX2_divide_9, okX2_divide_9, i1, i2, o1, o2, show (9218868437227405312 : Int64) = lN INF64 from rfl, hor]
  by_cases c1 : z1 = INF64
  · rw [if_pos c1, if_neg n1, if_pos (Or.inl c1)]
    exact ⟨rfl, fun h => absurd h n1, fun _ => trivial⟩
  rw [if_neg c1, if_pos rfl]
  by_cases c2 : z2 = 0
  · rw [if_pos c2, if_neg n1, if_pos (Or.inr c2)]
    exact ⟨rfl, fun _ => ⟨fun h => absurd h n1, fun _ => trivial⟩, fun h => absurd rfl h⟩
  rw [if_neg c2, if_pos rfl, if_neg (show ¬ (z1 = INF64 ∨ z2 = 0) by omega)]
  by_cases d1 : z1 = 0
  · rw [if_pos d1, if_neg n1, if_pos (Or.inl d1)]
    exact ⟨rfl, fun _ => ⟨fun _ => ⟨fun h => absurd h n1, fun _ => trivial⟩, fun h => absurd rfl h⟩, fun h => absurd rfl h⟩
  rw [if_neg d1, if_pos rfl]
  by_cases d2 : z2 = INF64
  · rw [if_pos d2, if_neg n1, if_pos (Or.inr d2)]
    exact ⟨rfl, fun _ => ⟨fun _ => ⟨fun _ => ⟨fun h => absurd h n1, fun _ => trivial⟩, fun h => absurd rfl h⟩, fun h => absurd rfl h⟩, fun h => absurd rfl h⟩
  rw [if_neg d2, if_pos rfl, if_neg (show ¬ (z1 = 0 ∨ z2 = INF64) by omega)]
  have k1 : z1 < INF64 := by omega
  have k2 : z2 < INF64 := by omega
  have t1 : 0 < z1 := by omega
  have t2 : 0 < z2 := by omega
  obtain ⟨e1, e1o⟩ := expd_is hs1 t1 k1
  obtain ⟨e2, e2o⟩ := expd_is hs2 t2 k2
  obtain ⟨g1, g1o⟩ := sigd_is hs1 t1 k1
  obtain ⟨g2, g2o⟩ := sigd_is hs2 t2 k2
  obtain ⟨a1, a2⟩ := Sg_bounds (fb := 52) (by omega) t1
  obtain ⟨a3, a4⟩ := Sg_bounds (fb := 52) (by omega) t2
  obtain ⟨b1, b2⟩ := Eg52_bounds k1
  obtain ⟨b3, b4⟩ := Eg52_bounds k2
  obtain ⟨r1, r2⟩ := refDiv_core (sx_le s1 s2) e1 e1o e2 e2o g2 g2o a1 a2 a3 a4 b1 b2 b3 b4
  rw [g1]
  exact ⟨r1, fun _ => ⟨fun _ => ⟨fun _ => ⟨fun _ => ⟨g1o, r2⟩, fun h => absurd rfl h⟩, fun h => absurd rfl h⟩, fun h => absurd rfl h⟩, fun h => absurd rfl h⟩
/-- the class's quotient, case by case -/
theorem cdiv_val {kind : Int32} {sb fb ga s1 s2 z1 z2 : Nat} {em : Int} (K : Ks kind sb) (F : Kd kind fb em ga) (hfs : fb < sb) (hI : (ga + 2) * 2 ^ fb < 2 ^ sb) (hs1 : s1 ≤ 1) (hs2 : s2 ≤ 1) (hz1 : z1 ≤ (ga + 2) * 2 ^ fb) (hz2 : z2 ≤ (ga + 2) * 2 ^ fb) :
    fX0_quotient kind (lN (s1 * 2 ^ sb + z1)) (lN (s2 * 2 ^ sb + z2)) = (if (z1 = (ga + 2) * 2 ^ fb ∧ z2 = (ga + 2) * 2 ^ fb) ∨ (z1 = 0 ∧ z2 = 0) then fX0_notANumber kind else if z1 = (ga + 2) * 2 ^ fb ∨ z2 = 0 then lN (sx s1 s2 * 2 ^ sb + (ga + 2) * 2 ^ fb) else if z1 = 0 ∨ z2 = (ga + 2) * 2 ^ fb then lN (sx s1 s2 * 2 ^ sb) else lN (sx s1 s2 * 2 ^ sb + min ((ga + 2) * 2 ^ fb) (RD fb (2 * (Sg fb z1 * 2 ^ 56 / Sg fb z2) + stq (Sg fb z1 * 2 ^ 56) (Sg fb z2)) (Eg fb em z1 - Eg fb em z2 - em - 57)))) := by
  have l1 : z1 < 2 ^ sb := by omega
  have l2 : z2 < 2 ^ sb := by omega
  have n1 : ¬ (1 : Int32) = 0 := by decide
  have i1 := inf_is K F hs1 l1
  have i2 := inf_is K F hs2 l2
  have o1 := zero_is K hs1 l1
  have o2 := zero_is K hs2 l2
  have qs : (nI s1 = nI s2) ↔ s1 = s2 := nI_eq (by omega) (by omega)
  have hI0 : 0 < (ga + 2) * 2 ^ fb := Nat.mul_pos (by omega) (Nat.two_pow_pos fb)
  have k67 : fX0_quotient_67 kind (lN (s1 * 2 ^ sb + z1)) (lN (s2 * 2 ^ sb + z2)) (nI (sx s1 s2)) = (if z1 = (ga + 2) * 2 ^ fb ∨ z2 = 0 then lN (sx s1 s2 * 2 ^ sb + (ga + 2) * 2 ^ fb) else if z1 = 0 ∨ z2 = (ga + 2) * 2 ^ fb then lN (sx s1 s2 * 2 ^ sb) else lN (sx s1 s2 * 2 ^ sb + min ((ga + 2) * 2 ^ fb) (RD fb (2 * (Sg fb z1 * 2 ^ 56 / Sg fb z2) + stq (Sg fb z1 * 2 ^ 56) (Sg fb z2)) (Eg fb em z1 - Eg fb em z2 - em - 57)))) := by
    have s0 := signed_is K (sx_le s1 s2) (Nat.two_pow_pos sb)
    rw [Nat.add_zero] at s0
    rw [fX0_quotient_67, fX0_quotient_85, i1, i2, o2, F.2.2.2.1, signed_is K (sx_le s1 s2) hI, show (0 : Int64) = lN 0 from rfl, s0]
    by_cases c1 : z1 = (ga + 2) * 2 ^ fb
    · rw [if_pos c1, if_neg n1, if_pos (Or.inl c1)]
    rw [if_neg c1, if_pos rfl]
    by_cases c2 : z2 = 0
    · rw [if_pos c2, if_neg n1, if_pos (Or.inr c2)]
    rw [if_neg c2, if_pos rfl, if_neg (show ¬ (z1 = (ga + 2) * 2 ^ fb ∨ z2 = 0) by omega)]
    by_cases c3 : z2 = (ga + 2) * 2 ^ fb
    · rw [if_pos c3, if_neg n1, if_pos (Or.inr c3)]
    rw [if_neg c3, if_pos rfl, clsDiv K F hfs hI (sx_le s1 s2) hs1 hs2 (by omega) (by omega) (by omega)]
    by_cases c4 : z1 = 0
    · rw [if_pos c4, if_pos (Or.inl c4)]
    · rw [if_neg c4, if_neg (show ¬ (z1 = 0 ∨ z2 = (ga + 2) * 2 ^ fb) by omega)]
  have k49 : fX0_quotient_49 kind (lN (s1 * 2 ^ sb + z1)) (lN (s2 * 2 ^ sb + z2)) = fX0_quotient_67 kind (lN (s1 * 2 ^ sb + z1)) (lN (s2 * 2 ^ sb + z2)) (nI (sx s1 s2)) := by
    rw [fX0_quotient_49, neg_is K hs1 l1, neg_is K hs2 l2]
    by_cases c : s1 = s2
    · rw [if_pos (qs.mpr c), show sx s1 s2 = 0 by unfold sx; rw [if_pos c]]; rfl
    · rw [if_neg (fun h => c (qs.mp h)), show sx s1 s2 = 1 by unfold sx; rw [if_neg c]]; rfl
  rw [fX0_quotient, fX0_quotient_0, fX0_quotient_20, fX0_quotient_21, fX0_quotient_21, if_pos rfl, if_neg n1, fX0_quotient_44, k49, k67, i1, i2, o1, o2]
  by_cases a1 : z1 = (ga + 2) * 2 ^ fb
  · rw [if_pos a1, if_neg n1]
    by_cases a2 : z2 = (ga + 2) * 2 ^ fb
    · rw [if_pos a2, if_neg n1, if_pos (Or.inl ⟨a1, a2⟩)]
    · rw [if_neg a2, if_pos rfl, if_neg (show ¬ z1 = 0 by omega), if_pos rfl, if_neg (show ¬ ((z1 = (ga + 2) * 2 ^ fb ∧ z2 = (ga + 2) * 2 ^ fb) ∨ (z1 = 0 ∧ z2 = 0)) by omega)]
  · rw [if_neg a1, if_pos rfl]
    by_cases b1 : z1 = 0
    · rw [if_pos b1, if_neg n1]
      by_cases b2 : z2 = 0
      · rw [if_pos b2, if_neg n1, if_pos (Or.inr ⟨b1, b2⟩)]
      · rw [if_neg b2, if_pos rfl, if_neg (show ¬ ((z1 = (ga + 2) * 2 ^ fb ∧ z2 = (ga + 2) * 2 ^ fb) ∨ (z1 = 0 ∧ z2 = 0)) by omega)]
    · rw [if_neg b1, if_pos rfl, if_neg (show ¬ ((z1 = (ga + 2) * 2 ^ fb ∧ z2 = (ga + 2) * 2 ^ fb) ∨ (z1 = 0 ∧ z2 = 0)) by omega)]
theorem quot7 {s1 s2 z1 z2 : Nat} (hs1 : s1 ≤ 1) (hs2 : s2 ≤ 1) (hz1 : z1 ≤ INF64) (hz2 : z2 ≤ INF64) (hn : ¬ ((z1 = INF64 ∧ z2 = INF64) ∨ (z1 = 0 ∧ z2 = 0))) :
    fX0_quotient 7 (lN (s1 * 2 ^ 63 + z1)) (lN (s2 * 2 ^ 63 + z2)) = fX2_divide (lN (s1 * 2 ^ 63 + z1)) (lN (s2 * 2 ^ 63 + z2)) ∧ D7 (fX2_divide (lN (s1 * 2 ^ 63 + z1)) (lN (s2 * 2 ^ 63 + z2))) := by
  have a := cdiv_val Ks7 Kd7 (by decide) (by decide) hs1 hs2 (show z1 ≤ (2045 + 2) * 2 ^ 52 from hz1) (show z2 ≤ (2045 + 2) * 2 ^ 52 from hz2)
  have b := (div_val hs1 hs2 hz1 hz2).1
  rw [b, a, show (2045 + 2) * 2 ^ 52 = INF64 from rfl, if_neg hn]
  have hs := sx_le s1 s2
  by_cases c1 : z1 = INF64 ∨ z2 = 0
  · rw [if_pos c1, if_pos c1]
    exact ⟨rfl, _, _, hs, Nat.le_refl _, rfl⟩
  · rw [if_neg c1, if_neg c1]
    by_cases c2 : z1 = 0 ∨ z2 = INF64
    · rw [if_pos c2, if_pos c2]
      exact ⟨rfl, _, 0, hs, by decide, by rw [Nat.add_zero]⟩
    · rw [if_neg c2, if_neg c2, show Eg 52 (-1074) z1 - Eg 52 (-1074) z2 - -1074 - 57 = Eg 52 (-1074) z1 - Eg 52 (-1074) z2 + 1017 by omega]
      exact ⟨rfl, D7_min hs⟩
/-- no half of a float is near a quotient that doubles don't have -/
theorem p32 {r x h d : Nat} (h1 : 2 ^ h * x + 2 ^ (h - 1) = r) (hh : 29 ≤ h) (hd : 4 ≤ d) : r * 2 ^ d = 2 ^ 32 * ((2 ^ (h - 28) * x + 2 ^ (h - 1 - 28)) * 2 ^ (d - 4)) := by
  rw [← h1]
  rw [show (2 : Nat) ^ 32 = 2 ^ 28 * 2 ^ 4 from by decide, show (2 : Nat) ^ d = 2 ^ 4 * 2 ^ (d - 4) by rw [← Nat.pow_add]; congr 1; omega, show (2 : Nat) ^ h = 2 ^ 28 * 2 ^ (h - 28) by rw [← Nat.pow_add]; congr 1; omega, show (2 : Nat) ^ (h - 1) = 2 ^ 28 * 2 ^ (h - 1 - 28) by rw [← Nat.pow_add]; congr 1; omega]
  rw [Nat.mul_assoc (2 ^ 28) (2 ^ (h - 28)), ← Nat.mul_add, Nat.mul_assoc, Nat.mul_assoc, Nat.mul_left_comm (2 ^ 4)]
theorem div_half {k1 k2 d h M : Nat} (a3 : 2 ^ 23 ≤ k2) (a4 : k2 < 2 ^ 24) (hM : M = 2 * (k1 * 2 ^ 56 / k2) + stq (k1 * 2 ^ 56) k2) (hd1 : 4 ≤ d) (hd2 : d ≤ 5) (hh : 29 ≤ h) (hk : rne M (2 ^ d) % 2 ^ h = 2 ^ (h - 1)) : M % 2 ^ d = 0 := by
  have hn := rne_near M (2 ^ d) (Nat.two_pow_pos d)
  obtain ⟨c, hc⟩ : ∃ c : Nat, rne M (2 ^ d) * 2 ^ d = 2 ^ 32 * c := by
    have h1 := Nat.div_add_mod (rne M (2 ^ d)) (2 ^ h)
    rw [hk] at h1
    exact ⟨_, p32 h1 hh hd1⟩
  have hdd : 2 ^ d ≤ 32 := by have := lt_2 hd2; omega
  have hqr := Nat.div_add_mod (k1 * 2 ^ 56) k2
  have hrl := Nat.mod_lt (k1 * 2 ^ 56) (show 0 < k2 by omega)
  have hY : M = 2 ^ 32 * c := by
    rw [hc] at hn
    unfold stq at hM
    generalize hQ : k1 * 2 ^ 56 / k2 = Q at *
    generalize hR : k1 * 2 ^ 56 % k2 = R at *
    have hMk : M * k2 + 2 * R = 2 * (k1 * 2 ^ 56) + (if R = 0 then 0 else 1) * k2 := by
      rw [hM, Nat.add_mul, Nat.mul_assoc, Nat.mul_comm Q k2]; omega
    have hu : 2 ^ 32 * c * k2 = 2 ^ 32 * (c * k2) := Nat.mul_assoc _ _ _
    rcases Nat.lt_trichotomy M (2 ^ 32 * c) with q | q | q
    · exfalso
      obtain ⟨e, he⟩ : ∃ e, 2 ^ 32 * c = M + e := ⟨2 ^ 32 * c - M, by omega⟩
      have e1 : 1 * k2 ≤ e * k2 := Nat.mul_le_mul_right _ (by omega)
      have e2 : e * k2 ≤ 16 * k2 := Nat.mul_le_mul_right _ (by omega)
      rw [he, Nat.add_mul] at hu
      generalize c * k2 = u at *
      generalize M * k2 = m at *
      generalize e * k2 = x at *
      by_cases r0 : R = 0
      · rw [if_pos r0] at hMk; omega
      · rw [if_neg r0] at hMk; omega
    · exact q
    · exfalso
      obtain ⟨e, he⟩ : ∃ e, M = 2 ^ 32 * c + e := ⟨M - 2 ^ 32 * c, by omega⟩
      have e1 : 1 * k2 ≤ e * k2 := Nat.mul_le_mul_right _ (by omega)
      have e2 : e * k2 ≤ 16 * k2 := Nat.mul_le_mul_right _ (by omega)
      rw [he, Nat.add_mul, hu] at hMk
      generalize c * k2 = u at *
      generalize e * k2 = x at *
      by_cases r0 : R = 0
      · rw [if_pos r0] at hMk; omega
      · rw [if_neg r0] at hMk; omega
  rw [hY, show (2 : Nat) ^ 32 * c = c * 2 ^ (32 - d) * 2 ^ d by rw [Nat.mul_assoc, ← Nat.pow_add, Nat.mul_comm]; congr 2; omega, Nat.mul_mod_left]
theorem div_nr {z1 z2 : Nat} (h1 : 0 < z1) (hz1 : z1 < INF32) (h2 : 0 < z2) (hz2 : z2 < INF32) :
    Nr (min INF64 (RD 52 (2 * (Sg 23 z1 * 2 ^ 56 / Sg 23 z2) + stq (Sg 23 z1 * 2 ^ 56) (Sg 23 z2)) (Eg 23 (-149) z1 - Eg 23 (-149) z2 + 1017))) = min INF32 (RD 23 (2 * (Sg 23 z1 * 2 ^ 56 / Sg 23 z2) + stq (Sg 23 z1 * 2 ^ 56) (Sg 23 z2)) (Eg 23 (-149) z1 - Eg 23 (-149) z2 - -149 - 57)) := by
  obtain ⟨k1, a1, a2, e1⟩ := Sg23 h1
  obtain ⟨k2, a3, a4, e2⟩ := Sg23 h2
  obtain ⟨c1, c2⟩ := Eg23_bounds hz1
  obtain ⟨c3, c4⟩ := Eg23_bounds hz2
  have hk0 : 0 < k2 := by omega
  have eA : Sg 23 z1 * 2 ^ 56 = k1 * 2 ^ 56 * 2 ^ 29 := by rw [e1, Nat.mul_right_comm]
  have eQ : Sg 23 z1 * 2 ^ 56 / Sg 23 z2 = k1 * 2 ^ 56 / k2 := by rw [eA, e2, Nat.mul_div_mul_right _ _ (by decide)]
  have eS : stq (Sg 23 z1 * 2 ^ 56) (Sg 23 z2) = stq (k1 * 2 ^ 56) k2 := by
    unfold stq
    rw [eA, e2, Nat.mul_mod_mul_right]
    by_cases c : k1 * 2 ^ 56 % k2 = 0
    · rw [if_pos c, c, Nat.zero_mul, if_pos rfl]
    · rw [if_neg c, if_neg]
      intro h; rcases Nat.mul_eq_zero.mp h with q | q
      · exact c q
      · omega
  rw [eQ, eS]
  have q1 : 2 ^ 55 ≤ k1 * 2 ^ 56 / k2 := (Nat.le_div_iff_mul_le hk0).mpr (by omega)
  have q2 : k1 * 2 ^ 56 / k2 < 2 ^ 57 := (Nat.div_lt_iff_lt_mul hk0).mpr (by omega)
  have hst := stq_le (k1 * 2 ^ 56) k2
  obtain ⟨M, hM⟩ : ∃ M, M = 2 * (k1 * 2 ^ 56 / k2) + stq (k1 * 2 ^ 56) k2 := ⟨_, rfl⟩
  rw [← hM]
  have m1 : 2 ^ 56 ≤ M := by omega
  have m2 : M < 2 ^ 58 := by omega
  have l1 := log2_ge m1
  have l2 := log2_lt (show 0 < M by omega) m2
  rw [show Eg 23 (-149) z1 - Eg 23 (-149) z2 - -149 - 57 = Eg 23 (-149) z1 - Eg 23 (-149) z2 + 1017 - 925 by omega]
  refine (NrRD (p := 0) (d := M.log2 - 52) (by omega) (by omega) (by omega) (by omega) (fun h hh => ?_)).2
  rw [Nat.pow_zero, Nat.mul_one]
  by_cases c : rne M (2 ^ (M.log2 - 52)) % 2 ^ h = 2 ^ (h - 1)
  · exact Or.inr (div_half a3 a4 hM (by omega) (by omega) (by omega) c)
  · exact Or.inl c
theorem quot6 {s1 s2 z1 z2 : Nat} (hs1 : s1 ≤ 1) (hs2 : s2 ≤ 1) (hz1 : z1 ≤ INF32) (hz2 : z2 ≤ INF32) (hn : ¬ ((z1 = INF32 ∧ z2 = INF32) ∨ (z1 = 0 ∧ z2 = 0))) :
    fX0_quotient 6 (lN (s1 * 2 ^ 31 + z1)) (lN (s2 * 2 ^ 31 + z2)) = (fX2_narrow (fX2_divide (lN (s1 * 2 ^ 63 + Wd z1)) (lN (s2 * 2 ^ 63 + Wd z2)))).toInt64 &&& (4294967295 : Int64) ∧ D6 (fX0_quotient 6 (lN (s1 * 2 ^ 31 + z1)) (lN (s2 * 2 ^ 31 + z2))) := by
  have a := cdiv_val Ks6 Kd6 (by decide) (by decide) hs1 hs2 (show z1 ≤ (253 + 2) * 2 ^ 23 from hz1) (show z2 ≤ (253 + 2) * 2 ^ 23 from hz2)
  have b := (div_val hs1 hs2 (Wd_le' hz1) (Wd_le' hz2)).1
  have hs := sx_le s1 s2
  have qi1 := Wd_isinf (lt31 hz1)
  have qi2 := Wd_isinf (lt31 hz2)
  have q01 := Wd_zero (lt31 hz1)
  have q02 := Wd_zero (lt31 hz2)
  rw [b, a, show (253 + 2) * 2 ^ 23 = INF32 from rfl, if_neg hn]
  by_cases c1 : z1 = INF32 ∨ z2 = 0
  · have c1' : Wd z1 = INF64 ∨ Wd z2 = 0 := c1.imp qi1.mpr q02.mpr
    have m := Nr_mask hs (Nat.le_refl INF64)
    rw [show Nr INF64 = INF32 from by rw [← Wd_inf, Nr_Wd (Nat.le_refl _)]] at m
    rw [if_pos c1, if_pos c1', m]
    exact ⟨rfl, _, _, hs, Nat.le_refl _, rfl⟩
  · have c1' : ¬ (Wd z1 = INF64 ∨ Wd z2 = 0) := fun h => c1 (h.imp qi1.mp q02.mp)
    rw [if_neg c1, if_neg c1']
    by_cases c2 : z1 = 0 ∨ z2 = INF32
    · have c2' : Wd z1 = 0 ∨ Wd z2 = INF64 := c2.imp q01.mpr qi2.mpr
      have m := Nr_mask (z := 0) hs (by decide)
      rw [show Nr 0 = 0 from rfl, Nat.add_zero, Nat.add_zero] at m
      rw [if_pos c2, if_pos c2', m]
      exact ⟨rfl, _, 0, hs, by decide, by rw [Nat.add_zero]⟩
    · have c2' : ¬ (Wd z1 = 0 ∨ Wd z2 = INF64) := fun h => c2 (h.imp q01.mp qi2.mp)
      have t1 : 0 < z1 := by omega
      have t2 : 0 < z2 := by omega
      have k1 : z1 < INF32 := by omega
      have k2 : z2 < INF32 := by omega
      obtain ⟨S1, E1⟩ := SgEg_Wd t1 k1
      obtain ⟨S2, E2⟩ := SgEg_Wd t2 k2
      rw [if_neg c2, if_neg c2', S1, S2, E1, E2, Nr_mask hs (Nat.min_le_left _ _), div_nr t1 k1 t2 k2]
      exact ⟨rfl, _, _, hs, Nat.min_le_left _ _, rfl⟩
