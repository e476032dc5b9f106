/-! remainders -/
theorem rest_step {b : Nat} (A k m : Nat) (hb : 0 < b) : (A * 2 ^ m % b) * 2 ^ k % b = A * 2 ^ (m + k) % b := by
  rw [Nat.pow_add, ← Nat.mul_assoc]; exact ((div_step (A * 2 ^ m) b k hb).2).symm
theorem imin10 {left : Int} (h1 : 0 < left) (h2 : left ≤ 100000) : imin (iI left) (10 : Int32) = nI (min left 10).toNat := by
  have q := iI_lt (a := 10) (b := left) (by decide) (by decide) (by omega) (by omega)
  unfold imin
  rw [show (10 : Int32) = iI 10 from by decide]
  by_cases c : 10 < left
  · rw [if_pos (q.mpr c), show min left 10 = 10 by omega]; rfl
  · rw [if_neg (fun h => c (q.mp h)), show min left 10 = left by omega, nI_iI_toNat (show 0 ≤ left by omega)]
theorem restAbove_loop {b : Nat} (hb : 0 < b) (hb2 : b < 2 ^ 53) : ∀ (fuel : Nat) (left : Int) (r : Nat), left < fuel → 1 ≤ fuel → -10 ≤ left → left ≤ 100000 → r < b → fX0_restAbove_16 fuel (lN b) (lN r) (iI left) = lN (r * 2 ^ left.toNat % b) := by
  intro fuel
  induction fuel with
  | zero => intro left r h1 h2; omega
  | succ fuel ih =>
    intro left r h1 h2 h3 h4 hr
    have q := iI_0lt (a := left) (by omega) (by omega)
    rw [fX0_restAbove_16]
    by_cases c : 0 < left
    · obtain ⟨m, hm⟩ : ∃ m : Nat, m = (min left 10).toNat := ⟨_, rfl⟩
      have hp : 2 ^ m ≤ 2 ^ 10 := lt_2 (by omega)
      have hrm : r * 2 ^ m < 2 ^ 53 * 2 ^ 10 := by
        refine Nat.lt_of_le_of_lt (Nat.mul_le_mul_left r hp) ?_
        exact Nat.mul_lt_mul_of_pos_right (by omega) (by decide)
      rw [if_pos (q.mpr c), imin10 c h4, ← hm, jshl_lN _ (by omega), jrem_lN (by omega) hb (by omega), show (-10 : Int32) = iI (-10) from by decide, iI_add, ih (left + -10) _ (by omega) (by omega) (by omega) (by omega) (Nat.mod_lt _ hb), rest_step _ _ _ hb]
      congr 4
      omega
    · rw [if_neg (fun h => c (q.mp h)), show left.toNat = 0 by omega, Nat.pow_zero, Nat.mul_one, Nat.mod_eq_of_lt hr]
theorem restAbove_is {a b : Nat} {e : Int} (ha : a < 2 ^ 53) (hb : 0 < b) (hb2 : b < 2 ^ 53) (h1 : 0 ≤ e) (h2 : e ≤ 100000) : fX0_restAbove (lN a) (iI e) (lN b) = lN (a * 2 ^ e.toNat % b) := by
  have hc : (iI e).toNatClampNeg = e.toNat := by
    rw [show (iI e).toNatClampNeg = (iI e).toInt.toNat from rfl, iI_toInt (by omega) (by omega)]
  rw [fX0_restAbove, fX0_restAbove_0, if_neg (by rw [lN_0, lN_inj (by omega) (by decide)]; omega), fX0_restAbove_13, jrem_lN (by omega) hb (by omega), hc, restAbove_loop hb hb2 _ _ _ (by omega) (by omega) (by omega) (by omega) (Nat.mod_lt _ hb)]
  rw [← (div_step a b e.toNat hb).2]
theorem rest_loop {b : Nat} {E2 : Int} {sg : Int64} (hb : 0 < b) (hb2 : b < 2 ^ 53) (hE1 : -100000 ≤ E2) : ∀ (fuel : Nat) (k : Int) (r : Nat), k - E2 < fuel → E2 ≤ k → k ≤ 100000 → r < b →
    fX3_rest_67 fuel (lN b) (iI E2) sg (lN r) (iI k) = fX3_rest_89 (iI E2) sg (lN (r * 2 ^ (k - E2).toNat % b)) ∧ (okX3_rest_89 (iI E2) sg (lN (r * 2 ^ (k - E2).toNat % b)) → okX3_rest_67 fuel (lN b) (iI E2) sg (lN r) (iI k)) := by
  intro fuel
  induction fuel with
  | zero => intro k r h1 h2; omega
  | succ fuel ih =>
    intro k r h1 h2 h3 hr
    have q := iI_lt (a := E2) (b := k) (by omega) (by omega) (by omega) (by omega)
    have hb0 : ¬ lN b = 0 := by rw [lN_0, lN_inj (by omega) (by decide)]; omega
    rw [fX3_rest_67, okX3_rest_67]
    by_cases c : E2 < k
    · obtain ⟨i1, i2⟩ := ih (k + -1) (r * 2 ^ 1 % b) (by omega) (by omega) (by omega) (Nat.mod_lt _ hb)
      have e : (r * 2 ^ 1 % b) * 2 ^ (k + -1 - E2).toNat % b = r * 2 ^ (k - E2).toNat % b := by
        rw [rest_step _ _ _ hb]; congr 3; omega
      rw [e] at i1 i2
      rw [if_pos (q.mpr c), show jshl (lN r) (1 : Int32) = lN (r * 2 ^ 1) from jshl_lN _ (k := 1) (by decide), jrem_lN (by omega) hb (by omega), show (-1 : Int32) = iI (-1) from by decide, iI_add]
      exact ⟨i1, fun h => ⟨fun _ => ⟨hb0, i2 h⟩, fun h2 => absurd (q.mpr c) h2⟩⟩
    · rw [if_neg (fun h => c (q.mp h)), show (k - E2).toNat = 0 by omega, Nat.pow_zero, Nat.mul_one, Nat.mod_eq_of_lt hr]
      exact ⟨rfl, fun h => ⟨fun h2 => absurd (q.mp h2) c, fun _ => h⟩⟩
/-- the end of the reference's remainder -/
theorem rest_end {s r : Nat} {E2 : Int} (hs : s ≤ 1) (hr : r < 2 ^ 53) (h1 : -1200 ≤ E2) (h2 : E2 ≤ 1000) :
    fX3_rest_89 (iI E2) (lN (s * 2 ^ 63)) (lN r) = lN (s * 2 ^ 63 + min INF64 (RZ 52 r (E2 + 1074))) ∧ okX3_rest_89 (iI E2) (lN (s * 2 ^ 63)) (lN r) := by
  have q0 : (lN r = 0) ↔ r = 0 := lN_inj (b := 0) (by omega) (by decide)
  rw [fX3_rest_89, okX3_rest_89]
  unfold RZ
  by_cases c : r = 0
  · rw [if_pos (q0.mpr c), if_pos c, Nat.min_eq_right (Nat.zero_le _), Nat.add_zero]
    exact ⟨rfl, fun _ => trivial, fun h => absurd (q0.mpr c) h⟩
  · obtain ⟨m1, m2⟩ := made_is (s := 0) (m := r) (st := 0) (e := E2) (by decide) (by omega) (by omega) (by decide) (fun h => absurd h (by decide)) (by omega) (by omega)
    have m1' : fX2_made (0 : Int32) (lN r) (iI E2) (0 : Int32) = lN (min INF64 (RD 52 r (E2 + 1074))) := by
      rw [RD_2 (by omega), Nat.zero_mul, Nat.zero_add, show E2 + 1073 + 1 = E2 + 1074 by omega] at m1
      exact m1
    rw [if_neg (fun h => c (q0.mp h)), if_neg c, m1', or_sign hs (Nat.lt_of_le_of_lt (Nat.min_le_left _ _) INF64_lt)]
    exact ⟨rfl, fun h => absurd (q0.mp h) c, fun _ => ⟨m2, trivial⟩⟩
theorem sign_and {s z : Nat} (hs : s ≤ 1) (hz : z < 2 ^ 63) : lN (s * 2 ^ 63 + z) &&& (-9223372036854775808 : Int64) = lN (s * 2 ^ 63) := by
  rw [show (-9223372036854775808 : Int64) = lN (2 ^ 63) from by decide, wb_and (d_u hs hz) (by decide), nat_and_pow hs hz]
/-- the reference's remainder, case by case -/
theorem rest_val {s1 s2 z1 z2 : Nat} (hs1 : s1 ≤ 1) (hs2 : s2 ≤ 1) (hz1 : z1 < INF64) (h2 : 0 < z2) (hz2 : z2 ≤ INF64) :
    fX3_rest (lN (s1 * 2 ^ 63 + z1)) (lN (s2 * 2 ^ 63 + z2)) = (if z1 < z2 then lN (s1 * 2 ^ 63 + z1) else lN (s1 * 2 ^ 63 + min INF64 (RZ 52 (Sg 52 z1 * 2 ^ (Eg 52 (-1074) z1 - Eg 52 (-1074) z2).toNat % Sg 52 z2) (Eg 52 (-1074) z2 + 1074)))) ∧ okX3_rest (lN (s1 * 2 ^ 63 + z1)) (lN (s2 * 2 ^ 63 + z2)) := by
  have l1 := lt63 (Nat.le_of_lt hz1)
  have l2 := lt63 hz2
  have n1 : ¬ (1 : Int32) = 0 := by decide
  have i2 := infd_is hs2 l2
  have o1 := zerod_is hs1 l1
  rw [fX3_rest, fX3_rest_0, okX3_rest, okX3_rest_0, i2, o1]
  by_cases c1 : z2 = INF64
  · rw [if_pos c1, if_neg n1, if_pos (show z1 < z2 by omega)]
    exact ⟨rfl, fun h => absurd h n1, fun _ => trivial⟩
  rw [if_neg c1, if_pos rfl]
  by_cases c2 : z1 = 0
  · rw [if_pos c2, if_neg n1, if_pos (show z1 < z2 by omega)]
    exact ⟨rfl, fun _ => ⟨fun h => absurd h n1, fun _ => trivial⟩, fun h => absurd rfl h⟩
  rw [if_neg c2, if_pos rfl]
  have k2 : z2 < INF64 := by omega
  have t1 : 0 < z1 := by omega
  obtain ⟨e1, e1o⟩ := expd_is hs1 t1 hz1
  obtain ⟨e2, e2o⟩ := expd_is hs2 h2 k2
  obtain ⟨g1, g1o⟩ := sigd_is hs1 t1 hz1
  obtain ⟨g2, g2o⟩ := sigd_is hs2 h2 k2
  obtain ⟨a1, a2⟩ := Sg_bounds (fb := 52) (by omega) t1
  obtain ⟨a3, a4⟩ := Sg_bounds (fb := 52) (by omega) h2
  obtain ⟨b1, b2⟩ := Eg52_bounds hz1
  obtain ⟨b3, b4⟩ := Eg52_bounds k2
  have hb0 : ¬ lN (Sg 52 z2) = 0 := by rw [lN_0, lN_inj (by omega) (by decide)]; omega
  have qe := iI_lt (a := Eg 52 (-1074) z1) (b := Eg 52 (-1074) z2) (by omega) (by omega) (by omega) (by omega)
  have core : fX3_rest_22 (lN (s1 * 2 ^ 63 + z1)) (lN (s2 * 2 ^ 63 + z2)) (lN (Sg 52 z1)) = (if z1 < z2 then lN (s1 * 2 ^ 63 + z1) else lN (s1 * 2 ^ 63 + min INF64 (RZ 52 (Sg 52 z1 * 2 ^ (Eg 52 (-1074) z1 - Eg 52 (-1074) z2).toNat % Sg 52 z2) (Eg 52 (-1074) z2 + 1074)))) ∧ okX3_rest_22 (lN (s1 * 2 ^ 63 + z1)) (lN (s2 * 2 ^ 63 + z2)) (lN (Sg 52 z1)) := by
    rw [fX3_rest_22, fX3_rest_28, fX3_rest_34, fX3_rest_40, fX3_rest_47, okX3_rest_22, okX3_rest_28, okX3_rest_34, okX3_rest_40, okX3_rest_47, g2, e1, e2, sign_and hs1 l1]
    by_cases ce : Eg 52 (-1074) z1 < Eg 52 (-1074) z2
    · have hlt : z1 < z2 := by
        apply Nat.lt_of_not_le; intro hle
        rcases Nat.eq_or_lt_of_le hle with q | q
        · rw [q] at ce; omega
        · have := lex (fb := 52) (em := -1074) (by omega) h2 q; omega
      rw [if_pos (qe.mpr ce), if_pos hlt]
      exact ⟨rfl, g2o, e1o, e2o, fun _ => trivial, fun h => absurd (qe.mpr ce) h⟩
    · have hr : Sg 52 z1 % Sg 52 z2 < Sg 52 z2 := Nat.mod_lt _ (by omega)
      have hcl : ((iI (Eg 52 (-1074) z1)).toInt - (iI (Eg 52 (-1074) z2)).toInt).toNat + 1 = (Eg 52 (-1074) z1 - Eg 52 (-1074) z2).toNat + 1 := by
        rw [iI_toInt (by omega) (by omega), iI_toInt (by omega) (by omega)]
      obtain ⟨p1, p2⟩ := rest_loop (E2 := Eg 52 (-1074) z2) (sg := lN (s1 * 2 ^ 63)) (show 0 < Sg 52 z2 by omega) a4 (by omega) ((Eg 52 (-1074) z1 - Eg 52 (-1074) z2).toNat + 1) (Eg 52 (-1074) z1) _ (by omega) (by omega) (by omega) hr
      rw [← (div_step (Sg 52 z1) (Sg 52 z2) _ (by omega)).2] at p1 p2
      obtain ⟨w1, w2⟩ := rest_end (s := s1) (r := Sg 52 z1 * 2 ^ (Eg 52 (-1074) z1 - Eg 52 (-1074) z2).toNat % Sg 52 z2) (E2 := Eg 52 (-1074) z2) hs1 (Nat.lt_trans (Nat.mod_lt _ (by omega)) a4) b3 b4
      rw [if_neg (fun h => ce (qe.mp h)), jrem_lN (by omega) (by omega) (by omega), fX3_rest_63, okX3_rest_63, hcl, p1, w1]
      refine ⟨?_, g2o, e1o, e2o, fun h => absurd (qe.mp h) ce, fun _ => ⟨hb0, p2 w2⟩⟩
      by_cases hlt : z1 < z2
      · rcases lex (fb := 52) (em := -1074) (by omega) t1 hlt with q | ⟨q, q2⟩
        · exact absurd q ce
        · have hs := RD_sg (fb := 52) t1 (-1074) 1074
          rw [show (-1074 : Int) + Xp 52 z1 + 1074 = Xp 52 z1 by omega, RD_self t1] at hs
          rw [if_pos hlt, ← q, Int.sub_self, Int.toNat_zero, Nat.pow_zero, Nat.mul_one, Nat.mod_eq_of_lt q2]
          unfold RZ
          rw [if_neg (show ¬ Sg 52 z1 = 0 by omega), hs, Nat.min_eq_right (by omega)]
      · rw [if_neg hlt]
  rw [g1]
  exact ⟨core.1, fun _ => ⟨fun _ => ⟨g1o, core.2⟩, fun h => absurd rfl h⟩, fun h => absurd rfl h⟩
/-- the class's remainder, case by case -/
theorem crest_val {kind : Int32} {sb fb ga s1 s2 z1 z2 : Nat} {em : Int} (K : Ks kind sb) (F : Kd kind fb em ga) (hfs : fb < sb) (hI : (ga + 2) * 2 ^ fb < 2 ^ sb) (hs1 : s1 ≤ 1) (hs2 : s2 ≤ 1) (hz1 : z1 ≤ (ga + 2) * 2 ^ fb) (hz2 : z2 ≤ (ga + 2) * 2 ^ fb) :
    fX0_rest kind (lN (s1 * 2 ^ sb + z1)) (lN (s2 * 2 ^ sb + z2)) = (if z1 = (ga + 2) * 2 ^ fb ∨ z2 = 0 then fX0_notANumber kind else if z1 < z2 then lN (s1 * 2 ^ sb + z1) else lN (s1 * 2 ^ sb + min ((ga + 2) * 2 ^ fb) (RZ fb (Sg fb z1 * 2 ^ (Eg fb em z1 - Eg fb em z2).toNat % Sg fb z2) (Eg fb em z2 - em)))) := by
  have hem := F.2.2.2.2.2.2.2.1
  have hem2 := F.2.2.2.2.2.2.2.2.1
  have hfb := F.2.2.2.2.1
  have hga := F.2.2.2.2.2.2.1
  have l1 : z1 < 2 ^ sb := by omega
  have l2 : z2 < 2 ^ sb := by omega
  have n1 : ¬ (1 : Int32) = 0 := by decide
  have i1 := inf_is K F hs1 l1
  have o2 := zero_is K hs2 l2
  have hsb : 2 ^ sb ≤ 2 ^ 63 := lt_2 K.2.1
  have qz : lN z1 < lN z2 ↔ z1 < z2 := lN_lt63 (by omega) (by omega)
  rw [fX0_rest, fX0_rest_0, fX0_rest_16, i1, o2, size_is K hs1 l1, size_is K hs2 l2]
  by_cases c1 : z1 = (ga + 2) * 2 ^ fb
  · rw [if_pos c1, if_neg n1, if_pos (Or.inl c1)]
  rw [if_neg c1, if_pos rfl]
  by_cases c2 : z2 = 0
  · rw [if_pos c2, if_neg n1, if_pos (Or.inr c2)]
  rw [if_neg c2, if_pos rfl, if_neg (show ¬ (z1 = (ga + 2) * 2 ^ fb ∨ z2 = 0) by omega)]
  by_cases c3 : z1 < z2
  · rw [if_pos (qz.mpr c3), if_pos c3]
  rw [if_neg (fun h => c3 (qz.mp h)), if_neg c3]
  have hz1' : z1 < (ga + 2) * 2 ^ fb := by omega
  have hz2' : z2 < (ga + 2) * 2 ^ fb := by omega
  have h1 : 0 < z1 := by omega
  have h2 : 0 < z2 := by omega
  have hd1 : z1 / 2 ^ fb < ga + 2 := (Nat.div_lt_iff_lt_mul (Nat.two_pow_pos fb)).mpr hz1'
  have hd2 : z2 / 2 ^ fb < ga + 2 := (Nat.div_lt_iff_lt_mul (Nat.two_pow_pos fb)).mpr hz2'
  have hx1 : Xp fb z1 ≤ 2046 := by unfold Xp; omega
  have hx2 : Xp fb z2 ≤ 2046 := by unfold Xp; omega
  have hp53 : 2 ^ (fb + 1) ≤ 2 ^ 53 := lt_2 (by omega)
  have m1l : Mg fb z1 < 2 ^ 53 := Nat.lt_of_lt_of_le (Mg_lt fb z1) hp53
  have m2l : Mg fb z2 < 2 ^ 53 := Nat.lt_of_lt_of_le (Mg_lt fb z2) hp53
  have g1 := mag_is K F hfs hs1 l1
  have g2 := mag_is K F hfs hs2 l2
  have x1 := exp_is K F (by omega) hs1 l1
  have x2 := exp_is K F (by omega) hs2 l2
  obtain ⟨k1, k1l, r1, k1e⟩ := room52 m1l
  obtain ⟨k2, k2l, r2, k2e⟩ := room52 m2l
  have e1 : Mg fb z1 * 2 ^ k1 = Sg fb z1 := by unfold Sg; rw [k1e (Mg_pos h1)]
  have e2 : Mg fb z2 * 2 ^ k2 = Sg fb z2 := by unfold Sg; rw [k2e (Mg_pos h2)]
  obtain ⟨a1, a2⟩ := Sg_bounds (fb := fb) hfb h1
  obtain ⟨a3, a4⟩ := Sg_bounds (fb := fb) hfb h2
  have hE1 : Eg fb em z1 = em + Xp fb z1 - k1 := by unfold Eg; rw [k1e (Mg_pos h1)]
  have hE2 : Eg fb em z2 = em + Xp fb z2 - k2 := by unfold Eg; rw [k2e (Mg_pos h2)]
  have bE1 : -1200 ≤ Eg fb em z1 ∧ Eg fb em z1 ≤ 2100 := Eg_bounds hem hem2 hx1
  have bE2 : -1200 ≤ Eg fb em z2 ∧ Eg fb em z2 ≤ 2100 := Eg_bounds hem hem2 hx2
  have hle : Eg fb em z2 ≤ Eg fb em z1 := by
    rcases Nat.eq_or_lt_of_le (Nat.le_of_not_lt c3) with q | q
    · rw [q]; omega
    · have := lex (fb := fb) (em := em) hfb h2 q; omega
  rw [fX0_rest_49, fX0_rest_61, fX0_rest_71, fX0_rest_84, fX0_rest_107, g1, g2, x1, x2, r1, r2, jshl_lN _ (by omega), jshl_lN _ (by omega), e1, e2, nI_iI, nI_iI, iI_sub, iI_sub, iI_sub, ← hE1, ← hE2, restAbove_is a2 (by omega) a4 (by omega) (by omega), neg_is K hs1 l1]
  have hr : Sg fb z1 * 2 ^ (Eg fb em z1 - Eg fb em z2).toNat % Sg fb z2 < Sg fb z2 := Nat.mod_lt _ (by omega)
  rw [nearest_z F (by omega) (by omega) (by omega), signed_is K hs1 (Nat.lt_of_le_of_lt (Nat.min_le_left _ _) hI)]
theorem rest7 {s1 s2 z1 z2 : Nat} (hs1 : s1 ≤ 1) (hs2 : s2 ≤ 1) (hz1 : z1 ≤ INF64) (hz2 : z2 ≤ INF64) (hn : ¬ (z1 = INF64 ∨ z2 = 0)) :
    fX0_rest 7 (lN (s1 * 2 ^ 63 + z1)) (lN (s2 * 2 ^ 63 + z2)) = fX3_rest (lN (s1 * 2 ^ 63 + z1)) (lN (s2 * 2 ^ 63 + z2)) ∧ D7 (fX3_rest (lN (s1 * 2 ^ 63 + z1)) (lN (s2 * 2 ^ 63 + z2))) := by
  have a := crest_val Ks7 Kd7 (by decide) (by decide) hs1 hs2 (show z1 ≤ (2045 + 2) * 2 ^ 52 from hz1) (show z2 ≤ (2045 + 2) * 2 ^ 52 from hz2)
  have b := (rest_val (s1 := s1) (s2 := s2) (z1 := z1) (z2 := z2) hs1 hs2 (by omega) (by omega) hz2).1
  rw [b, a, show (2045 + 2) * 2 ^ 52 = INF64 from rfl, if_neg hn]
  by_cases c : z1 < z2
  · rw [if_pos c, if_pos c]
    exact ⟨rfl, _, _, hs1, hz1, rfl⟩
  · rw [if_neg c, if_neg c, show Eg 52 (-1074) z2 - -1074 = Eg 52 (-1074) z2 + 1074 by omega]
    exact ⟨rfl, D7_min hs1⟩
theorem rest_nr {r : Nat} {E : Int} (hr : r < 2 ^ 53) (h1 : -201 ≤ E) (h2 : E ≤ 104) : Nr (min INF64 (RZ 52 r (E + 1074))) = min INF32 (RZ 23 r (E - -149)) := by
  unfold RZ
  by_cases c : r = 0
  · rw [if_pos c, if_pos c, Nat.min_eq_right (Nat.zero_le _), Nat.min_eq_right (Nat.zero_le _)]; rfl
  · have hl := log2_lt (show 0 < r by omega) hr
    have hm := exact_mod (j := r) (g := 0) (p := 64) (d := r.log2 + 12) (by omega) hr (by rw [Nat.pow_zero, Nat.mul_one]; omega)
    rw [Nat.pow_zero, Nat.mul_one] at hm
    rw [if_neg c, if_neg c, (NrRD (M := r) (w := E + 1074) (p := 64) (d := r.log2 + 12) (by omega) (by omega) (by omega) (by omega) (fun _ _ => Or.inr hm)).2, show E + 1074 - 925 = E - -149 by omega]
theorem rest6 {s1 s2 z1 z2 : Nat} (hs1 : s1 ≤ 1) (hs2 : s2 ≤ 1) (hz1 : z1 ≤ INF32) (hz2 : z2 ≤ INF32) (hn : ¬ (z1 = INF32 ∨ z2 = 0)) :
    fX0_rest 6 (lN (s1 * 2 ^ 31 + z1)) (lN (s2 * 2 ^ 31 + z2)) = (fX2_narrow (fX3_rest (lN (s1 * 2 ^ 63 + Wd z1)) (lN (s2 * 2 ^ 63 + Wd z2)))).toInt64 &&& (4294967295 : Int64) ∧ D6 (fX0_rest 6 (lN (s1 * 2 ^ 31 + z1)) (lN (s2 * 2 ^ 31 + z2))) := by
  have a := crest_val Ks6 Kd6 (by decide) (by decide) hs1 hs2 (show z1 ≤ (253 + 2) * 2 ^ 23 from hz1) (show z2 ≤ (253 + 2) * 2 ^ 23 from hz2)
  have qi1 := Wd_isinf (lt31 hz1)
  have q02 := Wd_zero (lt31 hz2)
  have w1 := Wd_le' hz1
  have w2 := Wd_le' hz2
  have b := (rest_val (s1 := s1) (s2 := s2) (z1 := Wd z1) (z2 := Wd z2) hs1 hs2 (by omega) (by omega) w2).1
  have ql := Wd_lt_iff hz1 hz2
  rw [b, a, show (253 + 2) * 2 ^ 23 = INF32 from rfl, if_neg hn]
  by_cases c : z1 < z2
  · rw [if_pos c, if_pos (ql.mpr c), Nr_mask hs1 w1, Nr_Wd hz1]
    exact ⟨rfl, _, _, hs1, hz1, rfl⟩
  · have t1 : 0 < z1 := by omega
    have t2 : 0 < z2 := by omega
    have k1 : z1 < INF32 := by omega
    have k2 : z2 < INF32 := by omega
    obtain ⟨S1, E1⟩ := SgEg_Wd t1 k1
    obtain ⟨S2, E2⟩ := SgEg_Wd t2 k2
    obtain ⟨a3, a4⟩ := Sg_bounds (fb := 23) (by omega) t2
    obtain ⟨c3, c4⟩ := Eg23_bounds k2
    rw [if_neg c, if_neg (fun h => c (ql.mp h)), S1, S2, E1, E2, Nr_mask hs1 (Nat.min_le_left _ _), rest_nr (Nat.lt_trans (Nat.mod_lt _ (by omega)) a4) c3 c4]
    exact ⟨rfl, _, _, hs1, Nat.min_le_left _ _, rfl⟩
