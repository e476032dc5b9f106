/-! casts -/
theorem signed6 {s z : Nat} (hs : s ≤ 1) (hz : z < 2 ^ 31) : fX0_signed 6 (nI s) (lN z) = lN (s * 2 ^ 31 + z) := signed_is Ks6 hs hz
theorem signed7 {s z : Nat} (hs : s ≤ 1) (hz : z < 2 ^ 63) : fX0_signed 7 (nI s) (lN z) = lN (s * 2 ^ 63 + z) := signed_is Ks7 hs hz
theorem INF64_lt : INF64 < 2 ^ 63 := by decide
theorem INF32_lt : INF32 < 2 ^ 31 := by decide
theorem lt31 {z : Nat} (h : z ≤ INF32) : z < 2 ^ 31 := Nat.lt_of_le_of_lt h INF32_lt
theorem lt63 {z : Nat} (h : z ≤ INF64) : z < 2 ^ 63 := Nat.lt_of_le_of_lt h INF64_lt
theorem fd31 {z : Nat} (h : z < 2 ^ 31) : z / 2 ^ 23 < 100000 := by omega
theorem fd63 {z : Nat} (h : z < 2 ^ 63) : z / 2 ^ 52 < 100000 := by omega
theorem RZ_Mg {fb z : Nat} {w : Int} : RZ fb (Mg 23 z) w = if z = 0 then 0 else RD fb (Mg 23 z) w := by
  unfold RZ
  by_cases h : z = 0
  · rw [if_pos h, h, if_pos (show Mg 23 0 = 0 from rfl)]
  · rw [if_neg h, if_neg]
    have := Mg_pos (fb := 23) (show 0 < z by omega); omega
theorem RZ_Mg52 {fb z : Nat} {w : Int} : RZ fb (Mg 52 z) w = if z = 0 then 0 else RD fb (Mg 52 z) w := by
  unfold RZ
  by_cases h : z = 0
  · rw [if_pos h, h, if_pos (show Mg 52 0 = 0 from rfl)]
  · rw [if_neg h, if_neg]
    have := Mg_pos (fb := 52) (show 0 < z by omega); omega
theorem ofReal76 {s z : Nat} (hs : s ≤ 1) (hz : z ≤ INF32) : fX0_ofReal 7 6 (lN (s * 2 ^ 31 + z)) = lN (s * 2 ^ 63 + Wd z) := by
  have hl := lt31 hz
  have h8 : INF32 = 255 * 2 ^ 23 := rfl
  have hm := Mg_lt 23 z
  have hx : Xp 23 z ≤ 254 := by unfold Xp; omega
  rw [fX0_ofReal, fX0_ofReal_0, fX0_ofReal_7, neg_is Ks6 hs hl, inf_is Ks6 Kd6 hs hl, mag_is Ks6 Kd6 (by decide) hs hl, exp_is Ks6 Kd6 (fd31 hl) hs hl]
  by_cases c : z = (253 + 2) * 2 ^ 23
  · rw [if_pos c, if_neg (by decide), show fX0_infinity 7 = lN INF64 from by decide, signed7 hs INF64_lt, c, show Wd ((253 + 2) * 2 ^ 23) = INF64 from Wd_inf]
  · rw [if_neg c, if_pos rfl, nearest_z Kd7 (by omega) (by omega) (by omega), RZ_Mg]
    have e1 : min ((2045 + 2) * 2 ^ 52) (if z = 0 then 0 else RD 52 (Mg 23 z) (-149 + (Xp 23 z : Int) - -1074)) = Wd z := by
      by_cases c0 : z = 0
      · rw [if_pos c0, c0, Wd_0]; decide
      · have hlt : z < INF32 := by omega
        have e2 : Wd z = RD 52 (Mg 23 z) (Xp 23 z + 925) := by unfold Wd; rw [if_neg c0, if_neg (by omega)]
        have := (Wd_dec (by omega) hlt).2.2.2
        rw [if_neg c0, show -149 + (Xp 23 z : Int) - -1074 = Xp 23 z + 925 by omega, ← e2]
        have h9 : INF64 = (2045 + 2) * 2 ^ 52 := rfl
        omega
    rw [e1, signed7 hs (Wd_lt hl)]
theorem ofReal67 {s z : Nat} (hs : s ≤ 1) (hz : z ≤ INF64) : fX0_ofReal 6 7 (lN (s * 2 ^ 63 + z)) = lN (s * 2 ^ 31 + Nr z) := by
  have hl := lt63 hz
  have h9 : INF64 = 2047 * 2 ^ 52 := rfl
  have hm := Mg_lt 52 z
  have hx : Xp 52 z ≤ 2046 := by unfold Xp; omega
  rw [fX0_ofReal, fX0_ofReal_0, fX0_ofReal_7, neg_is Ks7 hs hl, inf_is Ks7 Kd7 hs hl, mag_is Ks7 Kd7 (by decide) hs hl, exp_is Ks7 Kd7 (fd63 hl) hs hl]
  by_cases c : z = (2045 + 2) * 2 ^ 52
  · rw [if_pos c, if_neg (by decide), show fX0_infinity 6 = lN INF32 from by decide, signed6 hs INF32_lt]
    unfold Nr
    rw [if_neg (by omega), if_pos (by omega)]
  · rw [if_neg c, if_pos rfl, nearest_z Kd6 (by omega) (by omega) (by omega), RZ_Mg52]
    have e1 : min ((253 + 2) * 2 ^ 23) (if z = 0 then 0 else RD 23 (Mg 52 z) (-1074 + (Xp 52 z : Int) - -149)) = Nr z := by
      unfold Nr
      by_cases c0 : z = 0
      · rw [if_pos c0, if_pos c0]; decide
      · rw [if_neg c0, if_neg c0, if_neg (by omega), show -1074 + (Xp 52 z : Int) - -149 = Xp 52 z - 925 by omega]; rfl
    rw [e1, signed6 hs (lt31 (Nr_le z))]
theorem Nr_mask {s z : Nat} (hs : s ≤ 1) (hz : z ≤ INF64) : (fX2_narrow (lN (s * 2 ^ 63 + z))).toInt64 &&& (4294967295 : Int64) = lN (s * 2 ^ 31 + Nr z) := by
  rw [(narrow_is hs hz).1, i2u (f_u hs (lt31 (Nr_le z)))]
theorem Wd_le' {z : Nat} (hz : z ≤ INF32) : Wd z ≤ INF64 := (Wd_le (lt31 hz)).mpr hz
theorem whole7 (v : Int64) : fX0_ofWhole 7 v = fX2_of v 0 ∧ okX2_of v 0 := by
  obtain ⟨s, n, hs, hv⟩ := Wh_of v
  obtain ⟨h1, h2⟩ := of_is hv
  refine ⟨?_, h2⟩
  have hle := Nat.min_le_left INF64 (RZ 52 n 1074)
  rw [ofWhole_is Kd7 hv, h1, show min ((2045 + 2) * 2 ^ 52) (RZ 52 n (- -1074)) = min INF64 (RZ 52 n 1074) from rfl, signed7 hs (lt63 hle)]
theorem whole6 (v : Int64) : fX0_ofWhole 6 v = (fX2_narrow (fX2_floatOf v 0)).toInt64 &&& (4294967295 : Int64) ∧ okX2_floatOf v 0 ∧ okX2_narrow (fX2_floatOf v 0) := by
  obtain ⟨s, n, hs, hv⟩ := Wh_of v
  obtain ⟨h1, h2⟩ := floatOf_is hv
  have hle := Nat.min_le_left INF32 (RZ 23 n 149)
  rw [h1]
  refine ⟨?_, h2, (narrow_is hs (Wd_le' hle)).2⟩
  rw [ofWhole_is Kd6 hv, show min ((253 + 2) * 2 ^ 23) (RZ 23 n (- -149)) = min INF32 (RZ 23 n 149) from rfl, signed6 hs (lt31 hle), Nr_mask hs (Wd_le' hle), Nr_Wd hle]
theorem widened_ok (x : Int64) (a b : Int32) : okX3_widened x a b := by
  rw [okX3_widened, okX3_widened_0]
  exact ⟨fun _ => trivial, fun _ => ⟨fun _ => trivial, fun _ => ⟨fun _ => trivial, fun _ => ⟨fun _ => ⟨fun _ => ⟨wide_ok _, trivial⟩, fun _ => ⟨(whole7 _).2, trivial⟩⟩, fun _ => ⟨fun _ => ⟨(whole6 _).2.1, (whole6 _).2.2, trivial⟩, fun _ => trivial⟩⟩⟩⟩⟩
theorem FL_0 (e : Int) : FL 0 e = 0 := by unfold FL; rw [Nat.zero_mul, Nat.zero_div]
theorem FL_Wd {z : Nat} (hz : z ≤ INF32) (most s : Nat) (hm : most < 2 ^ 63) : CM most s (FL (Mg 23 z) (-149 + Xp 23 z)) = CM most s (FL (Mg 52 (Wd z)) (-1074 + Xp 52 (Wd z))) := by
  have h8 : INF32 = 255 * 2 ^ 23 := rfl
  by_cases c0 : z = 0
  · rw [c0, Wd_0, show Mg 23 0 = 0 from rfl, show Mg 52 0 = 0 from rfl, FL_0, FL_0]
  · by_cases c1 : z = INF32
    · refine CM_big ?_ ?_
      · rw [c1, show Xp 23 INF32 = 254 from by decide, show Mg 23 INF32 = 2 ^ 23 from by decide, FL_pos (by decide), show ((-149 : Int) + ((254 : Nat) : Int)).toNat = 105 from by decide, ← Nat.pow_add]
        exact Nat.lt_of_lt_of_le hm (Nat.pow_le_pow_right (by omega) (by omega))
      · rw [c1, Wd_inf, show Xp 52 INF64 = 2046 from by decide, show Mg 52 INF64 = 2 ^ 52 from by decide, FL_pos (by decide), show ((-1074 : Int) + ((2046 : Nat) : Int)).toNat = 972 from by decide, ← Nat.pow_add]
        exact Nat.lt_of_lt_of_le hm (Nat.pow_le_pow_right (by omega) (by omega))
    · obtain ⟨d1, d2, d3, d4⟩ := Wd_dec (show 0 < z by omega) (show z < INF32 by omega)
      have hl := log2_lt (Mg_pos (fb := 23) (show 0 < z by omega)) (Mg_lt 23 z)
      rw [d1, d2]
      unfold Sg
      rw [FL_shift]
      congr 2
      omega
theorem i32ne {a b : Nat} (ha : a < 2 ^ 31) (hb : b < 2 ^ 31) (h : a ≠ b) : ¬ nI a = nI b := fun q => h ((nI_eq ha hb).mp q)
theorem c93_5 (v : Int64) : fX3_casted_93 5 v = v := rfl
theorem c93_n (to : Int32) (v : Int64) : fX1_narrowed to v = fX3_casted_93 to v := rfl
/-- to a whole kind -/
theorem toWhole {to : Int32} {d : Int64} {s n : Nat} {v : Int64} (hv : v = CM (2 ^ 63 - 1) s n) (hc1 : fX3_cut d 1 = CM (2 ^ 63 - 1) s n) (hc0 : fX3_cut d 0 = CM (2 ^ 31 - 1) s n) : fX1_converted_53 to v = fX3_casted_78 to d := by
  rw [fX1_converted_53, fX3_casted_78, fX3_casted_88, fX3_casted_88, hc1, hc0, hv, cutToInt_is]
  by_cases c : to = 5
  · rw [if_pos c, if_pos c, c, c93_5]
  · rw [if_neg c, if_neg c, c93_n]
theorem k_lt6 {k : Int32} (h : k < 6) : ¬ k = 6 ∧ ¬ k = 7 := by
  constructor <;> intro e <;> rw [e] at h <;> exact absurd h (by decide)
theorem k_ge6 {k : Int32} (h1 : ¬ k < 6) (h2 : ¬ 7 < k) : k = 6 ∨ k = 7 := by
  rw [Int32.lt_iff_toInt_lt, show (6 : Int32).toInt = 6 from rfl] at h1
  rw [Int32.lt_iff_toInt_lt, show (7 : Int32).toInt = 7 from rfl] at h2
  rcases (show k.toInt = 6 ∨ k.toInt = 7 by omega) with h | h
  · exact Or.inl (Int32.toInt_inj.mp h)
  · exact Or.inr (Int32.toInt_inj.mp h)
theorem conv_eq {a b : Int32} {x : Int64} (ha1 : ¬ a < 1) (ha7 : ¬ 7 < a) (hb7 : ¬ 7 < b) (hx : ¬ fX3_hasBits a x = 0) : fX1_converted a b x = fX3_casted x a b ∧ okX3_casted x a b := by
  rw [fX1_converted, fX1_converted_0, fX3_casted, fX3_casted_0, okX3_casted, okX3_casted_0]
  by_cases cab : a = b
  · rw [if_pos cab, if_pos cab]
    exact ⟨rfl, fun _ => trivial, fun h => absurd cab h⟩
  rw [if_neg cab, if_neg cab]
  by_cases cb : b < 6
  · obtain ⟨b6, b7⟩ := k_lt6 cb
    rw [if_pos cb, if_neg b7, if_neg b6, fX3_casted_32, if_neg b6, okX3_casted_32]
    by_cases ca : a < 6
    · obtain ⟨a6, a7⟩ := k_lt6 ca
      rw [if_pos ca, if_neg a6, if_neg a7]
      exact ⟨rfl, fun h => absurd h cab, fun _ => ⟨fun h => absurd h b7, fun _ => ⟨fun h => absurd h b6, fun _ => ⟨fun h => absurd h b6, fun _ => ⟨fun h => absurd h a6, fun _ => ⟨fun h => absurd h a7, fun _ => trivial⟩⟩⟩⟩⟩⟩
    · rw [if_neg ca]
      rcases k_ge6 ca ha7 with rfl | rfl
      · obtain ⟨s, z, hs, hz, rfl⟩ := val6 hx
        have hl := lt31 hz
        obtain ⟨p1, p2⟩ := cut_is (w := 1) (by decide) hs (Wd_le' hz)
        obtain ⟨z1, z2⟩ := cut_is (w := 0) (by decide) hs (Wd_le' hz)
        have hw := wholePart_is Ks6 Kd6 (by decide) hs hl (fd31 hl)
        rw [FL_Wd hz _ _ (by decide)] at hw
        have e := (wide_is hs hl).1
        rw [if_pos rfl, fX3_casted_63, if_pos rfl, lN_i, e, okX3_casted_63, lN_i, e, okX3_casted_78, okX3_casted_88, okX3_casted_88]
        refine ⟨toWhole hw p1 z1, fun h => absurd h cab, fun _ => ⟨fun h => absurd h b7, fun _ => ⟨fun h => absurd h b6, fun _ => ⟨fun h => absurd h b6, fun _ => ⟨fun _ => ⟨fun _ => ⟨wide_ok _, fun _ => ⟨p2, trivial⟩, fun _ => ⟨z2, trivial⟩⟩, fun h => absurd rfl h⟩, fun h => absurd rfl h⟩⟩⟩⟩⟩
      · obtain ⟨s, z, hs, hz, rfl⟩ := val7 hx
        have hl := lt63 hz
        obtain ⟨p1, p2⟩ := cut_is (w := 1) (by decide) hs hz
        obtain ⟨z1, z2⟩ := cut_is (w := 0) (by decide) hs hz
        have hw := wholePart_is Ks7 Kd7 (by decide) hs hl (fd63 hl)
        have h76 : ¬ (7 : Int32) = 6 := by decide
        rw [if_neg h76, if_pos rfl, fX3_casted_63, if_neg h76, okX3_casted_63, okX3_casted_78, okX3_casted_88, okX3_casted_88]
        refine ⟨toWhole hw p1 z1, fun h => absurd h cab, fun _ => ⟨fun h => absurd h b7, fun _ => ⟨fun h => absurd h b6, fun _ => ⟨fun h => absurd h b6, fun _ => ⟨fun h => absurd h h76, fun _ => ⟨fun _ => ⟨fun h => absurd h h76, fun _ => ⟨fun _ => ⟨p2, trivial⟩, fun _ => ⟨z2, trivial⟩⟩⟩, fun h => absurd rfl h⟩⟩⟩⟩⟩⟩
  · rw [if_neg cb]
    rcases k_ge6 cb hb7 with rfl | rfl
    · have h67 : ¬ (6 : Int32) = 7 := by decide
      rw [if_neg h67, if_pos rfl]
      by_cases ca : a < 6
      · obtain ⟨a6, a7⟩ := k_lt6 ca
        rw [if_pos ca, if_pos ca, fX3_casted_25, okX3_casted_25, fX3_widened, fX3_widened_0, if_neg cab, if_neg ha1, if_neg ha7, if_neg h67, if_pos rfl]
        exact ⟨(whole6 x).1, fun h => absurd h cab, fun _ => ⟨fun h => absurd h h67, fun _ => ⟨fun _ => ⟨fun _ => ⟨widened_ok _ _ _, trivial⟩, fun h => absurd ca h⟩, fun h => absurd rfl h⟩⟩⟩
      · rw [if_neg ca, if_neg ca]
        rcases k_ge6 ca ha7 with rfl | rfl
        · exact absurd rfl cab
        · obtain ⟨s, z, hs, hz, rfl⟩ := val7 hx
          rw [fX3_casted_32, if_pos rfl, okX3_casted_32, ofReal67 hs hz, Nr_mask hs hz]
          exact ⟨rfl, fun h => absurd h cab, fun _ => ⟨fun h => absurd h h67, fun _ => ⟨fun _ => ⟨fun h => absurd h ca, fun _ => ⟨fun _ => ⟨(narrow_is hs hz).2, trivial⟩, fun h => absurd rfl h⟩⟩, fun h => absurd rfl h⟩⟩⟩
    · rw [if_pos rfl, fX3_casted_25, okX3_casted_25, fX3_widened, fX3_widened_0, if_neg cab, if_neg ha1, if_neg ha7, if_pos rfl]
      refine ⟨?_, fun h => absurd h cab, fun _ => ⟨fun _ => ⟨widened_ok _ _ _, trivial⟩, fun h => absurd rfl h⟩⟩
      by_cases ca : a < 6
      · obtain ⟨a6, a7⟩ := k_lt6 ca
        rw [if_pos ca, if_neg a6, (whole7 x).1]
      · rw [if_neg ca]
        rcases k_ge6 ca ha7 with rfl | rfl
        · obtain ⟨s, z, hs, hz, rfl⟩ := val6 hx
          rw [if_pos rfl, ofReal76 hs hz, lN_i, (wide_is hs (lt31 hz)).1]
        · exact absurd rfl cab
theorem num_ne {k : Int32} (h : ¬ fX3_isNumber k = 0) : ¬ k < 1 ∧ ¬ 7 < k := by
  rw [fX3_isNumber, fX3_isNumber_0] at h
  by_cases c1 : k < 1
  · rw [if_pos c1] at h; exact absurd rfl h
  · rw [if_neg c1] at h
    by_cases c2 : 7 < k
    · rw [if_pos c2] at h; exact absurd rfl h
    · exact ⟨c1, c2⟩
theorem casted_same (x : Int64) (a : Int32) : fX3_casted x a a = x ∧ okX3_casted x a a := by
  rw [fX3_casted, fX3_casted_0, if_pos rfl, okX3_casted, okX3_casted_0]
  exact ⟨rfl, fun _ => trivial, fun h => absurd rfl h⟩
theorem conv_same (x : Int64) (a : Int32) : fX1_converted a a x = x := by rw [fX1_converted, fX1_converted_0, if_pos rfl]
/-- a cast that is allowed -/
theorem conv_ok {a b : Int32} {x : Int64} (hk : a = b ∨ (¬ fX3_isNumber a = 0 ∧ ¬ fX3_isNumber b = 0)) (hx : ¬ fX3_hasBits a x = 0) : fX1_converted a b x = fX3_casted x a b ∧ okX3_casted x a b := by
  rcases hk with rfl | ⟨h1, h2⟩
  · exact ⟨by rw [conv_same, (casted_same x a).1], (casted_same x a).2⟩
  · obtain ⟨p1, p2⟩ := num_ne h1
    obtain ⟨q1, q2⟩ := num_ne h2
    exact conv_eq p1 p2 q2 hx
theorem T_cast (a b : Int32) (x : Int64) (f : Int32) : fX1_cast a b x f = fX3_cast a b x f := by
  have n1 : ¬ (1 : Int32) = 0 := by decide
  have bad : fX1_cast_23 a b x f = fX3_cast_31 a b x f := rfl
  have good : (a = b ∨ (¬ fX3_isNumber a = 0 ∧ ¬ fX3_isNumber b = 0)) → fX1_cast_19 a b x f = fX3_cast_19 a b x f := by
    intro hk
    rw [fX1_cast_19, fX1_cast_24, if_neg n1, fX3_cast_19, has_eq]
    by_cases c : fX3_hasBits a x = 0
    · rw [if_pos c, if_pos c]; rfl
    · rw [if_neg c, if_neg c, fX3_cast_32, if_neg n1, fX3_cast_45, if_neg n1, (conv_ok hk c).1]
  rw [fX1_cast, fX1_cast_0, fX3_cast, fX3_cast_0, isNum_eq, isNum_eq]
  by_cases c1 : a = b
  · rw [if_pos c1, if_pos c1, good (Or.inl c1)]
  · rw [if_neg c1, if_neg c1]
    by_cases c2 : fX3_isNumber a = 0
    · rw [if_pos c2, if_pos c2, bad]
    · rw [if_neg c2, if_neg c2]
      by_cases c3 : fX3_isNumber b = 0
      · rw [if_pos c3, if_pos c3, bad]
      · rw [if_neg c3, if_neg c3, good (Or.inr ⟨c2, c3⟩)]
theorem O_cast (a b : Int32) (x : Int64) (f : Int32) : okX3_cast a b x f := by
  have n1 : ¬ (1 : Int32) = 0 := by decide
  have bad : okX3_cast_31 a b x f := by
    rw [okX3_cast_31, okX3_cast_32, okX3_cast_45]
    exact ⟨fun _ => ⟨fun _ => trivial, fun h => absurd rfl h⟩, fun h => absurd rfl h⟩
  have good : (a = b ∨ (¬ fX3_isNumber a = 0 ∧ ¬ fX3_isNumber b = 0)) → okX3_cast_19 a b x f := by
    intro hk
    rw [okX3_cast_19]
    refine ⟨has_ok _ _, fun _ => bad, fun c => ?_⟩
    rw [okX3_cast_32, okX3_cast_45, okX3_cast_45]
    exact ⟨fun h => absurd h n1, fun _ => ⟨fun h => absurd h n1, fun _ => ⟨(conv_ok hk c).2, trivial⟩⟩⟩
  rw [okX3_cast, okX3_cast_0]
  exact ⟨fun c => good (Or.inl c), fun _ => ⟨fun _ => bad, fun c2 => ⟨fun _ => bad, fun c3 => good (Or.inr ⟨c2, c3⟩)⟩⟩⟩
