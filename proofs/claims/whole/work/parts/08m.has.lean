/-! which bits are those of a value -/
theorem flt_split {u : Nat} (hu : u < 2 ^ 32) : ∃ s z : Nat, s ≤ 1 ∧ z < 2 ^ 31 ∧ u = s * 2 ^ 31 + z := ⟨u / 2 ^ 31, u % 2 ^ 31, by omega, by omega, by omega⟩
theorem dbl_split {u : Nat} (hu : u < 2 ^ 64) : ∃ s z : Nat, s ≤ 1 ∧ z < 2 ^ 63 ∧ u = s * 2 ^ 63 + z := ⟨u / 2 ^ 63, u % 2 ^ 63, by omega, by omega, by omega⟩
theorem wide_ok (x : Int32) : okX2_wide x := by
  obtain ⟨u, hu, rfl⟩ := wb_of32 x
  obtain ⟨s, z, hs, hz, rfl⟩ := flt_split hu
  exact (wide_is hs hz).2
theorem l2i_in {b : Int64} (h1 : -2147483648 ≤ b.toInt) (h2 : b.toInt < 2147483648) : b.toInt32.toInt = b.toInt := by
  rw [Int64.toInt_toInt32]; exact fb_bmod h1 h2
theorem int_eq (b : Int64) : b.toInt32.toInt64 = b ↔ ¬ b < -2147483648 ∧ ¬ 2147483647 < b := by
  rw [Int64.lt_iff_toInt_lt, Int64.lt_iff_toInt_lt, show (-2147483648 : Int64).toInt = -2147483648 from by decide, show (2147483647 : Int64).toInt = 2147483647 from by decide, ← Int64.toInt_inj, Int32.toInt_toInt64]
  have h := fb_rng b.toInt32
  constructor
  · intro e; rw [e] at h; omega
  · intro e; exact l2i_in (by omega) (by omega)
theorem byte_eq (b : Int64) : (jbyte b.toInt32).toInt64 = b ↔ ¬ b < -128 ∧ ¬ 127 < b := by
  rw [Int64.lt_iff_toInt_lt, Int64.lt_iff_toInt_lt, show (-128 : Int64).toInt = -128 from by decide, show (127 : Int64).toInt = 127 from by decide, ← Int64.toInt_inj, Int32.toInt_toInt64]
  have h := fb_byte_rng b.toInt32
  unfold jbyte
  constructor
  · intro e; rw [e] at h; omega
  · intro e
    have h2 := l2i_in (b := b) (by omega) (by omega)
    rw [fb_byte (by omega) (by omega), h2]
theorem short_eq (b : Int64) : (jshort b.toInt32).toInt64 = b ↔ ¬ b < -32768 ∧ ¬ 32767 < b := by
  rw [Int64.lt_iff_toInt_lt, Int64.lt_iff_toInt_lt, show (-32768 : Int64).toInt = -32768 from by decide, show (32767 : Int64).toInt = 32767 from by decide, ← Int64.toInt_inj, Int32.toInt_toInt64]
  have h := fb_short_rng b.toInt32
  unfold jshort
  constructor
  · intro e; rw [e] at h; omega
  · intro e
    have h2 := l2i_in (b := b) (by omega) (by omega)
    rw [fb_short (by omega) (by omega), h2]
theorem char_eq (b : Int64) : (jchar b.toInt32).toInt64 = b ↔ ¬ b < 0 ∧ ¬ 65535 < b := by
  have hc : ∀ x : Int32, jchar x = nI (x.toBitVec.toNat % 65536) := fun x => pk_char x
  rw [hc, nI_toInt64 (by omega)]
  constructor
  · intro e
    rw [← e]
    refine ⟨by rw [lN_lt0 (by omega)]; omega, ?_⟩
    rw [show (65535 : Int64) = lN 65535 from rfl, lN_lt63 (by decide) (by omega)]; omega
  · rintro ⟨h1, h2⟩
    obtain ⟨n, hn, rfl⟩ := pk_lOf h1
    rw [show (65535 : Int64) = lN 65535 from rfl, lN_lt63 (by decide) (by omega)] at h2
    rw [lN_i, pk_tn (by omega), Nat.mod_eq_of_lt (by omega)]
theorem num6_out {u : Nat} (hu : u < 2 ^ 64) (h : 2 ^ 32 ≤ u) : fX0_isNumber 6 (lN u) = 0 := by
  rw [fX0_isNumber, fX0_isNumber_0, fX0_isNumber_6, fX0_size, fX0_size_0, show fX0_signBit 6 ^^^ (-1 : Int64) = lN (2 ^ 64 - 1 - 2 ^ 31) from by decide, wb_and hu (by decide)]
  have hd : (u &&& (2 ^ 64 - 1 - 2 ^ 31)) / 2 ^ 32 = u / 2 ^ 32 := by
    rw [Nat.and_div_two_pow, show (2 ^ 64 - 1 - 2 ^ 31) / 2 ^ 32 = 2 ^ 32 - 1 from by decide, Nat.and_two_pow_sub_one_eq_mod, Nat.mod_eq_of_lt (by omega)]
  have hlt : (u &&& (2 ^ 64 - 1 - 2 ^ 31)) < 2 ^ 64 := Nat.lt_of_le_of_lt Nat.and_le_left hu
  generalize u &&& (2 ^ 64 - 1 - 2 ^ 31) = x at *
  by_cases c : 2 ^ 63 ≤ x
  · rw [if_pos ((lN_lt0 hlt).mpr c)]
  · rw [if_neg (fun q => c ((lN_lt0 hlt).mp q)), show fX0_infinity 6 = lN 2139095040 from by decide, if_pos ((lN_lt63 (by decide) (by omega)).mpr (by omega))]
theorem isValue6 {s z : Nat} (hs : s ≤ 1) (hz : z < 2 ^ 31) : fX0_isNumber 6 (lN (s * 2 ^ 31 + z)) = if z ≤ INF32 then 1 else 0 := num_is Ks6 Kd6 hs hz
theorem isValue7 {s z : Nat} (hs : s ≤ 1) (hz : z < 2 ^ 63) : fX0_isNumber 7 (lN (s * 2 ^ 63 + z)) = if z ≤ INF64 then 1 else 0 := num_is Ks7 Kd7 hs hz
theorem ite3 {a b : Prop} [Decidable a] [Decidable b] : (if ¬ a ∧ ¬ b then (1 : Int32) else 0) = if a then 0 else if b then 0 else 1 := by
  by_cases ha : a <;> by_cases hb : b <;> simp [ha, hb]
theorem has_eq (k : Int32) (b : Int64) : fX1_isValue k b = fX3_hasBits k b := by
  rw [fX1_isValue, fX1_isValue_0, fX3_hasBits, fX3_hasBits_0]
  by_cases c0 : k = 0
  · rw [if_pos c0, if_pos c0]
  rw [if_neg c0, if_neg c0]
  by_cases c1 : k = 1
  · rw [if_pos c1, if_pos c1, fX1_isValue_66, fX1_narrowed, fX1_narrowed_0, if_pos c1, ite_eq10 (byte_eq b), ite3]
  rw [if_neg c1, if_neg c1]
  by_cases c2 : k = 2
  · rw [if_pos c2, if_pos c2, fX1_isValue_66, fX1_narrowed, fX1_narrowed_0, if_neg c1, if_pos c2, ite_eq10 (short_eq b), ite3]
  rw [if_neg c2, if_neg c2]
  by_cases c3 : k = 3
  · rw [if_pos c3, if_pos c3, fX1_isValue_66, fX1_narrowed, fX1_narrowed_0, if_neg c1, if_neg c2, if_pos c3, ite_eq10 (char_eq b), ite3]
  rw [if_neg c3, if_neg c3]
  by_cases c4 : k = 4
  · rw [if_pos c4, if_pos c4, fX1_isValue_66, fX1_narrowed, fX1_narrowed_0, if_neg c1, if_neg c2, if_neg c3, if_pos c4, ite_eq10 (int_eq b), ite3]
  rw [if_neg c4, if_neg c4]
  by_cases c5 : k = 5
  · rw [if_pos c5, if_pos c5, fX1_isValue_66, fX1_narrowed, fX1_narrowed_0, if_neg c1, if_neg c2, if_neg c3, if_neg c4, if_pos rfl]
  rw [if_neg c5, if_neg c5]
  by_cases c6 : k = 6
  · rw [if_pos c6, if_pos c6, fX1_isValue_82, c6]
    obtain ⟨u, hu, rfl⟩ := wb_of b
    by_cases cu : u < 2 ^ 32
    · rw [if_neg (by rw [lN_lt0 hu]; omega), show (4294967295 : Int64) = lN 4294967295 from rfl, if_neg (by rw [lN_lt63 (by decide) (by omega)]; omega), lN_i]
      obtain ⟨s, z, hs, hz, rfl⟩ := flt_split cu
      rw [isValue6 hs hz, (wide_is hs hz).1, none_is hs (Wd_lt hz)]
      by_cases cz : z ≤ INF32
      · rw [if_pos cz, if_pos ((Wd_le hz).mpr cz), if_pos rfl]
      · rw [if_neg cz, if_neg (fun h => cz ((Wd_le hz).mp h)), if_neg (by decide)]
    · rw [num6_out hu (by omega)]
      by_cases cn : 2 ^ 63 ≤ u
      · rw [if_pos ((lN_lt0 hu).mpr cn)]
      · rw [if_neg (fun q => cn ((lN_lt0 hu).mp q)), show (4294967295 : Int64) = lN 4294967295 from rfl, if_pos ((lN_lt63 (by decide) (by omega)).mpr (by omega))]
  rw [if_neg c6, if_neg c6]
  by_cases c7 : k = 7
  · rw [if_pos c7, if_pos c7, fX1_isValue_82, c7]
    obtain ⟨u, hu, rfl⟩ := wb_of b
    obtain ⟨s, z, hs, hz, rfl⟩ := dbl_split hu
    rw [isValue7 hs hz, none_is hs hz]
    by_cases cz : z ≤ INF64
    · rw [if_pos cz, if_pos cz, if_pos rfl]
    · rw [if_neg cz, if_neg cz, if_neg (by decide)]
  · rw [if_neg c7, if_neg c7]
theorem has_ok (k : Int32) (b : Int64) : okX3_hasBits k b := by
  rw [okX3_hasBits, okX3_hasBits_0]
  repeat' first | exact trivial | exact wide_ok _ | apply And.intro | intro _
theorem T_has (k : Int32) (b : Int64) (f : Int32) : fX1_has k b f = fX3_has k b f := by
  rw [fX1_has, fX1_has_0, fX3_has, fX3_has_0, has_eq]
theorem O_has (k : Int32) (b : Int64) (f : Int32) : okX3_has k b f := ⟨has_ok k b, trivial⟩
/-- the bits of a float, of a double, that is a number -/
theorem val6 {b : Int64} (h : ¬ fX3_hasBits 6 b = 0) : ∃ s z : Nat, s ≤ 1 ∧ z ≤ INF32 ∧ b = lN (s * 2 ^ 31 + z) := by
  rw [← has_eq] at h
  obtain ⟨u, hu, rfl⟩ := wb_of b
  have e : fX1_isValue 6 (lN u) = fX0_isNumber 6 (lN u) := rfl
  rw [e] at h
  by_cases cu : u < 2 ^ 32
  · obtain ⟨s, z, hs, hz, rfl⟩ := flt_split cu
    rw [isValue6 hs hz] at h
    by_cases cz : z ≤ INF32
    · exact ⟨s, z, hs, cz, rfl⟩
    · rw [if_neg cz] at h; exact absurd rfl h
  · rw [num6_out hu (by omega)] at h; exact absurd rfl h
theorem val7 {b : Int64} (h : ¬ fX3_hasBits 7 b = 0) : ∃ s z : Nat, s ≤ 1 ∧ z ≤ INF64 ∧ b = lN (s * 2 ^ 63 + z) := by
  rw [← has_eq] at h
  obtain ⟨u, hu, rfl⟩ := wb_of b
  have e : fX1_isValue 7 (lN u) = fX0_isNumber 7 (lN u) := rfl
  rw [e] at h
  obtain ⟨s, z, hs, hz, rfl⟩ := dbl_split hu
  rw [isValue7 hs hz] at h
  by_cases cz : z ≤ INF64
  · exact ⟨s, z, hs, cz, rfl⟩
  · rw [if_neg cz] at h; exact absurd rfl h
/-! widens, by the kinds alone -/
theorem kind_of {k : Int32} (h1 : ¬ k < 1) (h2 : ¬ 7 < k) : k = 1 ∨ k = 2 ∨ k = 3 ∨ k = 4 ∨ k = 5 ∨ k = 6 ∨ k = 7 := by
  rw [Int32.lt_iff_toInt_lt, show (1 : Int32).toInt = 1 from rfl] at h1
  rw [Int32.lt_iff_toInt_lt, show (7 : Int32).toInt = 7 from rfl] at h2
  have := iI_self k
  rcases (show k.toInt = 1 ∨ k.toInt = 2 ∨ k.toInt = 3 ∨ k.toInt = 4 ∨ k.toInt = 5 ∨ k.toInt = 6 ∨ k.toInt = 7 by omega) with h | h | h | h | h | h | h <;> rw [h] at this <;> rw [← this] <;> decide
theorem isNum_eq (k : Int32) : fX1_isNumberKind k = fX3_isNumber k := rfl
theorem T_widens (a b : Int32) (f : Int32) : fX1_widens a b f = fX3_widens a b f := by
  rw [fX1_widens, fX1_widens_0, fX3_widens, fX3_widens_0]
  have l0 : ∀ k : Int32, k < 0 → k < 1 := fun k h => by
    rw [Int32.lt_iff_toInt_lt] at h ⊢
    have e0 : (0 : Int32).toInt = 0 := rfl
    have e1 : (1 : Int32).toInt = 1 := rfl
    rw [e0] at h; rw [e1]; omega
  by_cases cab : a = b
  · rw [if_pos cab]
    by_cases c1 : a < 0
    · rw [if_pos c1, if_pos c1]
    · rw [if_neg c1, if_neg c1]
      by_cases c2 : 7 < a
      · rw [if_pos c2, if_pos c2]
      · rw [if_neg c2, if_neg c2, if_pos cab]
  · rw [if_neg cab, fX1_isNumberKind, fX1_isNumberKind, fX1_isNumberKind_0, fX1_isNumberKind_0]
    by_cases c1 : a < 0
    · rw [if_pos (l0 a c1), if_pos rfl, if_pos c1]
    · rw [if_neg c1]
      by_cases c2 : 7 < a
      · rw [if_pos c2, if_pos c2]
        by_cases c3 : a < 1
        · rw [if_pos c3, if_pos rfl]
        · rw [if_neg c3, if_pos rfl]
      · rw [if_neg c2, if_neg c2, if_neg cab]
        have n1 : ¬ (1 : Int32) = 0 := by decide
        by_cases d1 : b < 0
        · rw [if_pos d1, if_pos (l0 b d1)]
          by_cases c3 : a < 1
          · rw [if_pos c3, if_pos rfl]
          · rw [if_neg c3, if_neg n1, if_pos rfl]
        · rw [if_neg d1]
          by_cases d2 : 7 < b
          · rw [if_pos d2, if_pos d2]
            by_cases c3 : a < 1
            · rw [if_pos c3, if_pos rfl]
            · rw [if_neg c3, if_neg n1]
              by_cases d3 : b < 1
              · rw [if_pos d3, if_pos rfl]
              · rw [if_neg d3, if_pos rfl]
          · rw [if_neg d2, if_neg d2]
            have kz : ∀ k : Int32, ¬ k < 0 → k < 1 → k = 0 := fun k h1 h2 => by
              rw [Int32.lt_iff_toInt_lt] at h1 h2
              have e0 : (0 : Int32).toInt = 0 := rfl
              have e1 : (1 : Int32).toInt = 1 := rfl
              rw [e0] at h1; rw [e1] at h2
              exact Int32.toInt_inj.mp (by rw [e0]; omega)
            have ha : a = 0 ∨ a = 1 ∨ a = 2 ∨ a = 3 ∨ a = 4 ∨ a = 5 ∨ a = 6 ∨ a = 7 := by
              by_cases c3 : a < 1
              · exact Or.inl (kz a c1 c3)
              · exact Or.inr (kind_of c3 c2)
            have hb : b = 0 ∨ b = 1 ∨ b = 2 ∨ b = 3 ∨ b = 4 ∨ b = 5 ∨ b = 6 ∨ b = 7 := by
              by_cases c3 : b < 1
              · exact Or.inl (kz b d1 c3)
              · exact Or.inr (kind_of c3 d2)
            clear cab c1 c2 d1 d2
            rcases ha with rfl | rfl | rfl | rfl | rfl | rfl | rfl | rfl <;> rcases hb with rfl | rfl | rfl | rfl | rfl | rfl | rfl | rfl <;> rfl
/-! shifts -/
theorem and63 (n : Int64) : (n &&& (63 : Int64)).toInt32 = n.toInt32 &&& (63 : Int32) := by
  obtain ⟨u, hu, rfl⟩ := wb_of n
  rw [show (63 : Int64) = lN (2 ^ 6 - 1) from rfl, wb_mask hu (by decide), lN_i, lN_i, pk_and _ 6 (by decide)]
  congr 1
  show u % 2 ^ 6 = (BitVec.ofNat 32 u).toNat % 2 ^ 6
  rw [BitVec.toNat_ofNat]; omega
theorem and31 (n : Int64) : (n &&& (31 : Int64)).toInt32 = n.toInt32 &&& (31 : Int32) := by
  obtain ⟨u, hu, rfl⟩ := wb_of n
  rw [show (31 : Int64) = lN (2 ^ 5 - 1) from rfl, wb_mask hu (by decide), lN_i, lN_i, pk_and _ 5 (by decide)]
  congr 1
  show u % 2 ^ 5 = (BitVec.ofNat 32 u).toNat % 2 ^ 5
  rw [BitVec.toNat_ofNat]; omega
theorem T_shift (w k : Int32) (x y : Int64) (f : Int32) : fX1_shift w k x y f = fX3_shift w k x y f := by
  have bad : ∀ g : Int32, fX1_shift_42 g = ((0 : Int64), (1 : Int32)) := fun g => rfl
  have bad3 : ∀ g : Int32, fX3_shift_35 w k x y g = ((0 : Int64), (1 : Int32)) := fun g => rfl
  have n1 : ¬ (1 : Int32) = 0 := by decide
  rw [fX1_shift, fX1_shift_0, fX3_shift, fX3_shift_0, bad3]
  have e16 : fX1_shift_16 w k x y f = ((0 : Int64), (1 : Int32)) := rfl
  rw [e16]
  by_cases c1 : w < 6
  · rw [if_pos c1, if_pos c1]
  rw [if_neg c1, if_neg c1]
  by_cases c2 : 8 < w
  · rw [if_pos c2, if_pos c2]
  rw [if_neg c2, if_neg c2, fX1_shift_17, if_neg n1, bad]
  by_cases c3 : k < 1
  · rw [if_pos c3, if_pos c3]
  rw [if_neg c3, if_neg c3]
  by_cases c4 : 5 < k
  · rw [if_pos c4, if_pos c4]
  rw [if_neg c4, if_neg c4, has_eq]
  by_cases c5 : fX3_hasBits k x = 0
  · rw [if_pos c5, if_pos c5]
  rw [if_neg c5, if_neg c5, fX3_shift_36, if_neg (show ¬ (0 : Int32) < 0 by decide)]
  by_cases c6 : k = 5
  · rw [if_pos c6, if_pos c6, fX3_shift_63, fX3_shift_66, if_pos c6, and63, fX1_shiftedLong, fX1_shiftedLong_0]
    by_cases d1 : w = 6
    · rw [if_pos d1, if_pos d1]
    · rw [if_neg d1, if_neg d1]
      by_cases d2 : w = 7
      · rw [if_pos d2, if_pos d2]
      · rw [if_neg d2, if_neg d2]
  · rw [if_neg c6, if_neg c6, fX3_shift_63, fX3_shift_66, if_neg c6, and31, fX1_shiftedInt, fX1_shiftedInt_0, fX3_shift_106]
    by_cases d1 : w = 6
    · rw [if_pos d1, if_pos d1]
    · rw [if_neg d1, if_neg d1]
      by_cases d2 : w = 7
      · rw [if_pos d2, if_pos d2]
      · rw [if_neg d2, if_neg d2]
theorem O_shift (w k : Int32) (x y : Int64) (f : Int32) : okX3_shift w k x y f := by
  rw [okX3_shift, okX3_shift_0]
  repeat' first | exact trivial | exact has_ok _ _ | apply And.intro | intro _
