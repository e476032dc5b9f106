/-! sums, both sides -/
theorem lex {fb z z' : Nat} {em : Int} (hfb : fb ≤ 52) (h0 : 0 < z) (h : z < z') : Eg fb em z < Eg fb em z' ∨ (Eg fb em z = Eg fb em z' ∧ Sg fb z < Sg fb z') := by
  have m1 := Mg_pos (fb := fb) h0
  have m2 := Mg_pos (fb := fb) (show 0 < z' by omega)
  have l1 := log2_lt m1 (Mg_lt fb z)
  have l2 := log2_lt m2 (Mg_lt fb z')
  obtain ⟨a1, a2⟩ := Sg_bounds (fb := fb) hfb h0
  obtain ⟨a3, a4⟩ := Sg_bounds (fb := fb) hfb (show 0 < z' by omega)
  have hV := V_mono (fb := fb) h
  have e1 : Sg fb z * 2 ^ (Xp fb z + (Mg fb z).log2) = Mg fb z * 2 ^ Xp fb z * 2 ^ 52 := by
    unfold Sg; rw [Nat.mul_assoc, ← Nat.pow_add, Nat.mul_assoc, ← Nat.pow_add]; congr 2; omega
  have e2 : Sg fb z' * 2 ^ (Xp fb z' + (Mg fb z').log2) = Mg fb z' * 2 ^ Xp fb z' * 2 ^ 52 := by
    unfold Sg; rw [Nat.mul_assoc, ← Nat.pow_add, Nat.mul_assoc, ← Nat.pow_add]; congr 2; omega
  have hlt : Sg fb z * 2 ^ (Xp fb z + (Mg fb z).log2) < Sg fb z' * 2 ^ (Xp fb z' + (Mg fb z').log2) := by
    rw [e1, e2]; exact Nat.mul_lt_mul_of_pos_right hV (by decide)
  have hE1 : Eg fb em z = em + (Xp fb z + (Mg fb z).log2 : Nat) - 52 := by unfold Eg; omega
  have hE2 : Eg fb em z' = em + (Xp fb z' + (Mg fb z').log2 : Nat) - 52 := by unfold Eg; omega
  rw [hE1, hE2]
  generalize Xp fb z + (Mg fb z).log2 = e at *
  generalize Xp fb z' + (Mg fb z').log2 = e' at *
  rcases Nat.lt_trichotomy e e' with q | q | q
  · exact Or.inl (by omega)
  · subst q
    exact Or.inr ⟨rfl, Nat.lt_of_mul_lt_mul_right hlt⟩
  · exfalso
    have b1 : 2 ^ 52 * 2 ^ e ≤ Sg fb z * 2 ^ e := Nat.mul_le_mul_right _ a1
    have b2 : Sg fb z' * 2 ^ e' < 2 ^ 53 * 2 ^ e' := Nat.mul_lt_mul_of_pos_right a4 (Nat.two_pow_pos e')
    have b3 : 2 ^ 53 * 2 ^ e' ≤ 2 ^ 52 * 2 ^ e := by rw [← Nat.pow_add, ← Nat.pow_add]; exact lt_2 (by omega)
    omega
/-- a double that is a number -/
def D7 (x : Int64) : Prop := ∃ s z : Nat, s ≤ 1 ∧ z ≤ INF64 ∧ x = lN (s * 2 ^ 63 + z)
theorem D7_min {s x : Nat} (hs : s ≤ 1) : D7 (lN (s * 2 ^ 63 + min INF64 x)) := ⟨s, _, hs, Nat.min_le_left _ _, rfl⟩
theorem D7_0 : D7 0 := ⟨0, 0, by decide, by decide, rfl⟩
theorem D7_sum {fb s1 s2 S1 S2 b : Nat} {w : Int} (hs : s1 ≤ 1) : D7 (sumRes 63 INF64 fb s1 s2 S1 S2 b w) := by
  unfold sumRes
  split
  · exact D7_min hs
  · split
    · exact D7_0
    · exact D7_min hs
/-- both numbers finite and not 0: the reference picks the greater -/
theorem ref_add_pick {s1 s2 Z1 Z2 : Nat} (hs1 : s1 ≤ 1) (hs2 : s2 ≤ 1) (h1 : 0 < Z1) (hZ1 : Z1 < INF64) (h2 : 0 < Z2) (hZ2 : Z2 < INF64) :
    fX2_add (lN (s1 * 2 ^ 63 + Z1)) (lN (s2 * 2 ^ 63 + Z2)) = (if Z1 < Z2 then sumRes 63 INF64 52 s2 s1 (Sg 52 Z2) (Sg 52 Z1) (Eg 52 (-1074) Z2 - Eg 52 (-1074) Z1).toNat (Eg 52 (-1074) Z2 + 1065) else sumRes 63 INF64 52 s1 s2 (Sg 52 Z1) (Sg 52 Z2) (Eg 52 (-1074) Z1 - Eg 52 (-1074) Z2).toNat (Eg 52 (-1074) Z1 + 1065)) ∧ okX2_add (lN (s1 * 2 ^ 63 + Z1)) (lN (s2 * 2 ^ 63 + Z2)) := by
  have hz1 : Z1 < 2 ^ 63 := lt63 (Nat.le_of_lt hZ1)
  have hz2 : Z2 < 2 ^ 63 := lt63 (Nat.le_of_lt hZ2)
  obtain ⟨e1, e1o⟩ := expd_is hs1 h1 hZ1
  obtain ⟨e2, e2o⟩ := expd_is hs2 h2 hZ2
  obtain ⟨g1, g1o⟩ := sigd_is hs1 h1 hZ1
  obtain ⟨g2, g2o⟩ := sigd_is hs2 h2 hZ2
  obtain ⟨a1, a2⟩ := Sg_bounds (fb := 52) (by omega) h1
  obtain ⟨a3, a4⟩ := Sg_bounds (fb := 52) (by omega) h2
  obtain ⟨c1, c2⟩ := Eg52_bounds hZ1
  obtain ⟨c3, c4⟩ := Eg52_bounds hZ2
  have i1 := infd_is hs1 hz1
  have i2 := infd_is hs2 hz2
  have o1 := zerod_is hs1 hz1
  have o2 := zerod_is hs2 hz2
  rw [if_neg (show ¬ Z1 = INF64 by omega)] at i1
  rw [if_neg (show ¬ Z2 = INF64 by omega)] at i2
  rw [if_neg (show ¬ Z1 = 0 by omega)] at o1
  rw [if_neg (show ¬ Z2 = 0 by omega)] at o2
  have qe := iI_lt (a := Eg 52 (-1074) Z2) (b := Eg 52 (-1074) Z1) (by omega) (by omega) (by omega) (by omega)
  have qq := iI_eq (a := Eg 52 (-1074) Z1) (b := Eg 52 (-1074) Z2) (by omega) (by omega) (by omega) (by omega)
  have qs := lN_lt63 (a := Sg 52 Z1) (b := Sg 52 Z2) (by omega) (by omega)
  have n1 : ¬ (1 : Int32) = 0 := by decide
  rw [fX2_add, fX2_add_0, okX2_add, okX2_add_0, i1, i2, o1, o2, if_pos rfl, if_pos rfl, if_pos rfl, if_pos rfl, e1, e2, g1, g2]
  have wrap : ∀ (P : Prop) (x : Prop), x → ((0 : Int32) = 0 → x) ∧ (¬ (0 : Int32) = 0 → P) := fun P x hx => ⟨fun _ => hx, fun h => absurd rfl h⟩
  by_cases c : Z1 < Z2
  · rw [if_pos c]
    have hl := lex (fb := 52) (em := -1074) (by omega) h1 c
    obtain ⟨r1, r2⟩ := refAdd (b := (Eg 52 (-1074) Z2 - Eg 52 (-1074) Z1).toNat) hs2 hs1 h2 hZ2 h1 hZ1 (by omega) (fun hb => by omega)
    have k90 : fX2_add_90 (lN (s1 * 2 ^ 63 + Z1)) (lN (s2 * 2 ^ 63 + Z2)) = fX2_add_115 (lN (s2 * 2 ^ 63 + Z2)) (lN (s1 * 2 ^ 63 + Z1)) := by
      rw [fX2_add_90, fX2_add_91, if_pos rfl, fX2_add_103, if_pos rfl]
    have o90 : okX2_add_90 (lN (s1 * 2 ^ 63 + Z1)) (lN (s2 * 2 ^ 63 + Z2)) := by
      rw [okX2_add_90, okX2_add_91, okX2_add_103]
      exact ⟨fun _ => ⟨fun _ => r2, fun h => absurd rfl h⟩, fun h => absurd rfl h⟩
    have ne : ¬ Eg 52 (-1074) Z2 < Eg 52 (-1074) Z1 := by omega
    rw [k90, r1, if_neg (fun h => ne (qe.mp h))]
    constructor
    · by_cases ce : Eg 52 (-1074) Z1 = Eg 52 (-1074) Z2
      · rw [if_pos (qq.mpr ce), if_pos (qs.mpr (by omega))]
      · rw [if_neg (fun h => ce (qq.mp h))]
    · refine wrap _ _ (wrap _ _ (wrap _ _ (wrap _ _ ⟨e1o, e2o, fun h => absurd (qe.mp h) ne, fun _ => ⟨e1o, e2o, fun h => ⟨g1o, g2o, fun _ => o90, fun h2 => absurd (qs.mpr (by have := qq.mp h; omega)) h2⟩, fun _ => o90⟩⟩)))
  · rw [if_neg c]
    have hl : Eg 52 (-1074) Z2 < Eg 52 (-1074) Z1 ∨ (Eg 52 (-1074) Z2 = Eg 52 (-1074) Z1 ∧ Sg 52 Z2 ≤ Sg 52 Z1) := by
      rcases Nat.eq_or_lt_of_le (show Z2 ≤ Z1 by omega) with q | q
      · rw [q]; exact Or.inr ⟨rfl, Nat.le_refl _⟩
      · rcases lex (fb := 52) (em := -1074) (by omega) h2 q with h | h
        · exact Or.inl h
        · exact Or.inr ⟨h.1, Nat.le_of_lt h.2⟩
    obtain ⟨r1, r2⟩ := refAdd (b := (Eg 52 (-1074) Z1 - Eg 52 (-1074) Z2).toNat) hs1 hs2 h1 hZ1 h2 hZ2 (by omega) (fun hb => by omega)
    have k86 : fX2_add_86 (lN (s1 * 2 ^ 63 + Z1)) (lN (s2 * 2 ^ 63 + Z2)) = fX2_add_115 (lN (s1 * 2 ^ 63 + Z1)) (lN (s2 * 2 ^ 63 + Z2)) := by
      rw [fX2_add_86, fX2_add_91, if_neg n1, fX2_add_103, if_neg n1]
    have o86 : okX2_add_86 (lN (s1 * 2 ^ 63 + Z1)) (lN (s2 * 2 ^ 63 + Z2)) := by
      rw [okX2_add_86, okX2_add_91, okX2_add_103, okX2_add_103]
      exact ⟨fun h => absurd h n1, fun _ => ⟨fun h => absurd h n1, fun _ => r2⟩⟩
    rw [k86, r1]
    constructor
    · by_cases ce : Eg 52 (-1074) Z2 < Eg 52 (-1074) Z1
      · rw [if_pos (qe.mpr ce)]
      · rw [if_neg (fun h => ce (qe.mp h)), if_pos (qq.mpr (by omega)), if_neg (fun h => by have := qs.mp h; omega)]
    · refine wrap _ _ (wrap _ _ (wrap _ _ (wrap _ _ ⟨e1o, e2o, fun _ => o86, fun h => ⟨e1o, e2o, fun _ => ⟨g1o, g2o, fun h2 => absurd (qs.mp h2) (by have : ¬ Eg 52 (-1074) Z2 < Eg 52 (-1074) Z1 := fun h3 => h (qe.mpr h3); omega), fun _ => o86⟩, fun h2 => absurd (qq.mpr (by have : ¬ Eg 52 (-1074) Z2 < Eg 52 (-1074) Z1 := fun h3 => h (qe.mpr h3); omega)) h2⟩⟩)))
theorem and_zeros {s1 s2 sb : Nat} (hs1 : s1 ≤ 1) (hs2 : s2 ≤ 1) (hsb : sb ≤ 63) : lN (s1 * 2 ^ sb) &&& lN (s2 * 2 ^ sb) = lN (s1 * s2 * 2 ^ sb) := by
  have h1 : 2 ^ sb ≤ 2 ^ 63 := lt_2 hsb
  have b : ∀ s : Nat, s ≤ 1 → s * 2 ^ sb < 2 ^ 64 := fun s hs => by
    have := Nat.mul_le_mul_right (2 ^ sb) hs; omega
  rw [wb_and (b _ hs1) (b _ hs2)]
  rcases (show s1 = 0 ∨ s1 = 1 by omega) with rfl | rfl
  · rw [Nat.zero_mul, Nat.zero_mul, Nat.zero_mul, Nat.zero_and]
  · rcases (show s2 = 0 ∨ s2 = 1 by omega) with rfl | rfl
    · rw [Nat.zero_mul, Nat.and_zero]
    · rw [Nat.mul_one, Nat.and_self]
