/-- the reference's sum, case by case -/
theorem add_val {s1 s2 z1 z2 : Nat} (hs1 : s1 ≤ 1) (hs2 : s2 ≤ 1) (hz1 : z1 ≤ INF64) (hz2 : z2 ≤ INF64) :
    (z1 = INF64 → fX2_add (lN (s1 * 2 ^ 63 + z1)) (lN (s2 * 2 ^ 63 + z2)) = lN (s1 * 2 ^ 63 + z1)) ∧ (z1 ≠ INF64 → z2 = INF64 → fX2_add (lN (s1 * 2 ^ 63 + z1)) (lN (s2 * 2 ^ 63 + z2)) = lN (s2 * 2 ^ 63 + z2)) ∧
    (z1 ≠ INF64 → z2 ≠ INF64 → z1 = 0 → z2 = 0 → fX2_add (lN (s1 * 2 ^ 63 + z1)) (lN (s2 * 2 ^ 63 + z2)) = lN (s1 * s2 * 2 ^ 63 + 0)) ∧ (z1 ≠ INF64 → z2 ≠ INF64 → z1 = 0 → z2 ≠ 0 → fX2_add (lN (s1 * 2 ^ 63 + z1)) (lN (s2 * 2 ^ 63 + z2)) = lN (s2 * 2 ^ 63 + z2)) ∧
    (z1 ≠ INF64 → z2 ≠ INF64 → z1 ≠ 0 → z2 = 0 → fX2_add (lN (s1 * 2 ^ 63 + z1)) (lN (s2 * 2 ^ 63 + z2)) = lN (s1 * 2 ^ 63 + z1)) := by
  have l1 := lt63 hz1
  have l2 := lt63 hz2
  have n1 : ¬ (1 : Int32) = 0 := by decide
  have i1 := infd_is hs1 l1
  have i2 := infd_is hs2 l2
  have o1 := zerod_is hs1 l1
  have o2 := zerod_is hs2 l2
  have hI0 : ¬ INF64 = 0 := by decide
  refine ⟨fun c1 => ?_, fun c1 c2 => ?_, fun c1 c2 a0 b0 => ?_, fun c1 c2 a0 b0 => ?_, fun c1 c2 a0 b0 => ?_⟩
  · rw [fX2_add, fX2_add_0, i1, if_pos c1, if_neg n1, fX2_add_14, o1, if_neg (show ¬ z1 = 0 by omega), if_pos rfl]
  · rw [fX2_add, fX2_add_0, i1, if_neg c1, if_pos rfl, o2, if_neg (show ¬ z2 = 0 by omega), if_pos rfl, i2, if_pos c2, if_neg n1]
  · rw [fX2_add, fX2_add_0, i1, if_neg c1, if_pos rfl, o2, if_pos b0, if_neg n1, fX2_add_14, o1, if_pos a0, if_neg n1, o2, if_pos b0, if_neg n1, a0, b0, Nat.add_zero, Nat.add_zero, Nat.add_zero, and_zeros hs1 hs2 (by decide)]
  · rw [fX2_add, fX2_add_0, i1, if_neg c1, if_pos rfl, o2, if_neg b0, if_pos rfl, i2, if_neg c2, if_pos rfl, o1, if_pos a0, if_neg n1]
  · rw [fX2_add, fX2_add_0, i1, if_neg c1, if_pos rfl, o2, if_pos b0, if_neg n1, fX2_add_14, o1, if_neg a0, if_pos rfl]
def D6 (x : Int64) : Prop := ∃ s z : Nat, s ≤ 1 ∧ z ≤ INF32 ∧ x = lN (s * 2 ^ 31 + z)
theorem sumRes_nr {s1 s2 z1 z2 : Nat} (hs1 : s1 ≤ 1) (h1 : 0 < z1) (hz1 : z1 < INF32) (h2 : 0 < z2) (hz2 : z2 < INF32) (hE : Eg 23 (-149) z2 ≤ Eg 23 (-149) z1) (hS : Eg 23 (-149) z2 = Eg 23 (-149) z1 → Sg 23 z2 ≤ Sg 23 z1) :
    (fX2_narrow (sumRes 63 INF64 52 s1 s2 (Sg 23 z1) (Sg 23 z2) (Eg 23 (-149) z1 - Eg 23 (-149) z2).toNat (Eg 23 (-149) z1 + 1065))).toInt64 &&& (4294967295 : Int64) = sumRes 31 INF32 23 s1 s2 (Sg 23 z1) (Sg 23 z2) (Eg 23 (-149) z1 - Eg 23 (-149) z2).toNat (Eg 23 (-149) z1 - 9 - -149) ∧ D6 (sumRes 31 INF32 23 s1 s2 (Sg 23 z1) (Sg 23 z2) (Eg 23 (-149) z1 - Eg 23 (-149) z2).toNat (Eg 23 (-149) z1 - 9 - -149)) := by
  obtain ⟨b, hb⟩ : ∃ b : Nat, (b : Int) = Eg 23 (-149) z1 - Eg 23 (-149) z2 := ⟨(Eg 23 (-149) z1 - Eg 23 (-149) z2).toNat, by omega⟩
  rw [show (Eg 23 (-149) z1 - Eg 23 (-149) z2).toNat = b by omega]
  obtain ⟨a1, a2⟩ := Sg_bounds (fb := 23) (by omega) h1
  obtain ⟨a3, a4⟩ := Sg_bounds (fb := 23) (by omega) h2
  have htl := tt_le (b := b) a4
  have htle : tt (Sg 23 z2) b ≤ Sg 23 z1 * 2 ^ 9 := by
    by_cases c : b = 0
    · have := hS (by omega)
      unfold tt; rw [c, HJ_0]; omega
    · have := htl.2 (by omega); omega
  unfold sumRes
  by_cases cs : s1 = s2
  · rw [if_pos cs, if_pos cs]
    obtain ⟨r1, r2⟩ := sum_nr h1 hz1 h2 hz2 hb (J := Sg 23 z1 * 2 ^ 9 + tt (Sg 23 z2) b) (by omega) (Or.inl rfl)
    rw [Nr_mask hs1 (Nat.min_le_left _ _), r2]
    exact ⟨rfl, s1, _, hs1, Nat.min_le_left _ _, rfl⟩
  · rw [if_neg cs, if_neg cs]
    by_cases cj : Sg 23 z1 * 2 ^ 9 = tt (Sg 23 z2) b
    · rw [if_pos cj, if_pos cj]
      exact ⟨by decide, 0, 0, by decide, by decide, rfl⟩
    · rw [if_neg cj, if_neg cj]
      obtain ⟨r1, r2⟩ := sum_nr h1 hz1 h2 hz2 hb (J := Sg 23 z1 * 2 ^ 9 - tt (Sg 23 z2) b) (by omega) (Or.inr (by omega))
      rw [Nr_mask hs1 (Nat.min_le_left _ _), r2]
      exact ⟨rfl, s1, _, hs1, Nat.min_le_left _ _, rfl⟩
theorem sum6 {s1 s2 z1 z2 : Nat} (hs1 : s1 ≤ 1) (hs2 : s2 ≤ 1) (hz1 : z1 ≤ INF32) (hz2 : z2 ≤ INF32) (hn : ¬ (z1 = INF32 ∧ z2 = INF32 ∧ s1 ≠ s2)) :
    fX0_sum 6 (lN (s1 * 2 ^ 31 + z1)) (lN (s2 * 2 ^ 31 + z2)) = (fX2_narrow (fX2_add (lN (s1 * 2 ^ 63 + Wd z1)) (lN (s2 * 2 ^ 63 + Wd z2)))).toInt64 &&& (4294967295 : Int64) ∧ D6 (fX0_sum 6 (lN (s1 * 2 ^ 31 + z1)) (lN (s2 * 2 ^ 31 + z2))) := by
  have l1 := lt31 hz1
  have l2 := lt31 hz2
  have n1 : ¬ (1 : Int32) = 0 := by decide
  have j1 : fX0_isInfinite 6 (lN (s1 * 2 ^ 31 + z1)) = if z1 = INF32 then 1 else 0 := inf_is Ks6 Kd6 hs1 l1
  have j2 : fX0_isInfinite 6 (lN (s2 * 2 ^ 31 + z2)) = if z2 = INF32 then 1 else 0 := inf_is Ks6 Kd6 hs2 l2
  have p1 := zero_is Ks6 hs1 l1
  have p2 := zero_is Ks6 hs2 l2
  have w1 : D6 (lN (s1 * 2 ^ 31 + z1)) := ⟨s1, z1, hs1, hz1, rfl⟩
  have w2 : D6 (lN (s2 * 2 ^ 31 + z2)) := ⟨s2, z2, hs2, hz2, rfl⟩
  have b1 := Nr_mask hs1 (Wd_le' hz1)
  have b2 := Nr_mask hs2 (Wd_le' hz2)
  rw [Nr_Wd hz1] at b1
  rw [Nr_Wd hz2] at b2
  have qi1 := Wd_isinf l1
  have qi2 := Wd_isinf l2
  have q01 := Wd_zero l1
  have q02 := Wd_zero l2
  obtain ⟨v1', v2', v3', v4', v5'⟩ := add_val hs1 hs2 (Wd_le' hz1) (Wd_le' hz2)
  rw [fX0_sum, fX0_sum_0, j1, j2, p1, p2]
  by_cases c1 : z1 = INF32
  · rw [v1' (qi1.mpr c1), b1, if_pos c1, if_neg n1]
    by_cases c2 : z2 = INF32
    · have hs : s1 = s2 := Decidable.byContradiction fun h => hn ⟨c1, c2, h⟩
      rw [if_pos c2, if_neg n1, if_pos (by rw [c1, c2, hs])]; exact ⟨rfl, w1⟩
    · rw [if_neg c2, if_pos rfl]; exact ⟨rfl, w1⟩
  · have d1 : Wd z1 ≠ INF64 := fun h => c1 (qi1.mp h)
    rw [if_neg c1, if_pos rfl]
    by_cases c2 : z2 = INF32
    · rw [v2' d1 (qi2.mpr c2), b2, if_pos c2, if_neg n1]; exact ⟨rfl, w2⟩
    · have d2 : Wd z2 ≠ INF64 := fun h => c2 (qi2.mp h)
      rw [if_neg c2, if_pos rfl]
      have k1 : z1 < INF32 := by omega
      have k2 : z2 < INF32 := by omega
      have k1' : z1 < (253 + 2) * 2 ^ 23 := k1
      have k2' : z2 < (253 + 2) * 2 ^ 23 := k2
      have hIK : (253 + 2) * 2 ^ 23 < 2 ^ 31 := by decide
      have sz1 := size_is Ks6 hs1 l1
      have sz2 := size_is Ks6 hs2 l2
      have qz := lN_lt63 (show z1 < 2 ^ 63 by omega) (show z2 < 2 ^ 63 by omega)
      by_cases a0 : z1 = 0
      · by_cases b0 : z2 = 0
        · have hss : s1 * s2 ≤ 1 := Nat.mul_le_mul hs1 hs2
          have hb := Nr_mask (z := 0) hss (by decide)
          rw [show Nr 0 = 0 from rfl] at hb
          rw [v3' d1 d2 (q01.mpr a0) (q02.mpr b0), hb, if_pos a0, if_neg n1, if_pos b0, if_neg n1, a0, b0, Nat.add_zero, Nat.add_zero, Nat.add_zero, and_zeros hs1 hs2 (by decide)]
          exact ⟨rfl, s1 * s2, 0, hss, by decide, by rw [Nat.add_zero]⟩
        · have cs := clsSum (s1 := s2) (s2 := s1) (z1 := z2) (z2 := z1) Ks6 Kd6 (by decide) hIK hs2 hs1 (by omega) k2' k1' (fun h => by omega) (fun h => by omega)
          rw [if_pos a0] at cs
          rw [v4' d1 d2 (q01.mpr a0) (fun h => b0 (q02.mp h)), b2, if_pos a0, if_neg n1, if_neg b0, if_pos rfl, fX0_sum_61, sz1, sz2, if_pos (qz.mpr (by omega)), fX0_sum_80, if_pos rfl, cs]
          exact ⟨rfl, w2⟩
      · rw [if_neg a0, if_pos rfl, fX0_sum_61, sz1, sz2]
        by_cases b0 : z2 = 0
        · have cs := clsSum (s1 := s1) (s2 := s2) (z1 := z1) (z2 := z2) Ks6 Kd6 (by decide) hIK hs1 hs2 (by omega) k1' k2' (fun h => by omega) (fun h => by omega)
          rw [if_pos b0] at cs
          rw [v5' d1 d2 (fun h => a0 (q01.mp h)) (q02.mpr b0), b1, if_neg (fun h => by have := qz.mp h; omega), fX0_sum_80, if_neg n1, cs]
          exact ⟨rfl, w1⟩
        · have t1 : 0 < z1 := by omega
          have t2 : 0 < z2 := by omega
          obtain ⟨-, -, g1, g2⟩ := Wd_dec t1 k1
          obtain ⟨-, -, g3, g4⟩ := Wd_dec t2 k2
          obtain ⟨S1, E1⟩ := SgEg_Wd t1 k1
          obtain ⟨S2, E2⟩ := SgEg_Wd t2 k2
          obtain ⟨r, -⟩ := ref_add_pick hs1 hs2 g1 g2 g3 g4
          rw [r, S1, S2, E1, E2]
          have qw := Wd_lt_iff hz1 hz2
          by_cases c : z1 < z2
          · have hl := lex (fb := 23) (em := -149) (by omega) t1 c
            have cs := clsSum (s1 := s2) (s2 := s1) (z1 := z2) (z2 := z1) Ks6 Kd6 (by decide) hIK hs2 hs1 (by omega) k2' k1' (fun _ => by omega) (fun _ h => by omega)
            obtain ⟨m1, m2⟩ := sumRes_nr (s1 := s2) (s2 := s1) hs2 t2 k2 t1 k1 (by omega) (fun h => by omega)
            rw [if_neg a0] at cs
            rw [if_pos (qz.mpr c), fX0_sum_80, if_pos rfl, if_pos (qw.mpr c), cs, m1]
            exact ⟨rfl, m2⟩
          · have hl : Eg 23 (-149) z2 < Eg 23 (-149) z1 ∨ (Eg 23 (-149) z2 = Eg 23 (-149) z1 ∧ Sg 23 z2 ≤ Sg 23 z1) := by
              rcases Nat.eq_or_lt_of_le (show z2 ≤ z1 by omega) with q | q
              · rw [q]; exact Or.inr ⟨rfl, Nat.le_refl _⟩
              · rcases lex (fb := 23) (em := -149) (by omega) t2 q with h | h
                · exact Or.inl h
                · exact Or.inr ⟨h.1, Nat.le_of_lt h.2⟩
            have cs := clsSum (s1 := s1) (s2 := s2) (z1 := z1) (z2 := z2) Ks6 Kd6 (by decide) hIK hs1 hs2 (by omega) k1' k2' (fun _ => by omega) (fun _ h => by omega)
            obtain ⟨m1, m2⟩ := sumRes_nr (s1 := s1) (s2 := s2) hs1 t1 k1 t2 k2 (by omega) (fun h => by omega)
            rw [if_neg b0] at cs
            rw [if_neg (fun h => c (qz.mp h)), fX0_sum_80, if_neg n1, if_neg (fun h => c (qw.mp h)), cs, m1]
            exact ⟨rfl, m2⟩
