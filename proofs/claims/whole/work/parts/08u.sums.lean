/-- the sum of two doubles that is a number -/
theorem sum7 {s1 s2 z1 z2 : Nat} (hs1 : s1 ≤ 1) (hs2 : s2 ≤ 1) (hz1 : z1 ≤ INF64) (hz2 : z2 ≤ INF64) (hn : ¬ (z1 = INF64 ∧ z2 = INF64 ∧ s1 ≠ s2)) :
    fX0_sum 7 (lN (s1 * 2 ^ 63 + z1)) (lN (s2 * 2 ^ 63 + z2)) = fX2_add (lN (s1 * 2 ^ 63 + z1)) (lN (s2 * 2 ^ 63 + z2)) ∧ okX2_add (lN (s1 * 2 ^ 63 + z1)) (lN (s2 * 2 ^ 63 + z2)) ∧ D7 (fX2_add (lN (s1 * 2 ^ 63 + z1)) (lN (s2 * 2 ^ 63 + z2))) := by
  have l1 := lt63 hz1
  have l2 := lt63 hz2
  have n1 : ¬ (1 : Int32) = 0 := by decide
  have i1 := infd_is hs1 l1
  have i2 := infd_is hs2 l2
  have o1 := zerod_is hs1 l1
  have o2 := zerod_is hs2 l2
  have j1 : fX0_isInfinite 7 (lN (s1 * 2 ^ 63 + z1)) = if z1 = INF64 then 1 else 0 := inf_is Ks7 Kd7 hs1 l1
  have j2 : fX0_isInfinite 7 (lN (s2 * 2 ^ 63 + z2)) = if z2 = INF64 then 1 else 0 := inf_is Ks7 Kd7 hs2 l2
  have p1 := zero_is Ks7 hs1 l1
  have p2 := zero_is Ks7 hs2 l2
  have w1 : D7 (lN (s1 * 2 ^ 63 + z1)) := ⟨s1, z1, hs1, hz1, rfl⟩
  have w2 : D7 (lN (s2 * 2 ^ 63 + z2)) := ⟨s2, z2, hs2, hz2, rfl⟩
  have hI0 : ¬ INF64 = 0 := by decide
  rw [fX0_sum, fX0_sum_0, j1, j2, p1, p2]
  by_cases c1 : z1 = INF64
  · have r : fX2_add (lN (s1 * 2 ^ 63 + z1)) (lN (s2 * 2 ^ 63 + z2)) = lN (s1 * 2 ^ 63 + z1) := by
      rw [fX2_add, fX2_add_0, i1, if_pos c1, if_neg n1, fX2_add_14, o1, if_neg (show ¬ z1 = 0 by omega), if_pos rfl]
    have ro : okX2_add (lN (s1 * 2 ^ 63 + z1)) (lN (s2 * 2 ^ 63 + z2)) := by
      rw [okX2_add, okX2_add_0, i1, if_pos c1]; exact ⟨fun h => absurd h n1, fun _ => trivial⟩
    rw [r, if_pos c1, if_neg n1]
    refine ⟨?_, ro, w1⟩
    by_cases c2 : z2 = INF64
    · have hs : s1 = s2 := Decidable.byContradiction fun h => hn ⟨c1, c2, h⟩
      rw [if_pos c2, if_neg n1, if_pos (by rw [c1, c2, hs])]
    · rw [if_neg c2, if_pos rfl]
  · rw [if_neg c1, if_pos rfl]
    rw [if_neg c1] at i1
    by_cases c2 : z2 = INF64
    · rw [if_pos c2] at i2
      have r : fX2_add (lN (s1 * 2 ^ 63 + z1)) (lN (s2 * 2 ^ 63 + z2)) = lN (s2 * 2 ^ 63 + z2) := by
        rw [fX2_add, fX2_add_0, i1, if_pos rfl, o2, if_neg (show ¬ z2 = 0 by omega), if_pos rfl, i2, if_neg n1]
      have ro : okX2_add (lN (s1 * 2 ^ 63 + z1)) (lN (s2 * 2 ^ 63 + z2)) := by
        rw [okX2_add, okX2_add_0, i1, o2, if_neg (show ¬ z2 = 0 by omega), i2]
        exact ⟨fun _ => ⟨fun _ => ⟨fun h => absurd h n1, fun _ => trivial⟩, fun h => absurd rfl h⟩, fun h => absurd rfl h⟩
      rw [r, if_pos c2, if_neg n1]
      exact ⟨rfl, ro, w2⟩
    · rw [if_neg c2, if_pos rfl]
      rw [if_neg c2] at i2
      have k1 : z1 < INF64 := by omega
      have k2 : z2 < INF64 := by omega
      have k1' : z1 < (2045 + 2) * 2 ^ 52 := k1
      have k2' : z2 < (2045 + 2) * 2 ^ 52 := k2
      have hIK : (2045 + 2) * 2 ^ 52 < 2 ^ 63 := by decide
      have sz1 := size_is Ks7 hs1 l1
      have sz2 := size_is Ks7 hs2 l2
      have qz := lN_lt63 l1 l2
      by_cases a0 : z1 = 0
      · by_cases b0 : z2 = 0
        · have r : fX2_add (lN (s1 * 2 ^ 63 + z1)) (lN (s2 * 2 ^ 63 + z2)) = lN (s1 * 2 ^ 63 + z1) &&& lN (s2 * 2 ^ 63 + z2) := by
            rw [fX2_add, fX2_add_0, i1, if_pos rfl, o2, if_pos b0, if_neg n1, fX2_add_14, o1, if_pos a0, if_neg n1, o2, if_pos b0, if_neg n1]
          have ro : okX2_add (lN (s1 * 2 ^ 63 + z1)) (lN (s2 * 2 ^ 63 + z2)) := by
            rw [okX2_add, okX2_add_0, i1, o2, if_pos b0]
            exact ⟨fun _ => ⟨fun h => absurd h n1, fun _ => trivial⟩, fun h => absurd rfl h⟩
          rw [r, if_pos a0, if_neg n1, if_pos b0, if_neg n1]
          refine ⟨rfl, ro, s1 * s2, 0, ?_, by decide, ?_⟩
          · have := Nat.mul_le_mul hs1 hs2; omega
          · rw [a0, b0, Nat.add_zero, Nat.add_zero, Nat.add_zero, and_zeros hs1 hs2 (by decide)]
        · have r : fX2_add (lN (s1 * 2 ^ 63 + z1)) (lN (s2 * 2 ^ 63 + z2)) = lN (s2 * 2 ^ 63 + z2) := by
            rw [fX2_add, fX2_add_0, i1, if_pos rfl, o2, if_neg b0, if_pos rfl, i2, if_pos rfl, o1, if_pos a0, if_neg n1]
          have ro : okX2_add (lN (s1 * 2 ^ 63 + z1)) (lN (s2 * 2 ^ 63 + z2)) := by
            rw [okX2_add, okX2_add_0, i1, o2, if_neg b0, i2, o1, if_pos a0]
            exact ⟨fun _ => ⟨fun _ => ⟨fun _ => ⟨fun h => absurd h n1, fun _ => trivial⟩, fun h => absurd rfl h⟩, fun h => absurd rfl h⟩, fun h => absurd rfl h⟩
          have cs := clsSum (s1 := s2) (s2 := s1) (z1 := z2) (z2 := z1) Ks7 Kd7 (by decide) hIK hs2 hs1 (by omega) k2' k1' (fun h => by omega) (fun h => by omega)
          rw [if_pos a0] at cs
          rw [r, if_pos a0, if_neg n1, if_neg b0, if_pos rfl, fX0_sum_61, sz1, sz2, if_pos (qz.mpr (by omega)), fX0_sum_80, if_pos rfl, cs]
          exact ⟨rfl, ro, w2⟩
      · rw [if_neg a0, if_pos rfl, fX0_sum_61, sz1, sz2]
        by_cases b0 : z2 = 0
        · have r : fX2_add (lN (s1 * 2 ^ 63 + z1)) (lN (s2 * 2 ^ 63 + z2)) = lN (s1 * 2 ^ 63 + z1) := by
            rw [fX2_add, fX2_add_0, i1, if_pos rfl, o2, if_pos b0, if_neg n1, fX2_add_14, o1, if_neg a0, if_pos rfl]
          have ro : okX2_add (lN (s1 * 2 ^ 63 + z1)) (lN (s2 * 2 ^ 63 + z2)) := by
            rw [okX2_add, okX2_add_0, i1, o2, if_pos b0]
            exact ⟨fun _ => ⟨fun h => absurd h n1, fun _ => trivial⟩, fun h => absurd rfl h⟩
          have cs := clsSum (s1 := s1) (s2 := s2) (z1 := z1) (z2 := z2) Ks7 Kd7 (by decide) hIK hs1 hs2 (by omega) k1' k2' (fun h => by omega) (fun h => by omega)
          rw [if_pos b0] at cs
          rw [r, if_neg (fun h => by have := qz.mp h; omega), fX0_sum_80, if_neg n1, cs]
          exact ⟨rfl, ro, w1⟩
        · obtain ⟨r, ro⟩ := ref_add_pick hs1 hs2 (show 0 < z1 by omega) k1 (show 0 < z2 by omega) k2
          rw [r]
          refine ⟨?_, ro, ?_⟩
          · by_cases c : z1 < z2
            · have hl := lex (fb := 52) (em := -1074) (by omega) (show 0 < z1 by omega) c
              have cs := clsSum (s1 := s2) (s2 := s1) (z1 := z2) (z2 := z1) Ks7 Kd7 (by decide) hIK hs2 hs1 (by omega) k2' k1' (fun _ => by omega) (fun _ h => by omega)
              rw [if_neg a0] at cs
              rw [if_pos (qz.mpr c), fX0_sum_80, if_pos rfl, if_pos c, cs, show Eg 52 (-1074) z2 - 9 - -1074 = Eg 52 (-1074) z2 + 1065 by omega]
              rfl
            · have hl : Eg 52 (-1074) z2 < Eg 52 (-1074) z1 ∨ (Eg 52 (-1074) z2 = Eg 52 (-1074) z1 ∧ Sg 52 z2 ≤ Sg 52 z1) := by
                rcases Nat.eq_or_lt_of_le (show z2 ≤ z1 by omega) with q | q
                · rw [q]; exact Or.inr ⟨rfl, Nat.le_refl _⟩
                · rcases lex (fb := 52) (em := -1074) (by omega) (show 0 < z2 by omega) q with h | h
                  · exact Or.inl h
                  · exact Or.inr ⟨h.1, Nat.le_of_lt h.2⟩
              have cs := clsSum (s1 := s1) (s2 := s2) (z1 := z1) (z2 := z2) Ks7 Kd7 (by decide) hIK hs1 hs2 (by omega) k1' k2' (fun _ => by omega) (fun _ h => by omega)
              rw [if_neg b0] at cs
              rw [if_neg (fun h => c (qz.mp h)), fX0_sum_80, if_neg n1, if_neg c, cs, show Eg 52 (-1074) z1 - 9 - -1074 = Eg 52 (-1074) z1 + 1065 by omega]
              rfl
          · split
            · exact D7_sum hs2
            · exact D7_sum hs1
/-! floats -/
theorem SgEg_Wd {z : Nat} (h0 : 0 < z) (hz : z < INF32) : Sg 52 (Wd z) = Sg 23 z ∧ Eg 52 (-1074) (Wd z) = Eg 23 (-149) z := by
  obtain ⟨d1, d2, -, -⟩ := Wd_dec h0 hz
  obtain ⟨b1, b2⟩ := Sg_bounds (fb := 23) (by omega) h0
  have hl := log2_lt (Mg_pos (fb := 23) h0) (Mg_lt 23 z)
  have lS : (Sg 23 z).log2 = 52 := log2_is b1 b2
  constructor
  · show Mg 52 (Wd z) * 2 ^ (52 - (Mg 52 (Wd z)).log2) = Sg 23 z
    rw [d1, lS, Nat.sub_self, Nat.pow_zero, Nat.mul_one]
  · show (-1074 : Int) + Xp 52 (Wd z) - (52 - (Mg 52 (Wd z)).log2 : Nat) = -149 + Xp 23 z - (52 - (Mg 23 z).log2 : Nat)
    rw [d1, d2, lS]; omega
/-- a float's 53 bits: 24 of them count -/
theorem Sg23 {z : Nat} (h0 : 0 < z) : ∃ k : Nat, 2 ^ 23 ≤ k ∧ k < 2 ^ 24 ∧ Sg 23 z = k * 2 ^ 29 := by
  have m := Mg_pos (fb := 23) h0
  have hl := log2_lt m (Mg_lt 23 z)
  obtain ⟨b1, b2⟩ := Sg_bounds (fb := 23) (by omega) h0
  have e : Sg 23 z = Mg 23 z * 2 ^ (23 - (Mg 23 z).log2) * 2 ^ 29 := by
    unfold Sg; rw [Nat.mul_assoc, ← Nat.pow_add]; congr 2; omega
  exact ⟨_, by omega, by omega, e⟩
theorem Eg23_bounds {z : Nat} (hz : z < INF32) : -201 ≤ Eg 23 (-149) z ∧ Eg 23 (-149) z ≤ 104 := by
  have := Xp_le hz
  unfold Eg; omega
theorem rne_near (N D : Nat) (hD : 0 < D) : 2 * (rne N D * D) ≤ 2 * N + D ∧ 2 * N ≤ 2 * (rne N D * D) + D := by
  have h1 := Nat.div_add_mod N D
  have h2 := Nat.mod_lt N hD
  rw [Nat.mul_comm] at h1
  unfold rne
  by_cases c : D < 2 * (N % D) ∨ (2 * (N % D) = D ∧ N / D % 2 = 1)
  · rw [if_pos c, Nat.add_mul, Nat.one_mul]; omega
  · rw [if_neg c]; omega
theorem exact_mod {j g p d : Nat} (h0 : 0 < j) (hj : j < 2 ^ 53) (hd : (d : Int) = (j * 2 ^ g).log2 - 52 + p) : (j * 2 ^ g * 2 ^ p) % 2 ^ d = 0 := by
  have hl := log2_lt h0 hj
  rw [log2_shl h0] at hd
  have e : j * 2 ^ g * 2 ^ p = j * 2 ^ (g + p - d) * 2 ^ d := by
    rw [Nat.mul_assoc, Nat.mul_assoc, ← Nat.pow_add, ← Nat.pow_add]; congr 2; omega
  rw [e, Nat.mul_mod_left]
theorem tt_near {k2 b : Nat} (h : b ≤ 38) : tt (k2 * 2 ^ 29) b = k2 * 2 ^ (38 - b) := by
  unfold tt
  rw [← HJ_0 (k2 * 2 ^ (38 - b)), ← HJ_scale _ 0 b, Nat.mul_assoc, Nat.mul_assoc, ← Nat.pow_add, ← Nat.pow_add, Nat.zero_add]
  congr 3
  omega
theorem tt_far {k2 b : Nat} (hk : k2 < 2 ^ 24) (h : 29 ≤ b) : tt (k2 * 2 ^ 29) b ≤ 2 ^ 33 := by
  unfold tt
  have h1 := HJ_le (A := k2 * 2 ^ 29 * 2 ^ 9) (q := b)
  have h2 : k2 * 2 ^ 29 * 2 ^ 9 / 2 ^ b ≤ k2 * 2 ^ 29 * 2 ^ 9 / 2 ^ 29 := Nat.div_le_div_left (lt_2 h) (by decide)
  omega
/-- no half of a float is near a sum that doubles don't have -/
theorem far_half {k1 t J d : Nat} (hJ : J = k1 * 2 ^ 38 + t ∨ J + t = k1 * 2 ^ 38) (h1 : 2 ^ 23 ≤ k1) (h2 : k1 < 2 ^ 24) (ht : t ≤ 2 ^ 33) (hd : (d : Int) = J.log2 - 52) : 60 ≤ J.log2 ∧ rne J (2 ^ d) % 2 ^ 29 ≠ 2 ^ 28 := by
  have hJ1 : 2 ^ 60 ≤ J := by omega
  have hJ2 : J < 2 ^ 62 := by omega
  have l1 := log2_ge hJ1
  have l2 := log2_lt (show 0 < J by omega) hJ2
  refine ⟨l1, ?_⟩
  intro hh
  have hn := rne_near J (2 ^ d) (Nat.two_pow_pos d)
  generalize rne J (2 ^ d) = r at *
  obtain ⟨c, hc⟩ : ∃ c, r = 2 ^ 29 * c + 2 ^ 28 := ⟨r / 2 ^ 29, by omega⟩
  rcases (show d = 8 ∨ d = 9 by omega) with rfl | rfl
  · rw [hc] at hn; rcases hJ with h | h <;> omega
  · rw [hc] at hn; rcases hJ with h | h <;> omega
theorem sum_nr {z1 z2 b J : Nat} (h1 : 0 < z1) (hz1 : z1 < INF32) (h2 : 0 < z2) (hz2 : z2 < INF32) (hb : (b : Int) = Eg 23 (-149) z1 - Eg 23 (-149) z2) (hJ0 : 0 < J)
    (hJ : J = Sg 23 z1 * 2 ^ 9 + tt (Sg 23 z2) b ∨ J + tt (Sg 23 z2) b = Sg 23 z1 * 2 ^ 9) :
    RD 52 J (Eg 23 (-149) z1 + 1065) < INF64 ∧ Nr (min INF64 (RD 52 J (Eg 23 (-149) z1 + 1065))) = min INF32 (RD 23 J (Eg 23 (-149) z1 - 9 - -149)) := by
  obtain ⟨k1, a1, a2, e1⟩ := Sg23 h1
  obtain ⟨k2, a3, a4, e2⟩ := Sg23 h2
  obtain ⟨c1, c2⟩ := Eg23_bounds hz1
  obtain ⟨c3, c4⟩ := Eg23_bounds hz2
  rw [e1, e2, show k1 * 2 ^ 29 * 2 ^ 9 = k1 * 2 ^ 38 by omega] at hJ
  have hw : Eg 23 (-149) z1 - 9 - -149 = Eg 23 (-149) z1 + 1065 - 925 := by omega
  rw [hw]
  by_cases cb : b ≤ 28
  · have ht := tt_near (k2 := k2) (b := b) (by omega)
    rw [ht] at hJ
    have e3 : k1 * 2 ^ 38 = k1 * 2 ^ b * 2 ^ (38 - b) := by rw [Nat.mul_assoc, ← Nat.pow_add]; congr 2; omega
    have hp28 : 2 ^ b ≤ 2 ^ 28 := lt_2 cb
    have hk : k1 * 2 ^ b ≤ 2 ^ 24 * 2 ^ 28 := Nat.mul_le_mul (by omega) hp28
    obtain ⟨j, hj, hjl⟩ : ∃ j : Nat, J = j * 2 ^ (38 - b) ∧ j < 2 ^ 53 := by
      rcases hJ with h | h
      · exact ⟨k1 * 2 ^ b + k2, by rw [h, e3, Nat.add_mul], by omega⟩
      · refine ⟨k1 * 2 ^ b - k2, by rw [Nat.sub_mul]; omega, by omega⟩
    have hj0 : 0 < j := by
      rcases Nat.eq_zero_or_pos j with q | q
      · rw [q, Nat.zero_mul] at hj; omega
      · exact q
    have hJl : J < 2 ^ 91 := by
      rw [hj]
      refine Nat.lt_of_lt_of_le (Nat.mul_lt_mul_of_pos_right hjl (Nat.two_pow_pos _)) ?_
      rw [← Nat.pow_add]; exact lt_2 (by omega)
    have hlJ := log2_lt hJ0 hJl
    refine NrRD (p := 64) (d := J.log2 + 12) hJ0 (by omega) (by omega) (by omega) (fun h _ => Or.inr ?_)
    rw [hj]
    exact exact_mod hj0 hjl (by rw [← hj]; omega)
  · have ht := tt_far (k2 := k2) (b := b) a4 (by omega)
    obtain ⟨d, hd⟩ : ∃ d : Nat, (d : Int) = J.log2 - 52 := by
      have hJ1 : 2 ^ 60 ≤ J := by omega
      have l1 := log2_ge hJ1
      exact ⟨J.log2 - 52, by omega⟩
    obtain ⟨l1, hh⟩ := far_half hJ a1 a2 ht hd
    have l2 := log2_lt hJ0 (show J < 2 ^ 63 by omega)
    refine NrRD (p := 0) (d := d) hJ0 (by omega) (by omega) (by omega) (fun h hhh => Or.inl ?_)
    have h29 : h = 29 := by omega
    rw [h29, Nat.pow_zero, Nat.mul_one]
    exact hh
