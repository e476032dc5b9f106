/-! rounding, ties to even, over the naturals -/
def rne (N D : Nat) : Nat := if D < 2 * (N % D) ∨ (2 * (N % D) = D ∧ N / D % 2 = 1) then N / D + 1 else N / D
theorem rne_scale {N D c : Nat} (hc : 0 < c) : rne (N * c) (D * c) = rne N D := by
  unfold rne
  rw [Nat.mul_mod_mul_right, Nat.mul_div_mul_right _ _ hc]
  have h1 : (D * c < 2 * (N % D * c)) ↔ (D < 2 * (N % D)) := by
    rw [← Nat.mul_assoc]; exact Nat.mul_lt_mul_right hc
  have h2 : (2 * (N % D * c) = D * c) ↔ (2 * (N % D) = D) := by
    rw [← Nat.mul_assoc]
    exact ⟨fun h => Nat.eq_of_mul_eq_mul_right hc h, fun h => by rw [h]⟩
  simp only [h1, h2]
theorem rne_congr {N1 D1 N2 D2 : Nat} (h1 : 0 < D1) (h2 : 0 < D2) (h : N1 * D2 = N2 * D1) : rne N1 D1 = rne N2 D2 := by
  rw [← rne_scale (N := N1) (D := D1) h2, ← rne_scale (N := N2) (D := D2) h1, h, Nat.mul_comm D1 D2]
theorem rne_one (N : Nat) : rne N 1 = N := by simp [rne, Nat.mod_one]
theorem rne_exact (q : Nat) {D : Nat} (h : 0 < D) : rne (q * D) D = q := by
  have := rne_scale (N := q) (D := 1) h
  rw [Nat.one_mul, rne_one] at this
  exact this
/-- what is strictly between two places of a grid that has every half: it goes by the half -/
theorem rne_in {H q r P e : Nat} (hr : r < 2 * H) (he : 0 < e) (heP : e < P) : rne ((2 * H * q + r) * P + e) (2 * H * P) = if H ≤ r then q + 1 else q := by
  have hH : 0 < H := by omega
  have hP : 0 < P := by omega
  have hrP : r * P + P ≤ 2 * H * P := by
    have := Nat.mul_le_mul_right P (show r + 1 ≤ 2 * H by omega)
    rw [Nat.add_mul, Nat.one_mul] at this; exact this
  have e1 : (2 * H * q + r) * P + e = 2 * H * P * q + (r * P + e) := by
    rw [Nat.add_mul, Nat.mul_assoc (2 * H) q P, Nat.mul_comm q P, ← Nat.mul_assoc, Nat.add_assoc]
  have hlt : r * P + e < 2 * H * P := by omega
  have hd : ((2 * H * q + r) * P + e) / (2 * H * P) = q := by
    rw [e1, Nat.mul_add_div (by omega), Nat.div_eq_of_lt hlt, Nat.add_zero]
  have hm : ((2 * H * q + r) * P + e) % (2 * H * P) = r * P + e := by
    rw [e1, Nat.mul_add_mod, Nat.mod_eq_of_lt hlt]
  unfold rne
  rw [hd, hm]
  have e2 : 2 * H * P = 2 * (H * P) := Nat.mul_assoc 2 H P
  by_cases h : H ≤ r
  · have := Nat.mul_le_mul_right P h
    rw [if_pos h, if_pos (Or.inl (by omega))]
  · have := Nat.mul_le_mul_right P (show r + 1 ≤ H by omega)
    rw [Nat.add_mul, Nat.one_mul] at this
    rw [if_neg h, if_neg (by omega)]
/-- two roundings: the second sees what the first left, where that is no half -/
theorem rne_two {N K h : Nat} (hh : 0 < h) (hc : rne N (2 ^ K) % 2 ^ h ≠ 2 ^ (h - 1) ∨ N % 2 ^ K = 0) : rne N (2 ^ (K + h)) = rne (rne N (2 ^ K)) (2 ^ h) := by
  obtain ⟨g, rfl⟩ : ∃ g, h = g + 1 := ⟨h - 1, by omega⟩
  generalize hP : 2 ^ K = P at *
  have hP0 : 0 < P := by rw [← hP]; exact Nat.two_pow_pos K
  generalize hG : 2 ^ g = G at *
  have hG0 : 0 < G := by rw [← hG]; exact Nat.two_pow_pos g
  have e1 : 2 ^ (K + (g + 1)) = 2 * G * P := by rw [Nat.pow_add, Nat.pow_succ, hP, hG, Nat.mul_comm P, Nat.mul_comm G 2]
  have e2 : 2 ^ (g + 1) = 2 * G := by rw [Nat.pow_succ, hG, Nat.mul_comm]
  rw [e1, e2]
  rw [e2, show g + 1 - 1 = g from rfl, hG] at hc
  by_cases hx : N % P = 0
  · have eN : N = N / P * P := by have := Nat.div_add_mod N P; rw [hx, Nat.mul_comm] at this; omega
    have : rne N P = N / P := by rw [eN, rne_exact _ hP0, ← eN]
    rw [this]
    conv => lhs; rw [eN]
    exact rne_scale hP0
  · have hc := hc.resolve_right hx
    have hmP := Nat.mod_lt N hP0
    -- N = n P + e
    generalize hn : N / P = n at *
    generalize he : N % P = e at *
    have eN : N = n * P + e := by have := Nat.div_add_mod N P; rw [hn, he, Nat.mul_comm] at this; omega
    have hqr := Nat.div_add_mod n (2 * G)
    have hr := Nat.mod_lt n (show 0 < 2 * G by omega)
    generalize hq : n / (2 * G) = q at *
    generalize hr0 : n % (2 * G) = r at *
    have L := rne_in (q := q) (P := P) (e := e) hr (by omega) hmP
    rw [hqr, ← eN] at L
    rw [L]
    -- the first rounding
    have hk : rne N P = n ∨ rne N P = n + 1 := by
      unfold rne; rw [hn]; split
      · exact Or.inr rfl
      · exact Or.inl rfl
    have hG2 : 2 * G * q + r = n := hqr
    have hcase : ∀ (v u : Nat), v < 2 * G → v ≠ G → rne (2 * G * u + v) (2 * G) = if G ≤ v then u + 1 else u := by
      intro v u hv hvG
      unfold rne
      have d1 : (2 * G * u + v) / (2 * G) = u := by rw [Nat.mul_add_div (by omega), Nat.div_eq_of_lt hv, Nat.add_zero]
      have d2 : (2 * G * u + v) % (2 * G) = v := by rw [Nat.mul_add_mod, Nat.mod_eq_of_lt hv]
      rw [d1, d2]
      by_cases hg : G ≤ v
      · rw [if_pos hg, if_pos (Or.inl (by omega))]
      · rw [if_neg hg, if_neg (by omega)]
    rcases hk with hk | hk
    · rw [hk] at hc ⊢
      rw [hr0] at hc
      rw [← hG2, hcase r q hr (hc.resolve_right hx)]
    · rw [hk] at hc ⊢
      by_cases hw : r + 1 = 2 * G
      · have e3 : n + 1 = (q + 1) * (2 * G) := by rw [← hG2, Nat.add_mul, Nat.one_mul, Nat.mul_comm q]; omega
        rw [e3, rne_exact _ (by omega), if_pos (by omega)]
      · have e3 : n + 1 = 2 * G * q + (r + 1) := by omega
        have e4 : (n + 1) % (2 * G) = r + 1 := by rw [e3, Nat.mul_add_mod, Nat.mod_eq_of_lt (by omega)]
        rw [e4] at hc
        rw [e3, hcase (r + 1) q (by omega) (hc.resolve_right hx)]
        by_cases hg : G ≤ r
        · rw [if_pos hg, if_pos (by omega)]
        · rw [if_neg hg, if_neg (by omega)]
