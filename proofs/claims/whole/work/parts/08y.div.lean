/-! quotients -/
theorem lN_div {a b : Nat} (ha : a < 2 ^ 63) (h0 : 0 < b) (hb : b < 2 ^ 63) : lN a / lN b = lN (a / b) := pk_lDiv ha h0 hb
theorem jrem_lN {a b : Nat} (ha : a < 2 ^ 63) (h0 : 0 < b) (hb : b < 2 ^ 63) : jrem (lN a) (lN b) = lN (a % b) := pk_lRem ha h0 hb
theorem div_step (A b k : Nat) (hb : 0 < b) : A * 2 ^ k / b = A / b * 2 ^ k + A % b * 2 ^ k / b ∧ A * 2 ^ k % b = A % b * 2 ^ k % b := by
  have e : A * 2 ^ k = b * (A / b * 2 ^ k) + A % b * 2 ^ k := by
    conv => lhs; rw [← Nat.div_add_mod A b]
    rw [Nat.add_mul, Nat.mul_assoc]
  constructor
  · conv => lhs; rw [e]
    rw [Nat.mul_add_div hb]
  · conv => lhs; rw [e]
    rw [Nat.mul_add_mod]
/-- a quotient, with a bit for the rest -/
def QJ (A b : Nat) : Nat := if A % b = 0 then A / b else (A / b) ||| 1
theorem quot_loop {b : Nat} (hb : 0 < b) (hb2 : b < 2 ^ 53) : ∀ (fuel i A : Nat), i ≤ 6 → 7 ≤ fuel + i → A / b < 2 ^ (1 + 10 * i) → fX0_topOfQuotient_21 fuel (lN b) (lN (A / b)) (lN (A % b)) (nI i) = lN (QJ (A * 2 ^ (10 * (6 - i))) b) := by
  intro fuel
  induction fuel with
  | zero => intro i A h1 h2; omega
  | succ fuel ih =>
    intro i A h1 h2 hA
    have hm := Nat.mod_lt A hb
    have hp : 2 ^ (1 + 10 * i) ≤ 2 ^ 61 := lt_2 (by omega)
    rw [fX0_topOfQuotient_21, show (6 : Int32) = nI 6 from rfl]
    have q := nI_ltI (a := i) (b := 6) (by omega) (by decide)
    by_cases c : i < 6
    · obtain ⟨d1, d2⟩ := div_step A b 10 hb
      have hp2 : 2 ^ (1 + 10 * i) ≤ 2 ^ 51 := lt_2 (by omega)
      have hd2 : A % b * 2 ^ 10 / b < 2 ^ 10 := (Nat.div_lt_iff_lt_mul hb).mpr (by rw [Nat.mul_comm]; exact Nat.mul_lt_mul_of_pos_left hm (by decide))
      rw [if_pos (q.mpr c), show (10 : Int32) = nI 10 from rfl, jshl_lN _ (by decide), jshl_lN _ (by decide), lN_div (by omega) hb (by omega), jrem_lN (by omega) hb (by omega), lN_add, ← d1, ← d2, show nI i + 1 = nI (i + 1) from nI_1 i]
      have hA2 : A * 2 ^ 10 / b < 2 ^ (1 + 10 * (i + 1)) := by
        rw [d1, show 1 + 10 * (i + 1) = 1 + 10 * i + 10 by omega, Nat.pow_add 2 (1 + 10 * i) 10]
        omega
      rw [ih (i + 1) (A * 2 ^ 10) (by omega) (by omega) hA2, Nat.mul_assoc, ← Nat.pow_add]
      congr 4
      omega
    · have e6 : i = 6 := by omega
      rw [if_neg (fun h => c (q.mp h)), fX0_topOfQuotient_59, e6, Nat.sub_self, Nat.mul_zero, Nat.pow_zero, Nat.mul_one]
      unfold QJ
      have q0 : (lN (A % b) = 0) ↔ A % b = 0 := lN_inj (b := 0) (by omega) (by decide)
      by_cases c0 : A % b = 0
      · rw [if_pos (q0.mpr c0), if_pos c0]
      · rw [if_neg (fun h => c0 (q0.mp h)), if_neg c0, lN_one, wb_or (by omega) (by decide)]
theorem topOfQuotient_is {a b : Nat} (ha : a < 2 ^ 53) (hb : 2 ^ 52 ≤ b) (hb2 : b < 2 ^ 53) : fX0_topOfQuotient (lN a) (lN b) = lN (QJ (a * 2 ^ 60) b) := by
  have hb0 : 0 < b := by omega
  rw [fX0_topOfQuotient, fX0_topOfQuotient_0, if_neg (by rw [lN_0, lN_inj (by omega) (by decide)]; omega), fX0_topOfQuotient_13, fX0_topOfQuotient_18, lN_div (by omega) hb0 (by omega), jrem_lN (by omega) hb0 (by omega)]
  have h2 : a / b < 2 ^ (1 + 10 * 0) := (Nat.div_lt_iff_lt_mul hb0).mpr (by omega)
  have := quot_loop hb0 hb2 64 0 a (by decide) (by decide) h2
  exact this
theorem ev1 (q b R p : Nat) : (q * 2 ^ 1 * (2 * b) + R * 2 ^ 1) * p = (q * (2 * b) + R) * (p * 2) := by
  rw [Nat.mul_comm p 2, ← Nat.mul_assoc (q * (2 * b) + R) 2 p, Nat.add_mul (q * (2 * b)) R 2, Nat.pow_one, Nat.mul_right_comm q 2 (2 * b)]
theorem ev2 (q b R p : Nat) (h : b ≤ R) : ((q * 2 ^ 1 + 1) * (2 * b) + (R - b) * 2 ^ 1) * p = (q * (2 * b) + R) * (p * 2) := by
  rw [Nat.mul_comm p 2, ← Nat.mul_assoc (q * (2 * b) + R) 2 p, Nat.add_mul (q * (2 * b)) R 2, Nat.pow_one, Nat.add_mul (q * 2) 1 (2 * b), Nat.mul_right_comm q 2 (2 * b)]
  congr 1
  omega
/-- the reference divides bit by bit -/
theorem div_loop {b : Nat} (D1 D2 sg : Int64) (hb : 2 ^ 52 ≤ b) (hb2 : b < 2 ^ 53) : ∀ (fuel k q R : Nat), k ≤ 57 → 58 ≤ fuel + k → R < 2 * b → q < 2 ^ k →
    (fX2_divide_65 fuel D1 D2 sg (lN R) (lN b) (lN q) (nI k) = fX2_divide_111 D1 D2 sg (lN ((q * (2 * b) + R) * 2 ^ (57 - k) % (2 * b))) (lN ((q * (2 * b) + R) * 2 ^ (57 - k) / (2 * b)))) ∧
    (okX2_divide_111 D1 D2 sg (lN ((q * (2 * b) + R) * 2 ^ (57 - k) % (2 * b))) (lN ((q * (2 * b) + R) * 2 ^ (57 - k) / (2 * b))) → okX2_divide_65 fuel D1 D2 sg (lN R) (lN b) (lN q) (nI k)) := by
  intro fuel
  induction fuel with
  | zero => intro k q R h1 h2; omega
  | succ fuel ih =>
    intro k q R h1 h2 hR hq
    rw [fX2_divide_65, okX2_divide_65, show (57 : Int32) = nI 57 from rfl]
    have qk := nI_ltI (a := k) (b := 57) (by omega) (by decide)
    have hp : 2 ^ k ≤ 2 ^ 57 := lt_2 h1
    by_cases c : k < 57
    · have hp2 : 2 ^ k * 2 = 2 ^ (k + 1) := rfl
      have hr := lN_lt63 (a := R) (b := b) (by omega) (by omega)
      have e2 : 2 ^ (57 - k) = 2 ^ (57 - (k + 1)) * 2 := by rw [← Nat.pow_succ]; congr 1; omega
      rw [if_pos (qk.mpr c), show nI k + 1 = nI (k + 1) from nI_1 k, show jshl (lN q) (1 : Int32) = lN (q * 2 ^ 1) from jshl_lN _ (k := 1) (by decide), show jshl (lN R) (1 : Int32) = lN (R * 2 ^ 1) from jshl_lN _ (k := 1) (by decide)]
      by_cases cr : R < b
      · obtain ⟨i1, i2⟩ := ih (k + 1) (q * 2 ^ 1) (R * 2 ^ 1) (by omega) (by omega) (by omega) (by omega)
        have ev : (q * 2 ^ 1 * (2 * b) + R * 2 ^ 1) * 2 ^ (57 - (k + 1)) = (q * (2 * b) + R) * 2 ^ (57 - k) := by
          rw [e2]; exact ev1 _ _ _ _
        rw [ev] at i1 i2
        rw [if_pos (hr.mpr cr), i1]
        exact ⟨rfl, fun h => ⟨fun _ => ⟨fun _ => i2 h, fun h2 => absurd (hr.mpr cr) h2⟩, fun h2 => absurd (qk.mpr c) h2⟩⟩
      · have es : jshl (lN R - lN b) (1 : Int32) = lN ((R - b) * 2 ^ 1) := by
          rw [lN_sub (by omega)]; exact jshl_lN _ (k := 1) (by decide)
        have eo : lN (q * 2 ^ 1) ||| (1 : Int64) = lN (q * 2 ^ 1 + 1) := lN_or (x := q) (y := 1) (k := 1) (by decide) (by omega)
        obtain ⟨i1, i2⟩ := ih (k + 1) (q * 2 ^ 1 + 1) ((R - b) * 2 ^ 1) (by omega) (by omega) (by omega) (by omega)
        have ev : ((q * 2 ^ 1 + 1) * (2 * b) + (R - b) * 2 ^ 1) * 2 ^ (57 - (k + 1)) = (q * (2 * b) + R) * 2 ^ (57 - k) := by
          rw [e2]; exact ev2 _ _ _ _ (by omega)
        rw [ev] at i1 i2
        rw [if_neg (fun h => cr (hr.mp h)), es, eo, i1]
        exact ⟨rfl, fun h => ⟨fun _ => ⟨fun h2 => absurd (hr.mp h2) cr, fun _ => i2 h⟩, fun h2 => absurd (qk.mpr c) h2⟩⟩
    · have ek : k = 57 := by omega
      have h1 : (q * (2 * b) + R) * 2 ^ (57 - k) = q * (2 * b) + R := by rw [ek, Nat.sub_self, Nat.pow_zero, Nat.mul_one]
      rw [if_neg (fun h => c (qk.mp h)), h1, Nat.mul_comm q, Nat.mul_add_mod, Nat.mod_eq_of_lt hR, Nat.mul_add_div (by omega), Nat.div_eq_of_lt hR, Nat.add_zero]
      exact ⟨rfl, fun h => ⟨fun h2 => absurd (qk.mp h2) c, fun _ => h⟩⟩
def stq (A b : Nat) : Nat := if A % b = 0 then 0 else 1
theorem stq_le (A b : Nat) : stq A b ≤ 1 := by unfold stq; split <;> omega
theorem refDiv_core {s S1 S2 : Nat} {E1 E2 : Int} {D1 D2 : Int64} (hs : s ≤ 1)
    (e1 : fX2_exponent D1 = iI E1) (e1o : okX2_exponent D1) (e2 : fX2_exponent D2 = iI E2) (e2o : okX2_exponent D2) (g2 : fX2_significand D2 = lN S2) (g2o : okX2_significand D2)
    (a1 : 2 ^ 52 ≤ S1) (a2 : S1 < 2 ^ 53) (a3 : 2 ^ 52 ≤ S2) (a4 : S2 < 2 ^ 53) (c1 : -1200 ≤ E1) (c2 : E1 ≤ 1000) (c3 : -1200 ≤ E2) (c4 : E2 ≤ 1000) :
    fX2_divide_53 D1 D2 (lN (s * 2 ^ 63)) (lN S1) = lN (s * 2 ^ 63 + min INF64 (RD 52 (2 * (S1 * 2 ^ 56 / S2) + stq (S1 * 2 ^ 56) S2) (E1 - E2 + 1017))) ∧ okX2_divide_53 D1 D2 (lN (s * 2 ^ 63)) (lN S1) := by
  obtain ⟨l1, l2⟩ := div_loop D1 D2 (lN (s * 2 ^ 63)) a3 a4 64 0 0 S1 (by decide) (by decide) (by omega) (by decide)
  rw [Nat.zero_mul, Nat.zero_add, Nat.sub_zero, show S1 * 2 ^ 57 = 2 * (S1 * 2 ^ 56) by omega, Nat.mul_mod_mul_left, Nat.mul_div_mul_left _ _ (by decide)] at l1 l2
  have hb0 : 0 < S2 := by omega
  have q1 : 2 ^ 55 ≤ S1 * 2 ^ 56 / S2 := (Nat.le_div_iff_mul_le hb0).mpr (by omega)
  have q2 : S1 * 2 ^ 56 / S2 < 2 ^ 57 := (Nat.div_lt_iff_lt_mul hb0).mpr (by omega)
  have hm := Nat.mod_lt (S1 * 2 ^ 56) hb0
  have ee : iI E1 - iI E2 - (56 : Int32) = iI (E1 - E2 - 56) := by rw [show (56 : Int32) = iI 56 from by decide, iI_sub, iI_sub]
  have q0 : (lN (s * 2 ^ 63) = 0) ↔ s = 0 := by
    rw [lN_0, lN_inj (by omega) (by decide)]; omega
  have qr : (lN (2 * (S1 * 2 ^ 56 % S2)) = 0) ↔ S1 * 2 ^ 56 % S2 = 0 := by
    rw [lN_0, lN_inj (by omega) (by decide)]; omega
  obtain ⟨m1, m2⟩ := made_is (s := s) (m := S1 * 2 ^ 56 / S2) (st := stq (S1 * 2 ^ 56) S2) (e := E1 - E2 - 56) hs (by omega) (by omega) (stq_le _ _) (fun _ => by omega) (by omega) (by omega)
  rw [show E1 - E2 - 56 + 1073 = E1 - E2 + 1017 by omega] at m1
  have k123 : ∀ x : Int32, x = nI s → fX2_divide_123 D1 D2 (lN (2 * (S1 * 2 ^ 56 % S2))) (lN (S1 * 2 ^ 56 / S2)) x = lN (s * 2 ^ 63 + min INF64 (RD 52 (2 * (S1 * 2 ^ 56 / S2) + stq (S1 * 2 ^ 56) S2) (E1 - E2 + 1017))) ∧ okX2_divide_123 D1 D2 (lN (2 * (S1 * 2 ^ 56 % S2))) (lN (S1 * 2 ^ 56 / S2)) x := by
    intro x hx
    rw [fX2_divide_123, okX2_divide_123, fX2_divide_149, fX2_divide_149, okX2_divide_149, okX2_divide_149, hx, e1, e2, ee]
    by_cases c : S1 * 2 ^ 56 % S2 = 0
    · have es : stq (S1 * 2 ^ 56) S2 = 0 := by unfold stq; rw [if_pos c]
      rw [es] at m1 m2 ⊢
      rw [if_pos (qr.mpr c)]
      exact ⟨m1, e1o, e2o, fun _ => ⟨m2, trivial⟩, fun h => absurd (qr.mpr c) h⟩
    · have es : stq (S1 * 2 ^ 56) S2 = 1 := by unfold stq; rw [if_neg c]
      rw [es] at m1 m2 ⊢
      rw [if_neg (fun h => c (qr.mp h))]
      exact ⟨m1, e1o, e2o, fun h => absurd (qr.mp h) c, fun _ => ⟨m2, trivial⟩⟩
  have k111 : fX2_divide_111 D1 D2 (lN (s * 2 ^ 63)) (lN (2 * (S1 * 2 ^ 56 % S2))) (lN (S1 * 2 ^ 56 / S2)) = lN (s * 2 ^ 63 + min INF64 (RD 52 (2 * (S1 * 2 ^ 56 / S2) + stq (S1 * 2 ^ 56) S2) (E1 - E2 + 1017))) ∧ okX2_divide_111 D1 D2 (lN (s * 2 ^ 63)) (lN (2 * (S1 * 2 ^ 56 % S2))) (lN (S1 * 2 ^ 56 / S2)) := by
    rw [fX2_divide_111, okX2_divide_111]
    by_cases c : s = 0
    · obtain ⟨k1, k2⟩ := k123 0 (by rw [c]; rfl)
      rw [if_pos (q0.mpr c)]
      exact ⟨k1, fun _ => k2, fun h => absurd (q0.mpr c) h⟩
    · obtain ⟨k1, k2⟩ := k123 1 (by rw [show s = 1 by omega]; rfl)
      rw [if_neg (fun h => c (q0.mp h))]
      exact ⟨k1, fun h => absurd (q0.mp h) c, fun _ => k2⟩
  rw [fX2_divide_53, fX2_divide_59, okX2_divide_53, okX2_divide_59, g2]
  exact ⟨l1.trans k111.1, g2o, l2 k111.2⟩
/-- the class's quotient in the reference's words -/
theorem RD_QJ {fb a b : Nat} {w : Int} (hfb : fb ≤ 52) (ha : 2 ^ 52 ≤ a) (ha2 : a < 2 ^ 53) (hb : 2 ^ 52 ≤ b) (hb2 : b < 2 ^ 53) : RD fb (QJ (a * 2 ^ 60) b) (w - 60) = RD fb (2 * (a * 2 ^ 56 / b) + stq (a * 2 ^ 56) b) (w - 57) := by
  have hb0 : 0 < b := by omega
  have q1 : 2 ^ 55 ≤ a * 2 ^ 56 / b := (Nat.le_div_iff_mul_le hb0).mpr (by omega)
  obtain ⟨d1, d2⟩ := div_step (a * 2 ^ 56) b 4 hb0
  rw [show a * 2 ^ 56 * 2 ^ 4 = a * 2 ^ 60 by omega] at d1 d2
  have hm := Nat.mod_lt (a * 2 ^ 56) hb0
  have hd2 : a * 2 ^ 56 % b * 2 ^ 4 / b < 2 ^ 4 := (Nat.div_lt_iff_lt_mul hb0).mpr (by rw [Nat.mul_comm]; exact Nat.mul_lt_mul_of_pos_left hm (by decide))
  unfold QJ stq
  by_cases c : a * 2 ^ 56 % b = 0
  · rw [if_pos c, RD_2 (by omega), d2, c, Nat.zero_mul, Nat.zero_mod, if_pos rfl, d1, c, Nat.zero_mul, Nat.zero_div, Nat.add_zero, RD_shift (by omega)]
    congr 1; omega
  · rw [if_neg c]
    have hcell : ∀ J : Nat, a * 2 ^ 56 / b * 2 ^ 4 < J → J < (a * 2 ^ 56 / b + 1) * 2 ^ 4 → RD fb J (w - 60) = RD fb (2 * (a * 2 ^ 56 / b) + 1) (w - 57) := by
      intro J j1 j2
      have hp : 2 ^ (fb + 1) ≤ 2 ^ 53 := lt_2 (by omega)
      rw [RD_cell (c := a * 2 ^ 56 / b) (j := 4) (by omega) j1 j2]
      congr 1; omega
    by_cases c2 : a * 2 ^ 60 % b = 0
    · rw [if_pos c2]
      refine hcell _ ?_ ?_
      · rw [d1]
        have : 0 < a * 2 ^ 56 % b * 2 ^ 4 / b := by
          apply Nat.pos_of_ne_zero
          intro h0
          have hlt : a * 2 ^ 56 % b * 2 ^ 4 < b := (Nat.div_eq_zero_iff_lt hb0).mp h0
          rw [d2, Nat.mod_eq_of_lt hlt] at c2
          omega
        omega
      · rw [d1]; omega
    · rw [if_neg c2, or1]
      have hnn := Nat.zero_le (a * 2 ^ 56 % b * 2 ^ 4 / b)
      refine hcell _ ?_ ?_
      · rw [d1]; omega
      · rw [d1]; omega
