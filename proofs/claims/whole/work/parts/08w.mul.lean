/-! products -/
theorem RD_HJ {fb P q : Nat} {w : Int} (h : 2 ^ (fb + 1) ≤ P / 2 ^ (q + 1)) : RD fb (HJ P q) (w + q) = RD fb P w := by
  have hd := Nat.div_add_mod P (2 ^ (q + 1))
  have hm := Nat.mod_lt P (Nat.two_pow_pos (q + 1))
  have hp := Nat.two_pow_pos (fb + 1)
  unfold HJ
  by_cases c : P % 2 ^ (q + 1) = 0
  · rw [if_pos c, RD_2 (by omega)]
    have e : P = P / 2 ^ (q + 1) * 2 ^ (q + 1) := by rw [Nat.mul_comm]; omega
    conv => rhs; rw [e, RD_shift (by omega)]
    congr 1; omega
  · rw [if_neg c, RD_cell (M := P) (c := P / 2 ^ (q + 1)) (j := q + 1) (w := w) h (by rw [Nat.mul_comm]; omega) (by rw [Nat.add_mul, Nat.one_mul, Nat.mul_comm]; omega)]
    congr 1; omega
theorem mulsplit {a b ah al bh bl : Nat} (ha : a = 2 ^ 27 * ah + al) (hb : b = 2 ^ 27 * bh + bl) : a * b = 2 ^ 54 * (ah * bh) + 2 ^ 27 * (ah * bl + al * bh) + al * bl := by
  rw [ha, hb, Nat.add_mul, Nat.mul_add, Nat.mul_add, Nat.mul_mul_mul_comm, Nat.mul_assoc (2 ^ 27) ah bl, Nat.mul_left_comm al (2 ^ 27) bh, Nat.mul_add]
  omega
/-- the parts of a product of two numbers below 2^53 -/
theorem mulparts {a b : Nat} (ha : a < 2 ^ 53) (hb : b < 2 ^ 53) : ∃ low mid hi : Nat, low = a % 2 ^ 27 * (b % 2 ^ 27) ∧ mid = a / 2 ^ 27 * (b % 2 ^ 27) + a % 2 ^ 27 * (b / 2 ^ 27) + low / 2 ^ 27 ∧ hi = a / 2 ^ 27 * (b / 2 ^ 27) + mid / 2 ^ 27 ∧ low < 2 ^ 54 ∧ mid < 2 ^ 55 ∧ hi < 2 ^ 53 ∧
    a * b = hi * 2 ^ 54 + (mid % 2 ^ 27 * 2 ^ 27 + low % 2 ^ 27) := by
  refine ⟨_, _, _, rfl, rfl, rfl, ?_⟩
  have e := mulsplit (a := a) (b := b) (ah := a / 2 ^ 27) (al := a % 2 ^ 27) (bh := b / 2 ^ 27) (bl := b % 2 ^ 27) (by omega) (by omega)
  have b1 : a % 2 ^ 27 * (b % 2 ^ 27) ≤ (2 ^ 27 - 1) * (2 ^ 27 - 1) := Nat.mul_le_mul (by omega) (by omega)
  have b2 : a / 2 ^ 27 * (b % 2 ^ 27) ≤ (2 ^ 26 - 1) * (2 ^ 27 - 1) := Nat.mul_le_mul (by omega) (by omega)
  have b3 : a % 2 ^ 27 * (b / 2 ^ 27) ≤ (2 ^ 27 - 1) * (2 ^ 26 - 1) := Nat.mul_le_mul (by omega) (by omega)
  have b4 : a / 2 ^ 27 * (b / 2 ^ 27) ≤ (2 ^ 26 - 1) * (2 ^ 26 - 1) := Nat.mul_le_mul (by omega) (by omega)
  rw [e]
  generalize a % 2 ^ 27 * (b % 2 ^ 27) = x1 at *
  generalize a / 2 ^ 27 * (b % 2 ^ 27) = x2 at *
  generalize a % 2 ^ 27 * (b / 2 ^ 27) = x3 at *
  generalize a / 2 ^ 27 * (b / 2 ^ 27) = x4 at *
  omega
theorem lN_or {x y k : Nat} (hy : y < 2 ^ k) (h : x * 2 ^ k + y < 2 ^ 64) : lN (x * 2 ^ k) ||| lN y = lN (x * 2 ^ k + y) := g_or rfl hy h
theorem ushr27 {a : Nat} (h : a < 2 ^ 64) : jushr (lN a) (27 : Int32) = lN (a / 2 ^ 27) := jushr_lN (k := 27) h (by decide)
theorem mask27 {a : Nat} (h : a < 2 ^ 64) : lN a &&& (134217727 : Int64) = lN (a % 2 ^ 27) := by
  rw [show (134217727 : Int64) = lN (2 ^ 27 - 1) from rfl]; exact wb_mask h (by decide)
theorem top_tail {hi x : Nat} (hh : hi < 2 ^ 53) (h1 : x < 2 ^ 54) : lN (hi * 2 ^ 10) ||| lN (HJ x 44) = lN (HJ (hi * 2 ^ 54 + x) 44) := by
  have hx : HJ x 44 < 2 ^ 10 := by
    unfold HJ
    split <;> omega
  rw [lN_or hx (by omega)]
  congr 1
  unfold HJ
  rw [show (hi * 2 ^ 54 + x) / 2 ^ (44 + 1) = hi * 2 ^ 9 + x / 2 ^ (44 + 1) by omega, show (hi * 2 ^ 54 + x) % 2 ^ (44 + 1) = x % 2 ^ (44 + 1) by omega]
  omega
theorem topOfProduct_is {a b : Nat} (ha : a < 2 ^ 53) (hb : b < 2 ^ 53) : fX0_topOfProduct (lN a) (lN b) = lN (HJ (a * b) 44) := by
  obtain ⟨low, mid, hi, e1, e2, e3, b1, b2, b3, hP⟩ := mulparts ha hb
  rw [fX0_topOfProduct, fX0_topOfProduct_0, fX0_topOfProduct_11, fX0_topOfProduct_17, fX0_topOfProduct_23, fX0_topOfProduct_29, fX0_topOfProduct_36, ushr27 (by omega), ushr27 (by omega), mask27 (by omega), mask27 (by omega), lN_mul, lN_mul, lN_mul, ← e1, ushr27 (by omega), lN_add, lN_add, ← e2, fX0_topOfProduct_55, ushr27 (by omega), lN_mul, lN_add, ← e3, fX0_topOfProduct_68, mask27 (by omega), mask27 (by omega),
    show jshl (lN (mid % 2 ^ 27)) (27 : Int32) = lN (mid % 2 ^ 27 * 2 ^ 27) from jshl_lN _ (k := 27) (by decide), lN_or (by omega) (by omega), fX0_topOfProduct_84,
    show jshl (lN hi) (10 : Int32) = lN (hi * 2 ^ 10) from jshl_lN _ (k := 10) (by decide), show (44 : Int32) = nI 44 from rfl, movedDown_is (by omega) (by decide)]
  have h1 : mid % 2 ^ 27 * 2 ^ 27 + low % 2 ^ 27 < 2 ^ 54 := by omega
  rw [hP]
  exact top_tail b3 h1
/-- the sign of a product -/
def sx (s1 s2 : Nat) : Nat := if s1 = s2 then 0 else 1
theorem sx_le (s1 s2 : Nat) : sx s1 s2 ≤ 1 := by unfold sx; split <;> omega
theorem sign_xor {s1 s2 z1 z2 : Nat} (hs1 : s1 ≤ 1) (hs2 : s2 ≤ 1) (hz1 : z1 < 2 ^ 63) (hz2 : z2 < 2 ^ 63) : (lN (s1 * 2 ^ 63 + z1) ^^^ lN (s2 * 2 ^ 63 + z2)) &&& (-9223372036854775808 : Int64) = lN (sx s1 s2 * 2 ^ 63) := by
  have u1 := d_u hs1 hz1
  have u2 := d_u hs2 hz2
  rw [lN_xor, show (-9223372036854775808 : Int64) = lN (2 ^ 63) from by decide, wb_and (Nat.xor_lt_two_pow u1 u2) (by decide), Nat.and_xor_distrib_right, nat_and_pow hs1 hz1, nat_and_pow hs2 hz2]
  congr 1
  unfold sx
  rcases (show s1 = 0 ∨ s1 = 1 by omega) with rfl | rfl <;> rcases (show s2 = 0 ∨ s2 = 1 by omega) with rfl | rfl <;> decide
theorem HJ45 (P : Nat) : HJ P 45 = 2 * (P / 2 ^ 46) + if P % 2 ^ 46 = 0 then 0 else 1 := rfl
set_option maxRecDepth 20000 in
/-- finite factors that aren't 0 -/
theorem refMul_core {s S1 S2 : Nat} {E1 E2 : Int} {D1 D2 : Int64} (hs : s ≤ 1)
    (e1 : fX2_exponent D1 = iI E1) (e1o : okX2_exponent D1) (e2 : fX2_exponent D2 = iI E2) (e2o : okX2_exponent D2) (g2 : fX2_significand D2 = lN S2) (g2o : okX2_significand D2)
    (a1 : 2 ^ 52 ≤ S1) (a2 : S1 < 2 ^ 53) (a3 : 2 ^ 52 ≤ S2) (a4 : S2 < 2 ^ 53) (c1 : -1200 ≤ E1) (c2 : E1 ≤ 1000) (c3 : -1200 ≤ E2) (c4 : E2 ≤ 1000) :
    fX2_multiply_53 D1 D2 (lN (s * 2 ^ 63)) (lN S1) = lN (s * 2 ^ 63 + min INF64 (RD 52 (S1 * S2) (E1 + E2 + 1074))) ∧ okX2_multiply_53 D1 D2 (lN (s * 2 ^ 63)) (lN S1) := by
  obtain ⟨low, mid, hi, r1, r2, r3, b1, b2, b3, hP⟩ := mulparts a2 a4
  have hPl : 2 ^ 52 * 2 ^ 52 ≤ S1 * S2 := Nat.mul_le_mul a1 a3
  have hPu : S1 * S2 ≤ (2 ^ 53 - 1) * (2 ^ 53 - 1) := Nat.mul_le_mul (by omega) (by omega)
  have n1 : ¬ (1 : Int32) = 0 := by decide
  have ee : iI E1 + iI E2 + (46 : Int32) = iI (E1 + E2 + 46) := by rw [show (46 : Int32) = iI 46 from by decide, iI_add, iI_add]
  have q0 : (lN (s * 2 ^ 63) = 0) ↔ s = 0 := by
    rw [lN_0, lN_inj (by omega) (by decide)]; omega
  have core : ∀ st : Nat, st = (if (S1 * S2) % 2 ^ 46 = 0 then 0 else 1) → fX2_multiply_160 D1 D2 (lN (s * 2 ^ 63)) (lN hi) (lN (mid % 2 ^ 27)) (nI st) = lN (s * 2 ^ 63 + min INF64 (RD 52 (S1 * S2) (E1 + E2 + 1074))) ∧ okX2_multiply_160 D1 D2 (lN (s * 2 ^ 63)) (lN hi) (lN (mid % 2 ^ 27)) (nI st) := by
    intro st hst
    have hst1 : st ≤ 1 := by rw [hst]; split <;> omega
    have em : jshl (lN hi) (8 : Int32) ||| jushr (lN (mid % 2 ^ 27)) (19 : Int32) = lN (S1 * S2 / 2 ^ 46) := by
      rw [show jshl (lN hi) (8 : Int32) = lN (hi * 2 ^ 8) from jshl_lN _ (k := 8) (by decide), show jushr (lN (mid % 2 ^ 27)) (19 : Int32) = lN (mid % 2 ^ 27 / 2 ^ 19) from jushr_lN (k := 19) (by omega) (by decide), lN_or (by omega) (by omega)]
      congr 1
      rw [hP]; omega
    obtain ⟨m1, m2⟩ := made_is (s := s) (m := S1 * S2 / 2 ^ 46) (st := st) (e := E1 + E2 + 46) hs (by omega) (by omega) hst1 (fun _ => by omega) (by omega) (by omega)
    have hR : RD 52 (2 * (S1 * S2 / 2 ^ 46) + st) (E1 + E2 + 46 + 1073) = RD 52 (S1 * S2) (E1 + E2 + 1074) := by
      rw [hst, ← HJ45, ← RD_HJ (fb := 52) (q := 45) (w := E1 + E2 + 1074) (by omega)]
      congr 1; omega
    rw [hR] at m1
    have k174 : ∀ x : Int32, x = nI s → fX2_multiply_174 D1 D2 (lN hi) (lN (mid % 2 ^ 27)) (nI st) x = lN (s * 2 ^ 63 + min INF64 (RD 52 (S1 * S2) (E1 + E2 + 1074))) ∧ okX2_multiply_174 D1 D2 (lN hi) (lN (mid % 2 ^ 27)) (nI st) x := by
      intro x hx
      rw [fX2_multiply_174, okX2_multiply_174, hx, em, e1, e2, ee]
      exact ⟨m1, e1o, e2o, m2, trivial⟩
    rw [fX2_multiply_160, okX2_multiply_160]
    by_cases c : s = 0
    · obtain ⟨k1, k2⟩ := k174 0 (by rw [c]; rfl)
      rw [if_pos (q0.mpr c)]
      exact ⟨k1, fun _ => k2, fun h => absurd (q0.mpr c) h⟩
    · obtain ⟨k1, k2⟩ := k174 1 (by rw [show s = 1 by omega]; rfl)
      rw [if_neg (fun h => c (q0.mp h))]
      exact ⟨k1, fun h => absurd (q0.mp h) c, fun _ => k2⟩
  have ql : (lN (low % 2 ^ 27) = 0) ↔ low % 2 ^ 27 = 0 := lN_inj (b := 0) (by omega) (by decide)
  have em19 : lN (mid % 2 ^ 27) &&& (524287 : Int64) = lN (mid % 2 ^ 27 % 2 ^ 19) := by
    rw [show (524287 : Int64) = lN (2 ^ 19 - 1) from rfl]; exact wb_mask (by omega) (by decide)
  have qm : (lN (mid % 2 ^ 27 % 2 ^ 19) = 0) ↔ mid % 2 ^ 27 % 2 ^ 19 = 0 := lN_inj (b := 0) (by omega) (by decide)
  rw [fX2_multiply_53, fX2_multiply_59, fX2_multiply_77, fX2_multiply_108, fX2_multiply_127, fX2_multiply_134, fX2_multiply_155, okX2_multiply_53, okX2_multiply_59, okX2_multiply_77, okX2_multiply_108, okX2_multiply_127, okX2_multiply_134, okX2_multiply_155, g2, ushr27 (show S1 < 2 ^ 64 by omega), ushr27 (show S2 < 2 ^ 64 by omega), mask27 (show S1 < 2 ^ 64 by omega), mask27 (show S2 < 2 ^ 64 by omega), lN_mul, lN_mul, lN_mul, ← r1, ushr27 (show low < 2 ^ 64 by omega), lN_add, lN_add, ← r2, ushr27 (show mid < 2 ^ 64 by omega), lN_mul, lN_add, ← r3, mask27 (show mid < 2 ^ 64 by omega), mask27 (show low < 2 ^ 64 by omega), em19]
  by_cases cl : low % 2 ^ 27 = 0
  · rw [if_pos (ql.mpr cl)]
    by_cases cm : mid % 2 ^ 27 % 2 ^ 19 = 0
    · obtain ⟨k1, k2⟩ := core 0 (by rw [if_pos (by rw [hP]; omega)])
      rw [if_pos (qm.mpr cm)]
      exact ⟨k1, g2o, fun _ => ⟨fun _ => k2, fun h => absurd (qm.mpr cm) h⟩, fun h => absurd (ql.mpr cl) h⟩
    · obtain ⟨k1, k2⟩ := core 1 (by rw [if_neg (by rw [hP]; omega)])
      rw [if_neg (fun h => cm (qm.mp h))]
      exact ⟨k1, g2o, fun _ => ⟨fun h => absurd (qm.mp h) cm, fun _ => k2⟩, fun h => absurd (ql.mpr cl) h⟩
  · obtain ⟨k1, k2⟩ := core 1 (by rw [if_neg (by rw [hP]; omega)])
    rw [if_neg (fun h => cl (ql.mp h))]
    exact ⟨k1, g2o, fun h => absurd (ql.mp h) cl, fun _ => k2⟩
