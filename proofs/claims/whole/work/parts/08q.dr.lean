/-! rounded to 53 bits and then to 24: as if to 24 at once, where the first is no half of the second -/
theorem ar23 (X : Nat) : (X + 1) * 2 ^ 23 + 2 ^ 23 = X * 2 ^ 23 + 2 ^ 24 := by omega
theorem DR {M p d : Nat} {w : Int} (hM : 0 < M) (hn : 0 ≤ w + M.log2 - 52) (hd : (d : Int) = M.log2 - 52 + p)
    (hc : ∀ h : Nat, (h : Int) = (w + M.log2 - 948).toNat + 977 - (w + M.log2) → (rne (M * 2 ^ p) (2 ^ d) % 2 ^ h ≠ 2 ^ (h - 1) ∨ (M * 2 ^ p) % 2 ^ d = 0)) :
    RD 23 (Mg 52 (RD 52 M w)) (Xp 52 (RD 52 M w) - 925) = RD 23 M (w - 925) := by
  obtain ⟨T, hT⟩ : ∃ T : Nat, (T : Int) = w + M.log2 - 52 := ⟨(w + M.log2 - 52).toNat, by omega⟩
  obtain ⟨h, hh⟩ : ∃ h : Nat, (h : Int) = (w + M.log2 - 948).toNat + 977 - (w + M.log2) := ⟨((w + M.log2 - 948).toNat + 977 - (w + M.log2)).toNat, by omega⟩
  have hcc := hc h hh
  have hd1 : (d : Int) = (w + M.log2 - (52 : Nat)).toNat - w + p := by omega
  have hkb := kept_bounds (fb := 52) hM hd1
  have hlo := hkb.2 (by omega)
  have hhi := hkb.1
  have eZ := RD_eval (fb := 52) hM hd1
  rw [show (w + M.log2 - (52 : Nat)).toNat = T by omega] at eZ
  have eR := RD_eval (fb := 23) (M := M) (w := w - 925) (p := p) (d := d + h) hM (by omega)
  rw [rne_two (by omega) hcc] at eR
  rw [show (w - 925 + (M.log2 : Int) - (23 : Nat)).toNat = (w + M.log2 - 948).toNat by omega] at eR
  generalize rne (M * 2 ^ p) (2 ^ d) = k at *
  rw [eR, eZ]
  by_cases c : k < 2 ^ 53
  · obtain ⟨d1, d2⟩ := dec_of (t := T) hlo c
    have lk : k.log2 = 52 := log2_is hlo c
    rw [d1, d2, RD_eval (fb := 23) (M := k) (w := (T : Int) - 925) (p := 0) (d := h) (by omega) (by rw [lk]; omega), lk, Nat.pow_zero, Nat.mul_one]
    congr 2
    omega
  · have ek : k = 2 ^ 53 := by omega
    have e2 : T * 2 ^ 52 + k = (T + 1) * 2 ^ 52 + 2 ^ 52 := by rw [ek]; omega
    obtain ⟨d1, d2⟩ := dec_of (t := T + 1) (k := 2 ^ 52) (by omega) (by decide)
    have lk : (2 ^ 52 : Nat).log2 = 52 := by decide
    rw [e2, d1, d2, ek]
    by_cases cT : 896 ≤ T
    · have h29 : h = 29 := by omega
      rw [RD_eval (fb := 23) (M := 2 ^ 52) (w := ((T + 1 : Nat) : Int) - 925) (p := 0) (d := 29) (by decide) (by rw [lk]; omega), lk, h29, Nat.pow_zero, Nat.mul_one,
        show rne (2 ^ 52) (2 ^ 29) = 2 ^ 23 from by decide, show rne (2 ^ 53) (2 ^ 29) = 2 ^ 24 from by decide,
        show (((T + 1 : Nat) : Int) - 925 + ((52 : Nat) : Int) - (23 : Nat)).toNat = (w + M.log2 - 948).toNat + 1 by omega]
      exact ar23 _
    · obtain ⟨g, hg⟩ : ∃ g : Nat, h = g + 1 := ⟨h - 1, by omega⟩
      rw [RD_eval (fb := 23) (M := 2 ^ 52) (w := ((T + 1 : Nat) : Int) - 925) (p := 0) (d := g) (by decide) (by rw [lk]; omega), lk, hg, Nat.pow_zero, Nat.mul_one,
        show (((T + 1 : Nat) : Int) - 925 + ((52 : Nat) : Int) - (23 : Nat)).toNat = 0 by omega, show (w + M.log2 - 948).toNat = 0 by omega,
        show (2 : Nat) ^ 53 = 2 ^ 52 * 2 from by decide, show (2 : Nat) ^ (g + 1) = 2 ^ g * 2 from rfl, rne_scale (by decide)]
/-- the float of a double that was rounded, from the number itself -/
theorem NrRD {M p d : Nat} {w : Int} (hM : 0 < M) (hn : 0 ≤ w + M.log2 - 52) (hn2 : w + M.log2 ≤ 2090) (hd : (d : Int) = M.log2 - 52 + p)
    (hc : ∀ h : Nat, (h : Int) = (w + M.log2 - 948).toNat + 977 - (w + M.log2) → (rne (M * 2 ^ p) (2 ^ d) % 2 ^ h ≠ 2 ^ (h - 1) ∨ (M * 2 ^ p) % 2 ^ d = 0)) :
    RD 52 M w < INF64 ∧ Nr (min INF64 (RD 52 M w)) = min INF32 (RD 23 M (w - 925)) := by
  have h9 : INF64 = 2047 * 2 ^ 52 := rfl
  have hd1 : (d : Int) = (w + M.log2 - (52 : Nat)).toNat - w + p := by omega
  have hkb := kept_bounds (fb := 52) hM hd1
  have eZ := RD_eval (fb := 52) hM hd1
  have hlo := hkb.2 (by omega)
  have h1 : (w + M.log2 - (52 : Nat)).toNat * 2 ^ 52 ≤ 2038 * 2 ^ 52 := Nat.mul_le_mul_right _ (by omega)
  have hlt : RD 52 M w < INF64 := by rw [eZ]; omega
  refine ⟨hlt, ?_⟩
  rw [Nat.min_eq_right (by omega)]
  unfold Nr
  rw [if_neg (show ¬ RD 52 M w = 0 by rw [eZ]; omega), if_neg (by omega), DR hM hn hd hc]
/-! what is moved down, with a bit for what fell off -/
def HJ (A q : Nat) : Nat := 2 * (A / 2 ^ (q + 1)) + if A % 2 ^ (q + 1) = 0 then 0 else 1
theorem HJ_scale (A q c : Nat) : HJ (A * 2 ^ c) (q + c) = HJ A q := by
  unfold HJ
  rw [show q + c + 1 = q + 1 + c by omega, Nat.pow_add 2 (q + 1) c, Nat.mul_div_mul_right _ _ (Nat.two_pow_pos c), Nat.mul_mod_mul_right]
  have := Nat.two_pow_pos c
  congr 1
  by_cases h : A % 2 ^ (q + 1) = 0
  · rw [if_pos h, h, Nat.zero_mul, if_pos rfl]
  · rw [if_neg h, if_neg]
    intro h2
    rcases Nat.mul_eq_zero.mp h2 with q | q
    · exact h q
    · omega
theorem HJ_0 (A : Nat) : HJ A 0 = A := by
  unfold HJ
  rw [Nat.zero_add, Nat.pow_one]
  split <;> omega
theorem HJ_le {A q : Nat} : HJ A q ≤ A / 2 ^ q + 1 := by
  unfold HJ
  have : A / 2 ^ (q + 1) = A / 2 ^ q / 2 := by rw [Nat.pow_succ, Nat.div_div_eq_div_mul]
  rw [this]
  split <;> omega
theorem or1 (f : Nat) : f ||| 1 = 2 * (f / 2) + 1 := by
  apply Nat.eq_of_testBit_eq
  intro i
  rw [Nat.testBit_or]
  cases i with
  | zero => simp [Nat.testBit_zero]
  | succ i =>
    rw [Nat.testBit_succ, Nat.testBit_succ, Nat.testBit_succ, show (2 * (f / 2) + 1) / 2 = f / 2 by omega]
    simp
theorem movedDown_is {n p : Nat} (hn : n < 2 ^ 63) (hp : p < 2 ^ 31) : fX0_movedDown (lN n) (nI p) = lN (HJ n p) := by
  rw [fX0_movedDown, fX0_movedDown_0, show (63 : Int32) = nI 63 from rfl]
  have q0 : (lN n = 0) ↔ n = 0 := lN_inj (b := 0) (by omega) (by decide)
  by_cases c : 63 < p
  · rw [if_pos ((nI_ltI (by decide) hp).mpr c)]
    have h64 : 2 ^ 64 ≤ 2 ^ (p + 1) := Nat.pow_le_pow_right (by omega) (by omega)
    unfold HJ
    rw [Nat.div_eq_of_lt (by omega), Nat.mod_eq_of_lt (by omega)]
    by_cases c0 : n = 0
    · rw [if_pos (q0.mpr c0), if_pos c0]; rfl
    · rw [if_neg (fun h => c0 (q0.mp h)), if_neg c0]; rfl
  · rw [if_neg (fun h => c ((nI_ltI (by decide) hp).mp h)), fX0_movedDown_22, jushr_lN (by omega) (by omega), jshl_lN _ (by omega)]
    have hd := Nat.div_add_mod n (2 ^ p)
    have hdl : n / 2 ^ p * 2 ^ p ≤ n := Nat.div_mul_le_self n (2 ^ p)
    have hm := Nat.mod_lt n (Nat.two_pow_pos p)
    have hc : n / 2 ^ p * 2 ^ p = n ↔ n % 2 ^ p = 0 := by rw [Nat.mul_comm]; omega
    have hle : n / 2 ^ p ≤ n := Nat.div_le_self _ _
    have e1 : n / 2 ^ (p + 1) = n / 2 ^ p / 2 := by rw [Nat.pow_succ, Nat.div_div_eq_div_mul]
    have e2 : n % 2 ^ (p + 1) = n % 2 ^ p + 2 ^ p * (n / 2 ^ p % 2) := by rw [Nat.pow_succ, Nat.mod_mul]
    have hpp := Nat.two_pow_pos p
    have key : (if n % 2 ^ p = 0 then n / 2 ^ p else n / 2 ^ p ||| 1) = HJ n p := by
      unfold HJ
      rw [e1, e2]
      by_cases h0 : n % 2 ^ p = 0
      · rw [if_pos h0, h0, Nat.zero_add]
        by_cases h1 : n / 2 ^ p % 2 = 0
        · rw [h1, Nat.mul_zero, if_pos rfl]; omega
        · have h2 : n / 2 ^ p % 2 = 1 := by omega
          rw [h2, Nat.mul_one, if_neg (by omega)]; omega
      · rw [if_neg h0, if_neg (by omega), or1]
    rw [← key]
    by_cases h0 : n % 2 ^ p = 0
    · rw [if_pos ((lN_inj (by omega) (by omega)).mpr (hc.mpr h0)), if_pos h0]
    · rw [if_neg (fun h => h0 (hc.mp ((lN_inj (by omega) (by omega)).mp h))), if_neg h0, lN_one, wb_or (by omega) (by decide)]
