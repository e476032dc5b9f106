theorem log2_is {n k : Nat} (h1 : 2 ^ k ≤ n) (h2 : n < 2 ^ (k + 1)) : n.log2 = k := by
  have hn : n ≠ 0 := by have := Nat.two_pow_pos k; omega
  exact (Nat.log2_eq_iff hn).mpr ⟨h1, h2⟩
theorem log2_lo {n : Nat} (h : 0 < n) : 2 ^ n.log2 ≤ n := Nat.log2_self_le (by omega)
theorem log2_hi (n : Nat) : n < 2 ^ (n.log2 + 1) := Nat.lt_log2_self
theorem log2_shl {n : Nat} (h : 0 < n) (a : Nat) : (n * 2 ^ a).log2 = n.log2 + a := by
  refine log2_is ?_ ?_
  · rw [Nat.pow_add]; exact Nat.mul_le_mul_right _ (log2_lo h)
  · rw [show n.log2 + a + 1 = n.log2 + 1 + a by omega, Nat.pow_add]
    exact Nat.mul_lt_mul_of_pos_right (log2_hi n) (Nat.two_pow_pos a)
theorem log2_shr {n : Nat} (b : Nat) (h : 2 ^ b ≤ n) : (n / 2 ^ b).log2 = n.log2 - b ∧ b ≤ n.log2 := by
  have hn : 0 < n := by have := Nat.two_pow_pos b; omega
  have hb : b ≤ n.log2 := by
    apply Nat.le_of_not_lt
    intro hlt
    have h2 := log2_hi n
    have h3 : 2 ^ (n.log2 + 1) ≤ 2 ^ b := Nat.pow_le_pow_right (by omega) (by omega)
    omega
  refine ⟨log2_is ?_ ?_, hb⟩
  · rw [Nat.le_div_iff_mul_le (Nat.two_pow_pos b), ← Nat.pow_add, Nat.sub_add_cancel hb]; exact log2_lo hn
  · rw [Nat.div_lt_iff_lt_mul (Nat.two_pow_pos b), ← Nat.pow_add, show n.log2 - b + 1 + b = n.log2 + 1 by omega]; exact log2_hi n
theorem log2_ge {n k : Nat} (h : 2 ^ k ≤ n) : k ≤ n.log2 := (log2_shr k h).2
theorem log2_lt {n k : Nat} (h0 : 0 < n) (h : n < 2 ^ k) : n.log2 < k := by
  apply Nat.lt_of_not_le
  intro hle
  have h1 := log2_lo h0
  have h2 : 2 ^ k ≤ 2 ^ n.log2 := Nat.pow_le_pow_right (by omega) hle
  omega
/-- M * 2^w, in units of the least number, to the nearest with fb bits behind its first: its bits without a sign -/
def RD (fb M : Nat) (w : Int) : Nat := (((M * 2 ^ w.toNat) / 2 ^ (-w).toNat).log2 - fb) * 2 ^ fb + rne (M * 2 ^ w.toNat) (2 ^ ((-w).toNat + (((M * 2 ^ w.toNat) / 2 ^ (-w).toNat).log2 - fb)))
theorem RD_t {fb M : Nat} {w : Int} (hM : 0 < M) : ((M * 2 ^ w.toNat) / 2 ^ (-w).toNat).log2 - fb = (w + M.log2 - fb).toNat := by
  rcases Int.le_total 0 w with h | h
  · rw [show (-w).toNat = 0 by omega, Nat.pow_zero, Nat.div_one, log2_shl hM]; omega
  · rw [show w.toNat = 0 by omega, Nat.pow_zero, Nat.mul_one]
    by_cases hb : 2 ^ (-w).toNat ≤ M
    · obtain ⟨e1, e2⟩ := log2_shr _ hb
      rw [e1]; omega
    · have h1 : M / 2 ^ (-w).toNat = 0 := Nat.div_eq_of_lt (by omega)
      have h2 := log2_lt hM (show M < 2 ^ (-w).toNat by omega)
      rw [h1, Nat.log2_zero]; omega
/-- as a program computes it: moved up by p places, then d dropped -/
theorem RD_eval {fb M p d : Nat} {w : Int} (hM : 0 < M) (hd : (d : Int) = (w + M.log2 - fb).toNat - w + p) : RD fb M w = (w + M.log2 - fb).toNat * 2 ^ fb + rne (M * 2 ^ p) (2 ^ d) := by
  unfold RD
  rw [RD_t hM]
  congr 1
  refine rne_congr (Nat.two_pow_pos _) (Nat.two_pow_pos _) ?_
  rw [Nat.mul_assoc, ← Nat.pow_add, Nat.mul_assoc, ← Nat.pow_add]
  congr 2
  omega
theorem RD_shift {fb M j : Nat} {w : Int} (hM : 0 < M) : RD fb (M * 2 ^ j) w = RD fb M (w + j) := by
  have h2 : 0 < M * 2 ^ j := Nat.mul_pos hM (Nat.two_pow_pos j)
  have hl := log2_shl hM j
  obtain ⟨p, d, hd⟩ : ∃ p d : Nat, (d : Int) = (w + (M * 2 ^ j).log2 - fb).toNat - w + p := ⟨w.toNat, ((w + (M * 2 ^ j).log2 - fb).toNat - w + w.toNat).toNat, by omega⟩
  rw [RD_eval h2 hd, RD_eval (p := j + p) (d := d) hM (by rw [hd, hl]; omega), hl, Nat.mul_assoc, ← Nat.pow_add]
  congr 2
  omega
/-- what is strictly inside a cell (c, c+1) * 2^j rounds as the cell's middle -/
theorem RD_cell {fb M c j : Nat} {w : Int} (hc : 2 ^ (fb + 1) ≤ c) (h1 : c * 2 ^ j < M) (h2 : M < (c + 1) * 2 ^ j) : RD fb M w = RD fb (2 * c + 1) (w + j - 1) := by
  have hc0 : 0 < c := by have := Nat.two_pow_pos (fb + 1); omega
  have hM : 0 < M := by omega
  have hlc := log2_ge hc
  have lM : M.log2 = c.log2 + j := by
    refine log2_is ?_ ?_
    · rw [Nat.pow_add]; have := Nat.mul_le_mul_right (2 ^ j) (log2_lo hc0); omega
    · rw [show c.log2 + j + 1 = c.log2 + 1 + j by omega, Nat.pow_add]
      have := Nat.mul_le_mul_right (2 ^ j) (show c + 1 ≤ 2 ^ (c.log2 + 1) from log2_hi c); omega
  have l2 : (2 * c + 1).log2 = c.log2 + 1 := by
    refine log2_is ?_ ?_
    · rw [Nat.pow_succ]; have := log2_lo hc0; omega
    · rw [Nat.pow_succ]; have := log2_hi c; omega
  obtain ⟨g, hg⟩ : ∃ g : Nat, (g : Int) + 1 + j = (w + M.log2 - fb).toNat - w := ⟨((w + M.log2 - fb).toNat - w - 1 - j).toNat, by rw [lM]; omega⟩
  rw [RD_eval (p := 0) (d := g + 1 + j) hM (by omega), RD_eval (fb := fb) (M := 2 * c + 1) (w := w + j - 1) (p := 0) (d := g + 1 + 1) (by omega) (by rw [l2]; rw [lM] at hg; omega)]
  have et : (w + (M.log2 : Int) - fb).toNat = (w + (j : Int) - 1 + ((2 * c + 1).log2 : Int) - fb).toNat := by rw [lM, l2]; congr 1; omega
  rw [et]
  congr 1
  rw [Nat.pow_zero, Nat.mul_one, Nat.mul_one]
  have hr := Nat.mod_lt c (show 0 < 2 * 2 ^ g by have := Nat.two_pow_pos g; omega)
  have hqr := Nat.div_add_mod c (2 * 2 ^ g)
  have hadd : (c + 1) * 2 ^ j = c * 2 ^ j + 2 ^ j := by rw [Nat.add_mul, Nat.one_mul]
  have A := rne_in (q := c / (2 * 2 ^ g)) (P := 2 ^ j) (e := M - c * 2 ^ j) hr (by omega) (by omega)
  have B := rne_in (q := c / (2 * 2 ^ g)) (P := 2) (e := 1) hr (by omega) (by omega)
  rw [hqr] at A B
  rw [show c * 2 ^ j + (M - c * 2 ^ j) = M by omega, show 2 * 2 ^ g * 2 ^ j = 2 ^ (g + 1 + j) by rw [Nat.pow_add, Nat.pow_succ, Nat.mul_comm (2 ^ g) 2]] at A
  rw [show c * 2 + 1 = 2 * c + 1 by omega, show 2 * 2 ^ g * 2 = 2 ^ (g + 1 + 1) by rw [Nat.pow_succ, Nat.pow_succ, Nat.mul_comm (2 ^ g) 2]] at B
  rw [A, B]
/-- a size's magnitude and exponent, in units of the least number -/
def Mg (fb z : Nat) : Nat := if z < 2 ^ fb then z else z % 2 ^ fb + 2 ^ fb
def Xp (fb z : Nat) : Nat := z / 2 ^ fb - 1
theorem Mg_pos {fb z : Nat} (h : 0 < z) : 0 < Mg fb z := by
  unfold Mg; split
  · exact h
  · have := Nat.two_pow_pos fb; omega
theorem Mg_lt (fb z : Nat) : Mg fb z < 2 ^ (fb + 1) := by
  have := Nat.mod_lt z (Nat.two_pow_pos fb)
  unfold Mg; rw [Nat.pow_succ]; split <;> omega
theorem Mg_ge {fb z : Nat} (h : 2 ^ fb ≤ z) : 2 ^ fb ≤ Mg fb z := by unfold Mg; rw [if_neg (by omega)]; omega
theorem Mg_Xp {fb z : Nat} (h : z < 2 ^ fb) : Xp fb z = 0 := by unfold Xp; rw [Nat.div_eq_of_lt h]
theorem MgXp_z (fb z : Nat) : Xp fb z * 2 ^ fb + Mg fb z = z := by
  have hd := Nat.div_add_mod z (2 ^ fb)
  by_cases h : z < 2 ^ fb
  · rw [Mg_Xp h]; unfold Mg; rw [if_pos h]; omega
  · unfold Xp Mg; rw [if_neg h]
    have h1 : 1 ≤ z / 2 ^ fb := (Nat.one_le_div_iff (Nat.two_pow_pos fb)).mpr (by omega)
    obtain ⟨f, hf⟩ : ∃ f, z / 2 ^ fb = f + 1 := ⟨z / 2 ^ fb - 1, by omega⟩
    rw [hf] at hd ⊢
    rw [Nat.mul_comm, Nat.add_mul, Nat.one_mul, Nat.mul_comm f] at hd
    rw [show f + 1 - 1 = f from rfl, Nat.mul_comm f]; omega
/-- a number rounds to itself -/
theorem RD_self {fb z : Nat} (h : 0 < z) : RD fb (Mg fb z) (Xp fb z) = z := by
  have hm := Mg_pos (fb := fb) h
  have hl := log2_lt hm (Mg_lt fb z)
  have ht : ((Xp fb z : Int) + (Mg fb z).log2 - fb).toNat = Xp fb z := by
    by_cases hz : z < 2 ^ fb
    · rw [Mg_Xp hz]; omega
    · have := log2_ge (Mg_ge (show 2 ^ fb ≤ z by omega)); omega
  rw [RD_eval (p := 0) (d := 0) hm (by rw [ht]; omega), ht, Nat.pow_zero, Nat.mul_one, rne_one]
  exact MgXp_z fb z
