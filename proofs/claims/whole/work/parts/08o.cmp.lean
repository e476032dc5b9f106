/-! orders -/
def sgi (a b : Int) : Int32 := if a = b then 0 else if a < b then -1 else 1
theorem sgi_congr {a b c d : Int} (h1 : a = b ↔ c = d) (h2 : a < b ↔ c < d) : sgi a b = sgi c d := by unfold sgi; simp only [h1, h2]
theorem side_is (x y : Int64) : fX1_sideOf x y = sgi x.toInt y.toInt := by
  rw [fX1_sideOf, fX1_sideOf_0]; unfold sgi
  simp only [Int64.lt_iff_toInt_lt, ← Int64.toInt_inj]
theorem jcmp_is (x y : Int64) : fJ13_compare_74951 x y = sgi x.toInt y.toInt := by
  rw [fJ13_compare_74951, fJ13_compare_74951_0]; unfold sgi
  simp only [Int64.lt_iff_toInt_lt, ← Int64.toInt_inj]
  by_cases h : x.toInt < y.toInt
  · rw [if_pos h, if_neg (show ¬ x.toInt = y.toInt by omega), if_pos h]
  · rw [if_neg h, if_neg h]
theorem c48_is (x y : Int64) : fX2_compare_48 x y = sgi x.toInt y.toInt := by
  rw [fX2_compare_48]; unfold sgi
  simp only [Int64.lt_iff_toInt_lt]
  by_cases h : x.toInt < y.toInt
  · rw [if_pos h, if_neg (show ¬ x.toInt = y.toInt by omega), if_pos h]
  · rw [if_neg h, if_neg h]
    by_cases h2 : x.toInt = y.toInt
    · rw [if_pos h2, if_neg (show ¬ y.toInt < x.toInt by omega)]
    · rw [if_neg h2, if_pos (show y.toInt < x.toInt by omega)]
/-- sign and size as a number: with one zero, with two -/
def v1 (s z : Nat) : Int := if s = 0 then z else -(z : Int)
def v2 (s z : Nat) : Int := if s = 0 then z else -1 - (z : Int)
theorem place_is {kind : Int32} {sb s z : Nat} (K : Ks kind sb) (hs : s ≤ 1) (hz : z < 2 ^ sb) : (fX0_place kind (lN (s * 2 ^ sb + z))).toInt = v1 s z := by
  have h4 : 2 ^ sb ≤ 2 ^ 63 := Nat.pow_le_pow_right (by omega) K.2.1
  rw [fX0_place, fX0_place_0, fX0_place_6, neg_is K hs hz, size_is K hs hz]
  unfold v1
  rcases (show s = 0 ∨ s = 1 by omega) with rfl | rfl
  · rw [if_pos (show nI 0 = 0 from rfl), if_pos rfl, toInt_lN (by omega)]
  · rw [if_neg (show ¬ nI 1 = 0 by decide), if_neg (by decide), toInt_nlN (by omega)]
theorem placeZ_is {kind : Int32} {sb s z : Nat} (K : Ks kind sb) (hs : s ≤ 1) (hz : z < 2 ^ sb) : (fX0_placeWithZerosApart kind (lN (s * 2 ^ sb + z))).toInt = v2 s z := by
  have h4 : 2 ^ sb ≤ 2 ^ 63 := Nat.pow_le_pow_right (by omega) K.2.1
  rw [fX0_placeWithZerosApart, fX0_placeWithZerosApart_0, fX0_placeWithZerosApart_6, neg_is K hs hz, size_is K hs hz]
  unfold v2
  rcases (show s = 0 ∨ s = 1 by omega) with rfl | rfl
  · rw [if_pos (show nI 0 = 0 from rfl), if_pos rfl, toInt_lN (by omega)]
  · rw [if_neg (show ¬ nI 1 = 0 by decide), if_neg (by decide)]
    have e1 : (1 : Int64).toInt = 1 := rfl
    have e2 := toInt_nlN (n := z) (by omega)
    rw [fb_subL (by rw [e1, e2]; omega) (by rw [e1, e2]; omega), e1, e2]; omega
/-- the reference's rank of a double -/
theorem rank_is {s z : Nat} (hs : s ≤ 1) (hz : z < 2 ^ 63) : (if lN (s * 2 ^ 63 + z) < 0 then lN (s * 2 ^ 63 + z) ^^^ (9223372036854775807 : Int64) else lN (s * 2 ^ 63 + z)).toInt = v2 s z := by
  have qs := d_lt0 hs hz
  unfold v2
  rcases (show s = 0 ∨ s = 1 by omega) with rfl | rfl
  · rw [if_neg (fun h => absurd (qs.mp h) (by decide)), if_pos rfl, Nat.zero_mul, Nat.zero_add, toInt_lN hz]
  · rw [if_pos (qs.mpr rfl), if_neg (by decide), show (9223372036854775807 : Int64) = lN (2 ^ 63 - 1) from rfl, lN_xor]
    have hx : (1 * 2 ^ 63 + z) ^^^ (2 ^ 63 - 1) = 2 ^ 64 - 1 - z := by
      have h1 : (2 ^ 63 - 1 : Nat) = 2 ^ 64 - 1 ^^^ 2 ^ 63 := by decide
      apply Nat.eq_of_testBit_eq
      intro i
      rw [Nat.testBit_xor, Nat.testBit_two_pow_sub_one, show 2 ^ 64 - 1 - z = 2 ^ 64 - (z + 1) by omega, Nat.testBit_two_pow_sub_succ (by omega)]
      by_cases c : i = 63
      · rw [c, Nat.one_mul, Nat.testBit_two_pow_add_eq, Nat.testBit_lt_two_pow hz]; decide
      · rcases Nat.lt_or_ge i 63 with q | q
        · rw [Nat.one_mul, Nat.testBit_two_pow_add_gt q, decide_eq_true q, decide_eq_true (show i < 64 by omega), Bool.xor_true, Bool.true_and]
        · have h2 : 1 * 2 ^ 63 + z < 2 ^ i := by
            have : 2 ^ 64 ≤ 2 ^ i := Nat.pow_le_pow_right (by omega) (by omega)
            omega
          rw [Nat.testBit_lt_two_pow h2, decide_eq_false (show ¬ i < 63 by omega), decide_eq_false (show ¬ i < 64 by omega)]; rfl
    rw [hx, lN_ti (by omega), if_neg (by omega)]
    omega
theorem cmpd_is {s z s' z' : Nat} (hs : s ≤ 1) (hz : z < 2 ^ 63) (hs' : s' ≤ 1) (hz' : z' < 2 ^ 63) : fX2_compare (lN (s * 2 ^ 63 + z)) (lN (s' * 2 ^ 63 + z')) = sgi (v1 s z) (v1 s' z') := by
  have n1 : ¬ (1 : Int32) = 0 := by decide
  have r1 := rank_is hs hz
  have r2 := rank_is hs' hz'
  have h16 : fX2_compare_16 (lN (s * 2 ^ 63 + z)) (lN (s' * 2 ^ 63 + z')) = sgi (v2 s z) (v2 s' z') := by
    rw [fX2_compare_16, fX2_compare_31, fX2_compare_31]
    simp only [c48_is]
    rw [← r1, ← r2]
    by_cases c1 : lN (s * 2 ^ 63 + z) < 0
    · by_cases c2 : lN (s' * 2 ^ 63 + z') < 0
      · rw [if_pos c1, if_pos c1, if_pos c2, if_pos c2]
      · rw [if_pos c1, if_pos c1, if_neg c2, if_neg c2]
    · by_cases c2 : lN (s' * 2 ^ 63 + z') < 0
      · rw [if_neg c1, if_neg c1, if_pos c2, if_pos c2]
      · rw [if_neg c1, if_neg c1, if_neg c2, if_neg c2]
  have hgo : ¬ (z = 0 ∧ z' = 0) → sgi (v2 s z) (v2 s' z') = sgi (v1 s z) (v1 s' z') := by
    intro h
    unfold v1 v2
    apply sgi_congr
    · split <;> split <;> omega
    · split <;> split <;> omega
  rw [fX2_compare, fX2_compare_0, zerod_is hs hz, zerod_is hs' hz']
  by_cases c1 : z = 0
  · rw [if_pos c1, if_neg n1]
    by_cases c2 : z' = 0
    · rw [if_pos c2, if_neg n1, c1, c2]
      unfold v1 sgi
      rw [if_pos]
      split <;> split <;> omega
    · rw [if_neg c2, if_pos rfl, h16, hgo (fun h => c2 h.2)]
  · rw [if_neg c1, if_pos rfl, h16, hgo (fun h => c1 h.1)]
/-- the values of sizes stand as the sizes do -/
theorem Xp_mono {fb z z' : Nat} (h : z ≤ z') : Xp fb z ≤ Xp fb z' := by
  unfold Xp
  have := Nat.div_le_div_right (c := 2 ^ fb) h
  omega
theorem V_mono {fb z z' : Nat} (h : z < z') : Mg fb z * 2 ^ Xp fb z < Mg fb z' * 2 ^ Xp fb z' := by
  have hx := Xp_mono (fb := fb) (Nat.le_of_lt h)
  have e1 := MgXp_z fb z
  have e2 := MgXp_z fb z'
  rcases Nat.eq_or_lt_of_le hx with q | q
  · rw [q] at e1 ⊢
    exact Nat.mul_lt_mul_of_pos_right (by omega) (Nat.two_pow_pos _)
  · have hz' : 2 ^ fb ≤ z' := by
      apply Nat.le_of_not_lt; intro hlt; rw [Mg_Xp hlt] at q; omega
    have h1 := Mg_ge hz'
    have h2 := Mg_lt fb z
    have h3 : Mg fb z * 2 ^ Xp fb z < 2 ^ (fb + 1) * 2 ^ Xp fb z := Nat.mul_lt_mul_of_pos_right h2 (Nat.two_pow_pos _)
    have h4 : 2 ^ fb * 2 ^ Xp fb z' ≤ Mg fb z' * 2 ^ Xp fb z' := Nat.mul_le_mul_right _ h1
    rw [← Nat.pow_add] at h3 h4
    have h5 : 2 ^ (fb + 1 + Xp fb z) ≤ 2 ^ (fb + Xp fb z') := Nat.pow_le_pow_right (by omega) (by omega)
    omega
theorem Wd_val {z : Nat} (h0 : 0 < z) (hz : z < INF32) : Mg 52 (Wd z) * 2 ^ Xp 52 (Wd z) = Mg 23 z * 2 ^ Xp 23 z * 2 ^ 925 := by
  obtain ⟨d1, d2, -, -⟩ := Wd_dec h0 hz
  have hl := log2_lt (Mg_pos (fb := 23) h0) (Mg_lt 23 z)
  rw [d1, d2]
  unfold Sg
  rw [Nat.mul_assoc, ← Nat.pow_add, Nat.mul_assoc, ← Nat.pow_add]
  congr 2
  omega
theorem Wd_mono {z z' : Nat} (h : z < z') (hz' : z' ≤ INF32) : Wd z < Wd z' := by
  by_cases c0 : z = 0
  · have := (Wd_zero (z := z') (lt31 hz'))
    rw [c0, Wd_0]; omega
  · have hz : z < INF32 := by omega
    by_cases c1 : z' = INF32
    · rw [c1, Wd_inf]; exact (Wd_dec (by omega) hz).2.2.2
    · have a := Wd_val (show 0 < z by omega) hz
      have b := Wd_val (show 0 < z' by omega) (show z' < INF32 by omega)
      have c := Nat.mul_lt_mul_of_pos_right (V_mono (fb := 23) h) (Nat.two_pow_pos 925)
      rw [← a, ← b] at c
      apply Nat.lt_of_not_le
      intro hle
      rcases Nat.eq_or_lt_of_le hle with q | q
      · rw [q] at c; omega
      · have := V_mono (fb := 52) q; omega
theorem Wd_lt_iff {z z' : Nat} (hz : z ≤ INF32) (hz' : z' ≤ INF32) : Wd z < Wd z' ↔ z < z' := by
  constructor
  · intro h
    apply Nat.lt_of_not_le; intro hle
    rcases Nat.eq_or_lt_of_le hle with q | q
    · rw [q] at h; omega
    · have := Wd_mono q hz; omega
  · intro h; exact Wd_mono h hz'
theorem Wd_eq_iff {z z' : Nat} (hz : z ≤ INF32) (hz' : z' ≤ INF32) : Wd z = Wd z' ↔ z = z' := by
  have a := Wd_lt_iff hz hz'
  have b := Wd_lt_iff hz' hz
  omega
theorem sgi_Wd1 {s z s' z' : Nat} (hz : z ≤ INF32) (hz' : z' ≤ INF32) : sgi (v1 s (Wd z)) (v1 s' (Wd z')) = sgi (v1 s z) (v1 s' z') := by
  have a := Wd_lt_iff hz hz'
  have b := Wd_lt_iff hz' hz
  have c := Wd_zero (z := z) (lt31 hz)
  have d := Wd_zero (z := z') (lt31 hz')
  unfold v1
  apply sgi_congr
  · split <;> split <;> omega
  · split <;> split <;> omega
theorem sgi_Wd2 {s z s' z' : Nat} (hz : z ≤ INF32) (hz' : z' ≤ INF32) : sgi (v2 s (Wd z)) (v2 s' (Wd z')) = sgi (v2 s z) (v2 s' z') := by
  have a := Wd_lt_iff hz hz'
  have b := Wd_lt_iff hz' hz
  unfold v2
  apply sgi_congr
  · split <;> split <;> omega
  · split <;> split <;> omega
theorem order_eq {k : Int32} {x y : Int64} (h7 : ¬ 7 < k) (hx : ¬ fX3_hasBits k x = 0) (hy : ¬ fX3_hasBits k y = 0) : (if k < 6 then fX1_sideOf x y else fX1_sideOf (fX0_placeWithZerosApart k x) (fX0_placeWithZerosApart k y)) = fJ13_compare_74951 (fX3_ranked k x) (fX3_ranked k y) := by
  rw [jcmp_is, fX3_ranked, fX3_ranked, fX3_ranked_0, fX3_ranked_0]
  by_cases c : k < 6
  · rw [if_pos c, if_pos c, if_pos c, side_is]
  · rw [if_neg c, if_neg c, if_neg c, side_is]
    rcases k_ge6 c h7 with rfl | rfl
    · obtain ⟨s, z, hs, hz, rfl⟩ := val6 hx
      obtain ⟨s', z', hs', hz', rfl⟩ := val6 hy
      rw [if_pos rfl, if_pos rfl, placeZ_is Ks6 hs (lt31 hz), placeZ_is Ks6 hs' (lt31 hz'), lN_i, lN_i, (wide_is hs (lt31 hz)).1, (wide_is hs' (lt31 hz')).1, fX3_ranked_23, fX3_ranked_23, rank_is hs (Wd_lt (lt31 hz)), rank_is hs' (Wd_lt (lt31 hz')), sgi_Wd2 hz hz']
    · obtain ⟨s, z, hs, hz, rfl⟩ := val7 hx
      obtain ⟨s', z', hs', hz', rfl⟩ := val7 hy
      have h76 : ¬ (7 : Int32) = 6 := by decide
      rw [if_neg h76, if_neg h76, placeZ_is Ks7 hs (lt63 hz), placeZ_is Ks7 hs' (lt63 hz'), fX3_ranked_23, fX3_ranked_23, rank_is hs (lt63 hz), rank_is hs' (lt63 hz')]
theorem val_kind {k : Int32} {x : Int64} (h : ¬ fX3_hasBits k x = 0) : ¬ k < 0 ∧ ¬ 7 < k := by
  rw [fX3_hasBits, fX3_hasBits_0] at h
  constructor
  · intro q
    have ne : ∀ j : Int32, ¬ j < 0 → ¬ k = j := fun j hj e => hj (by rw [← e]; exact q)
    rw [if_neg (ne 0 (by decide)), if_neg (ne 1 (by decide)), if_neg (ne 2 (by decide)), if_neg (ne 3 (by decide)), if_neg (ne 4 (by decide)), if_neg (ne 5 (by decide)), if_neg (ne 6 (by decide)), if_neg (ne 7 (by decide))] at h
    exact h rfl
  · intro q
    have ne : ∀ j : Int32, ¬ 7 < j → ¬ k = j := fun j hj e => hj (by rw [← e]; exact q)
    rw [if_neg (ne 0 (by decide)), if_neg (ne 1 (by decide)), if_neg (ne 2 (by decide)), if_neg (ne 3 (by decide)), if_neg (ne 4 (by decide)), if_neg (ne 5 (by decide)), if_neg (ne 6 (by decide)), if_neg (ne 7 (by decide))] at h
    exact h rfl
theorem T_order (k : Int32) (x y : Int64) (f : Int32) : fX1_order k x y f = fX3_order k x y f := by
  have bad : fX1_order_17 f = ((2 : Int32), (1 : Int32)) := rfl
  have bad3 : fX3_order_32 k x y f = ((2 : Int32), (1 : Int32)) := rfl
  rw [fX1_order, fX1_order_0, fX3_order, fX3_order_0, bad, bad3, has_eq, has_eq]
  by_cases c1 : fX3_hasBits k x = 0
  · rw [if_pos c1, if_pos c1]
    by_cases d1 : k < 0
    · rw [if_pos d1]
    · rw [if_neg d1]
      by_cases d2 : 7 < k
      · rw [if_pos d2]
      · rw [if_neg d2]
  · obtain ⟨d1, d2⟩ := val_kind c1
    rw [if_neg c1, if_neg d1, if_neg d2, if_neg c1]
    by_cases c2 : fX3_hasBits k y = 0
    · rw [if_pos c2, if_pos c2]
    · rw [if_neg c2, if_neg c2, fX3_order_33, if_neg (show ¬ (0 : Int32) < 0 by decide), ← order_eq d2 c1 c2]
      by_cases c3 : k < 6
      · rw [if_pos c3, if_pos c3]
      · rw [if_neg c3, if_neg c3]
theorem ranked_ok (k : Int32) (x : Int64) : okX3_ranked k x := by
  rw [okX3_ranked, okX3_ranked_0]
  exact ⟨fun _ => trivial, fun _ => ⟨fun _ => ⟨wide_ok _, trivial⟩, fun _ => trivial⟩⟩
theorem O_order (k : Int32) (x y : Int64) (f : Int32) : okX3_order k x y f := by
  have h33 : ∀ s1 : Int32, okX3_order_33 k x y s1 f := fun s1 => by
    rw [okX3_order_33]; exact ⟨fun _ => trivial, fun _ => ⟨ranked_ok _ _, ranked_ok _ _, trivial⟩⟩
  have h32 : okX3_order_32 k x y f := h33 1
  rw [okX3_order, okX3_order_0]
  exact ⟨fun _ => h32, fun _ => ⟨fun _ => h32, fun _ => ⟨has_ok _ _, fun _ => h32, fun _ => ⟨has_ok _ _, fun _ => h32, fun _ => h33 0⟩⟩⟩⟩
