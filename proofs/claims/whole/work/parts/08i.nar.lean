/-! the float nearest to a double -/
theorem i2u {u : Nat} (hu : u < 2 ^ 32) : (nI u).toInt64 &&& (4294967295 : Int64) = lN u := by
  rw [show (4294967295 : Int64) = lN (2 ^ 32 - 1) from rfl]
  by_cases h : u < 2 ^ 31
  · rw [nI_toInt64 h, wb_mask (by omega) (by decide), Nat.mod_eq_of_lt hu]
  · have e : (nI u).toInt64 = lN (2 ^ 64 - 2 ^ 32 + u) := by
      apply Int64.toInt_inj.mp
      rw [Int32.toInt_toInt64, lN_ti (by omega), if_neg (by omega), nI_iI, ← iI_2_32, iI_toInt (by omega) (by omega)]
      omega
    rw [e, wb_mask (by omega) (by decide)]
    congr 1
    omega
/-- the size of the float that a double's size becomes -/
def Nr (z : Nat) : Nat := if z = 0 then 0 else if INF64 ≤ z then INF32 else min INF32 (RD 23 (Mg 52 z) (Xp 52 z - 925))
theorem Nr_le (z : Nat) : Nr z ≤ INF32 := by
  unfold Nr
  split
  · exact Nat.zero_le _
  · split
    · exact Nat.le_refl _
    · exact Nat.min_le_left _ _
theorem RD_sg {fb z : Nat} (h : 0 < z) (em w : Int) : RD fb (Sg 52 z) (Eg 52 em z + w) = RD fb (Mg 52 z) (em + Xp 52 z + w) := by
  unfold Sg Eg
  rw [RD_shift (Mg_pos h)]
  congr 1
  omega
theorem nI_or {a b : Nat} : nI a ||| nI b = nI (a ||| b) := by
  apply Int32.toBitVec_inj.mp
  rw [Int32.toBitVec_or]
  show BitVec.ofNat 32 a ||| BitVec.ofNat 32 b = BitVec.ofNat 32 (a ||| b)
  exact BitVec.ofNat_or.symm
section NAR
variable {s z : Nat}
theorem or_sign32 {x : Nat} (hs : s ≤ 1) (hx : x < 2 ^ 31) : nI x ||| nI (s * 2 ^ 31) = nI (s * 2 ^ 31 + x) := by
  rw [nI_or]
  rcases (show s = 0 ∨ s = 1 by omega) with rfl | rfl
  · rw [Nat.zero_mul, Nat.or_zero, Nat.zero_add]
  · rw [Nat.one_mul, nat_or_pow hx, Nat.one_mul]
theorem Eg52_bounds (hz : z < INF64) : -1200 ≤ Eg 52 (-1074) z ∧ Eg 52 (-1074) z ≤ 1000 := by
  have h9 : INF64 = 2047 * 2 ^ 52 := rfl
  unfold Eg Xp
  omega
theorem narrow_is (hs : s ≤ 1) (hz : z ≤ INF64) : fX2_narrow (lN (s * 2 ^ 63 + z)) = nI (s * 2 ^ 31 + Nr z) ∧ okX2_narrow (lN (s * 2 ^ 63 + z)) := by
  have h9 : INF64 = 2047 * 2 ^ 52 := rfl
  have h8 : INF32 = 255 * 2 ^ 23 := rfl
  have hz63 : z < 2 ^ 63 := by omega
  have main : fX2_narrow_12 (lN (s * 2 ^ 63 + z)) (nI (s * 2 ^ 31)) = nI (s * 2 ^ 31 + Nr z) ∧ okX2_narrow_12 (lN (s * 2 ^ 63 + z)) (nI (s * 2 ^ 31)) := by
    rw [fX2_narrow_12, okX2_narrow_12, infd_is hs hz63, zerod_is hs hz63]
    by_cases c1 : z = INF64
    · rw [if_pos c1]
      have hn : ¬ (1 : Int32) = 0 := by decide
      rw [if_neg hn]
      refine ⟨?_, fun h => absurd h hn, fun _ => trivial⟩
      have : Nr z = INF32 := by unfold Nr; rw [if_neg (by omega), if_pos (by omega)]
      rw [this, show (2139095040 : Int32) = nI INF32 from by decide, Int32.or_comm, or_sign32 hs (by decide)]
    · rw [if_neg c1, if_pos rfl]
      by_cases c2 : z = 0
      · have hn : ¬ (1 : Int32) = 0 := by decide
        rw [if_pos c2, if_neg hn]
        refine ⟨?_, fun _ => ⟨fun h => absurd h hn, fun _ => trivial⟩, fun h => absurd rfl h⟩
        rw [c2, show Nr 0 = 0 from rfl, Nat.add_zero]
      · rw [if_neg c2, if_pos rfl]
        have h0 : 0 < z := by omega
        have hlt : z < INF64 := by omega
        obtain ⟨e1, e2⟩ := expd_is hs h0 hlt
        obtain ⟨g1, g2⟩ := sigd_is hs h0 hlt
        obtain ⟨b1, b2⟩ := Sg_bounds (fb := 52) (by omega) h0
        obtain ⟨b3, b4⟩ := Eg52_bounds hlt
        obtain ⟨r1, r2⟩ := rounded24 (m := Sg 52 z) (st := 0) (e := Eg 52 (-1074) z) (by omega) (by omega) (by decide) (fun h => absurd h (by decide)) (by omega) (by omega)
        rw [e1, g1]
        refine ⟨?_, fun _ => ⟨fun _ => ⟨g2, e2, r2, trivial⟩, fun h => absurd rfl h⟩, fun h => absurd rfl h⟩
        have eN : min INF32 (RD 23 (2 * Sg 52 z + 0) (Eg 52 (-1074) z + 148)) = Nr z := by
          unfold Nr
          rw [if_neg c2, if_neg (by omega), RD_2 (by omega), Int.add_assoc, RD_sg h0]
          congr 2
          omega
        have hr : fX2_rounded (lN (Sg 52 z)) (iI (Eg 52 (-1074) z)) (0 : Int32) (24 : Int32) (127 : Int32) = lN (Nr z) := by rw [← eN]; exact r1
        have := Nr_le z
        rw [hr, lN_i, or_sign32 hs (by omega)]
  rw [fX2_narrow, okX2_narrow, fX2_narrow_0, okX2_narrow_0]
  have qs := d_lt0 hs hz63
  by_cases c : s = 1
  · rw [if_pos (qs.mpr c), show (-2147483648 : Int32) = nI (s * 2 ^ 31) from by rw [c]; decide]
    exact ⟨main.1, fun _ => main.2, fun h => absurd (qs.mpr c) h⟩
  · rw [if_neg (fun h => c (qs.mp h))]
    have e0 : (0 : Int32) = nI (s * 2 ^ 31) := by rw [show s = 0 by omega]; rfl
    have h1 : fX2_narrow_12 (lN (s * 2 ^ 63 + z)) 0 = nI (s * 2 ^ 31 + Nr z) := by rw [e0]; exact main.1
    have h2 : okX2_narrow_12 (lN (s * 2 ^ 63 + z)) 0 := by rw [e0]; exact main.2
    exact ⟨h1, fun h => absurd (qs.mp h) c, fun _ => h2⟩
/-- there and back -/
theorem Nr_Wd (hz : z ≤ INF32) : Nr (Wd z) = z := by
  have h9 : INF64 = 2047 * 2 ^ 52 := rfl
  have h8 : INF32 = 255 * 2 ^ 23 := rfl
  by_cases c0 : z = 0
  · rw [c0, Wd_0]; rfl
  · by_cases c1 : z = INF32
    · rw [c1, Wd_inf]; unfold Nr; rw [if_neg (by decide), if_pos (Nat.le_refl _)]
    · have h0 : 0 < z := by omega
      have hlt : z < INF32 := by omega
      obtain ⟨d1, d2, d3, d4⟩ := Wd_dec h0 hlt
      have hm := Mg_pos (fb := 23) h0
      have hl := log2_lt hm (Mg_lt 23 z)
      unfold Nr
      rw [if_neg (by omega), if_neg (by omega), d1, d2]
      unfold Sg
      rw [RD_shift hm, show ((Xp 23 z + 925 + (Mg 23 z).log2 - 52 : Nat) : Int) - 925 + ((52 - (Mg 23 z).log2 : Nat) : Int) = (Xp 23 z : Int) by omega, RD_self h0]
      omega
end NAR
