/-! a float's bits: sign s, size z below 2^31 -/
theorem iI_2_32 (a : Int) : iI (a - 4294967296) = iI a := by
  rw [← iI_sub, show iI 4294967296 = iI 0 from by decide, iI_sub]; congr 1; omega
theorem rounded53 {m st : Nat} {e : Int} (h0 : 0 < m) (hm : m < 2 ^ 62) (hst : st ≤ 1) (hbig : st = 1 → 2 ^ 53 ≤ m) (he1 : -100000 ≤ e) (he2 : e ≤ 100000) :
    fX2_rounded (lN m) (iI e) (nI st) (53 : Int32) (1023 : Int32) = lN (min INF64 (RD 52 (2 * m + st) (e + 1073))) ∧ okX2_rounded (lN m) (iI e) (nI st) (53 : Int32) (1023 : Int32) := by
  obtain ⟨r1, r2⟩ := rounded_is (fb := 52) (bias := 1023) (by decide) (by decide) (by decide) h0 hm hst hbig he1 he2
  rw [show e + ((1023 : Nat) : Int) + ((52 : Nat) : Int) - 2 = e + 1073 by omega] at r1
  exact ⟨r1, r2⟩
theorem rounded24 {m st : Nat} {e : Int} (h0 : 0 < m) (hm : m < 2 ^ 62) (hst : st ≤ 1) (hbig : st = 1 → 2 ^ 24 ≤ m) (he1 : -100000 ≤ e) (he2 : e ≤ 100000) :
    fX2_rounded (lN m) (iI e) (nI st) (24 : Int32) (127 : Int32) = lN (min INF32 (RD 23 (2 * m + st) (e + 148))) ∧ okX2_rounded (lN m) (iI e) (nI st) (24 : Int32) (127 : Int32) := by
  obtain ⟨r1, r2⟩ := rounded_is (fb := 23) (bias := 127) (by decide) (by decide) (by decide) h0 hm hst hbig he1 he2
  rw [show e + ((127 : Nat) : Int) + ((23 : Nat) : Int) - 2 = e + 148 by omega] at r1
  exact ⟨r1, r2⟩
theorem RD_2 {fb m : Nat} {w : Int} (h0 : 0 < m) : RD fb (2 * m + 0) w = RD fb m (w + 1) := by
  rw [Nat.add_zero, Nat.mul_comm 2 m, show m * 2 = m * 2 ^ 1 from rfl, RD_shift h0]; rfl
theorem dec_of {t k : Nat} (h1 : 2 ^ 52 ≤ k) (h2 : k < 2 ^ 53) : Mg 52 (t * 2 ^ 52 + k) = k ∧ Xp 52 (t * 2 ^ 52 + k) = t := by
  unfold Mg Xp
  constructor
  · rw [if_neg (by omega)]; omega
  · omega
section FLT
variable {s z : Nat}
theorem f_u (hs : s ≤ 1) (hz : z < 2 ^ 31) : s * 2 ^ 31 + z < 2 ^ 32 := sz_lt hs hz
theorem f_lt0 (hs : s ≤ 1) (hz : z < 2 ^ 31) : nI (s * 2 ^ 31 + z) < 0 ↔ s = 1 := by
  rcases (show s = 0 ∨ s = 1 by omega) with rfl | rfl
  · rw [Nat.zero_mul, Nat.zero_add, nI_iI, iI_lt0 (by omega) (by omega)]; omega
  · rw [nI_iI, ← iI_2_32, iI_lt0 (by omega) (by omega)]; omega
theorem f_field (hs : s ≤ 1) (hz : z < 2 ^ 31) : ishr (nI (s * 2 ^ 31 + z)) (23 : Int32) &&& (255 : Int32) = nI (z / 2 ^ 23) := by
  have hu := f_u hs hz
  have e1 : ishr (nI (s * 2 ^ 31 + z)) (23 : Int32) &&& (255 : Int32) = iushr (nI (s * 2 ^ 31 + z)) (23 : Int32) &&& (255 : Int32) := by
    apply b_ext
    intro i hi
    rw [b_and, b_and, b_255]
    by_cases h8 : i < 8
    · have a1 := b_sshr 23 (by decide) (nI (s * 2 ^ 31 + z)) hi
      have a2 := b_ushr 23 (by decide) (nI (s * 2 ^ 31 + z)) i
      rw [if_pos (by omega)] at a1
      rw [show bt (ishr (nI (s * 2 ^ 31 + z)) 23) i = _ from a1, show bt (iushr (nI (s * 2 ^ 31 + z)) 23) i = _ from a2]
    · rw [decide_eq_false h8, Bool.and_false, Bool.and_false]
  rw [e1, show iushr (nI (s * 2 ^ 31 + z)) (23 : Int32) = nI ((s * 2 ^ 31 + z) / 2 ^ 23) from pk_ushrN hu 23 23 (by decide), pk_andN (by omega) 8 (by decide)]
  congr 1
  omega
theorem f_frac (hs : s ≤ 1) (hz : z < 2 ^ 31) : (nI (s * 2 ^ 31 + z) &&& (8388607 : Int32)).toInt64 = lN (z % 2 ^ 23) := by
  rw [pk_andN (f_u hs hz) 23 (by decide), nI_toInt64 (by omega)]
  congr 1
  omega
/-- the size of the double that a float's size becomes -/
def Wd (z : Nat) : Nat := if z = 0 then 0 else if INF32 ≤ z then INF64 + (z - INF32) else RD 52 (Mg 23 z) (Xp 23 z + 925)
theorem Wd_0 : Wd 0 = 0 := rfl
theorem Wd_inf : Wd INF32 = INF64 := rfl
theorem Wd_fin {z : Nat} (h0 : 0 < z) (hz : z < INF32) : Wd z = (Xp 23 z + 925 + (Mg 23 z).log2 - 52) * 2 ^ 52 + Sg 23 z := by
  have hm := Mg_pos (fb := 23) h0
  have hl := log2_lt hm (Mg_lt 23 z)
  unfold Wd
  rw [if_neg (by omega), if_neg (by omega), RD_eval (p := 52 - (Mg 23 z).log2) (d := 0) hm (by omega), Nat.pow_zero, rne_one]
  congr 2
  omega
theorem Xp_le {z : Nat} (hz : z < INF32) : Xp 23 z ≤ 253 := by
  have : INF32 = 255 * 2 ^ 23 := rfl
  unfold Xp; omega
theorem Wd_dec {z : Nat} (h0 : 0 < z) (hz : z < INF32) : Mg 52 (Wd z) = Sg 23 z ∧ Xp 52 (Wd z) = Xp 23 z + 925 + (Mg 23 z).log2 - 52 ∧ 0 < Wd z ∧ Wd z < INF64 := by
  obtain ⟨b1, b2⟩ := Sg_bounds (fb := 23) (by omega) h0
  have hm := Mg_pos (fb := 23) h0
  have hl := log2_lt hm (Mg_lt 23 z)
  have hx := Xp_le hz
  have e := Wd_fin h0 hz
  have hI : INF64 = 2047 * 2 ^ 52 := rfl
  obtain ⟨d1, d2⟩ := dec_of (t := Xp 23 z + 925 + (Mg 23 z).log2 - 52) b1 b2
  rw [e]
  exact ⟨d1, d2, by omega, by omega⟩
theorem Wd_lt (hz : z < 2 ^ 31) : Wd z < 2 ^ 63 := by
  have h1 : INF64 = 2047 * 2 ^ 52 := rfl
  have h2 : INF32 = 255 * 2 ^ 23 := rfl
  by_cases h0 : z = 0
  · rw [h0, Wd_0]; decide
  · by_cases hi : INF32 ≤ z
    · unfold Wd; rw [if_neg h0, if_pos hi]; omega
    · have := (Wd_dec (by omega) (show z < INF32 by omega)).2.2.2; omega
theorem Wd_zero (hz : z < 2 ^ 31) : Wd z = 0 ↔ z = 0 := by
  constructor
  · intro h
    apply Decidable.byContradiction
    intro h0
    by_cases hi : INF32 ≤ z
    · unfold Wd at h; rw [if_neg h0, if_pos hi] at h; have : INF64 = 2047 * 2 ^ 52 := rfl; omega
    · have := (Wd_dec (by omega) (show z < INF32 by omega)).2.2.1; omega
  · intro h; rw [h, Wd_0]
theorem Wd_le (hz : z < 2 ^ 31) : Wd z ≤ INF64 ↔ z ≤ INF32 := by
  by_cases h0 : z = 0
  · rw [h0, Wd_0]; simp
  · by_cases hi : INF32 ≤ z
    · unfold Wd; rw [if_neg h0, if_pos hi]; omega
    · have := (Wd_dec (by omega) (show z < INF32 by omega)).2.2.2; omega
theorem Wd_isinf (hz : z < 2 ^ 31) : Wd z = INF64 ↔ z = INF32 := by
  by_cases h0 : z = 0
  · rw [h0, Wd_0]; decide
  · by_cases hi : INF32 ≤ z
    · unfold Wd; rw [if_neg h0, if_pos hi]; omega
    · have := (Wd_dec (by omega) (show z < INF32 by omega)).2.2.2; omega
theorem or_sign {x : Nat} (hs : s ≤ 1) (hx : x < 2 ^ 63) : lN (s * 2 ^ 63) ||| lN x = lN (s * 2 ^ 63 + x) := by
  rcases (show s = 0 ∨ s = 1 by omega) with rfl | rfl
  · rw [Nat.zero_mul, wb_or (by decide) (by omega), Nat.zero_or, Nat.zero_add]
  · rw [Nat.one_mul, wb_or (by decide) (by omega), Nat.or_comm, nat_or_pow hx, Nat.one_mul]
set_option maxRecDepth 20000 in
theorem wide_is (hs : s ≤ 1) (hz : z < 2 ^ 31) : fX2_wide (nI (s * 2 ^ 31 + z)) = lN (s * 2 ^ 63 + Wd z) ∧ okX2_wide (nI (s * 2 ^ 31 + z)) := by
  have hI : INF32 = 255 * 2 ^ 23 := rfl
  have hI6 : INF64 = 2047 * 2 ^ 52 := rfl
  have main : fX2_wide_28 (lN (s * 2 ^ 63)) (nI (z / 2 ^ 23)) (lN (z % 2 ^ 23)) = lN (s * 2 ^ 63 + Wd z) ∧ okX2_wide_28 (lN (s * 2 ^ 63)) (nI (z / 2 ^ 23)) (lN (z % 2 ^ 23)) := by
    rw [fX2_wide_28, okX2_wide_28]
    have q255 : (nI (z / 2 ^ 23) = (255 : Int32)) ↔ z / 2 ^ 23 = 255 := nI_eq (b := 255) (by omega) (by decide)
    have q0 : (nI (z / 2 ^ 23) = (0 : Int32)) ↔ z / 2 ^ 23 = 0 := nI_eq (b := 0) (by omega) (by decide)
    have qm : (lN (z % 2 ^ 23) = (0 : Int64)) ↔ z % 2 ^ 23 = 0 := lN_inj (b := 0) (by omega) (by decide)
    by_cases c1 : z / 2 ^ 23 = 255
    · rw [if_pos (q255.mpr c1)]
      refine ⟨?_, fun _ => trivial, fun h => absurd (q255.mpr c1) h⟩
      rw [show (9218868437227405312 : Int64) = lN INF64 from rfl, or_sign hs (by decide), wb_or (d_u hs (by decide)) (by omega)]
      congr 1
      have e1 : s * 2 ^ 63 + INF64 = 2 ^ 52 * (s * 2 ^ 11 + 2047) := by omega
      rw [e1, ← Nat.two_pow_add_eq_or_of_lt (show z % 2 ^ 23 < 2 ^ 52 by omega)]
      unfold Wd
      rw [if_neg (by omega), if_pos (by omega), ← e1, Nat.add_assoc, show z % 2 ^ 23 = z - INF32 by omega]
    · rw [if_neg (fun h => c1 (q255.mp h))]
      have main2 : 0 < z → fX2_wide_57 (lN (s * 2 ^ 63)) (nI (z / 2 ^ 23)) (lN (z % 2 ^ 23)) = lN (s * 2 ^ 63 + Wd z) ∧ okX2_wide_57 (lN (s * 2 ^ 63)) (nI (z / 2 ^ 23)) (lN (z % 2 ^ 23)) := by
        intro h0
        have hlt : z < INF32 := by omega
        have hm := Mg_pos (fb := 23) h0
        have hml := Mg_lt 23 z
        have hxl := Xp_le hlt
        obtain ⟨r1, r2⟩ := rounded53 (m := Mg 23 z) (st := 0) (e := Xp 23 z - 149) hm (by omega) (by decide) (fun h => absurd h (by decide)) (by omega) (by omega)
        have eW : min INF64 (RD 52 (2 * Mg 23 z + 0) ((Xp 23 z : Int) - 149 + 1073)) = Wd z := by
          rw [RD_2 hm, show (Xp 23 z : Int) - 149 + 1073 + 1 = Xp 23 z + 925 by omega]
          have := (Wd_dec h0 hlt).2.2.2
          have e2 : Wd z = RD 52 (Mg 23 z) (Xp 23 z + 925) := by unfold Wd; rw [if_neg (by omega), if_neg (by omega)]
          rw [← e2]; omega
        have hor := or_sign hs (Wd_lt hz)
        have key : fX2_wide_81 (lN (s * 2 ^ 63)) (lN (Mg 23 z)) (iI (Xp 23 z + 1)) = lN (s * 2 ^ 63 + Wd z) ∧ okX2_wide_81 (lN (s * 2 ^ 63)) (lN (Mg 23 z)) (iI (Xp 23 z + 1)) := by
          have e3 : iI (Xp 23 z + 1) - (150 : Int32) = iI ((Xp 23 z : Int) - 149) := by rw [show (150 : Int32) = iI 150 from by decide, iI_sub]; congr 1; omega
          rw [fX2_wide_81, okX2_wide_81, e3, show (0 : Int32) = nI 0 from rfl]
          exact ⟨by rw [r1, eW, hor], r2, trivial⟩
        rw [fX2_wide_57, okX2_wide_57]
        by_cases c0 : z / 2 ^ 23 = 0
        · rw [if_pos (q0.mpr c0)]
          have eM : Mg 23 z = z % 2 ^ 23 := by unfold Mg; rw [if_pos (by omega)]; omega
          have eX : iI (Xp 23 z + 1) = (1 : Int32) := by rw [show Xp 23 z = 0 by unfold Xp; omega]; decide
          rw [eM, eX] at key
          refine ⟨?_, fun _ => ?_, fun h => absurd (q0.mpr c0) h⟩
          · rw [fX2_wide_72, if_pos (q0.mpr c0)]; exact key.1
          · rw [okX2_wide_72]; exact ⟨fun _ => key.2, fun h => absurd (q0.mpr c0) h⟩
        · rw [if_neg (fun h => c0 (q0.mp h))]
          have eM : lN (z % 2 ^ 23) ||| (8388608 : Int64) = lN (Mg 23 z) := by
            rw [show (8388608 : Int64) = lN (2 ^ 23) from rfl, wb_or (by omega) (by decide), nat_or_pow (by omega)]
            unfold Mg; rw [if_neg (by omega)]; congr 1; omega
          have eX : iI (Xp 23 z + 1) = nI (z / 2 ^ 23) := by rw [nI_iI]; unfold Xp; congr 1; omega
          rw [eX] at key
          rw [eM]
          refine ⟨?_, fun h => absurd (q0.mp h) c0, fun _ => ?_⟩
          · rw [fX2_wide_72, if_neg (fun h => c0 (q0.mp h))]; exact key.1
          · rw [okX2_wide_72]; exact ⟨fun h => absurd (q0.mp h) c0, fun _ => key.2⟩
      by_cases c0 : z / 2 ^ 23 = 0
      · rw [if_pos (q0.mpr c0)]
        by_cases cm : z % 2 ^ 23 = 0
        · rw [if_pos (qm.mpr cm)]
          refine ⟨?_, fun h => absurd (q255.mp h) c1, fun _ => ⟨fun _ => ⟨fun _ => trivial, fun h => absurd (qm.mpr cm) h⟩, fun h => absurd (q0.mpr c0) h⟩⟩
          rw [show z = 0 by omega, Wd_0, Nat.add_zero]
        · rw [if_neg (fun h => cm (qm.mp h))]
          obtain ⟨k1, k2⟩ := main2 (by omega)
          exact ⟨k1, fun h => absurd (q255.mp h) c1, fun _ => ⟨fun _ => ⟨fun h => absurd (qm.mp h) cm, fun _ => k2⟩, fun h => absurd (q0.mpr c0) h⟩⟩
      · rw [if_neg (fun h => c0 (q0.mp h))]
        obtain ⟨k1, k2⟩ := main2 (by omega)
        exact ⟨k1, fun h => absurd (q255.mp h) c1, fun _ => ⟨fun h => absurd (q0.mp h) c0, fun _ => k2⟩⟩
  rw [fX2_wide, okX2_wide, fX2_wide_0, okX2_wide_0]
  have qs := f_lt0 hs hz
  have hgo : ∀ w : Int64, w = lN (s * 2 ^ 63) → fX2_wide_11 (nI (s * 2 ^ 31 + z)) w = lN (s * 2 ^ 63 + Wd z) ∧ okX2_wide_11 (nI (s * 2 ^ 31 + z)) w := by
    intro w hw
    rw [hw, fX2_wide_11, fX2_wide_21, okX2_wide_11, okX2_wide_21, f_field hs hz, f_frac hs hz]
    exact main
  by_cases c : s = 1
  · rw [if_pos (qs.mpr c)]
    obtain ⟨k1, k2⟩ := hgo (-9223372036854775808) (by rw [c]; decide)
    exact ⟨k1, fun _ => k2, fun h => absurd (qs.mpr c) h⟩
  · rw [if_neg (fun h => c (qs.mp h))]
    obtain ⟨k1, k2⟩ := hgo 0 (by rw [show s = 0 by omega]; rfl)
    exact ⟨k1, fun h => absurd (qs.mp h) c, fun _ => k2⟩
end FLT
