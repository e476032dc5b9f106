theorem RD_pos {fb n : Nat} {w : Int} (h0 : 0 < n) (h : (fb : Int) ≤ w + n.log2) : 2 ^ fb ≤ RD fb n w := by
  obtain ⟨p, d, hd⟩ : ∃ p d : Nat, (d : Int) = (w + n.log2 - fb).toNat - w + p := ⟨w.toNat, ((w + n.log2 - fb).toNat - w + w.toNat).toNat, by omega⟩
  rw [RD_eval h0 hd]
  have := (kept_bounds h0 hd).2 (by omega)
  omega
theorem floatOf_is {s n : Nat} {v : Int64} (hv : Wh v s n) : fX2_floatOf v 0 = lN (s * 2 ^ 63 + Wd (min INF32 (RZ 23 n 149))) ∧ okX2_floatOf v 0 := by
  have h8 : INF32 = 255 * 2 ^ 23 := rfl
  have fin : ∀ s f : Nat, s ≤ 1 → f ≤ INF32 → fX2_floatOf_113 (nI s) (lN f) = lN (s * 2 ^ 63 + Wd f) ∧ okX2_floatOf_113 (nI s) (lN f) := by
    intro s f hs hf
    obtain ⟨w1, w2⟩ := wide_is hs (show f < 2 ^ 31 by omega)
    have eo := or_sign32 hs (show f < 2 ^ 31 by omega)
    rw [fX2_floatOf_113, okX2_floatOf_113, fX2_floatOf_126, fX2_floatOf_126, okX2_floatOf_126, okX2_floatOf_126, lN_i]
    rcases (show s = 0 ∨ s = 1 by omega) with rfl | rfl
    · have e0 : nI 0 = (0 : Int32) := rfl
      rw [if_pos e0, show nI f ||| (0 : Int32) = nI (0 * 2 ^ 31 + f) from eo]
      exact ⟨w1, fun _ => ⟨w2, trivial⟩, fun h => absurd e0 h⟩
    · have e1 : ¬ nI 1 = (0 : Int32) := by decide
      rw [if_neg e1, show nI f ||| (-2147483648 : Int32) = nI (1 * 2 ^ 31 + f) from by rw [← eo]; rfl]
      exact ⟨w1, fun h => absurd h e1, fun _ => ⟨w2, trivial⟩⟩
  have r104 : ∀ (s m st : Nat) (e : Int), s ≤ 1 → 0 < m → m < 2 ^ 62 → st ≤ 1 → (st = 1 → 2 ^ 24 ≤ m) → -10 ≤ e → e ≤ 10 → fX2_floatOf_104 (nI s) (lN m) (iI e) (nI st) = lN (s * 2 ^ 63 + Wd (min INF32 (RD 23 (2 * m + st) (e + 148)))) ∧ okX2_floatOf_104 (nI s) (lN m) (iI e) (nI st) := by
    intro s m st e hs h0 hm hst hbig he1 he2
    obtain ⟨r1, r2⟩ := rounded24 h0 hm hst hbig (e := e) (by omega) (by omega)
    rw [fX2_floatOf_104, okX2_floatOf_104, r1]
    obtain ⟨f1, f2⟩ := fin s (min INF32 (RD 23 (2 * m + st) (e + 148))) hs (Nat.min_le_left _ _)
    exact ⟨f1, r2, f2⟩
  have main : ∀ s n : Nat, s ≤ 1 → 0 < n → n ≤ 2 ^ 63 → fX2_floatOf_34 (nI s) (lN n) = lN (s * 2 ^ 63 + Wd (min INF32 (RZ 23 n 149))) ∧ okX2_floatOf_34 (nI s) (lN n) := by
    intro s n hs h0 hn
    have eR : RZ 23 n 149 = RD 23 n 149 := by unfold RZ; rw [if_neg (by omega)]
    rw [fX2_floatOf_34, okX2_floatOf_34, show (4611686018427387904 : Int64) = lN (2 ^ 62) from rfl, eR]
    have n0 : nI 0 = (0 : Int32) := rfl
    have n1 : ¬ (1 : Int32) = 0 := by decide
    have big : 2 ^ 62 ≤ n → fX2_floatOf_56 (nI s) (lN n) = lN (s * 2 ^ 63 + Wd (min INF32 (RD 23 n 149))) ∧ okX2_floatOf_56 (nI s) (lN n) := by
      intro hb
      have hR := RD_4 (fb := 23) (n := n) (w := 149) (by omega)
      have q := and3 (show n < 2 ^ 64 by omega)
      rw [fX2_floatOf_56, fX2_floatOf_57, if_pos rfl, fX2_floatOf_73, if_pos rfl, fX2_floatOf_83, if_pos rfl, fX2_floatOf_103, okX2_floatOf_56, okX2_floatOf_57, okX2_floatOf_73, okX2_floatOf_83, okX2_floatOf_103, show jushr (lN n) (2 : Int32) = lN (n / 4) from jushr_lN (k := 2) (by omega) (by decide)]
      by_cases c : n % 4 = 0
      · rw [if_pos c] at hR
        obtain ⟨m1, m2⟩ := r104 s (n / 4) 0 2 hs (by omega) (by omega) (by decide) (fun h => absurd h (by decide)) (by decide) (by decide)
        rw [if_pos (q.mpr c)]
        refine ⟨?_, fun _ => ⟨fun _ => ⟨fun _ => ⟨fun _ => m2, fun h => absurd (q.mpr c) h⟩, fun h => absurd rfl h⟩, fun h => absurd rfl h⟩, fun h => absurd rfl h⟩
        rw [← hR]; exact m1
      · rw [if_neg c] at hR
        obtain ⟨m1, m2⟩ := r104 s (n / 4) 1 2 hs (by omega) (by omega) (by decide) (fun _ => by omega) (by decide) (by decide)
        rw [if_neg (fun h => c (q.mp h))]
        refine ⟨?_, fun _ => ⟨fun _ => ⟨fun _ => ⟨fun h => absurd (q.mp h) c, fun _ => m2⟩, fun h => absurd rfl h⟩, fun h => absurd rfl h⟩, fun h => absurd rfl h⟩
        rw [← hR]; exact m1
    by_cases c63 : n = 2 ^ 63
    · have h1 : ¬ (0 : Int64) < lN n := by rw [c63]; decide
      rw [if_neg h1]
      obtain ⟨b1, b2⟩ := big (by omega)
      exact ⟨b1, fun h => absurd h h1, fun _ => b2⟩
    · have h1 : (0 : Int64) < lN n := (lN_lt63 (a := 0) (by decide) (by omega)).mpr h0
      have q := lN_lt63 (a := n) (b := 2 ^ 62) (by omega) (by decide)
      rw [if_pos h1]
      by_cases c : n < 2 ^ 62
      · rw [if_pos (q.mpr c)]
        obtain ⟨m1, m2⟩ := r104 s n 0 0 hs h0 c (by decide) (fun h => absurd h (by decide)) (by decide) (by decide)
        rw [RD_2 h0] at m1
        have k1 : fX2_floatOf_57 (nI s) (lN n) 1 = fX2_floatOf_104 (nI s) (lN n) 0 0 := by
          rw [fX2_floatOf_57, if_neg n1, fX2_floatOf_73, if_neg n1, fX2_floatOf_83, if_neg n1, fX2_floatOf_103]
        have k2 : okX2_floatOf_57 (nI s) (lN n) 1 := by
          rw [okX2_floatOf_57, okX2_floatOf_73, okX2_floatOf_73, okX2_floatOf_83, okX2_floatOf_83, okX2_floatOf_103]
          exact ⟨fun h => absurd h n1, fun _ => ⟨fun h => absurd h n1, fun _ => ⟨fun h => absurd h n1, fun _ => m2⟩⟩⟩
        exact ⟨k1.trans m1, fun _ => ⟨fun _ => k2, fun h => absurd (q.mpr c) h⟩, fun h => absurd h1 h⟩
      · rw [if_neg (fun h => c (q.mp h))]
        obtain ⟨b1, b2⟩ := big (by omega)
        exact ⟨b1, fun _ => ⟨fun h => absurd (q.mp h) c, fun _ => b2⟩, fun h => absurd h1 h⟩
  rw [fX2_floatOf, fX2_floatOf_0, okX2_floatOf, okX2_floatOf_0, fX2_floatOf_22, fX2_floatOf_23, fX2_floatOf_23, okX2_floatOf_22, okX2_floatOf_23, okX2_floatOf_23]
  rcases hv with ⟨rfl, h1, rfl⟩ | ⟨rfl, h1, h2, h3, h4, h5⟩
  · have q0 : (lN n = 0) ↔ n = 0 := lN_inj (b := 0) (by omega) (by decide)
    have ql : ¬ lN n < 0 := by rw [lN_lt0 (by omega)]; omega
    by_cases c : n = 0
    · rw [if_pos (q0.mpr c)]
      refine ⟨?_, fun _ => trivial, fun h => absurd (q0.mpr c) h⟩
      rw [c]; rfl
    · obtain ⟨m1, m2⟩ := main 0 n (by omega) (by omega) (by omega)
      rw [if_neg (fun h => c (q0.mp h)), if_neg ql, if_pos rfl]
      exact ⟨m1, fun h => absurd (q0.mp h) c, fun _ => ⟨fun h => absurd h ql, fun _ => ⟨fun _ => m2, fun h => absurd rfl h⟩⟩⟩
  · have q0 : ¬ v = 0 := by
      intro h; rw [h] at h5; exact absurd h5 (by decide)
    obtain ⟨m1, m2⟩ := main 1 n (by omega) h1 h2
    have hn : ¬ (1 : Int32) = 0 := by decide
    rw [if_neg q0, if_pos h5, if_pos rfl, if_neg hn, h4]
    exact ⟨m1, fun h => absurd h q0, fun _ => ⟨fun _ => ⟨fun _ => ⟨fun h => absurd h hn, fun _ => m2⟩, fun h => absurd rfl h⟩, fun h => absurd h5 h⟩⟩
/-! the floor of M * 2^e -/
def FL (M : Nat) (e : Int) : Nat := M * 2 ^ e.toNat / 2 ^ (-e).toNat
theorem FL_shift {M j : Nat} {e : Int} : FL (M * 2 ^ j) e = FL M (e + j) := by
  unfold FL
  have hp := Nat.two_pow_pos (-(e + j)).toNat
  rw [Nat.mul_assoc, ← Nat.pow_add, ← Nat.mul_div_mul_right (M * 2 ^ (e + j).toNat) (2 ^ (-(e + j)).toNat) (Nat.two_pow_pos ((-e).toNat - (-(e + j)).toNat)), Nat.mul_assoc, ← Nat.pow_add, ← Nat.pow_add]
  congr 2
  · congr 1; omega
  · omega
theorem FL_pos {M : Nat} {e : Int} (h : 0 ≤ e) : FL M e = M * 2 ^ e.toNat := by
  unfold FL; rw [show (-e).toNat = 0 by omega, Nat.pow_zero, Nat.div_one]
theorem FL_neg {M : Nat} {e : Int} (h : e ≤ 0) : FL M e = M / 2 ^ (-e).toNat := by
  unfold FL; rw [show e.toNat = 0 by omega, Nat.pow_zero, Nat.mul_one]
