/-! whole numbers to floats and doubles -/
theorem lN_2_64 : lN (2 ^ 64) = lN 0 := wb_mod (2 ^ 64)
theorem neg_lN {u : Nat} (hu : u ≤ 2 ^ 64) : -lN u = lN (2 ^ 64 - u) := by
  rw [← lN_sub hu, lN_2_64]
  show -lN u = 0 - lN u
  rw [Int64.zero_sub]
theorem whole_neg {v : Int64} (h : v < 0) : ∃ n : Nat, 0 < n ∧ n ≤ 2 ^ 63 ∧ v = lN (2 ^ 64 - n) ∧ -v = lN n := by
  obtain ⟨u, hu, rfl⟩ := wb_of v
  rw [Int64.lt_iff_toInt_lt, lN_ti hu, show (0 : Int64).toInt = 0 from rfl] at h
  have h63 : 2 ^ 63 ≤ u := by
    by_cases q : u < 2 ^ 63
    · rw [if_pos q] at h; omega
    · omega
  refine ⟨2 ^ 64 - u, by omega, by omega, by congr 1; omega, neg_lN (by omega)⟩
/-- RD, and 0 of 0 -/
def RZ (fb n : Nat) (w : Int) : Nat := if n = 0 then 0 else RD fb n w
theorem nearest_0 (kind neg e : Int32) : fX0_nearest kind neg (lN 0) e = fX0_signed kind neg (lN 0) := by
  rw [fX0_nearest, fX0_nearest_0, if_pos (show lN 0 = 0 from rfl)]; rfl
theorem nearest_z {kind neg : Int32} {fb ga M : Nat} {em e : Int} (K : Kd kind fb em ga) (hM : M < 2 ^ 63) (he1 : -100000 ≤ e) (he2 : e ≤ 100000) :
    fX0_nearest kind neg (lN M) (iI e) = fX0_signed kind neg (lN (min ((ga + 2) * 2 ^ fb) (RZ fb M (e - em)))) := by
  by_cases h : M = 0
  · rw [h, nearest_0]; unfold RZ; rw [if_pos rfl, Nat.min_eq_right (Nat.zero_le _)]
  · rw [nearest_is K (by omega) hM he1 he2]; unfold RZ; rw [if_neg h]
theorem lN_lt0 {n : Nat} (h : n < 2 ^ 64) : lN n < 0 ↔ 2 ^ 63 ≤ n := by
  rw [Int64.lt_iff_toInt_lt, lN_ti h, show (0 : Int64).toInt = 0 from rfl]
  by_cases q : n < 2 ^ 63
  · rw [if_pos q]; omega
  · rw [if_neg q]; omega
theorem jabs_pos {n : Nat} (h : n < 2 ^ 63) : jabs (lN n) = lN n := by
  unfold jabs
  by_cases q : (0 : Int64) < lN n
  · rw [if_pos q]
  · rw [if_neg q]
    have : ¬ 0 < n := fun h2 => q ((lN_lt63 (a := 0) (by decide) h).mpr h2)
    rw [show n = 0 by omega]; rfl
theorem jabs_neg {v : Int64} (h : v < 0) : jabs v = -v := by
  unfold jabs
  rw [if_neg]
  intro q
  rw [Int64.lt_iff_toInt_lt] at h q
  omega
/-- a whole number as sign and magnitude -/
def Wh (v : Int64) (s n : Nat) : Prop := (s = 0 ∧ n < 2 ^ 63 ∧ v = lN n) ∨ (s = 1 ∧ 0 < n ∧ n ≤ 2 ^ 63 ∧ v = lN (2 ^ 64 - n) ∧ -v = lN n ∧ v < 0)
theorem Wh_of (v : Int64) : ∃ s n : Nat, s ≤ 1 ∧ Wh v s n := by
  by_cases h : v < 0
  · obtain ⟨n, h1, h2, h3, h4⟩ := whole_neg h
    exact ⟨1, n, by omega, Or.inr ⟨rfl, h1, h2, h3, h4, h⟩⟩
  · obtain ⟨n, h1, h2⟩ := pk_lOf h
    exact ⟨0, n, by omega, Or.inl ⟨rfl, h1, h2⟩⟩
theorem ofWhole_is {kind : Int32} {fb ga s n : Nat} {em : Int} {v : Int64} (K : Kd kind fb em ga) (hv : Wh v s n) : fX0_ofWhole kind v = fX0_signed kind (nI s) (lN (min ((ga + 2) * 2 ^ fb) (RZ fb n (-em)))) := by
  have hem := K.2.2.2.2.2.2.2.1
  have hem2 := K.2.2.2.2.2.2.2.2.1
  rw [fX0_ofWhole, fX0_ofWhole_0, fX0_ofWhole_30, fX0_ofWhole_30, show (-9223372036854775808 : Int64) = lN (2 ^ 63) from by decide, show (0 : Int32) = iI 0 from rfl, show (1 : Int32) = iI 1 from rfl]
  rcases hv with ⟨rfl, h1, rfl⟩ | ⟨rfl, h1, h2, h3, h4, h5⟩
  · rw [if_neg (by rw [lN_inj (by omega) (by decide)]; omega), if_neg (by rw [lN_lt0 (by omega)]; omega), jabs_pos h1, nearest_z K h1 (by omega) (by omega), show (0 : Int) - em = -em by omega]; rfl
  · by_cases c : n = 2 ^ 63
    · have hv : v = lN (2 ^ 63) := by rw [h3, c]
      rw [if_pos hv, show (4611686018427387904 : Int64) = lN (2 ^ 62) from rfl, nearest_is K (by decide) (by decide) (by omega) (by omega)]
      unfold RZ
      rw [if_neg (by omega), c, show (2 : Nat) ^ 63 = 2 ^ 62 * 2 ^ 1 from by decide, RD_shift (by decide)]
      congr 4
      omega
    · have hv : ¬ v = lN (2 ^ 63) := by rw [h3, lN_inj (by omega) (by decide)]; omega
      rw [if_neg hv, if_pos h5, jabs_neg h5, h4, nearest_z K (by omega) (by omega) (by omega), show (0 : Int) - em = -em by omega]; rfl
theorem made_is {s m st : Nat} {e : Int} (hs : s ≤ 1) (h0 : 0 < m) (hm : m < 2 ^ 62) (hst : st ≤ 1) (hbig : st = 1 → 2 ^ 53 ≤ m) (he1 : -100000 ≤ e) (he2 : e ≤ 100000) :
    fX2_made (nI s) (lN m) (iI e) (nI st) = lN (s * 2 ^ 63 + min INF64 (RD 52 (2 * m + st) (e + 1073))) ∧ okX2_made (nI s) (lN m) (iI e) (nI st) := by
  obtain ⟨r1, r2⟩ := rounded53 h0 hm hst hbig he1 he2
  rw [fX2_made, fX2_made_0, fX2_made_14, okX2_made, okX2_made_0, r1]
  refine ⟨?_, r2, trivial⟩
  have hle : min INF64 (RD 52 (2 * m + st) (e + 1073)) < 2 ^ 63 := by
    have h9 : INF64 = 2047 * 2 ^ 52 := rfl
    have := Nat.min_le_left INF64 (RD 52 (2 * m + st) (e + 1073)); omega
  rcases (show s = 0 ∨ s = 1 by omega) with rfl | rfl
  · rw [if_pos (show nI 0 = 0 from rfl), Nat.zero_mul, Nat.zero_add]
  · rw [if_neg (show ¬ nI 1 = 0 by decide), show (-9223372036854775808 : Int64) = lN (2 ^ 63) from by decide, wb_or (by omega) (by decide), nat_or_pow hle]
/-- two bits off, and whether something was in them -/
theorem RD_4 {fb n : Nat} {w : Int} (h : 2 ^ (fb + 3) ≤ n) : RD fb (2 * (n / 4) + (if n % 4 = 0 then 0 else 1)) (w + 1) = RD fb n w := by
  have h2 : 2 ^ (fb + 3) = 2 ^ (fb + 1) * 4 := by rw [show fb + 3 = fb + 1 + 2 from rfl, Nat.pow_add]
  have hc : 2 ^ (fb + 1) ≤ n / 4 := by omega
  have hp := Nat.two_pow_pos (fb + 1)
  by_cases q : n % 4 = 0
  · rw [if_pos q, RD_2 (by omega)]
    have : RD fb (n / 4 * 2 ^ 2) w = RD fb (n / 4) (w + (2 : Nat)) := RD_shift (by omega)
    rw [show n / 4 * 2 ^ 2 = n by omega] at this
    rw [this]; congr 1; omega
  · rw [if_neg q, RD_cell (c := n / 4) (j := 2) (w := w) hc (by omega) (by omega)]
    congr 1; omega
theorem and3 {n : Nat} (hn : n < 2 ^ 64) : (lN n &&& (3 : Int64) = 0) ↔ n % 4 = 0 := by
  rw [show (3 : Int64) = lN (2 ^ 2 - 1) from rfl, wb_mask hn (by decide), lN_0, lN_inj (by omega) (by decide)]
theorem of_is {s n : Nat} {v : Int64} (hv : Wh v s n) : fX2_of v 0 = lN (s * 2 ^ 63 + min INF64 (RZ 52 n 1074)) ∧ okX2_of v 0 := by
  have main : ∀ s n : Nat, s ≤ 1 → 0 < n → n ≤ 2 ^ 63 → fX2_of_34 (nI s) (lN n) = lN (s * 2 ^ 63 + min INF64 (RZ 52 n 1074)) ∧ okX2_of_34 (nI s) (lN n) := by
    intro s n hs h0 hn
    have eR : RZ 52 n 1074 = RD 52 n 1074 := by unfold RZ; rw [if_neg (by omega)]
    rw [fX2_of_34, okX2_of_34, show (4611686018427387904 : Int64) = lN (2 ^ 62) from rfl, eR]
    have big : 2 ^ 62 ≤ n → fX2_of_61 (nI s) (lN n) = lN (s * 2 ^ 63 + min INF64 (RD 52 n 1074)) ∧ okX2_of_61 (nI s) (lN n) := by
      intro hb
      have hR := RD_4 (fb := 52) (n := n) (w := 1074) (by omega)
      rw [fX2_of_61, okX2_of_61, show jushr (lN n) (2 : Int32) = lN (n / 4) from jushr_lN (k := 2) (by omega) (by decide)]
      have q := and3 (show n < 2 ^ 64 by omega)
      by_cases c : n % 4 = 0
      · rw [if_pos c] at hR
        obtain ⟨m1, m2⟩ := made_is (s := s) (m := n / 4) (st := 0) (e := 2) hs (by omega) (by omega) (by decide) (fun h => absurd h (by decide)) (by decide) (by decide)
        rw [if_pos (q.mpr c)]
        refine ⟨?_, fun _ => ⟨m2, trivial⟩, fun h => absurd (q.mpr c) h⟩
        rw [← hR]; exact m1
      · rw [if_neg c] at hR
        obtain ⟨m1, m2⟩ := made_is (s := s) (m := n / 4) (st := 1) (e := 2) hs (by omega) (by omega) (by decide) (fun _ => by omega) (by decide) (by decide)
        rw [if_neg (fun h => c (q.mp h))]
        refine ⟨?_, fun h => absurd (q.mp h) c, fun _ => ⟨m2, trivial⟩⟩
        rw [← hR]; exact m1
    by_cases c63 : n = 2 ^ 63
    · have h1 : ¬ (0 : Int64) < lN n := by rw [c63]; decide
      rw [if_neg h1]
      obtain ⟨b1, b2⟩ := big (by omega)
      exact ⟨b1, fun h => absurd h h1, fun _ => b2⟩
    · have h1 : (0 : Int64) < lN n := (lN_lt63 (a := 0) (by decide) (by omega)).mpr h0
      have q := lN_lt63 (a := n) (b := 2 ^ 62) (by omega) (by decide)
      rw [if_pos h1]
      by_cases c : n < 2 ^ 62
      · rw [if_pos (q.mpr c)]
        obtain ⟨m1, m2⟩ := made_is (s := s) (m := n) (st := 0) (e := 0) hs h0 c (by decide) (fun h => absurd h (by decide)) (by decide) (by decide)
        rw [RD_2 h0] at m1
        exact ⟨m1, fun _ => ⟨fun _ => ⟨m2, trivial⟩, fun h => absurd (q.mpr c) h⟩, fun h => absurd h1 h⟩
      · rw [if_neg (fun h => c (q.mp h))]
        obtain ⟨b1, b2⟩ := big (by omega)
        exact ⟨b1, fun _ => ⟨fun h => absurd (q.mp h) c, fun _ => b2⟩, fun h => absurd h1 h⟩
  rw [fX2_of, fX2_of_0, okX2_of, okX2_of_0, fX2_of_22, fX2_of_23, fX2_of_23, okX2_of_22, okX2_of_23, okX2_of_23]
  rcases hv with ⟨rfl, h1, rfl⟩ | ⟨rfl, h1, h2, h3, h4, h5⟩
  · have q0 : (lN n = 0) ↔ n = 0 := lN_inj (b := 0) (by omega) (by decide)
    have ql : ¬ lN n < 0 := by rw [lN_lt0 (by omega)]; omega
    by_cases c : n = 0
    · rw [if_pos (q0.mpr c)]
      refine ⟨?_, fun _ => trivial, fun h => absurd (q0.mpr c) h⟩
      rw [c]; rfl
    · obtain ⟨m1, m2⟩ := main 0 n (by omega) (by omega) (by omega)
      rw [if_neg (fun h => c (q0.mp h)), if_neg ql, if_pos rfl]
      exact ⟨m1, fun h => absurd (q0.mp h) c, fun _ => ⟨fun h => absurd h ql, fun _ => ⟨fun _ => m2, fun h => absurd rfl h⟩⟩⟩
  · have q0 : ¬ v = 0 := by
      intro h; rw [h] at h5; exact absurd h5 (by decide)
    obtain ⟨m1, m2⟩ := main 1 n (by omega) h1 h2
    have hn : ¬ (1 : Int32) = 0 := by decide
    rw [if_neg q0, if_pos h5, if_pos rfl, if_neg hn, h4]
    exact ⟨m1, fun h => absurd h q0, fun _ => ⟨fun _ => ⟨fun _ => ⟨fun h => absurd h hn, fun _ => m2⟩, fun h => absurd rfl h⟩, fun h => absurd h5 h⟩⟩
