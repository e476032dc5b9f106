/-! both numbers cast to the kind in which is worked -/
theorem imax_toInt (x y : Int32) : (imax x y).toInt = max x.toInt y.toInt := by
  unfold imax
  by_cases h : x < y
  · rw [if_pos h]; rw [Int32.lt_iff_toInt_lt] at h; omega
  · rw [if_neg h]; rw [Int32.lt_iff_toInt_lt] at h; omega
theorem wk_facts {k o : Int32} (hk : ¬ 7 < k) (ho : ¬ 7 < o) : ¬ imax 4 (imax k o) < 4 ∧ ¬ 7 < imax 4 (imax k o) ∧ ¬ imax 4 (imax k o) < k ∧ ¬ imax 4 (imax k o) < o := by
  have e4 : (4 : Int32).toInt = 4 := rfl
  have e7 : (7 : Int32).toInt = 7 := rfl
  simp only [Int32.lt_iff_toInt_lt, imax_toInt, e4, e7] at *
  omega
theorem back32 (y : Int32) : y.toInt64.toInt32 = y := by
  apply Int32.toInt_inj.mp
  have h := fb_rng y
  rw [l2i_in (by rw [Int32.toInt_toInt64]; omega) (by rw [Int32.toInt_toInt64]; omega), Int32.toInt_toInt64]
theorem small_int {k : Int32} {x : Int64} (h1 : ¬ k < 1) (h4 : k < 4) (hx : ¬ fX3_hasBits k x = 0) : x.toInt32.toInt64 = x := by
  rw [← has_eq, fX1_isValue, fX1_isValue_0] at hx
  have e7 : ¬ 7 < k := by
    rw [Int32.lt_iff_toInt_lt] at h4 ⊢
    have e4 : (4 : Int32).toInt = 4 := rfl
    have e7 : (7 : Int32).toInt = 7 := rfl
    rw [e4] at h4; rw [e7]; omega
  have fin : ∀ y : Int32, y.toInt64 = x → x.toInt32.toInt64 = x := fun y e => by rw [← e, back32]
  have go : ¬ fX1_isValue_66 k x = 0 → fX1_narrowed k x = x := by
    intro h
    rw [fX1_isValue_66] at h
    by_cases c : fX1_narrowed k x = x
    · exact c
    · rw [if_neg c] at h; exact absurd rfl h
  rcases kind_of h1 e7 with rfl | rfl | rfl | rfl | rfl | rfl | rfl
  · exact fin _ (go hx)
  · exact fin _ (go hx)
  · exact fin _ (go hx)
  · exact absurd h4 (by decide)
  · exact absurd h4 (by decide)
  · exact absurd h4 (by decide)
  · exact absurd h4 (by decide)
theorem wid_eq {k t : Int32} {x : Int64} (hk1 : ¬ k < 1) (hk7 : ¬ 7 < k) (ht4 : ¬ t < 4) (ht7 : ¬ 7 < t) (hkt : ¬ t < k) (hx : ¬ fX3_hasBits k x = 0) : fX1_converted k t x = fX3_widened x k t := by
  rw [fX1_converted, fX1_converted_0, fX3_widened, fX3_widened_0]
  by_cases c : k = t
  · rw [if_pos c, if_pos c]
  rw [if_neg c, if_neg c, if_neg hk1, if_neg hk7]
  have kl : k < t := by
    rw [Int32.lt_iff_toInt_lt] at hkt ⊢
    have hne : ¬ k.toInt = t.toInt := fun h => c (Int32.toInt_inj.mp h)
    omega
  by_cases t6 : t < 6
  · obtain ⟨a, b⟩ := k_lt6 t6
    have k6 : k < 6 := by
      rw [Int32.lt_iff_toInt_lt] at t6 kl ⊢; omega
    rw [if_pos t6, if_pos k6, if_neg b, if_neg a]
    have ht : t = 4 ∨ t = 5 := by
      rw [Int32.lt_iff_toInt_lt] at t6 ht4
      have e4 : (4 : Int32).toInt = 4 := rfl
      have e6 : (6 : Int32).toInt = 6 := rfl
      rw [e6] at t6; rw [e4] at ht4
      rcases (show t.toInt = 4 ∨ t.toInt = 5 by omega) with h | h
      · exact Or.inl (Int32.toInt_inj.mp h)
      · exact Or.inr (Int32.toInt_inj.mp h)
    rcases ht with rfl | rfl
    · exact small_int hk1 kl hx
    · rfl
  · rw [if_neg t6]
    rcases k_ge6 t6 ht7 with rfl | rfl
    · rw [if_pos kl, if_neg (show ¬ (6 : Int32) = 7 by decide), if_pos rfl, (whole6 x).1]
    · rw [if_pos rfl]
      by_cases k6 : k < 6
      · rw [if_pos k6, if_neg (k_lt6 k6).1, (whole7 x).1]
      · rw [if_neg k6]
        rcases k_ge6 k6 hk7 with rfl | rfl
        · obtain ⟨s, z, hs, hz, rfl⟩ := val6 hx
          rw [if_pos rfl, ofReal76 hs hz, lN_i, (wide_is hs (lt31 hz)).1]
        · exact absurd rfl c
theorem wid_val6 {k : Int32} {x : Int64} (hk1 : ¬ k < 1) (hkt : ¬ 6 < k) (hx : ¬ fX3_hasBits k x = 0) : ∃ s z : Nat, s ≤ 1 ∧ z ≤ INF32 ∧ fX3_widened x k 6 = lN (s * 2 ^ 31 + z) := by
  rw [fX3_widened, fX3_widened_0]
  by_cases c : k = 6
  · rw [if_pos c]; rw [c] at hx; exact val6 hx
  · have h7 : ¬ 7 < k := by
      rw [Int32.lt_iff_toInt_lt] at hkt ⊢
      have e6 : (6 : Int32).toInt = 6 := rfl
      have e7 : (7 : Int32).toInt = 7 := rfl
      rw [e6] at hkt; rw [e7]; omega
    rw [if_neg c, if_neg hk1, if_neg h7, if_neg (show ¬ (6 : Int32) = 7 by decide), if_pos rfl, ← (whole6 x).1]
    obtain ⟨s, n, hs, hv⟩ := Wh_of x
    have hle := Nat.min_le_left INF32 (RZ 23 n 149)
    refine ⟨s, min INF32 (RZ 23 n 149), hs, hle, ?_⟩
    rw [ofWhole_is Kd6 hv, show min ((253 + 2) * 2 ^ 23) (RZ 23 n (- -149)) = min INF32 (RZ 23 n 149) from rfl, signed6 hs (lt31 hle)]
theorem wid_val7 {k : Int32} {x : Int64} (hk1 : ¬ k < 1) (hk7 : ¬ 7 < k) (hx : ¬ fX3_hasBits k x = 0) : ∃ s z : Nat, s ≤ 1 ∧ z ≤ INF64 ∧ fX3_widened x k 7 = lN (s * 2 ^ 63 + z) := by
  rw [fX3_widened, fX3_widened_0]
  by_cases c : k = 7
  · rw [if_pos c]; rw [c] at hx; exact val7 hx
  · rw [if_neg c, if_neg hk1, if_neg hk7, if_pos rfl]
    by_cases c6 : k = 6
    · rw [if_pos c6]; rw [c6] at hx
      obtain ⟨s, z, hs, hz, rfl⟩ := val6 hx
      exact ⟨s, Wd z, hs, Wd_le' hz, by rw [lN_i, (wide_is hs (lt31 hz)).1]⟩
    · rw [if_neg c6]
      obtain ⟨s, n, hs, hv⟩ := Wh_of x
      exact ⟨s, min INF64 (RZ 52 n 1074), hs, Nat.min_le_left _ _, (of_is hv).1⟩
theorem are_eq (k : Int32) (x : Int64) (o : Int32) (y : Int64) (f : Int32) : fX3_areNumbers k x o y f = (fX1_areNumbers k x o y, f) := by
  rw [fX3_areNumbers, fX3_areNumbers_0, fX1_areNumbers, fX1_areNumbers_0, isNum_eq, isNum_eq, has_eq, has_eq]
  by_cases c1 : fX3_isNumber k = 0
  · rw [if_pos c1, if_pos c1]
  rw [if_neg c1, if_neg c1]
  by_cases c2 : fX3_isNumber o = 0
  · rw [if_pos c2, if_pos c2]
  rw [if_neg c2, if_neg c2]
  by_cases c3 : fX3_hasBits k x = 0
  · rw [if_pos c3, if_pos c3]
  rw [if_neg c3, if_neg c3]
  by_cases c4 : fX3_hasBits o y = 0
  · rw [if_pos c4, if_pos c4]
  · rw [if_neg c4, if_neg c4]
theorem are_ne {k o : Int32} {x y : Int64} (h : ¬ fX1_areNumbers k x o y = 0) : (¬ k < 1 ∧ ¬ 7 < k) ∧ (¬ o < 1 ∧ ¬ 7 < o) ∧ ¬ fX3_hasBits k x = 0 ∧ ¬ fX3_hasBits o y = 0 := by
  rw [fX1_areNumbers, fX1_areNumbers_0, isNum_eq, isNum_eq, has_eq, has_eq] at h
  by_cases c1 : fX3_isNumber k = 0
  · rw [if_pos c1] at h; exact absurd rfl h
  rw [if_neg c1] at h
  by_cases c2 : fX3_isNumber o = 0
  · rw [if_pos c2] at h; exact absurd rfl h
  rw [if_neg c2] at h
  by_cases c3 : fX3_hasBits k x = 0
  · rw [if_pos c3] at h; exact absurd rfl h
  rw [if_neg c3] at h
  by_cases c4 : fX3_hasBits o y = 0
  · rw [if_pos c4] at h; exact absurd rfl h
  exact ⟨num_ne c1, num_ne c2, c3, c4⟩
theorem are_ok (k : Int32) (x : Int64) (o : Int32) (y : Int64) (f : Int32) : okX3_areNumbers k x o y f := by
  rw [okX3_areNumbers, okX3_areNumbers_0]
  exact ⟨fun _ => trivial, fun _ => ⟨fun _ => trivial, fun _ => ⟨has_ok _ _, fun _ => trivial, fun _ => ⟨has_ok _ _, fun _ => trivial, fun _ => trivial⟩⟩⟩⟩
theorem T_compare (k : Int32) (x : Int64) (o : Int32) (y : Int64) (f : Int32) : fX1_compare k x o y f = fX3_compare k x o y f := by
  rw [fX1_compare, fX1_compare_0, fX3_compare, fX3_compare_0, are_eq]
  by_cases c : fX1_areNumbers k x o y = 0
  · rw [if_pos c, if_pos c]; rfl
  · rw [if_neg c, if_neg c, fX3_compare_19, if_neg (show ¬ (0 : Int32) < 0 by decide)]
    obtain ⟨⟨k1, k7⟩, ⟨o1, o7⟩, hx, hy⟩ := are_ne c
    obtain ⟨t4, t7, tk, to⟩ := wk_facts k7 o7
    rw [fX1_compare_32, fX1_compare_41, fX1_compare_52, fX3_compare_43, fX3_compare_52, fX3_compare_63, fX1_workKind, fX1_workKind_0]
    generalize imax 4 (imax k o) = t at *
    rw [wid_eq k1 k7 t4 t7 tk hx, wid_eq o1 o7 t4 t7 to hy]
    by_cases t6 : t < 6
    · rw [if_pos t6, if_pos t6, side_is, jcmp_is]
    · rw [if_neg t6, if_neg t6, side_is]
      rcases k_ge6 t6 t7 with rfl | rfl
      · obtain ⟨s, z, hs, hz, e1⟩ := wid_val6 k1 tk hx
        obtain ⟨s', z', hs', hz', e2⟩ := wid_val6 o1 to hy
        rw [e1, e2, if_pos rfl, place_is Ks6 hs (lt31 hz), place_is Ks6 hs' (lt31 hz'), lN_i, lN_i, (wide_is hs (lt31 hz)).1, (wide_is hs' (lt31 hz')).1, cmpd_is hs (Wd_lt (lt31 hz)) hs' (Wd_lt (lt31 hz')), sgi_Wd1 hz hz']
      · obtain ⟨s, z, hs, hz, e1⟩ := wid_val7 k1 k7 hx
        obtain ⟨s', z', hs', hz', e2⟩ := wid_val7 o1 o7 hy
        rw [e1, e2, if_neg (show ¬ (7 : Int32) = 6 by decide), place_is Ks7 hs (lt63 hz), place_is Ks7 hs' (lt63 hz'), cmpd_is hs (lt63 hz) hs' (lt63 hz')]
theorem O_compare (k : Int32) (x : Int64) (o : Int32) (y : Int64) (f : Int32) : okX3_compare k x o y f := by
  have h19 : ∀ s1 g : Int32, okX3_compare_19 k x o y s1 g := fun s1 g => by
    rw [okX3_compare_19, okX3_compare_43, okX3_compare_52, okX3_compare_63]
    exact ⟨fun _ => trivial, fun _ => ⟨widened_ok _ _ _, widened_ok _ _ _, fun _ => trivial, fun _ => ⟨fun _ => ⟨wide_ok _, wide_ok _, trivial⟩, fun _ => trivial⟩⟩⟩
  rw [okX3_compare, okX3_compare_0]
  exact ⟨are_ok _ _ _ _ _, fun _ => h19 _ _, fun _ => h19 _ _⟩
