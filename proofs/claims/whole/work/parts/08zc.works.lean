theorem r93_nan {k : Int32} {v : Int64} (h : fX0_isNumber k v = 0) : fX1_workReal_93 k v 0 = (0, 8) := by
  rw [fX1_workReal_93, if_pos h]; rfl
theorem comb7 {P : Prop} [Decidable P] {v r : Int64} (h1 : P → v = fX0_notANumber 7) (h2 : ¬ P → v = r ∧ D7 r) : fX1_workReal_93 7 v 0 = if P then (0, 8) else (r, 0) := by
  by_cases c : P
  · rw [if_pos c, h1 c]; exact r93_nan (by decide)
  · obtain ⟨e, s, z, hs, hz, e2⟩ := h2 c
    rw [if_neg c, e, fX1_workReal_93, if_neg]
    rw [e2, isValue7 hs (lt63 hz), if_pos hz]; decide
theorem comb6 {P : Prop} [Decidable P] {v r : Int64} (h1 : P → v = fX0_notANumber 6) (h2 : ¬ P → v = r ∧ D6 v) : fX1_workReal_93 6 v 0 = if P then (0, 8) else (r, 0) := by
  by_cases c : P
  · rw [if_pos c, h1 c]; exact r93_nan (by decide)
  · obtain ⟨e, s, z, hs, hz, e2⟩ := h2 c
    rw [if_neg c, ← e, fX1_workReal_93, if_neg]
    rw [e2, isValue6 hs (lt31 hz), if_pos hz]; decide
theorem w128_7 {P : Prop} [Decidable P] {r : Int64} : fX3_work_128 7 (if P then ((0 : Int64), (8 : Int32)) else (r, 0)).1 (if P then ((0 : Int64), (8 : Int32)) else (r, 0)).2 = if P then (0, 8) else (r, 0) := by
  by_cases c : P
  · simp only [if_pos c]; rfl
  · simp only [if_neg c]; rfl
theorem w128_6 {P : Prop} [Decidable P] {r : Int64} : fX3_work_128 6 (if P then ((0 : Int64), (8 : Int32)) else (r, 0)).1 (if P then ((0 : Int64), (8 : Int32)) else (r, 0)).2 = if P then (0, 8) else ((fX2_narrow r).toInt64 &&& (4294967295 : Int64), 0) := by
  by_cases c : P
  · simp only [if_pos c]; rfl
  · simp only [if_neg c]; rfl
theorem okw {P : Prop} [Decidable P] {r : Int64} (k : Int32) (h : ¬ P → D7 r) : okX3_work_128 k (if P then ((0 : Int64), (8 : Int32)) else (r, 0)).1 (if P then ((0 : Int64), (8 : Int32)) else (r, 0)).2 := by
  by_cases c : P
  · simp only [if_pos c]; exact ⟨fun _ => trivial, fun h => absurd (by decide) h⟩
  · simp only [if_neg c]
    obtain ⟨s, z, hs, hz, e⟩ := h c
    refine ⟨fun _ => trivial, fun _ => ⟨fun _ => ⟨?_, trivial⟩, fun _ => trivial⟩⟩
    rw [e]; exact (narrow_is hs hz).2
theorem csum_nan {kind : Int32} {sb fb ga s1 s2 z1 z2 : Nat} {em : Int} (K : Ks kind sb) (F : Kd kind fb em ga) (hI : (ga + 2) * 2 ^ fb < 2 ^ sb) (hs1 : s1 ≤ 1) (hs2 : s2 ≤ 1) (h : z1 = (ga + 2) * 2 ^ fb ∧ z2 = (ga + 2) * 2 ^ fb ∧ s1 ≠ s2) : fX0_sum kind (lN (s1 * 2 ^ sb + z1)) (lN (s2 * 2 ^ sb + z2)) = fX0_notANumber kind := by
  obtain ⟨h1, h2, h3⟩ := h
  have l1 : z1 < 2 ^ sb := by omega
  have l2 : z2 < 2 ^ sb := by omega
  have n1 : ¬ (1 : Int32) = 0 := by decide
  have u1 := sz_lt hs1 l1
  have u2 := sz_lt hs2 l2
  have h64 : 2 ^ (sb + 1) ≤ 2 ^ 64 := lt_2 (by have := K.2.1; omega)
  have q : ¬ lN (s1 * 2 ^ sb + z1) = lN (s2 * 2 ^ sb + z2) := by
    rw [lN_inj (by omega) (by omega)]
    have := sz_mod (s := s1) l1
    rcases (show (s1 = 0 ∧ s2 = 1) ∨ (s1 = 1 ∧ s2 = 0) by omega) with ⟨a, b⟩ | ⟨a, b⟩ <;> rw [a, b] <;> omega
  rw [fX0_sum, fX0_sum_0, inf_is K F hs1 l1, inf_is K F hs2 l2, if_pos h1, if_pos h2, if_neg n1, if_neg n1, if_neg q]
theorem real7 {w : Int32} {s1 s2 z1 z2 : Nat} (h1 : ¬ w < 1) (h5 : ¬ 5 < w) (hs1 : s1 ≤ 1) (hs2 : s2 ≤ 1) (hz1 : z1 ≤ INF64) (hz2 : z2 ≤ INF64) :
    fX1_workReal w 7 (lN (s1 * 2 ^ 63 + z1)) (lN (s2 * 2 ^ 63 + z2)) 0 = fX3_work_128 7 (fX3_floating w (lN (s1 * 2 ^ 63 + z1)) (lN (s2 * 2 ^ 63 + z2)) 0).1 (fX3_floating w (lN (s1 * 2 ^ 63 + z1)) (lN (s2 * 2 ^ 63 + z2)) 0).2 := by
  rw [fX1_workReal, fX1_workReal_0]
  rcases what_of h1 h5 with rfl | rfl | rfl | rfl | rfl
  · rw [fl1 hs1 hs2 hz1 hz2, w128_7, if_pos rfl, fX1_workReal_41]
    exact comb7 (fun h => csum_nan Ks7 Kd7 (by decide) hs1 hs2 h) (fun h => ⟨(sum7 hs1 hs2 hz1 hz2 h).1, (sum7 hs1 hs2 hz1 hz2 h).2.2⟩)
  · rw [fl2 hs1 hs2 hz1 hz2, w128_7, if_neg (show ¬ (2 : Int32) = 1 by decide), if_pos rfl, fX1_workReal_57, negated_is Ks7 hs2 (lt63 hz2)]
    exact comb7 (fun h => csum_nan Ks7 Kd7 (by decide) hs1 (by omega) h) (fun h => ⟨(sum7 hs1 (by omega) hz1 hz2 h).1, (sum7 hs1 (by omega) hz1 hz2 h).2.2⟩)
  · rw [fl3 hs1 hs2 hz1 hz2, w128_7, if_neg (show ¬ (3 : Int32) = 1 by decide), if_neg (show ¬ (3 : Int32) = 2 by decide), if_pos rfl, fX1_workReal_69]
    refine comb7 (fun h => ?_) (fun h => prod7 hs1 hs2 hz1 hz2 h)
    rw [cmul_val Ks7 Kd7 (by decide) (by decide) hs1 hs2 (show z1 ≤ (2045 + 2) * 2 ^ 52 from hz1) (show z2 ≤ (2045 + 2) * 2 ^ 52 from hz2), show (2045 + 2) * 2 ^ 52 = INF64 from rfl, if_pos h.1, if_pos h.2]
  · rw [fl4 hs1 hs2 hz1 hz2, w128_7, if_neg (show ¬ (4 : Int32) = 1 by decide), if_neg (show ¬ (4 : Int32) = 2 by decide), if_neg (show ¬ (4 : Int32) = 3 by decide), if_pos rfl, fX1_workReal_81]
    refine comb7 (fun h => ?_) (fun h => quot7 hs1 hs2 hz1 hz2 h)
    rw [cdiv_val Ks7 Kd7 (by decide) (by decide) hs1 hs2 (show z1 ≤ (2045 + 2) * 2 ^ 52 from hz1) (show z2 ≤ (2045 + 2) * 2 ^ 52 from hz2), show (2045 + 2) * 2 ^ 52 = INF64 from rfl, if_pos h]
  · rw [fl5 hs1 hs2 hz1 hz2, w128_7, if_neg (show ¬ (5 : Int32) = 1 by decide), if_neg (show ¬ (5 : Int32) = 2 by decide), if_neg (show ¬ (5 : Int32) = 3 by decide), if_neg (show ¬ (5 : Int32) = 4 by decide)]
    refine comb7 (fun h => ?_) (fun h => rest7 hs1 hs2 hz1 hz2 h)
    rw [crest_val Ks7 Kd7 (by decide) (by decide) hs1 hs2 (show z1 ≤ (2045 + 2) * 2 ^ 52 from hz1) (show z2 ≤ (2045 + 2) * 2 ^ 52 from hz2), show (2045 + 2) * 2 ^ 52 = INF64 from rfl, if_pos h]
theorem real_ok {w : Int32} {s1 s2 z1 z2 : Nat} (k : Int32) (h1 : ¬ w < 1) (h5 : ¬ 5 < w) (hs1 : s1 ≤ 1) (hs2 : s2 ≤ 1) (hz1 : z1 ≤ INF64) (hz2 : z2 ≤ INF64) :
    okX3_work_128 k (fX3_floating w (lN (s1 * 2 ^ 63 + z1)) (lN (s2 * 2 ^ 63 + z2)) 0).1 (fX3_floating w (lN (s1 * 2 ^ 63 + z1)) (lN (s2 * 2 ^ 63 + z2)) 0).2 := by
  rcases what_of h1 h5 with rfl | rfl | rfl | rfl | rfl
  · rw [fl1 hs1 hs2 hz1 hz2]; exact okw k (fun h => (sum7 hs1 hs2 hz1 hz2 h).2.2)
  · rw [fl2 hs1 hs2 hz1 hz2]; exact okw k (fun h => (sum7 hs1 (by omega) hz1 hz2 h).2.2)
  · rw [fl3 hs1 hs2 hz1 hz2]; exact okw k (fun h => (prod7 hs1 hs2 hz1 hz2 h).2)
  · rw [fl4 hs1 hs2 hz1 hz2]; exact okw k (fun h => (quot7 hs1 hs2 hz1 hz2 h).2)
  · rw [fl5 hs1 hs2 hz1 hz2]; exact okw k (fun h => (rest7 hs1 hs2 hz1 hz2 h).2)
theorem real6 {w : Int32} {s1 s2 z1 z2 : Nat} (h1 : ¬ w < 1) (h5 : ¬ 5 < w) (hs1 : s1 ≤ 1) (hs2 : s2 ≤ 1) (hz1 : z1 ≤ INF32) (hz2 : z2 ≤ INF32) :
    fX1_workReal w 6 (lN (s1 * 2 ^ 31 + z1)) (lN (s2 * 2 ^ 31 + z2)) 0 = fX3_work_128 6 (fX3_floating w (lN (s1 * 2 ^ 63 + Wd z1)) (lN (s2 * 2 ^ 63 + Wd z2)) 0).1 (fX3_floating w (lN (s1 * 2 ^ 63 + Wd z1)) (lN (s2 * 2 ^ 63 + Wd z2)) 0).2 := by
  have qi1 := Wd_isinf (lt31 hz1)
  have qi2 := Wd_isinf (lt31 hz2)
  have q01 := Wd_zero (lt31 hz1)
  have q02 := Wd_zero (lt31 hz2)
  have w1 := Wd_le' hz1
  have w2 := Wd_le' hz2
  rw [fX1_workReal, fX1_workReal_0]
  rcases what_of h1 h5 with rfl | rfl | rfl | rfl | rfl
  · have e := fl1 hs1 hs2 w1 w2
    simp only [qi1, qi2] at e
    rw [e, w128_6, if_pos rfl, fX1_workReal_41]
    exact comb6 (fun h => csum_nan Ks6 Kd6 (by decide) hs1 hs2 h) (fun h => sum6 hs1 hs2 hz1 hz2 h)
  · have e := fl2 hs1 hs2 w1 w2
    simp only [qi1, qi2] at e
    rw [e, w128_6, if_neg (show ¬ (2 : Int32) = 1 by decide), if_pos rfl, fX1_workReal_57, negated_is Ks6 hs2 (lt31 hz2)]
    exact comb6 (fun h => csum_nan Ks6 Kd6 (by decide) hs1 (by omega) h) (fun h => sum6 hs1 (by omega) hz1 hz2 h)
  · have e := fl3 hs1 hs2 w1 w2
    simp only [qi1, qi2, q01, q02] at e
    rw [e, w128_6, if_neg (show ¬ (3 : Int32) = 1 by decide), if_neg (show ¬ (3 : Int32) = 2 by decide), if_pos rfl, fX1_workReal_69]
    refine comb6 (fun h => ?_) (fun h => prod6 hs1 hs2 hz1 hz2 h)
    rw [cmul_val Ks6 Kd6 (by decide) (by decide) hs1 hs2 (show z1 ≤ (253 + 2) * 2 ^ 23 from hz1) (show z2 ≤ (253 + 2) * 2 ^ 23 from hz2), show (253 + 2) * 2 ^ 23 = INF32 from rfl, if_pos h.1, if_pos h.2]
  · have e := fl4 hs1 hs2 w1 w2
    simp only [qi1, qi2, q01, q02] at e
    rw [e, w128_6, if_neg (show ¬ (4 : Int32) = 1 by decide), if_neg (show ¬ (4 : Int32) = 2 by decide), if_neg (show ¬ (4 : Int32) = 3 by decide), if_pos rfl, fX1_workReal_81]
    refine comb6 (fun h => ?_) (fun h => quot6 hs1 hs2 hz1 hz2 h)
    rw [cdiv_val Ks6 Kd6 (by decide) (by decide) hs1 hs2 (show z1 ≤ (253 + 2) * 2 ^ 23 from hz1) (show z2 ≤ (253 + 2) * 2 ^ 23 from hz2), show (253 + 2) * 2 ^ 23 = INF32 from rfl, if_pos h]
  · have e := fl5 hs1 hs2 w1 w2
    simp only [qi1, q02] at e
    rw [e, w128_6, if_neg (show ¬ (5 : Int32) = 1 by decide), if_neg (show ¬ (5 : Int32) = 2 by decide), if_neg (show ¬ (5 : Int32) = 3 by decide), if_neg (show ¬ (5 : Int32) = 4 by decide)]
    refine comb6 (fun h => ?_) (fun h => rest6 hs1 hs2 hz1 hz2 h)
    rw [crest_val Ks6 Kd6 (by decide) (by decide) hs1 hs2 (show z1 ≤ (253 + 2) * 2 ^ 23 from hz1) (show z2 ≤ (253 + 2) * 2 ^ 23 from hz2), show (253 + 2) * 2 ^ 23 = INF32 from rfl, if_pos h]
theorem T_work (w k : Int32) (x : Int64) (o : Int32) (y : Int64) (f : Int32) : fX1_work w k x o y f = fX3_work w k x o y f := by
  rw [fX1_work, fX1_work_0, fX3_work, fX3_work_0, are_eq]
  by_cases h1 : w < 1
  · rw [if_pos h1, if_pos h1]; rfl
  rw [if_neg h1, if_neg h1]
  by_cases h5 : 5 < w
  · rw [if_pos h5, if_pos h5]; rfl
  rw [if_neg h5, if_neg h5]
  by_cases c : fX1_areNumbers k x o y = 0
  · rw [if_pos c, if_pos c]; rfl
  · rw [if_neg c, if_neg c, fX3_work_29, if_neg (show ¬ (0 : Int32) < 0 by decide)]
    obtain ⟨⟨k1, k7⟩, ⟨o1, o7⟩, hx, hy⟩ := are_ne c
    obtain ⟨t4, t7, tk, to⟩ := wk_facts k7 o7
    rw [fX1_work_43, fX1_work_52, fX1_work_63, fX3_work_53, fX3_work_62, fX3_work_73, fX1_workKind, fX1_workKind_0]
    generalize imax 4 (imax k o) = t at *
    rw [wid_eq k1 k7 t4 t7 tk hx, wid_eq o1 o7 t4 t7 to hy]
    by_cases t6 : t < 6
    · rw [if_pos t6, if_pos t6, whole_eq 0 h1 h5 t4]
    · rw [if_neg t6, if_neg t6]
      rcases k_ge6 t6 t7 with rfl | rfl
      · obtain ⟨s, z, hs, hz, e1⟩ := wid_val6 k1 tk hx
        obtain ⟨s', z', hs', hz', e2⟩ := wid_val6 o1 to hy
        rw [e1, e2, if_pos rfl, lN_i, lN_i, (wide_is hs (lt31 hz)).1, (wide_is hs' (lt31 hz')).1]
        exact real6 h1 h5 hs hs' hz hz'
      · obtain ⟨s, z, hs, hz, e1⟩ := wid_val7 k1 k7 hx
        obtain ⟨s', z', hs', hz', e2⟩ := wid_val7 o1 o7 hy
        rw [e1, e2, if_neg (show ¬ (7 : Int32) = 6 by decide)]
        exact real7 h1 h5 hs hs' hz hz'
theorem O_work (w k : Int32) (x : Int64) (o : Int32) (y : Int64) (f : Int32) : okX3_work w k x o y f := by
  rw [okX3_work, okX3_work_0, are_eq]
  have a28 : ∀ g : Int32, okX3_work_28 w k x o y g := fun g => ⟨fun _ => trivial, fun h => absurd (by decide) h⟩
  refine ⟨fun _ => a28 f, fun h1 => ⟨fun _ => a28 f, fun h5 => ⟨are_ok k x o y f, fun _ => a28 f, fun c => ?_⟩⟩⟩
  obtain ⟨⟨k1, k7⟩, ⟨o1, o7⟩, hx, hy⟩ := are_ne c
  obtain ⟨t4, t7, tk, to⟩ := wk_facts k7 o7
  refine ⟨fun _ => trivial, fun _ => ?_⟩
  rw [okX3_work_53, okX3_work_62, okX3_work_73]
  generalize imax 4 (imax k o) = t at *
  refine ⟨widened_ok _ _ _, widened_ok _ _ _, fun _ => ⟨whole_ok 0 h1 h5, trivial⟩, fun t6 => ⟨fun e6 => ?_, fun n6 => ?_⟩⟩
  · subst e6
    obtain ⟨s, z, hs, hz, e1⟩ := wid_val6 k1 tk hx
    obtain ⟨s', z', hs', hz', e2⟩ := wid_val6 o1 to hy
    rw [e1, e2, lN_i, lN_i, (wide_is hs (lt31 hz)).1, (wide_is hs' (lt31 hz')).1]
    exact ⟨wide_ok _, wide_ok _, floating_ok w 0 hs hs' (Wd_le' hz) (Wd_le' hz'), real_ok 6 h1 h5 hs hs' (Wd_le' hz) (Wd_le' hz')⟩
  · have e7 : t = 7 := (k_ge6 t6 t7).resolve_left n6
    subst e7
    obtain ⟨s, z, hs, hz, e1⟩ := wid_val7 k1 k7 hx
    obtain ⟨s', z', hs', hz', e2⟩ := wid_val7 o1 o7 hy
    rw [e1, e2]
    exact ⟨floating_ok w 0 hs hs' hz hz', real_ok 7 h1 h5 hs hs' hz hz'⟩
theorem T_failed (f : Int32) : fX1_failed f = fX3_failed f := rfl
