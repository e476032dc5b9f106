/-! arithmetic -/
theorem div_m1 (x : Int64) : x / (-1 : Int64) = -x := by
  apply Int64.toInt_inj.mp
  rw [Int64.toInt_div, show (-1 : Int64).toInt = -1 from rfl, Int64.toInt_neg, Int.tdiv_neg, Int.tdiv_one]
theorem jrem_m1 (x : Int64) : jrem x (-1 : Int64) = 0 := by
  unfold jrem
  rw [div_m1, Int64.neg_mul, Int64.mul_neg, Int64.mul_one, Int64.neg_neg, Int64.sub_self]
theorem what_of {k : Int32} (h1 : ¬ k < 1) (h2 : ¬ 5 < k) : k = 1 ∨ k = 2 ∨ k = 3 ∨ k = 4 ∨ k = 5 := by
  have e1 : (1 : Int32).toInt = 1 := rfl
  have e5 : (5 : Int32).toInt = 5 := rfl
  rw [Int32.lt_iff_toInt_lt, e1] at h1
  rw [Int32.lt_iff_toInt_lt, e5] at h2
  have f : ∀ (n : Int) (m : Int32), m.toInt = n → k.toInt = n → k = m := fun n m h h' => Int32.toInt_inj.mp (h'.trans h.symm)
  rcases (show k.toInt = 1 ∨ k.toInt = 2 ∨ k.toInt = 3 ∨ k.toInt = 4 ∨ k.toInt = 5 by omega) with h | h | h | h | h
  · exact Or.inl (f 1 1 rfl h)
  · exact Or.inr (Or.inl (f 2 2 rfl h))
  · exact Or.inr (Or.inr (Or.inl (f 3 3 rfl h)))
  · exact Or.inr (Or.inr (Or.inr (Or.inl (f 4 4 rfl h))))
  · exact Or.inr (Or.inr (Or.inr (Or.inr (f 5 5 rfl h))))
theorem nar_109 {t : Int32} (v : Int64) (f : Int32) (h4 : ¬ t < 4) : (fX1_narrowed t v, f) = fX3_whole_109 t v f := by
  rw [fX1_narrowed, fX1_narrowed_0, fX3_whole_109, if_neg (show ¬ t = 1 from fun h => h4 (by rw [h]; decide)), if_neg (show ¬ t = 2 from fun h => h4 (by rw [h]; decide)), if_neg (show ¬ t = 3 from fun h => h4 (by rw [h]; decide))]
  by_cases c : t = 4
  · rw [if_pos c, if_pos c]
  · rw [if_neg c, if_neg c]
theorem whole_eq {w t : Int32} {x y : Int64} (f : Int32) (h1 : ¬ w < 1) (h5 : ¬ 5 < w) (h4 : ¬ t < 4) : fX1_workWhole w t x y f = fX3_whole w t x y f := by
  rw [fX1_workWhole, fX1_workWhole_0, fX3_whole, fX3_whole_0, fX3_whole_20, fX3_whole_31, fX3_whole_45, fX3_whole_59, fX3_whole_85, fX3_whole_85, fX3_whole_107, fX3_whole_107]
  rcases what_of h1 h5 with rfl | rfl | rfl | rfl | rfl
  · exact nar_109 _ f h4
  · exact nar_109 _ f h4
  · exact nar_109 _ f h4
  · rw [if_neg (show ¬ (4 : Int32) = 1 by decide), if_neg (show ¬ (4 : Int32) = 2 by decide), if_neg (show ¬ (4 : Int32) = 3 by decide), if_pos rfl, if_pos (show (3 : Int32) < 4 by decide), if_neg (show ¬ (4 : Int32) = 1 by decide), if_neg (show ¬ (4 : Int32) = 2 by decide), if_neg (show ¬ (4 : Int32) = 3 by decide), if_pos rfl]
    by_cases c : y = 0
    · rw [if_pos c, if_pos c]; rfl
    · rw [if_neg c, if_neg c]
      by_cases c1 : y = -1
      · rw [if_pos c1, c1, div_m1]; exact nar_109 _ f h4
      · rw [if_neg c1]; exact nar_109 _ f h4
  · rw [if_neg (show ¬ (5 : Int32) = 1 by decide), if_neg (show ¬ (5 : Int32) = 2 by decide), if_neg (show ¬ (5 : Int32) = 3 by decide), if_neg (show ¬ (5 : Int32) = 4 by decide), if_pos (show (3 : Int32) < 5 by decide), if_neg (show ¬ (5 : Int32) = 1 by decide), if_neg (show ¬ (5 : Int32) = 2 by decide), if_neg (show ¬ (5 : Int32) = 3 by decide), if_neg (show ¬ (5 : Int32) = 4 by decide)]
    by_cases c : y = 0
    · rw [if_pos c, if_pos c]; rfl
    · rw [if_neg c, if_neg c]
      by_cases c1 : y = -1
      · rw [if_pos c1, c1, jrem_m1]; exact nar_109 _ f h4
      · rw [if_neg c1]; exact nar_109 _ f h4
theorem whole_ok {w t : Int32} {x y : Int64} (f : Int32) (h1 : ¬ w < 1) (h5 : ¬ 5 < w) : okX3_whole w t x y f := by
  rw [okX3_whole, okX3_whole_0, okX3_whole_20]
  rcases what_of h1 h5 with rfl | rfl | rfl | rfl | rfl
  · exact ⟨fun h => absurd h (by decide), fun _ => ⟨fun _ => trivial, fun h => absurd rfl h⟩⟩
  · exact ⟨fun h => absurd h (by decide), fun _ => ⟨fun _ => trivial, fun _ => ⟨fun _ => trivial, fun h => absurd rfl h⟩⟩⟩
  · exact ⟨fun h => absurd h (by decide), fun _ => ⟨fun _ => trivial, fun _ => ⟨fun _ => trivial, fun _ => ⟨fun _ => trivial, fun h => absurd rfl h⟩⟩⟩⟩
  · exact ⟨fun _ => ⟨fun _ => trivial, fun h0 => ⟨fun _ => trivial, fun _ => ⟨fun _ => trivial, fun _ => ⟨fun _ => trivial, fun _ => ⟨fun _ => ⟨fun _ => trivial, fun _ => ⟨h0, trivial⟩⟩, fun h => absurd rfl h⟩⟩⟩⟩⟩, fun h => absurd (show (3 : Int32) < 4 by decide) h⟩
  · exact ⟨fun _ => ⟨fun _ => trivial, fun h0 => ⟨fun _ => trivial, fun _ => ⟨fun _ => trivial, fun _ => ⟨fun _ => trivial, fun _ => ⟨fun h => absurd h (by decide), fun _ => ⟨fun _ => trivial, fun _ => ⟨h0, trivial⟩⟩⟩⟩⟩⟩⟩, fun h => absurd (show (3 : Int32) < 5 by decide) h⟩
theorem add_ok {s1 s2 z1 z2 : Nat} (hs1 : s1 ≤ 1) (hs2 : s2 ≤ 1) (hz1 : z1 ≤ INF64) (hz2 : z2 ≤ INF64) : okX2_add (lN (s1 * 2 ^ 63 + z1)) (lN (s2 * 2 ^ 63 + z2)) := by
  by_cases c : z1 = INF64
  · rw [okX2_add, okX2_add_0, infd_is hs1 (lt63 hz1), if_pos c]; exact ⟨fun h => absurd h (by decide), fun _ => trivial⟩
  · exact (sum7 hs1 hs2 hz1 hz2 (fun h => c h.1)).2.1
theorem negd {s z : Nat} (hs : s ≤ 1) (hz : z ≤ INF64) : fX2_negative (lN (s * 2 ^ 63 + z)) = lN ((1 - s) * 2 ^ 63 + z) := by
  rw [fX2_negative, fX2_negative_0, show (-9223372036854775808 : Int64) = lN (2 ^ 63) from by decide, lN_xor, nat_xor_pow hs (lt63 hz)]
theorem ok162 {w : Int32} {x y z : Int64} {v f : Int32} (ha : okX2_add x z) (hm : okX2_multiply x y) (hd : okX2_divide x y) (hr : v = 0 → ¬ w < 3 → ¬ w = 3 → ¬ w = 4 → okX3_rest x y) : okX3_floating_162 w x y z v f := by
  rw [okX3_floating_162]
  exact ⟨fun h0 => ⟨fun _ => ⟨ha, trivial⟩, fun h3 => ⟨fun _ => ⟨hm, trivial⟩, fun h4 => ⟨fun _ => ⟨hd, trivial⟩, fun h5 => ⟨hr h0 h3 h4 h5, trivial⟩⟩⟩⟩, fun _ => trivial⟩
theorem ok28 {w : Int32} {x y z : Int64} {v6 v7 f : Int32} (ha : okX2_add x z) (hm : okX2_multiply x y) (hd : okX2_divide x y) (hr : v6 = 0 → fX2_isZero y = 0 → okX3_rest x y) : okX3_floating_28 w x y v6 v7 z f := by
  rw [okX3_floating_28]
  refine ⟨fun h3 => ?_, fun h3 => ⟨fun e3 => ?_, fun e3 => ⟨fun e4 => ?_, fun e4 => ?_⟩⟩⟩
  · have A : ∀ v, okX3_floating_162 w x y z v f := fun v => ok162 ha hm hd (fun _ h => absurd h3 h)
    exact ⟨fun _ => A 0, fun _ => ⟨fun _ => A 0, fun _ => ⟨fun _ => A 0, fun _ => A 1⟩⟩⟩
  · have A : ∀ v, okX3_floating_162 w x y z v f := fun v => ok162 ha hm hd (fun _ _ h => absurd e3 h)
    exact ⟨fun _ => ⟨fun _ => A 0, fun _ => ⟨fun _ => A 0, fun _ => A 1⟩⟩, fun _ => ⟨fun _ => ⟨fun _ => A 0, fun _ => ⟨fun _ => A 0, fun _ => A 1⟩⟩, fun _ => A 1⟩⟩
  · have A : ∀ v, okX3_floating_162 w x y z v f := fun v => ok162 ha hm hd (fun _ _ _ h => absurd e4 h)
    exact ⟨fun _ => ⟨fun _ => A 0, fun _ => ⟨fun _ => A 0, fun _ => A 1⟩⟩, fun _ => ⟨fun _ => ⟨fun _ => A 0, fun _ => ⟨fun _ => A 0, fun _ => A 1⟩⟩, fun _ => A 1⟩⟩
  · have B : okX3_floating_162 w x y z 1 f := ok162 ha hm hd (fun h => absurd h (by decide))
    exact ⟨fun a => ⟨fun b => ok162 ha hm hd (fun _ _ _ _ => hr a b), fun _ => B⟩, fun _ => B⟩
theorem floating_ok {s1 s2 z1 z2 : Nat} (w f : Int32) (hs1 : s1 ≤ 1) (hs2 : s2 ≤ 1) (hz1 : z1 ≤ INF64) (hz2 : z2 ≤ INF64) : okX3_floating w (lN (s1 * 2 ^ 63 + z1)) (lN (s2 * 2 ^ 63 + z2)) f := by
  rw [okX3_floating, okX3_floating_0, okX3_floating_6, okX3_floating_13, infd_is hs1 (lt63 hz1), negd hs2 hz2]
  have hr : (if z1 = INF64 then (1 : Int32) else 0) = 0 → fX2_isZero (lN (s2 * 2 ^ 63 + z2)) = 0 → okX3_rest (lN (s1 * 2 ^ 63 + z1)) (lN (s2 * 2 ^ 63 + z2)) := by
    intro a b
    rw [zerod_is hs2 (lt63 hz2)] at b
    have c1 : ¬ z1 = INF64 := fun h => by rw [if_pos h] at a; exact absurd a (by decide)
    have c2 : ¬ z2 = 0 := fun h => by rw [if_pos h] at b; exact absurd b (by decide)
    exact (rest_val hs1 hs2 (by omega) (by omega) hz2).2
  have hm := (mul_val hs1 hs2 hz1 hz2).2
  have hd := (div_val hs1 hs2 hz1 hz2).2
  exact ⟨fun _ => ok28 (add_ok hs1 (by omega) hz1 hz2) hm hd hr, fun _ => ok28 (add_ok hs1 hs2 hz1 hz2) hm hd hr⟩
theorem dbl_eq {s1 s2 z1 z2 : Nat} (hs1 : s1 ≤ 1) (hs2 : s2 ≤ 1) (hz1 : z1 ≤ INF64) (hz2 : z2 ≤ INF64) : lN (s1 * 2 ^ 63 + z1) = lN (s2 * 2 ^ 63 + z2) ↔ s1 = s2 ∧ z1 = z2 := by
  have l1 := lt63 hz1
  have l2 := lt63 hz2
  rw [lN_inj (d_u hs1 l1) (d_u hs2 l2)]
  omega
theorem fl28 {w : Int32} {s1 s2 z1 z2 : Nat} {y : Int64} (hw : w < 3) (hs1 : s1 ≤ 1) (hs2 : s2 ≤ 1) (hz1 : z1 ≤ INF64) (hz2 : z2 ≤ INF64) :
    fX3_floating_28 w (lN (s1 * 2 ^ 63 + z1)) y (if z1 = INF64 then 1 else 0) (if z2 = INF64 then 1 else 0) (lN (s2 * 2 ^ 63 + z2)) 0 = if z1 = INF64 ∧ z2 = INF64 ∧ s1 ≠ s2 then (0, 8) else (fX2_add (lN (s1 * 2 ^ 63 + z1)) (lN (s2 * 2 ^ 63 + z2)), 0) := by
  have n1 : ¬ (1 : Int32) = 0 := by decide
  have g0 : fX3_floating_162 w (lN (s1 * 2 ^ 63 + z1)) y (lN (s2 * 2 ^ 63 + z2)) 0 0 = (fX2_add (lN (s1 * 2 ^ 63 + z1)) (lN (s2 * 2 ^ 63 + z2)), 0) := by
    rw [fX3_floating_162, if_pos rfl, if_pos hw]
  have q := dbl_eq hs1 hs2 hz1 hz2
  rw [fX3_floating_28, if_pos hw, fX3_floating_56, fX3_floating_57, fX3_floating_57, g0]
  by_cases c1 : z1 = INF64
  · rw [if_pos c1, if_neg n1]
    by_cases c2 : z2 = INF64
    · rw [if_pos c2, if_neg n1]
      by_cases c3 : s1 = s2
      · rw [if_pos (q.mpr ⟨c3, by omega⟩), if_neg (fun h => h.2.2 c3)]
      · rw [if_neg (fun h => c3 (q.mp h).1), if_pos ⟨c1, c2, c3⟩, fX3_floating_162, if_neg n1]
    · rw [if_neg c2, if_pos rfl, if_neg (fun h => c2 h.2.1)]
  · rw [if_neg c1, if_pos rfl, if_neg (fun h => c1 h.1)]
theorem fl1 {s1 s2 z1 z2 : Nat} (hs1 : s1 ≤ 1) (hs2 : s2 ≤ 1) (hz1 : z1 ≤ INF64) (hz2 : z2 ≤ INF64) :
    fX3_floating 1 (lN (s1 * 2 ^ 63 + z1)) (lN (s2 * 2 ^ 63 + z2)) 0 = if z1 = INF64 ∧ z2 = INF64 ∧ s1 ≠ s2 then (0, 8) else (fX2_add (lN (s1 * 2 ^ 63 + z1)) (lN (s2 * 2 ^ 63 + z2)), 0) := by
  rw [fX3_floating, fX3_floating_0, fX3_floating_6, fX3_floating_13, if_neg (show ¬ (1 : Int32) = 2 by decide), infd_is hs1 (lt63 hz1), infd_is hs2 (lt63 hz2), fl28 (by decide) hs1 hs2 hz1 hz2]
theorem fl2 {s1 s2 z1 z2 : Nat} (hs1 : s1 ≤ 1) (hs2 : s2 ≤ 1) (hz1 : z1 ≤ INF64) (hz2 : z2 ≤ INF64) :
    fX3_floating 2 (lN (s1 * 2 ^ 63 + z1)) (lN (s2 * 2 ^ 63 + z2)) 0 = if z1 = INF64 ∧ z2 = INF64 ∧ s1 ≠ 1 - s2 then (0, 8) else (fX2_add (lN (s1 * 2 ^ 63 + z1)) (lN ((1 - s2) * 2 ^ 63 + z2)), 0) := by
  rw [fX3_floating, fX3_floating_0, fX3_floating_6, fX3_floating_13, if_pos rfl, infd_is hs1 (lt63 hz1), infd_is hs2 (lt63 hz2), negd hs2 hz2, fl28 (by decide) hs1 (by omega) hz1 hz2]
theorem fl3 {s1 s2 z1 z2 : Nat} (hs1 : s1 ≤ 1) (hs2 : s2 ≤ 1) (hz1 : z1 ≤ INF64) (hz2 : z2 ≤ INF64) :
    fX3_floating 3 (lN (s1 * 2 ^ 63 + z1)) (lN (s2 * 2 ^ 63 + z2)) 0 = if (z1 = INF64 ∨ z2 = INF64) ∧ (z1 = 0 ∨ z2 = 0) then (0, 8) else (fX2_multiply (lN (s1 * 2 ^ 63 + z1)) (lN (s2 * 2 ^ 63 + z2)), 0) := by
  have n1 : ¬ (1 : Int32) = 0 := by decide
  have hI : INF64 = 2047 * 2 ^ 52 := rfl
  have g0 : ∀ v, fX3_floating_162 3 (lN (s1 * 2 ^ 63 + z1)) (lN (s2 * 2 ^ 63 + z2)) v 0 0 = (fX2_multiply (lN (s1 * 2 ^ 63 + z1)) (lN (s2 * 2 ^ 63 + z2)), 0) := fun v => rfl
  have g1 : ∀ v, fX3_floating_162 3 (lN (s1 * 2 ^ 63 + z1)) (lN (s2 * 2 ^ 63 + z2)) v 1 0 = (0, 8) := fun v => rfl
  rw [fX3_floating, fX3_floating_0, fX3_floating_6, fX3_floating_13, if_neg (show ¬ (3 : Int32) = 2 by decide), fX3_floating_28, if_neg (show ¬ (3 : Int32) < 3 by decide), if_pos rfl, fX3_floating_80, fX3_floating_96, fX3_floating_92, fX3_floating_97, fX3_floating_97, g0, g1, infd_is hs1 (lt63 hz1), infd_is hs2 (lt63 hz2), zerod_is hs1 (lt63 hz1), zerod_is hs2 (lt63 hz2)]
  by_cases c1 : z1 = INF64
  · rw [if_pos c1, if_neg n1]
    by_cases c2 : z2 = 0
    · rw [if_pos c2, if_neg n1, if_pos ⟨Or.inl c1, Or.inr c2⟩]
    · rw [if_neg c2, if_pos rfl, if_neg (show ¬ z1 = 0 by omega), if_pos rfl, if_neg (show ¬ ((z1 = INF64 ∨ z2 = INF64) ∧ (z1 = 0 ∨ z2 = 0)) by omega)]
      by_cases c3 : z2 = INF64
      · rw [if_pos c3, if_neg n1]
      · rw [if_neg c3, if_pos rfl]
  · rw [if_neg c1, if_pos rfl]
    by_cases c2 : z2 = INF64
    · rw [if_pos c2, if_neg n1]
      by_cases c3 : z1 = 0
      · rw [if_pos c3, if_neg n1, if_pos ⟨Or.inr c2, Or.inl c3⟩]
      · rw [if_neg c3, if_pos rfl, if_neg (show ¬ ((z1 = INF64 ∨ z2 = INF64) ∧ (z1 = 0 ∨ z2 = 0)) by omega)]
    · rw [if_neg c2, if_pos rfl, if_neg (show ¬ ((z1 = INF64 ∨ z2 = INF64) ∧ (z1 = 0 ∨ z2 = 0)) by omega)]
theorem fl4 {s1 s2 z1 z2 : Nat} (hs1 : s1 ≤ 1) (hs2 : s2 ≤ 1) (hz1 : z1 ≤ INF64) (hz2 : z2 ≤ INF64) :
    fX3_floating 4 (lN (s1 * 2 ^ 63 + z1)) (lN (s2 * 2 ^ 63 + z2)) 0 = if (z1 = INF64 ∧ z2 = INF64) ∨ (z1 = 0 ∧ z2 = 0) then (0, 8) else (fX2_divide (lN (s1 * 2 ^ 63 + z1)) (lN (s2 * 2 ^ 63 + z2)), 0) := by
  have n1 : ¬ (1 : Int32) = 0 := by decide
  have hI : INF64 = 2047 * 2 ^ 52 := rfl
  have g0 : ∀ v, fX3_floating_162 4 (lN (s1 * 2 ^ 63 + z1)) (lN (s2 * 2 ^ 63 + z2)) v 0 0 = (fX2_divide (lN (s1 * 2 ^ 63 + z1)) (lN (s2 * 2 ^ 63 + z2)), 0) := fun v => rfl
  have g1 : ∀ v, fX3_floating_162 4 (lN (s1 * 2 ^ 63 + z1)) (lN (s2 * 2 ^ 63 + z2)) v 1 0 = (0, 8) := fun v => rfl
  rw [fX3_floating, fX3_floating_0, fX3_floating_6, fX3_floating_13, if_neg (show ¬ (4 : Int32) = 2 by decide), fX3_floating_28, if_neg (show ¬ (4 : Int32) < 3 by decide), if_neg (show ¬ (4 : Int32) = 3 by decide), if_pos rfl, fX3_floating_117, fX3_floating_136, fX3_floating_132, fX3_floating_137, fX3_floating_137, g0, g1, infd_is hs1 (lt63 hz1), infd_is hs2 (lt63 hz2), zerod_is hs1 (lt63 hz1), zerod_is hs2 (lt63 hz2)]
  by_cases c1 : z1 = INF64
  · rw [if_pos c1, if_neg n1]
    by_cases c2 : z2 = INF64
    · rw [if_pos c2, if_neg n1, if_pos (Or.inl ⟨c1, c2⟩)]
    · rw [if_neg c2, if_pos rfl, if_neg (show ¬ z1 = 0 by omega), if_pos rfl, if_neg (show ¬ ((z1 = INF64 ∧ z2 = INF64) ∨ (z1 = 0 ∧ z2 = 0)) by omega)]
  · rw [if_neg c1, if_pos rfl]
    by_cases c2 : z1 = 0
    · rw [if_pos c2, if_neg n1]
      by_cases c3 : z2 = 0
      · rw [if_pos c3, if_neg n1, if_pos (Or.inr ⟨c2, c3⟩)]
      · rw [if_neg c3, if_pos rfl, if_neg (show ¬ ((z1 = INF64 ∧ z2 = INF64) ∨ (z1 = 0 ∧ z2 = 0)) by omega)]
    · rw [if_neg c2, if_pos rfl, if_neg (show ¬ ((z1 = INF64 ∧ z2 = INF64) ∨ (z1 = 0 ∧ z2 = 0)) by omega)]
theorem fl5 {s1 s2 z1 z2 : Nat} (hs1 : s1 ≤ 1) (hs2 : s2 ≤ 1) (hz1 : z1 ≤ INF64) (hz2 : z2 ≤ INF64) :
    fX3_floating 5 (lN (s1 * 2 ^ 63 + z1)) (lN (s2 * 2 ^ 63 + z2)) 0 = if z1 = INF64 ∨ z2 = 0 then (0, 8) else (fX3_rest (lN (s1 * 2 ^ 63 + z1)) (lN (s2 * 2 ^ 63 + z2)), 0) := by
  have n1 : ¬ (1 : Int32) = 0 := by decide
  have g0 : ∀ v, fX3_floating_162 5 (lN (s1 * 2 ^ 63 + z1)) (lN (s2 * 2 ^ 63 + z2)) v 0 0 = (fX3_rest (lN (s1 * 2 ^ 63 + z1)) (lN (s2 * 2 ^ 63 + z2)), 0) := fun v => rfl
  have g1 : ∀ v, fX3_floating_162 5 (lN (s1 * 2 ^ 63 + z1)) (lN (s2 * 2 ^ 63 + z2)) v 1 0 = (0, 8) := fun v => rfl
  rw [fX3_floating, fX3_floating_0, fX3_floating_6, fX3_floating_13, if_neg (show ¬ (5 : Int32) = 2 by decide), fX3_floating_28, if_neg (show ¬ (5 : Int32) < 3 by decide), if_neg (show ¬ (5 : Int32) = 3 by decide), if_neg (show ¬ (5 : Int32) = 4 by decide), fX3_floating_155, fX3_floating_160, fX3_floating_160, g0, g1, infd_is hs1 (lt63 hz1), zerod_is hs2 (lt63 hz2)]
  by_cases c1 : z1 = INF64
  · rw [if_pos c1, if_neg n1, if_pos (Or.inl c1)]
  · rw [if_neg c1, if_pos rfl]
    by_cases c2 : z2 = 0
    · rw [if_pos c2, if_neg n1, if_pos (Or.inr c2)]
    · rw [if_neg c2, if_pos rfl, if_neg (show ¬ (z1 = INF64 ∨ z2 = 0) by omega)]
