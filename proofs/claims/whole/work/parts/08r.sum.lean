/-! sums -/
theorem Sg_even {fb z : Nat} : Sg fb z * 2 ^ 9 = Mg fb z * 2 ^ (52 - (Mg fb z).log2) * 2 ^ 9 := rfl
/-- what is known of a finite number that isn't 0, moved up to 53 bits -/
theorem Eg_bounds {fb z : Nat} {em : Int} (hem : -1074 ≤ em) (hem2 : em ≤ 0) (hx : Xp fb z ≤ 2046) : -1200 ≤ Eg fb em z ∧ Eg fb em z ≤ 2100 := by
  unfold Eg; omega
/-- the second number of a sum in the grid of the first, E - 9 -/
def tt (S2 : Nat) (by' : Nat) : Nat := HJ (S2 * 2 ^ 9) by'
theorem tt_le {S2 b : Nat} (h : S2 < 2 ^ 53) : tt S2 b < 2 ^ 62 ∧ (1 ≤ b → tt S2 b ≤ 2 ^ 61) := by
  unfold tt
  have h1 := HJ_le (A := S2 * 2 ^ 9) (q := b)
  have h2 : S2 * 2 ^ 9 / 2 ^ b ≤ S2 * 2 ^ 9 := Nat.div_le_self _ _
  constructor
  · by_cases c : b = 0
    · rw [c, HJ_0]; omega
    · have h3 : S2 * 2 ^ 9 / 2 ^ b ≤ S2 * 2 ^ 9 / 2 ^ 1 := Nat.div_le_div_left (Nat.pow_le_pow_right (by omega) (by omega)) (by decide)
      omega
  · intro hb
    have h3 : S2 * 2 ^ 9 / 2 ^ b ≤ S2 * 2 ^ 9 / 2 ^ 1 := Nat.div_le_div_left (Nat.pow_le_pow_right (by omega) (by omega)) (by decide)
    omega
theorem tt_even {S2 b : Nat} (h : S2 < 2 ^ 53) (hst : ¬ (S2 * 2 ^ 8) % 2 ^ b = 0) : 9 ≤ b := by
  apply Nat.le_of_not_lt
  intro hb
  apply hst
  have : S2 * 2 ^ 8 = S2 * 2 ^ (8 - b) * 2 ^ b := by rw [Nat.mul_assoc, ← Nat.pow_add]; congr 2; omega
  rw [this, Nat.mul_mod_left]
theorem tt_split (S2 b : Nat) : tt S2 b = 2 * (S2 * 2 ^ 8 / 2 ^ b) + if (S2 * 2 ^ 8) % 2 ^ b = 0 then 0 else 1 := by
  unfold tt HJ
  rw [show S2 * 2 ^ 9 = S2 * 2 ^ 8 * 2 by omega, show (2 : Nat) ^ (b + 1) = 2 ^ b * 2 from rfl, Nat.mul_div_mul_right _ _ (by decide), Nat.mul_mod_mul_right]
  congr 1
  by_cases h : (S2 * 2 ^ 8) % 2 ^ b = 0
  · rw [if_pos h, if_pos (by omega)]
  · rw [if_neg h, if_neg (by omega)]
def sumRes (sb INF fb s1 s2 S1 S2 b : Nat) (w : Int) : Int64 :=
  if s1 = s2 then lN (s1 * 2 ^ sb + min INF (RD fb (S1 * 2 ^ 9 + tt S2 b) w)) else if S1 * 2 ^ 9 = tt S2 b then 0 else lN (s1 * 2 ^ sb + min INF (RD fb (S1 * 2 ^ 9 - tt S2 b) w))
theorem lt_2 {a b : Nat} (h : a ≤ b) : 2 ^ a ≤ 2 ^ b := Nat.pow_le_pow_right (by omega) h
set_option maxRecDepth 20000 in
theorem refAdd_core {s1 s2 b S1 S2 : Nat} {E1 E2 : Int} {D1 D2 : Int64} (hs1 : s1 ≤ 1) (hs2 : s2 ≤ 1) (q1 : D1 < 0 ↔ s1 = 1) (q2 : D2 < 0 ↔ s2 = 1)
    (e1 : fX2_exponent D1 = iI E1) (e1o : okX2_exponent D1) (e2 : fX2_exponent D2 = iI E2) (e2o : okX2_exponent D2) (g1 : fX2_significand D1 = lN S1) (g1o : okX2_significand D1) (g2 : fX2_significand D2 = lN S2) (g2o : okX2_significand D2)
    (a1 : 2 ^ 52 ≤ S1) (a2 : S1 < 2 ^ 53) (a3 : 2 ^ 52 ≤ S2) (a4 : S2 < 2 ^ 53) (c1 : -1200 ≤ E1) (c2 : E1 ≤ 1000) (c3 : -1200 ≤ E2) (c4 : E2 ≤ 1000) (hb : (b : Int) = E1 - E2) (hb0 : b = 0 → S2 ≤ S1) :
    fX2_add_115 D1 D2 = sumRes 63 INF64 52 s1 s2 S1 S2 b (E1 + 1065) ∧ okX2_add_115 D1 D2 := by
  rw [fX2_add_115, fX2_add_127, fX2_add_140, fX2_add_150, okX2_add_115, okX2_add_127, okX2_add_140, okX2_add_150, e1, e2, g1, g2]
  have ee : iI E1 - (8 : Int32) = iI (E1 - 8) := by rw [show (8 : Int32) = iI 8 from by decide, iI_sub]
  have eb : iI E1 - iI E2 = nI b := by rw [iI_sub, nI_iI]; congr 1; omega
  have em1 : jshl (lN S1) (8 : Int32) = lN (S1 * 2 ^ 8) := jshl_lN S1 (k := 8) (by decide)
  have em2 : jshl (lN S2) (8 : Int32) = lN (S2 * 2 ^ 8) := jshl_lN S2 (k := 8) (by decide)
  rw [ee, eb, em1, em2]
  have hsp := tt_split S2 b
  have htt := tt_le (b := b) a4
  -- what stands behind the shift
  have core : ∀ st : Nat, st = (if (S2 * 2 ^ 8) % 2 ^ b = 0 then 0 else 1) → fX2_add_201 D1 D2 (iI (E1 - 8)) (lN (S1 * 2 ^ 8)) (lN (S2 * 2 ^ 8 / 2 ^ b)) (nI st) = sumRes 63 INF64 52 s1 s2 S1 S2 b (E1 + 1065) ∧ okX2_add_201 D1 D2 (iI (E1 - 8)) (lN (S1 * 2 ^ 8)) (lN (S2 * 2 ^ 8 / 2 ^ b)) (nI st) := by
    intro st hst
    rw [← hst] at hsp
    have hst1 : st ≤ 1 := by rw [hst]; split <;> omega
    have hq : (nI st = 0) ↔ st = 0 := nI_eq (b := 0) (by omega) (by decide)
    have h9b : st = 1 → 9 ≤ b := by
      intro h; refine tt_even a4 ?_
      intro h0; rw [if_pos h0] at hst; omega
    have hn8 : S2 * 2 ^ 8 / 2 ^ b ≤ S2 * 2 ^ 8 := Nat.div_le_self _ _
    have hn8' : 1 ≤ b → S2 * 2 ^ 8 / 2 ^ b ≤ S2 * 2 ^ 8 / 2 ^ 1 := fun h => Nat.div_le_div_left (lt_2 h) (by decide)
    have hn9 : 9 ≤ b → S2 * 2 ^ 8 / 2 ^ b ≤ S2 * 2 ^ 8 / 2 ^ 9 := fun h => Nat.div_le_div_left (lt_2 h) (by decide)
    have hn0 : b = 0 → S2 * 2 ^ 8 / 2 ^ b = S2 * 2 ^ 8 := fun h => by rw [h, Nat.pow_zero, Nat.div_one]
    generalize hN : S2 * 2 ^ 8 / 2 ^ b = N at *
    -- signs
    have f227 : fX2_add_227 D1 (iI (E1 - 8)) (lN (S1 * 2 ^ 8)) (lN N) (nI st) (nI s1) (nI s2) = sumRes 63 INF64 52 s1 s2 S1 S2 b (E1 + 1065) ∧ okX2_add_227 D1 (iI (E1 - 8)) (lN (S1 * 2 ^ 8)) (lN N) (nI st) (nI s1) (nI s2) := by
      have qs : (nI s1 = nI s2) ↔ s1 = s2 := nI_eq (by omega) (by omega)
      rw [fX2_add_227, okX2_add_227]
      unfold sumRes
      by_cases cs : s1 = s2
      · rw [if_pos (qs.mpr cs), if_pos cs]
        obtain ⟨m1, m2⟩ := made_is (s := s1) (m := S1 * 2 ^ 8 + N) (st := st) (e := E1 - 8) hs1 (by omega) (by omega) hst1 (fun _ => by omega) (by omega) (by omega)
        rw [show 2 * (S1 * 2 ^ 8 + N) + st = S1 * 2 ^ 9 + tt S2 b by omega, show E1 - 8 + 1073 = E1 + 1065 by omega] at m1
        have f242 : fX2_add_242 (iI (E1 - 8)) (lN (S1 * 2 ^ 8)) (lN N) (nI st) (nI s1) = lN (s1 * 2 ^ 63 + min INF64 (RD 52 (S1 * 2 ^ 9 + tt S2 b) (E1 + 1065))) := by
          rw [fX2_add_242, lN_add]; exact m1
        have o242 : okX2_add_242 (iI (E1 - 8)) (lN (S1 * 2 ^ 8)) (lN N) (nI st) (nI s1) := by
          rw [okX2_add_242, lN_add]; exact ⟨m2, trivial⟩
        refine ⟨?_, fun _ => ?_, fun h => absurd (qs.mpr cs) h⟩
        · by_cases c : s1 = 1
          · rw [if_pos (q1.mpr c)]; rw [c] at f242 ⊢; exact f242
          · have c0 : s1 = 0 := by omega
            rw [if_neg (fun h => c (q1.mp h))]; rw [c0] at f242 ⊢; exact f242
        · by_cases c : s1 = 1
          · rw [c] at o242; exact ⟨fun _ => o242, fun h => absurd (q1.mpr c) h⟩
          · have c0 : s1 = 0 := by omega
            rw [c0] at o242; exact ⟨fun h => absurd (q1.mp h) c, fun _ => o242⟩
      · rw [if_neg (fun h => cs (qs.mp h)), if_neg cs]
        have hsub : N ≤ S1 * 2 ^ 8 := by
          by_cases c : b = 0
          · have := hn0 c; have := hb0 c; omega
          · have := hn8' (by omega); omega
        have hst2 : st = 1 → N + 1 + 2 ^ 53 ≤ S1 * 2 ^ 8 := by
          intro h; have := hn9 (h9b h); omega
        have hle : N + st ≤ S1 * 2 ^ 8 := by
          rcases (show st = 0 ∨ st = 1 by omega) with h | h
          · omega
          · have := hst2 h; omega
        have e18 : lN (S1 * 2 ^ 8) - lN N - (nI st).toInt64 = lN (S1 * 2 ^ 8 - N - st) := by
          rw [nI_toInt64 (by omega), lN_sub hsub, lN_sub (by omega)]
        have ej : 2 * (S1 * 2 ^ 8 - N - st) + st = S1 * 2 ^ 9 - tt S2 b := by omega
        have q18 : (lN (S1 * 2 ^ 8 - N - st) = 0) ↔ S1 * 2 ^ 8 - N - st = 0 := lN_inj (b := 0) (by omega) (by decide)
        have f274 : fX2_add_274 D1 (iI (E1 - 8)) (nI st) (lN (S1 * 2 ^ 8 - N - st)) = (if S1 * 2 ^ 9 = tt S2 b then 0 else lN (s1 * 2 ^ 63 + min INF64 (RD 52 (S1 * 2 ^ 9 - tt S2 b) (E1 + 1065)))) ∧ okX2_add_274 D1 (iI (E1 - 8)) (nI st) (lN (S1 * 2 ^ 8 - N - st)) := by
          rw [fX2_add_274, okX2_add_274]
          by_cases cz : S1 * 2 ^ 8 - N - st = 0
          · have c0 : st = 0 := by
              rcases (show st = 0 ∨ st = 1 by omega) with h | h
              · exact h
              · have := hst2 h; omega
            rw [if_pos (q18.mpr cz), if_pos (hq.mpr c0), if_pos (show S1 * 2 ^ 9 = tt S2 b by omega)]
            exact ⟨rfl, fun _ => ⟨fun _ => trivial, fun h => absurd (hq.mpr c0) h⟩, fun h => absurd (q18.mpr cz) h⟩
          · rw [if_neg (fun h => cz (q18.mp h)), if_neg (show ¬ S1 * 2 ^ 9 = tt S2 b by omega)]
            obtain ⟨m1, m2⟩ := made_is (s := s1) (m := S1 * 2 ^ 8 - N - st) (st := st) (e := E1 - 8) hs1 (by omega) (by omega) hst1 (fun h => by have := hst2 h; omega) (by omega) (by omega)
            rw [ej, show E1 - 8 + 1073 = E1 + 1065 by omega] at m1
            have f290 : fX2_add_290 D1 (iI (E1 - 8)) (nI st) (lN (S1 * 2 ^ 8 - N - st)) = lN (s1 * 2 ^ 63 + min INF64 (RD 52 (S1 * 2 ^ 9 - tt S2 b) (E1 + 1065))) ∧ okX2_add_290 D1 (iI (E1 - 8)) (nI st) (lN (S1 * 2 ^ 8 - N - st)) := by
              rw [fX2_add_290, okX2_add_290, fX2_add_302, fX2_add_302, okX2_add_302, okX2_add_302]
              by_cases c : s1 = 1
              · rw [if_pos (q1.mpr c)]; rw [c] at m1 m2 ⊢; exact ⟨m1, fun _ => ⟨m2, trivial⟩, fun h => absurd (q1.mpr c) h⟩
              · have c0 : s1 = 0 := by omega
                rw [if_neg (fun h => c (q1.mp h))]; rw [c0] at m1 m2 ⊢; exact ⟨m1, fun h => absurd (q1.mp h) c, fun _ => ⟨m2, trivial⟩⟩
            exact ⟨f290.1, fun h => absurd (q18.mp h) cz, fun _ => f290.2⟩
        have f270 : ∀ k : Int32, k = nI st → fX2_add_270 D1 (iI (E1 - 8)) (nI st) (lN (S1 * 2 ^ 8) - lN N) k = fX2_add_274 D1 (iI (E1 - 8)) (nI st) (lN (S1 * 2 ^ 8 - N - st)) := by
          intro k hk; rw [fX2_add_270, hk, e18]
        have o270 : ∀ k : Int32, k = nI st → okX2_add_270 D1 (iI (E1 - 8)) (nI st) (lN (S1 * 2 ^ 8) - lN N) k := by
          intro k hk; rw [okX2_add_270, hk, e18]; exact f274.2
        refine ⟨?_, fun h => absurd (qs.mp h) cs, fun _ => ⟨fun h => o270 0 h.symm, fun h => o270 1 ?_⟩⟩
        · by_cases c0 : st = 0
          · rw [if_pos (hq.mpr c0), f270 0 (hq.mpr c0).symm, f274.1]
          · have c1 : st = 1 := by omega
            rw [if_neg (fun h => c0 (hq.mp h)), f270 1 (by rw [c1]; rfl), f274.1]
        · have c1 : st = 1 := by
            have : ¬ st = 0 := fun h0 => h (hq.mpr h0)
            omega
          rw [c1]; rfl
    have f215 : ∀ k : Int32, k = nI s1 → fX2_add_215 D1 D2 (iI (E1 - 8)) (lN (S1 * 2 ^ 8)) (lN N) (nI st) k = sumRes 63 INF64 52 s1 s2 S1 S2 b (E1 + 1065) ∧ okX2_add_215 D1 D2 (iI (E1 - 8)) (lN (S1 * 2 ^ 8)) (lN N) (nI st) k := by
      intro k hk
      rw [fX2_add_215, okX2_add_215, hk]
      by_cases c : s2 = 1
      · have e : (1 : Int32) = nI s2 := by rw [c]; rfl
        rw [if_pos (q2.mpr c), e]
        exact ⟨f227.1, fun _ => f227.2, fun h => absurd (q2.mpr c) h⟩
      · have e : nI s2 = (0 : Int32) := by rw [show s2 = 0 by omega]; rfl
        rw [if_neg (fun h => c (q2.mp h))]
        rw [e] at f227
        exact ⟨f227.1, fun h => absurd (q2.mp h) c, fun _ => f227.2⟩
    rw [fX2_add_201, okX2_add_201]
    by_cases c : s1 = 1
    · obtain ⟨k1, k2⟩ := f215 1 (by rw [c]; rfl)
      rw [if_pos (q1.mpr c)]
      exact ⟨k1, fun _ => k2, fun h => absurd (q1.mpr c) h⟩
    · obtain ⟨k1, k2⟩ := f215 0 (by rw [show s1 = 0 by omega]; rfl)
      rw [if_neg (fun h => c (q1.mp h))]
      exact ⟨k1, fun h => absurd (q1.mp h) c, fun _ => k2⟩
  have q62 : ((62 : Int32) < nI b) ↔ 62 < b := by
    rw [show (62 : Int32) = nI 62 from rfl]; exact nI_ltI (by decide) (by omega)
  refine (fun (K : fX2_add_160 D1 D2 (iI (E1 - 8)) (nI b) (lN (S1 * 2 ^ 8)) (lN (S2 * 2 ^ 8)) = sumRes 63 INF64 52 s1 s2 S1 S2 b (E1 + 1065) ∧ okX2_add_160 D1 D2 (iI (E1 - 8)) (nI b) (lN (S1 * 2 ^ 8)) (lN (S2 * 2 ^ 8))) => ⟨K.1, e1o, e1o, e2o, g1o, g2o, K.2⟩) ?_
  rw [fX2_add_160, okX2_add_160]
  by_cases cb : 62 < b
  · have hp : 2 ^ 63 ≤ 2 ^ b := lt_2 (by omega)
    have hN0 : S2 * 2 ^ 8 / 2 ^ b = 0 := Nat.div_eq_of_lt (by omega)
    have hM0 : (S2 * 2 ^ 8) % 2 ^ b = S2 * 2 ^ 8 := Nat.mod_eq_of_lt (by omega)
    obtain ⟨k1, k2⟩ := core 1 (by rw [hM0, if_neg (by omega)])
    rw [hN0] at k1 k2
    have f176 : fX2_add_176 D1 D2 (iI (E1 - 8)) (nI b) (lN (S1 * 2 ^ 8)) (lN (S2 * 2 ^ 8)) 0 = sumRes 63 INF64 52 s1 s2 S1 S2 b (E1 + 1065) ∧ okX2_add_176 D1 D2 (iI (E1 - 8)) (nI b) (lN (S1 * 2 ^ 8)) (lN (S2 * 2 ^ 8)) 0 := by
      rw [fX2_add_176, okX2_add_176, if_pos (q62.mpr cb), fX2_add_196, okX2_add_196]
      exact ⟨k1, fun _ => k2, fun h => absurd (q62.mpr cb) h⟩
    rw [if_pos (q62.mpr cb)]
    exact ⟨f176.1, fun _ => f176.2, fun h => absurd (q62.mpr cb) h⟩
  · have ej : jushr (lN (S2 * 2 ^ 8)) (nI b) = lN (S2 * 2 ^ 8 / 2 ^ b) := jushr_lN (by omega) (by omega)
    rw [if_neg (fun h => cb (q62.mp h)), ej]
    have hd := Nat.div_add_mod (S2 * 2 ^ 8) (2 ^ b)
    have hdl : S2 * 2 ^ 8 / 2 ^ b * 2 ^ b ≤ S2 * 2 ^ 8 := Nat.div_mul_le_self _ _
    have hcx : S2 * 2 ^ 8 / 2 ^ b * 2 ^ b = S2 * 2 ^ 8 ↔ (S2 * 2 ^ 8) % 2 ^ b = 0 := by rw [Nat.mul_comm]; omega
    have f176 : fX2_add_176 D1 D2 (iI (E1 - 8)) (nI b) (lN (S1 * 2 ^ 8)) (lN (S2 * 2 ^ 8)) (lN (S2 * 2 ^ 8 / 2 ^ b)) = sumRes 63 INF64 52 s1 s2 S1 S2 b (E1 + 1065) ∧ okX2_add_176 D1 D2 (iI (E1 - 8)) (nI b) (lN (S1 * 2 ^ 8)) (lN (S2 * 2 ^ 8)) (lN (S2 * 2 ^ 8 / 2 ^ b)) := by
      rw [fX2_add_176, okX2_add_176, if_neg (fun h => cb (q62.mp h)), fX2_add_196, okX2_add_196, jshl_lN _ (by omega)]
      have qj := (lN_inj (a := S2 * 2 ^ 8 / 2 ^ b * 2 ^ b) (b := S2 * 2 ^ 8) (by omega) (by omega)).trans hcx
      by_cases c0 : (S2 * 2 ^ 8) % 2 ^ b = 0
      · obtain ⟨k1, k2⟩ := core 0 (by rw [if_pos c0])
        rw [if_pos (qj.mpr c0)]
        exact ⟨k1, fun h => absurd (q62.mp h) cb, fun _ => ⟨fun _ => k2, fun h => absurd (qj.mpr c0) h⟩⟩
      · obtain ⟨k1, k2⟩ := core 1 (by rw [if_neg c0])
        rw [if_neg (fun h => c0 (qj.mp h))]
        exact ⟨k1, fun h => absurd (q62.mp h) cb, fun _ => ⟨fun h => absurd (qj.mp h) c0, fun _ => k2⟩⟩
    exact ⟨f176.1, fun h => absurd (q62.mp h) cb, fun _ => f176.2⟩
theorem refAdd {s1 s2 Z1 Z2 b : Nat} (hs1 : s1 ≤ 1) (hs2 : s2 ≤ 1) (h1 : 0 < Z1) (hZ1 : Z1 < INF64) (h2 : 0 < Z2) (hZ2 : Z2 < INF64) (hb : (b : Int) = Eg 52 (-1074) Z1 - Eg 52 (-1074) Z2) (hb0 : b = 0 → Sg 52 Z2 ≤ Sg 52 Z1) :
    fX2_add_115 (lN (s1 * 2 ^ 63 + Z1)) (lN (s2 * 2 ^ 63 + Z2)) = sumRes 63 INF64 52 s1 s2 (Sg 52 Z1) (Sg 52 Z2) b (Eg 52 (-1074) Z1 + 1065) ∧ okX2_add_115 (lN (s1 * 2 ^ 63 + Z1)) (lN (s2 * 2 ^ 63 + Z2)) := by
  have hz1 : Z1 < 2 ^ 63 := lt63 (Nat.le_of_lt hZ1)
  have hz2 : Z2 < 2 ^ 63 := lt63 (Nat.le_of_lt hZ2)
  obtain ⟨e1, e1o⟩ := expd_is hs1 h1 hZ1
  obtain ⟨e2, e2o⟩ := expd_is hs2 h2 hZ2
  obtain ⟨g1, g1o⟩ := sigd_is hs1 h1 hZ1
  obtain ⟨g2, g2o⟩ := sigd_is hs2 h2 hZ2
  obtain ⟨a1, a2⟩ := Sg_bounds (fb := 52) (by omega) h1
  obtain ⟨a3, a4⟩ := Sg_bounds (fb := 52) (by omega) h2
  obtain ⟨c1, c2⟩ := Eg52_bounds hZ1
  obtain ⟨c3, c4⟩ := Eg52_bounds hZ2
  exact refAdd_core hs1 hs2 (d_lt0 hs1 hz1) (d_lt0 hs2 hz2) e1 e1o e2 e2o g1 g1o g2 g2o a1 a2 a3 a4 c1 c2 c3 c4 hb hb0
