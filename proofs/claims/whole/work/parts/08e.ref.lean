theorem iI_mul (a b : Int) : iI a * iI b = iI (a * b) := (Int32.ofInt_mul a b).symm
theorem rounded_loop (v3 v4 v5 : Int32) : ∀ (fuel m : Nat) (e : Int), 0 < m → m < 2 ^ 62 → 62 ≤ fuel + m.log2 → fX2_rounded_6 fuel v3 v4 v5 (lN m) (iI e) = fX2_rounded_27 v3 v4 v5 (lN (m * 2 ^ (61 - m.log2))) (iI (e - (61 - m.log2))) ∧ okX2_rounded_6 fuel v3 v4 v5 (lN m) (iI e) := by
  intro fuel
  induction fuel with
  | zero => intro m e h0 hm hf; have := log2_lt h0 hm; omega
  | succ fuel ih =>
    intro m e h0 hm hf
    rw [fX2_rounded_6, okX2_rounded_6, show (2305843009213693952 : Int64) = lN (2 ^ 61) from rfl]
    have hq := lN_lt63 (show m < 2 ^ 63 by omega) (show 2 ^ 61 < 2 ^ 63 by decide)
    have hl := log2_lt h0 hm
    by_cases hc : m < 2 ^ 61
    · rw [if_pos (hq.mpr hc)]
      have hl1 := log2_lt h0 hc
      have e1 : jshl (lN m) (1 : Int32) = lN (m * 2 ^ 1) := jshl_lN m (k := 1) (by decide)
      have e2 : iI e + (-1 : Int32) = iI (e - 1) := by rw [show (-1 : Int32) = iI (-1) from by decide, iI_add]; congr 1
      have l2 := log2_shl h0 1
      rw [e1, e2]
      obtain ⟨h1, h2⟩ := ih (m * 2 ^ 1) (e - 1) (by omega) (by omega) (by omega)
      refine ⟨?_, fun _ => h2, fun h => absurd (hq.mpr hc) h⟩
      rw [h1, l2, Nat.mul_assoc, ← Nat.pow_add, show 1 + (61 - (m.log2 + 1)) = 61 - m.log2 by omega]
      congr 2
      omega
    · rw [if_neg (fun h => hc (hq.mp h))]
      have := log2_ge (show 2 ^ 61 ≤ m by omega)
      refine ⟨?_, fun h => absurd (hq.mp h) hc, fun _ => trivial⟩
      rw [show 61 - m.log2 = 0 by omega, Nat.pow_zero, Nat.mul_one]
      congr 2
      omega
/-- the reference's rounding of X, and a little more if st is 1, d bits dropped -/
def rst (X d st : Nat) : Nat := if 2 ^ (d - 1) < X % 2 ^ d ∨ (X % 2 ^ d = 2 ^ (d - 1) ∧ (st = 1 ∨ X / 2 ^ d % 2 = 1)) then X / 2 ^ d + 1 else X / 2 ^ d
theorem rst_0 {X d : Nat} (hd : 1 ≤ d) : rst X d 0 = rne X (2 ^ d) := by
  obtain ⟨k, rfl⟩ : ∃ k, d = k + 1 := ⟨d - 1, by omega⟩
  unfold rst rne
  have e : 2 ^ (k + 1) = 2 * 2 ^ k := by rw [Nat.pow_succ]; omega
  rw [show k + 1 - 1 = k from rfl]
  have h1 : (2 ^ k < X % 2 ^ (k + 1)) ↔ (2 ^ (k + 1) < 2 * (X % 2 ^ (k + 1))) := by omega
  have h2 : (X % 2 ^ (k + 1) = 2 ^ k) ↔ (2 * (X % 2 ^ (k + 1)) = 2 ^ (k + 1)) := by omega
  simp only [h1, h2, show ((0 : Nat) = 1) = False from by simp, false_or]
theorem rst_1 {m p g : Nat} : rst (m * 2 ^ p) (g + 1 + p) 1 = rne ((2 * m + 1) * 2 ^ p) (2 ^ (g + 1 + p + 1)) := by
  have hG := Nat.two_pow_pos g
  have hP := Nat.two_pow_pos p
  have hr := Nat.mod_lt m (show 0 < 2 * 2 ^ g by omega)
  have hqr := Nat.div_add_mod m (2 * 2 ^ g)
  have A := rne_in (q := m / (2 * 2 ^ g)) (P := 2 * 2 ^ p) (e := 2 ^ p) hr hP (by omega)
  rw [hqr, show m * (2 * 2 ^ p) + 2 ^ p = (2 * m + 1) * 2 ^ p by rw [Nat.add_mul, Nat.one_mul, Nat.mul_comm 2 m, Nat.mul_assoc],
    show 2 * 2 ^ g * (2 * 2 ^ p) = 2 ^ (g + 1 + p + 1) by rw [Nat.pow_succ, Nat.pow_add, Nat.pow_succ, Nat.mul_comm (2 ^ g) 2, Nat.mul_comm 2 (2 ^ p), Nat.mul_assoc, Nat.mul_assoc, Nat.mul_assoc]] at A
  rw [A]
  unfold rst
  have e1 : 2 ^ (g + 1 + p) = 2 * 2 ^ g * 2 ^ p := by rw [Nat.pow_add, Nat.pow_succ, Nat.mul_comm (2 ^ g) 2]
  have e2 : 2 ^ (g + 1 + p - 1) = 2 ^ g * 2 ^ p := by rw [show g + 1 + p - 1 = g + p by omega, Nat.pow_add]
  rw [e1, e2, Nat.mul_mod_mul_right, Nat.mul_div_mul_right _ _ hP]
  by_cases h : 2 ^ g ≤ m % (2 * 2 ^ g)
  · have := Nat.mul_le_mul_right (2 ^ p) h
    rw [if_pos h, if_pos]
    rcases Nat.lt_or_ge (2 ^ g * 2 ^ p) (m % (2 * 2 ^ g) * 2 ^ p) with q | q
    · exact Or.inl q
    · exact Or.inr ⟨by omega, Or.inl rfl⟩
  · have := Nat.mul_lt_mul_of_pos_right (show m % (2 * 2 ^ g) < 2 ^ g by omega) hP
    rw [if_neg h, if_neg (by omega)]
theorem rounded_82 {X st : Nat} {d : Int} (v4 v9 : Int32) (hX : X < 2 ^ 62) (hst : st ≤ 1) (hd : 1 ≤ d) (hd2 : d ≤ 62) : fX2_rounded_82 (nI st) v4 (lN X) v9 (iI d) = fX2_rounded_152 v4 v9 (lN (rst X d.toNat st)) := by
  rw [fX2_rounded_82, show (62 : Int32) = iI 62 from by decide, if_neg (fun q => by have := (iI_lt (by omega) (by omega) (by omega) (by omega)).mp q; omega)]
  obtain ⟨k, rfl⟩ : ∃ k : Nat, d = (k : Int) + 1 := ⟨(d - 1).toNat, by omega⟩
  rw [show ((k : Int) + 1).toNat = k + 1 by omega, show iI ((k : Int) + 1) = nI (k + 1) from by rw [nI_iI]; rfl]
  rw [fX2_rounded_98, fX2_rounded_109, fX2_rounded_117, fX2_rounded_146]
  rw [mask_lN (by omega) (by omega), jushr_lN (by omega) (by omega), show nI (k + 1) - 1 = nI k from nI_pred k, lN_one, jshl_lN _ (by omega), Nat.one_mul]
  have b1 : 2 ^ k < 2 ^ 63 := Nat.pow_lt_pow_right (by omega) (by omega)
  have b3 : X % 2 ^ (k + 1) < 2 ^ 63 := by have := Nat.mod_le X (2 ^ (k + 1)); omega
  have b4 : X / 2 ^ (k + 1) < 2 ^ 63 := by have := Nat.div_le_self X (2 ^ (k + 1)); omega
  have e3 : (lN (X / 2 ^ (k + 1)) &&& lN 1 = lN 1) ↔ X / 2 ^ (k + 1) % 2 = 1 := by
    rw [show lN (X / 2 ^ (k + 1)) &&& lN 1 = lN (X / 2 ^ (k + 1) % 2) from wb_a1 (by omega), lN_inj (by omega) (by omega)]
  have e4 : (nI st = 0) ↔ ¬ st = 1 := by
    rw [show (0 : Int32) = nI 0 from rfl, nI_eq (by omega) (by omega)]; omega
  unfold rst
  rw [show k + 1 - 1 = k from rfl]
  simp only [lN_lt63 b1 b3, lN_inj (show X % 2 ^ (k + 1) < 2 ^ 64 by omega) (show 2 ^ k < 2 ^ 64 by omega), e3, e4, lN_add]
  by_cases c1 : 2 ^ k < X % 2 ^ (k + 1)
  · rw [if_pos c1, if_pos (Or.inl c1)]
  · rw [if_neg c1]
    by_cases c2 : X % 2 ^ (k + 1) = 2 ^ k
    · rw [if_pos c2]
      by_cases c4 : st = 1
      · rw [if_neg (fun h => h c4), if_pos (Or.inr ⟨c2, Or.inl c4⟩)]
      · rw [if_pos c4]
        by_cases c3 : X / 2 ^ (k + 1) % 2 = 1
        · rw [if_pos c3, if_pos (Or.inr ⟨c2, Or.inr c3⟩)]
        · rw [if_neg c3, if_neg (fun h => h.elim c1 (fun h => h.2.elim c4 c3))]
    · rw [if_neg c2, if_neg (fun h => h.elim c1 (fun h => c2 h.1))]
theorem log2_2s {m st : Nat} (h0 : 0 < m) (hst : st ≤ 1) : (2 * m + st).log2 = m.log2 + 1 := by
  refine log2_is ?_ ?_
  · rw [Nat.pow_succ]; have := log2_lo h0; omega
  · rw [Nat.pow_succ]; have := log2_hi m; omega
/-- RD of a number and a little more, as the reference computes it -/
theorem RD_st {fb m st p d : Nat} {w : Int} (h0 : 0 < m) (hst : st ≤ 1) (hbig : st = 1 → 2 ^ (fb + 1) ≤ m) (hd1 : 1 ≤ d) (hd : (d : Int) = (w + m.log2 - fb).toNat - w + p) : RD fb (2 * m + st) (w - 1) = (w + m.log2 - fb).toNat * 2 ^ fb + rst (m * 2 ^ p) d st := by
  rcases (show st = 0 ∨ st = 1 by omega) with rfl | rfl
  · rw [rst_0 hd1, ← RD_eval h0 hd, Nat.add_zero, Nat.mul_comm 2 m, show m * 2 = m * 2 ^ 1 from rfl, RD_shift h0]
    congr 1; omega
  · have hlg := log2_ge (hbig rfl)
    have l2 := log2_2s (st := 1) h0 (by omega)
    obtain ⟨g, hg⟩ : ∃ g : Nat, d = g + 1 + p := ⟨d - 1 - p, by omega⟩
    rw [RD_eval (M := 2 * m + 1) (p := p) (d := d + 1) (by omega) (by rw [l2]; omega), hg, rst_1, l2]
    congr 2
    congr 1; omega
theorem rounded_is {fb bias m st : Nat} {e : Int} (hfb1 : 1 ≤ fb) (hfb2 : fb ≤ 52) (hbias : bias ≤ 1023) (h0 : 0 < m) (hm : m < 2 ^ 62) (hst : st ≤ 1) (hbig : st = 1 → 2 ^ (fb + 1) ≤ m) (he1 : -100000 ≤ e) (he2 : e ≤ 100000) :
    fX2_rounded (lN m) (iI e) (nI st) (nI (fb + 1)) (nI bias) = lN (min ((2 * bias + 1) * 2 ^ fb) (RD fb (2 * m + st) (e + bias + fb - 2))) ∧ okX2_rounded (lN m) (iI e) (nI st) (nI (fb + 1)) (nI bias) := by
  have hlg := log2_lt h0 hm
  have hhi := log2_hi m
  obtain ⟨q1, q2⟩ := rounded_loop (nI st) (nI (fb + 1)) (nI bias) 64 m e h0 hm (by omega)
  rw [fX2_rounded, fX2_rounded_0, okX2_rounded, okX2_rounded_0]
  refine ⟨?_, q2⟩
  rw [q1, fX2_rounded_27, fX2_rounded_37, fX2_rounded_45]
  have e9 : iI (e - (61 - m.log2)) + (61 : Int32) + nI bias = iI (e + m.log2 + bias) := by
    rw [nI_iI, show (61 : Int32) = iI 61 from by decide, iI_add, iI_add]; congr 1; omega
  have e10 : (2 : Int32) * nI bias + (1 : Int32) = nI (2 * bias + 1) := by
    rw [show (2 : Int32) = nI 2 from rfl, show (1 : Int32) = nI 1 from rfl, pk_mul, nI_add]
  have e11 : (62 : Int32) - nI (fb + 1) = iI (61 - fb) := by
    rw [nI_iI, show (62 : Int32) = iI 62 from by decide, iI_sub]; congr 1; omega
  rw [e9, e10, e11, nI_iI (2 * bias + 1)]
  have hfbp : 2 ^ (fb + 1) = 2 ^ fb + 2 ^ fb := by rw [Nat.pow_succ]; omega
  have hX : m * 2 ^ (61 - m.log2) < 2 ^ 62 := by
    refine Nat.lt_of_lt_of_le (Nat.mul_lt_mul_of_pos_right hhi (Nat.two_pow_pos _)) ?_
    rw [← Nat.pow_add]; exact Nat.pow_le_pow_right (by omega) (by omega)
  have l2 := log2_2s h0 hst
  have hM2 : 0 < 2 * m + st := by omega
  generalize hw : e + bias + fb - 1 = w
  have hT : e + m.log2 + bias = w + m.log2 - fb + 1 := by omega
  rw [show e + bias + fb - 2 = w - 1 by omega, hT]
  by_cases c1 : w + m.log2 - fb + 1 < ((2 * bias + 1 : Nat) : Int)
  · rw [if_pos ((iI_lt (by omega) (by omega) (by omega) (by omega)).mpr c1), fX2_rounded_68]
    have main : ∀ d : Nat, 1 ≤ d → d ≤ 200000 → (d : Int) = (w + m.log2 - fb).toNat - w + (61 - m.log2 : Nat) → fX2_rounded_82 (nI st) (nI (fb + 1)) (lN (m * 2 ^ (61 - m.log2))) (iI (w + m.log2 - fb + 1)) (iI d) = lN (min ((2 * bias + 1) * 2 ^ fb) (RD fb (2 * m + st) (w - 1))) := by
      intro d hd1 hdb hd
      have hR := RD_st (fb := fb) h0 hst hbig hd1 hd
      obtain ⟨p', d', hd'⟩ : ∃ p' d' : Nat, (d' : Int) = (w - 1 + (2 * m + st).log2 - fb).toNat - (w - 1) + p' := ⟨w.toNat, ((w - 1 + (2 * m + st).log2 - fb).toNat - (w - 1) + w.toNat).toNat, by omega⟩
      have hkb := (kept_bounds hM2 hd').1
      have hRe := RD_eval hM2 hd'
      have hle : RD fb (2 * m + st) (w - 1) ≤ (2 * bias + 1) * 2 ^ fb := by
        rw [hRe]
        have h1 : (w - 1 + (2 * m + st).log2 - fb).toNat * 2 ^ fb ≤ (2 * bias - 1) * 2 ^ fb := Nat.mul_le_mul_right _ (by rw [l2]; omega)
        by_cases hb0 : bias = 0
        · rw [hb0] at h1 ⊢
          have : (w - 1 + (2 * m + st).log2 - fb).toNat = 0 := by rw [l2]; omega
          have h2 : rne ((2 * m + st) * 2 ^ p') (2 ^ d') ≤ 2 ^ fb := by
            refine rne_le (Nat.two_pow_pos d') ?_
            have hh := log2_hi (2 * m + st)
            rw [← Nat.pow_add]
            refine Nat.lt_of_lt_of_le (Nat.mul_lt_mul_of_pos_right hh (Nat.two_pow_pos p')) ?_
            rw [← Nat.pow_add]
            exact Nat.pow_le_pow_right (by omega) (by rw [l2] at hd' ⊢; omega)
          rw [this]; omega
        · have h3 : (2 * bias + 1) * 2 ^ fb = (2 * bias - 1) * 2 ^ fb + (2 ^ fb + 2 ^ fb) := by
            rw [show 2 * bias + 1 = (2 * bias - 1) + 2 by omega, Nat.add_mul]; omega
          omega
      rw [Nat.min_eq_right hle, hR]
      by_cases hd62 : d ≤ 62
      · rw [rounded_82 _ _ hX hst (by omega) (by omega), Int.toNat_natCast, fX2_rounded_152]
        by_cases c2 : 0 < w + m.log2 - fb + 1
        · rw [if_pos ((iI_0lt (by omega) (by omega)).mpr c2), show (1 : Int32) = iI 1 from by decide, iI_sub, show w + m.log2 - fb + 1 - 1 = w + m.log2 - fb by omega, nI_iI_toNat (show 0 ≤ w + m.log2 - fb by omega), nI_toInt64 (by omega),
            show nI (fb + 1) - iI 1 = nI fb from nI_pred fb, jshl_lN _ (by omega), lN_add]
        · rw [if_neg (fun q => c2 ((iI_0lt (by omega) (by omega)).mp q)), show (w + m.log2 - fb).toNat = 0 by omega, Nat.zero_mul, Nat.zero_add]
      · have hT0 : (w + m.log2 - fb).toNat = 0 := by omega
        rw [fX2_rounded_82, show (62 : Int32) = iI 62 from by decide, if_pos ((iI_lt (by omega) (by omega) (by omega) (by omega)).mpr (by omega)), hT0, Nat.zero_mul, Nat.zero_add]
        have h62 : 2 ^ 62 ≤ 2 ^ (d - 1) := Nat.pow_le_pow_right (by omega) (by omega)
        have h63 : 2 ^ (d - 1) ≤ 2 ^ d := Nat.pow_le_pow_right (by omega) (by omega)
        unfold rst
        rw [Nat.mod_eq_of_lt (by omega), Nat.div_eq_of_lt (by omega), if_neg (by omega)]
        rfl
    by_cases c2 : 0 < w + m.log2 - fb + 1
    · rw [if_pos ((iI_0lt (by omega) (by omega)).mpr c2), show (61 - (fb : Int)) = ((61 - fb : Nat) : Int) by omega]
      exact main (61 - fb) (by omega) (by omega) (by omega)
    · rw [if_neg (fun q => c2 ((iI_0lt (by omega) (by omega)).mp q)), show (1 : Int32) = iI 1 from by decide, iI_add, iI_sub]
      have := main (61 - fb + 1 - (w + m.log2 - fb + 1) : Int).toNat (by omega) (by omega) (by omega)
      rw [Int.toNat_of_nonneg (by omega)] at this
      exact this
  · rw [if_neg (fun q => c1 ((iI_lt (by omega) (by omega) (by omega) (by omega)).mp q)), ← nI_iI, nI_toInt64 (by omega), show nI (fb + 1) - 1 = nI fb from nI_pred fb, jshl_lN _ (by omega)]
    obtain ⟨p', d', hd'⟩ : ∃ p' d' : Nat, (d' : Int) = (w - 1 + (2 * m + st).log2 - fb).toNat - (w - 1) + p' := ⟨w.toNat, ((w - 1 + (2 * m + st).log2 - fb).toNat - (w - 1) + w.toNat).toNat, by omega⟩
    have hkb := (kept_bounds hM2 hd').2 (by rw [l2]; omega)
    have hge : (2 * bias + 1) * 2 ^ fb ≤ RD fb (2 * m + st) (w - 1) := by
      rw [RD_eval hM2 hd']
      have h1 : (2 * bias) * 2 ^ fb ≤ (w - 1 + (2 * m + st).log2 - fb).toNat * 2 ^ fb := Nat.mul_le_mul_right _ (by rw [l2]; omega)
      rw [Nat.add_mul, Nat.one_mul]; omega
    rw [Nat.min_eq_left hge]
