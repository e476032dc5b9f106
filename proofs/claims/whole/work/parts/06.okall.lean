theorem okX0_roomBelow_n (v0 : Int32) (v1 : Int64) : ∀ (n : Nat) (v3 : Int32), 0 < n → v0.toInt - v3.toInt < (n : Int) → okX0_roomBelow_2 n v0 v1 v3 := by
  intro n
  induction n with
  | zero => intro v3 h0 _; omega
  | succ n ih =>
    intro v3 h0 h
    rw [okX0_roomBelow_2]
    refine ⟨fun hc => ⟨fun _ => ?_, fun _ => trivial⟩, fun _ => trivial⟩
    have hc' := Int32.lt_iff_toInt_lt.mp hc
    have h1 := fb_rng v0
    have h2 := fb_rng v3
    have e1 : (1 : Int32).toInt = 1 := by decide
    have e : (v3 + 1).toInt = v3.toInt + 1 := by rw [fb_addI (by rw [e1]; omega) (by rw [e1]; omega), e1]
    exact ih _ (by omega) (by rw [e]; omega)
theorem okX0_roomBelow_all (v0 : Int32) (v1 : Int64) : okX0_roomBelow v0 v1 := by
  rw [okX0_roomBelow, okX0_roomBelow_0]
  refine okX0_roomBelow_n _ _ _ _ (by omega) ?_
  have e0 : (0 : Int32).toInt = 0 := by decide
  have : v0.toInt ≤ (v0.toNatClampNeg : Int) := by
    rw [show v0.toNatClampNeg = v0.toInt.toNat from rfl]; omega
  rw [e0]; omega
theorem okX0_topOfQuotient_n (v2 : Int64) (h2 : ¬ v2 = 0) : ∀ (n : Nat) (v4 v6 : Int64) (v8 : Int32), 0 < n → 6 - v8.toInt < (n : Int) → okX0_topOfQuotient_21 n v2 v4 v6 v8 := by
  intro n
  induction n with
  | zero => intro v4 v6 v8 h0 _; omega
  | succ n ih =>
    intro v4 v6 v8 h0 h
    rw [okX0_topOfQuotient_21]
    refine ⟨fun hc => ⟨h2, h2, ?_⟩, fun _ => trivial⟩
    have hc' := Int32.lt_iff_toInt_lt.mp hc
    have e6 : (6 : Int32).toInt = 6 := by decide
    have h3 := fb_rng v8
    have e1 : (1 : Int32).toInt = 1 := by decide
    rw [e6] at hc'
    have e : (v8 + 1).toInt = v8.toInt + 1 := by rw [fb_addI (by rw [e1]; omega) (by rw [e1]; omega), e1]
    exact ih _ _ _ (by omega) (by rw [e]; omega)
theorem okX0_topOfQuotient_all (v0 v2 : Int64) : okX0_topOfQuotient v0 v2 := by
  rw [okX0_topOfQuotient, okX0_topOfQuotient_0]
  refine ⟨fun _ => trivial, fun h => ⟨h, ?_⟩⟩
  rw [okX0_topOfQuotient_13]
  refine ⟨h, ?_⟩
  rw [okX0_topOfQuotient_18]
  exact okX0_topOfQuotient_n v2 h _ _ _ _ (by omega) (by decide)
theorem okX0_restAbove_n (v3 : Int64) (h3 : ¬ v3 = 0) : ∀ (n : Nat) (v5 : Int64) (v7 : Int32), 0 < n → v7.toInt < (n : Int) → okX0_restAbove_16 n v3 v5 v7 := by
  intro n
  induction n with
  | zero => intro v5 v7 h0 _; omega
  | succ n ih =>
    intro v5 v7 h0 h
    rw [okX0_restAbove_16]
    refine ⟨fun hc => ⟨h3, ?_⟩, fun _ => trivial⟩
    have hc' := Int32.lt_iff_toInt_lt.mp hc
    have e0 : (0 : Int32).toInt = 0 := by decide
    have h4 := fb_rng v7
    have e1 : (-10 : Int32).toInt = -10 := by decide
    rw [e0] at hc'
    have e : (v7 + (-10)).toInt = v7.toInt + (-10) := by rw [fb_addI (by rw [e1]; omega) (by rw [e1]; omega), e1]
    exact ih _ _ (by omega) (by rw [e]; omega)
theorem okX0_restAbove_all (v0 : Int64) (v2 : Int32) (v3 : Int64) : okX0_restAbove v0 v2 v3 := by
  rw [okX0_restAbove, okX0_restAbove_0]
  refine ⟨fun _ => trivial, fun h => ⟨h, ?_⟩⟩
  rw [okX0_restAbove_13]
  refine okX0_restAbove_n v3 h _ _ _ (by omega) ?_
  have : v2.toInt ≤ (v2.toNatClampNeg : Int) := by
    rw [show v2.toNatClampNeg = v2.toInt.toNat from rfl]; omega
  omega
