theorem lw_guard {L i : Nat} (hL : L ≤ 4096) (h2 : i ≤ L + 8) (h : L < i + 8) : Int32.ofNat L - 8 < nI i := by
  rw [Int32.lt_iff_toInt_lt, show Int32.ofNat L - 8 = nI L - nI 8 from rfl, pk_sub_toInt (by omega) (by omega), nI_toInt (by omega)]
  omega
theorem lw_in {L i : Nat} {k : Int32} (j : Nat) (hk : k = nI j) (h : i + j < L) (hL : L < 2 ^ 31) : vp_in (nI i + k) L := by
  rw [hk, nI_add]; exact vp_in_nI h hL
set_option maxHeartbeats 8000000 in
set_option maxRecDepth 100000 in
theorem law_loop {p : Program} {l : Launch} {e : Env} {s : State} {m : MethodId} {below : List Frame} {meth : Method} {c : Code} {D : va_G} {b L : Nat} {xs : Nat → Int32} (hL : L ≤ 4096) (C0 : lw_At p s m meth c b L xs) (hK : va_K D vwCl [] s) (q0 q1 : Nat) (hne : ¬ q0 = q1) (hA0 : ∀ q, q = q0 → s.heap.size ≤ q) (hA1 : ∀ q, q = q1 → s.heap.size ≤ q) :
    ∀ (n i : Nat), L + 1 ≤ i + n → i ≤ L + 8 → ∀ (f : Int32) (H : Heap) (locs : List Loc), va_P D vwCl [(q0, .inr (0, [.int f]))] H → va_P D vwCl [(q1, .inr (1, [.int f]))] H → va_S (fun q : Nat => s.heap.size ≤ q) s.heap H locs → ∀ (ls : Array Slot), lv_has ls 4 [(0, .ref b), (1, .ref q0), (2, .ref q1), (3, .int (nI i))] → W p l e room_1 s m #[Value.ref b] below meth c H locs 2 2 (lw_Z below #[Value.ref b] s) (F0 m 18 ls []) := by
  obtain ⟨hx, hb, hr, hml, hown, hts, hX, hbl, hlocks, hgv⟩ := C0
  have hts2 : ∀ w ∈ wsL_law, w.before #[Value.ref b] s = true := fun w h => hts w (wsL_law_in w h)
  have hN : nx_N s := ⟨va_Nw.of rfl (hts (.methodLinkNest RX3 75 yX2_significand RX3) (by decide +kernel)), va_Nw.of rfl (hts (.methodLinkNest RX3 78 yX2_exponent RX3) (by decide +kernel)), va_Nw.of rfl (hts (.methodLinkNest RX3 83 yX2_made RX3) (by decide +kernel))⟩
  have hA : ∀ q : Nat, s.heap.size ≤ q → (fun q : Nat => s.heap.size ≤ q) q := fun _ h => h
  have hbA : ¬ (fun q : Nat => s.heap.size ≤ q) b := Nat.not_le.mpr hbl
  intro n
  induction n with
  | zero =>
    intro i h1 h2 f H locs hP1 hP2 hS ls hl
    refine lv_iload_n hx hb dL_law_18 rfl (lv_at hl 3 rfl) ?_
    refine lv_aload_n hx hb dL_law_19 rfl (lv_at hl 0 rfl) ?_
    refine va_slen hx hb hX hbl hbA hS dL_law_20 ?_
    refine lv_bipush (v := 8) hx hb dL_law_21 (by decide) ?_
    refine lv_isub hx hb dL_law_23 ?_
    refine px_icmp_gt (tgt := 731) hx hb dL_law_24 (by decide) (fun hc => ?_) (fun hc => ?_)
    · refine lv_iconst (v := 1) hx hb dL_law_731 (by decide) ?_
      refine va_forget (fun q hq => hS.2.2 q hq) ?_
      exact lw_ret hx hb hr hlocks dL_law_732
    · exact absurd (lw_guard hL h2 (by omega)) hc
  | succ n ih =>
    intro i h1 h2 f H locs hP1 hP2 hS ls hl
    refine lv_iload_n hx hb dL_law_18 rfl (lv_at hl 3 rfl) ?_
    refine lv_aload_n hx hb dL_law_19 rfl (lv_at hl 0 rfl) ?_
    refine va_slen hx hb hX hbl hbA hS dL_law_20 ?_
    refine lv_bipush (v := 8) hx hb dL_law_21 (by decide) ?_
    refine lv_isub hx hb dL_law_23 ?_
    refine px_icmp_gt (tgt := 731) hx hb dL_law_24 (by decide) (fun hc => ?_) (fun hc => ?_)
    · refine lv_iconst (v := 1) hx hb dL_law_731 (by decide) ?_
      refine va_forget (fun q hq => hS.2.2 q hq) ?_
      exact lw_ret hx hb hr hlocks dL_law_732
    · have hlt : i + 8 ≤ L := by
        rcases Nat.lt_or_ge L (i + 8) with q | q
        · exact absurd (lw_guard hL h2 q) hc
        · exact q
      have hin0 : vp_in (nI i) L := vp_in_nI (by omega) (by omega)
      have hin1 : vp_in (nI i + (1 : Int32)) L := lw_in 1 (by decide) (by omega) (by omega)
      have hin2 : vp_in (nI i + (2 : Int32)) L := lw_in 2 (by decide) (by omega) (by omega)
      have hin3 : vp_in (nI i + (3 : Int32)) L := lw_in 3 (by decide) (by omega) (by omega)
      have hin4 : vp_in (nI i + (4 : Int32)) L := lw_in 4 (by decide) (by omega) (by omega)
      have hin5 : vp_in (nI i + (5 : Int32)) L := lw_in 5 (by decide) (by omega) (by omega)
      have hin6 : vp_in (nI i + (6 : Int32)) L := lw_in 6 (by decide) (by omega) (by omega)
      have hin7 : vp_in (nI i + (7 : Int32)) L := lw_in 7 (by decide) (by omega) (by omega)
      obtain ⟨a0, ea0⟩ : ∃ z, z = xs ((nI i) : Int32).toNatClampNeg := ⟨_, rfl⟩
      obtain ⟨a1, ea1⟩ : ∃ z, z = xs ((nI i + (1 : Int32)) : Int32).toNatClampNeg := ⟨_, rfl⟩
      obtain ⟨a2, ea2⟩ : ∃ z, z = xs ((nI i + (2 : Int32)) : Int32).toNatClampNeg := ⟨_, rfl⟩
      obtain ⟨a3, ea3⟩ : ∃ z, z = xs ((nI i + (3 : Int32)) : Int32).toNatClampNeg := ⟨_, rfl⟩
      obtain ⟨a4, ea4⟩ : ∃ z, z = xs ((nI i + (4 : Int32)) : Int32).toNatClampNeg := ⟨_, rfl⟩
      obtain ⟨a5, ea5⟩ : ∃ z, z = xs ((nI i + (5 : Int32)) : Int32).toNatClampNeg := ⟨_, rfl⟩
      obtain ⟨a6, ea6⟩ : ∃ z, z = xs ((nI i + (6 : Int32)) : Int32).toNatClampNeg := ⟨_, rfl⟩
      obtain ⟨a7, ea7⟩ : ∃ z, z = xs ((nI i + (7 : Int32)) : Int32).toNatClampNeg := ⟨_, rfl⟩
      refine lv_aload_n hx hb dL_law_27 rfl (lv_at hl 0 rfl) ?_
      refine lv_iload_n hx hb dL_law_28 rfl (lv_at hl 3 rfl) ?_
      refine va_sld hx hb hX hbl hbA hS hin0 dL_law_29 ?_
      rw [← ea0]
      refine lv_bipush (v := 7) hx hb dL_law_30 (by decide) ?_
      refine lv_iand hx hb dL_law_32 ?_
      by_cases hs0 : a0 &&& 7 = (0 : Int32)
      · refine lv_tableIn (tgt := 80) (off := 47) hx hb dL_law_33 (by rw [hs0]; decide) (by rw [hs0]; decide) (by rw [hs0]; decide +kernel) (by decide) ?_
        refine lv_aload_n hx hb dL_law_80 rfl (lv_at hl 1 rfl) ?_
        refine lv_aload_n hx hb dL_law_81 rfl (lv_at hl 0 rfl) ?_
        refine lv_iload_n hx hb dL_law_82 rfl (lv_at hl 3 rfl) ?_
        refine lv_iconst (v := 1) hx hb dL_law_83 (by decide) ?_
        refine lv_iadd hx hb dL_law_84 ?_
        refine va_sld hx hb hX hbl hbA hS hin1 dL_law_85 ?_
        rw [← ea1]
        refine lv_aload_n hx hb dL_law_86 rfl (lv_at hl 0 rfl) ?_
        refine lv_iload_n hx hb dL_law_87 rfl (lv_at hl 3 rfl) ?_
        refine lv_iconst (v := 2) hx hb dL_law_88 (by decide) ?_
        refine lv_iadd hx hb dL_law_89 ?_
        refine va_sld hx hb hX hbl hbA hS hin2 dL_law_90 ?_
        rw [← ea2]
        refine px_i2l hx hb dL_law_91 ?_
        refine lv_bipush (v := 32) hx hb dL_law_92 (by decide) ?_
        refine px_lshl hx hb dL_law_94 ?_
        refine lv_aload_n hx hb dL_law_95 rfl (lv_at hl 0 rfl) ?_
        refine lv_iload_n hx hb dL_law_96 rfl (lv_at hl 3 rfl) ?_
        refine lv_iconst (v := 3) hx hb dL_law_97 (by decide) ?_
        refine lv_iadd hx hb dL_law_98 ?_
        refine va_sld hx hb hX hbl hbA hS hin3 dL_law_99 ?_
        rw [← ea3]
        refine px_i2l hx hb dL_law_100 ?_
        refine lv_ldc2 hx hb hown (hts2 (.constantLong RL 13 (4294967295)) (by decide +kernel)) dL_law_101 ?_
        refine lv_land hx hb dL_law_104 ?_
        refine lv_lor hx hb dL_law_105 ?_
        refine ob_Li (As := [.int (a1), .long ((((jshl (a2.toInt64) (32 : Int32))) ||| (((a3.toInt64) &&& ((4294967295 : Int64))))))]) (rest := []) ⟨hx, hb, hml, hown, hts2⟩ (kX1_has l D q0 (a1) ((((jshl (a2.toInt64) (32 : Int32))) ||| (((a3.toInt64) &&& ((4294967295 : Int64)))))) f) hK hP1 hA0 hS (ci := 0) rfl (cwV 2 hts2 gL_law_X1_has rfl rfl rfl (by decide +kernel) ⟨Nat.le_of_ble_eq_true rfl, Nat.le_of_ble_eq_true rfl⟩) rfl hl.1 rfl (Nat.le_of_ble_eq_true rfl) dL_law_106 (Nat.le_of_ble_eq_true rfl) (Nat.le_of_ble_eq_true rfl) (fun H locs hP1 hS hz hk => ?_)
        have hP2 := ob_keep hP2 (hk _ (ob_lt hP2) (Ne.symm hne))
        refine lv_aload_n hx hb dL_law_109 rfl (lv_at hl 2 rfl) ?_
        refine lv_aload_n hx hb dL_law_110 rfl (lv_at hl 0 rfl) ?_
        refine lv_iload_n hx hb dL_law_111 rfl (lv_at hl 3 rfl) ?_
        refine lv_iconst (v := 1) hx hb dL_law_112 (by decide) ?_
        refine lv_iadd hx hb dL_law_113 ?_
        refine va_sld hx hb hX hbl hbA hS hin1 dL_law_114 ?_
        rw [← ea1]
        refine lv_aload_n hx hb dL_law_115 rfl (lv_at hl 0 rfl) ?_
        refine lv_iload_n hx hb dL_law_116 rfl (lv_at hl 3 rfl) ?_
        refine lv_iconst (v := 2) hx hb dL_law_117 (by decide) ?_
        refine lv_iadd hx hb dL_law_118 ?_
        refine va_sld hx hb hX hbl hbA hS hin2 dL_law_119 ?_
        rw [← ea2]
        refine px_i2l hx hb dL_law_120 ?_
        refine lv_bipush (v := 32) hx hb dL_law_121 (by decide) ?_
        refine px_lshl hx hb dL_law_123 ?_
        refine lv_aload_n hx hb dL_law_124 rfl (lv_at hl 0 rfl) ?_
        refine lv_iload_n hx hb dL_law_125 rfl (lv_at hl 3 rfl) ?_
        refine lv_iconst (v := 3) hx hb dL_law_126 (by decide) ?_
        refine lv_iadd hx hb dL_law_127 ?_
        refine va_sld hx hb hX hbl hbA hS hin3 dL_law_128 ?_
        rw [← ea3]
        refine px_i2l hx hb dL_law_129 ?_
        refine lv_ldc2 hx hb hown (hts2 (.constantLong RL 13 (4294967295)) (by decide +kernel)) dL_law_130 ?_
        refine lv_land hx hb dL_law_133 ?_
        refine lv_lor hx hb dL_law_134 ?_
        refine ob_Li (As := [.int (a1), .long ((((jshl (a2.toInt64) (32 : Int32))) ||| (((a3.toInt64) &&& ((4294967295 : Int64))))))]) (rest := [.int ((fX1_has (a1) ((((jshl (a2.toInt64) (32 : Int32))) ||| (((a3.toInt64) &&& ((4294967295 : Int64)))))) f).1)]) ⟨hx, hb, hml, hown, hts2⟩ (kX3_has l D q1 (a1) ((((jshl (a2.toInt64) (32 : Int32))) ||| (((a3.toInt64) &&& ((4294967295 : Int64)))))) f (O_has (a1) ((((jshl (a2.toInt64) (32 : Int32))) ||| (((a3.toInt64) &&& ((4294967295 : Int64)))))) f)) hK hP2 hA1 hS (ci := 1) rfl (cwV 2 hts2 gL_law_X3_has rfl rfl rfl (by decide +kernel) ⟨Nat.le_of_ble_eq_true rfl, Nat.le_of_ble_eq_true rfl⟩) rfl hl.1 rfl (Nat.le_of_ble_eq_true rfl) dL_law_135 (Nat.le_of_ble_eq_true rfl) (Nat.le_of_ble_eq_true rfl) (fun H locs hP2 hS hz hk => ?_)
        have hP1 := ob_keep hP1 (hk _ (ob_lt hP1) hne)
        refine px_icmp_eq (tgt := 725) hx hb dL_law_138 (by decide) (fun hc => ?_) (fun hc => ?_)
        · have hT := T_has (a1) ((((jshl (a2.toInt64) (32 : Int32))) ||| (((a3.toInt64) &&& ((4294967295 : Int64)))))) f
          rw [hT] at hP1
          refine lv_iinc (v := nI (i + 8)) (lv' := [(3, .int (nI (i + 8))), (0, .ref b), (1, .ref q0), (2, .ref q1)]) hx hb dL_law_725 hl (k := 3) rfl (lw_i8 i) (by decide) rfl (fun ls hl => ?_)
          refine lv_goto (tgt := 18) hx hb dL_law_728 (by decide) ?_
          exact ih (i + 8) (by omega) (by omega) _ H locs hP1 hP2 hS ls (lv_sub hl [1, 2, 3, 0] rfl)
        · exact absurd (congrArg Prod.fst (T_has (a1) ((((jshl (a2.toInt64) (32 : Int32))) ||| (((a3.toInt64) &&& ((4294967295 : Int64)))))) f)) hc
      · skip
        by_cases hs1 : a0 &&& 7 = (1 : Int32)
        · refine lv_tableIn (tgt := 143) (off := 110) hx hb dL_law_33 (by rw [hs1]; decide) (by rw [hs1]; decide) (by rw [hs1]; decide +kernel) (by decide) ?_
          refine lv_aload_n hx hb dL_law_143 rfl (lv_at hl 1 rfl) ?_
          refine lv_aload_n hx hb dL_law_144 rfl (lv_at hl 0 rfl) ?_
          refine lv_iload_n hx hb dL_law_145 rfl (lv_at hl 3 rfl) ?_
          refine lv_iconst (v := 1) hx hb dL_law_146 (by decide) ?_
          refine lv_iadd hx hb dL_law_147 ?_
          refine va_sld hx hb hX hbl hbA hS hin1 dL_law_148 ?_
          rw [← ea1]
          refine lv_aload_n hx hb dL_law_149 rfl (lv_at hl 0 rfl) ?_
          refine lv_iload_n hx hb dL_law_150 rfl (lv_at hl 3 rfl) ?_
          refine lv_iconst (v := 2) hx hb dL_law_151 (by decide) ?_
          refine lv_iadd hx hb dL_law_152 ?_
          refine va_sld hx hb hX hbl hbA hS hin2 dL_law_153 ?_
          rw [← ea2]
          refine ob_Li (As := [.int (a1), .int (a2)]) (rest := []) ⟨hx, hb, hml, hown, hts2⟩ (kX1_widens l D q0 (a1) (a2) f) hK hP1 hA0 hS (ci := 0) rfl (cwV 2 hts2 gL_law_X1_widens rfl rfl rfl (by decide +kernel) ⟨Nat.le_of_ble_eq_true rfl, Nat.le_of_ble_eq_true rfl⟩) rfl hl.1 rfl (Nat.le_of_ble_eq_true rfl) dL_law_154 (Nat.le_of_ble_eq_true rfl) (Nat.le_of_ble_eq_true rfl) (fun H locs hP1 hS hz hk => ?_)
          have hP2 := ob_keep hP2 (hk _ (ob_lt hP2) (Ne.symm hne))
          refine lv_aload_n hx hb dL_law_157 rfl (lv_at hl 2 rfl) ?_
          refine lv_aload_n hx hb dL_law_158 rfl (lv_at hl 0 rfl) ?_
          refine lv_iload_n hx hb dL_law_159 rfl (lv_at hl 3 rfl) ?_
          refine lv_iconst (v := 1) hx hb dL_law_160 (by decide) ?_
          refine lv_iadd hx hb dL_law_161 ?_
          refine va_sld hx hb hX hbl hbA hS hin1 dL_law_162 ?_
          rw [← ea1]
          refine lv_aload_n hx hb dL_law_163 rfl (lv_at hl 0 rfl) ?_
          refine lv_iload_n hx hb dL_law_164 rfl (lv_at hl 3 rfl) ?_
          refine lv_iconst (v := 2) hx hb dL_law_165 (by decide) ?_
          refine lv_iadd hx hb dL_law_166 ?_
          refine va_sld hx hb hX hbl hbA hS hin2 dL_law_167 ?_
          rw [← ea2]
          refine ob_Li (As := [.int (a1), .int (a2)]) (rest := [.int ((fX1_widens (a1) (a2) f).1)]) ⟨hx, hb, hml, hown, hts2⟩ (kX3_widens l D q1 (a1) (a2) f) hK hP2 hA1 hS (ci := 1) rfl (cwV 2 hts2 gL_law_X3_widens rfl rfl rfl (by decide +kernel) ⟨Nat.le_of_ble_eq_true rfl, Nat.le_of_ble_eq_true rfl⟩) rfl hl.1 rfl (Nat.le_of_ble_eq_true rfl) dL_law_168 (Nat.le_of_ble_eq_true rfl) (Nat.le_of_ble_eq_true rfl) (fun H locs hP2 hS hz hk => ?_)
          have hP1 := ob_keep hP1 (hk _ (ob_lt hP1) hne)
          refine px_icmp_eq (tgt := 725) hx hb dL_law_171 (by decide) (fun hc => ?_) (fun hc => ?_)
          · have hT := T_widens (a1) (a2) f
            rw [hT] at hP1
            refine lv_iinc (v := nI (i + 8)) (lv' := [(3, .int (nI (i + 8))), (0, .ref b), (1, .ref q0), (2, .ref q1)]) hx hb dL_law_725 hl (k := 3) rfl (lw_i8 i) (by decide) rfl (fun ls hl => ?_)
            refine lv_goto (tgt := 18) hx hb dL_law_728 (by decide) ?_
            exact ih (i + 8) (by omega) (by omega) _ H locs hP1 hP2 hS ls (lv_sub hl [1, 2, 3, 0] rfl)
          · exact absurd (congrArg Prod.fst (T_widens (a1) (a2) f)) hc
        · skip
          by_cases hs2 : a0 &&& 7 = (2 : Int32)
          · refine lv_tableIn (tgt := 176) (off := 143) hx hb dL_law_33 (by rw [hs2]; decide) (by rw [hs2]; decide) (by rw [hs2]; decide +kernel) (by decide) ?_
            refine lv_aload_n hx hb dL_law_176 rfl (lv_at hl 1 rfl) ?_
            refine lv_aload_n hx hb dL_law_177 rfl (lv_at hl 0 rfl) ?_
            refine lv_iload_n hx hb dL_law_178 rfl (lv_at hl 3 rfl) ?_
            refine lv_iconst (v := 1) hx hb dL_law_179 (by decide) ?_
            refine lv_iadd hx hb dL_law_180 ?_
            refine va_sld hx hb hX hbl hbA hS hin1 dL_law_181 ?_
            rw [← ea1]
            refine lv_aload_n hx hb dL_law_182 rfl (lv_at hl 0 rfl) ?_
            refine lv_iload_n hx hb dL_law_183 rfl (lv_at hl 3 rfl) ?_
            refine lv_iconst (v := 2) hx hb dL_law_184 (by decide) ?_
            refine lv_iadd hx hb dL_law_185 ?_
            refine va_sld hx hb hX hbl hbA hS hin2 dL_law_186 ?_
            rw [← ea2]
            refine lv_aload_n hx hb dL_law_187 rfl (lv_at hl 0 rfl) ?_
            refine lv_iload_n hx hb dL_law_188 rfl (lv_at hl 3 rfl) ?_
            refine lv_iconst (v := 3) hx hb dL_law_189 (by decide) ?_
            refine lv_iadd hx hb dL_law_190 ?_
            refine va_sld hx hb hX hbl hbA hS hin3 dL_law_191 ?_
            rw [← ea3]
            refine px_i2l hx hb dL_law_192 ?_
            refine lv_bipush (v := 32) hx hb dL_law_193 (by decide) ?_
            refine px_lshl hx hb dL_law_195 ?_
            refine lv_aload_n hx hb dL_law_196 rfl (lv_at hl 0 rfl) ?_
            refine lv_iload_n hx hb dL_law_197 rfl (lv_at hl 3 rfl) ?_
            refine lv_iconst (v := 4) hx hb dL_law_198 (by decide) ?_
            refine lv_iadd hx hb dL_law_199 ?_
            refine va_sld hx hb hX hbl hbA hS hin4 dL_law_200 ?_
            rw [← ea4]
            refine px_i2l hx hb dL_law_201 ?_
            refine lv_ldc2 hx hb hown (hts2 (.constantLong RL 13 (4294967295)) (by decide +kernel)) dL_law_202 ?_
            refine lv_land hx hb dL_law_205 ?_
            refine lv_lor hx hb dL_law_206 ?_
            refine ob_Ll (As := [.int (a1), .int (a2), .long ((((jshl (a3.toInt64) (32 : Int32))) ||| (((a4.toInt64) &&& ((4294967295 : Int64))))))]) (rest := []) ⟨hx, hb, hml, hown, hts2⟩ (kX1_cast l D q0 (a1) (a2) ((((jshl (a3.toInt64) (32 : Int32))) ||| (((a4.toInt64) &&& ((4294967295 : Int64)))))) f) hK hP1 hA0 hS (ci := 0) rfl (cwV 3 hts2 gL_law_X1_cast rfl rfl rfl (by decide +kernel) ⟨Nat.le_of_ble_eq_true rfl, Nat.le_of_ble_eq_true rfl⟩) rfl hl.1 rfl (Nat.le_of_ble_eq_true rfl) dL_law_207 (Nat.le_of_ble_eq_true rfl) (Nat.le_of_ble_eq_true rfl) (fun H locs hP1 hS hz hk => ?_)
            have hP2 := ob_keep hP2 (hk _ (ob_lt hP2) (Ne.symm hne))
            refine lv_aload_n hx hb dL_law_210 rfl (lv_at hl 2 rfl) ?_
            refine lv_aload_n hx hb dL_law_211 rfl (lv_at hl 0 rfl) ?_
            refine lv_iload_n hx hb dL_law_212 rfl (lv_at hl 3 rfl) ?_
            refine lv_iconst (v := 1) hx hb dL_law_213 (by decide) ?_
            refine lv_iadd hx hb dL_law_214 ?_
            refine va_sld hx hb hX hbl hbA hS hin1 dL_law_215 ?_
            rw [← ea1]
            refine lv_aload_n hx hb dL_law_216 rfl (lv_at hl 0 rfl) ?_
            refine lv_iload_n hx hb dL_law_217 rfl (lv_at hl 3 rfl) ?_
            refine lv_iconst (v := 2) hx hb dL_law_218 (by decide) ?_
            refine lv_iadd hx hb dL_law_219 ?_
            refine va_sld hx hb hX hbl hbA hS hin2 dL_law_220 ?_
            rw [← ea2]
            refine lv_aload_n hx hb dL_law_221 rfl (lv_at hl 0 rfl) ?_
            refine lv_iload_n hx hb dL_law_222 rfl (lv_at hl 3 rfl) ?_
            refine lv_iconst (v := 3) hx hb dL_law_223 (by decide) ?_
            refine lv_iadd hx hb dL_law_224 ?_
            refine va_sld hx hb hX hbl hbA hS hin3 dL_law_225 ?_
            rw [← ea3]
            refine px_i2l hx hb dL_law_226 ?_
            refine lv_bipush (v := 32) hx hb dL_law_227 (by decide) ?_
            refine px_lshl hx hb dL_law_229 ?_
            refine lv_aload_n hx hb dL_law_230 rfl (lv_at hl 0 rfl) ?_
            refine lv_iload_n hx hb dL_law_231 rfl (lv_at hl 3 rfl) ?_
            refine lv_iconst (v := 4) hx hb dL_law_232 (by decide) ?_
            refine lv_iadd hx hb dL_law_233 ?_
            refine va_sld hx hb hX hbl hbA hS hin4 dL_law_234 ?_
            rw [← ea4]
            refine px_i2l hx hb dL_law_235 ?_
            refine lv_ldc2 hx hb hown (hts2 (.constantLong RL 13 (4294967295)) (by decide +kernel)) dL_law_236 ?_
            refine lv_land hx hb dL_law_239 ?_
            refine lv_lor hx hb dL_law_240 ?_
            refine ob_Ll (As := [.int (a1), .int (a2), .long ((((jshl (a3.toInt64) (32 : Int32))) ||| (((a4.toInt64) &&& ((4294967295 : Int64))))))]) (rest := [.long ((fX1_cast (a1) (a2) ((((jshl (a3.toInt64) (32 : Int32))) ||| (((a4.toInt64) &&& ((4294967295 : Int64)))))) f).1)]) ⟨hx, hb, hml, hown, hts2⟩ (kX3_cast l D q1 (a1) (a2) ((((jshl (a3.toInt64) (32 : Int32))) ||| (((a4.toInt64) &&& ((4294967295 : Int64)))))) f (O_cast (a1) (a2) ((((jshl (a3.toInt64) (32 : Int32))) ||| (((a4.toInt64) &&& ((4294967295 : Int64)))))) f)) hK hP2 hA1 hS (ci := 1) rfl (cwV 3 hts2 gL_law_X3_cast rfl rfl rfl (by decide +kernel) ⟨Nat.le_of_ble_eq_true rfl, Nat.le_of_ble_eq_true rfl⟩) rfl hl.1 rfl (Nat.le_of_ble_eq_true rfl) dL_law_241 (Nat.le_of_ble_eq_true rfl) (Nat.le_of_ble_eq_true rfl) (fun H locs hP2 hS hz hk => ?_)
            have hP1 := ob_keep hP1 (hk _ (ob_lt hP1) hne)
            refine px_lcmp_eq (tgt := 725) hx hb dL_law_244 dL_law_245 (by decide) (fun hc => ?_) (fun hc => ?_)
            · have hT := T_cast (a1) (a2) ((((jshl (a3.toInt64) (32 : Int32))) ||| (((a4.toInt64) &&& ((4294967295 : Int64)))))) f
              rw [hT] at hP1
              refine lv_iinc (v := nI (i + 8)) (lv' := [(3, .int (nI (i + 8))), (0, .ref b), (1, .ref q0), (2, .ref q1)]) hx hb dL_law_725 hl (k := 3) rfl (lw_i8 i) (by decide) rfl (fun ls hl => ?_)
              refine lv_goto (tgt := 18) hx hb dL_law_728 (by decide) ?_
              exact ih (i + 8) (by omega) (by omega) _ H locs hP1 hP2 hS ls (lv_sub hl [1, 2, 3, 0] rfl)
            · exact absurd (congrArg Prod.fst (T_cast (a1) (a2) ((((jshl (a3.toInt64) (32 : Int32))) ||| (((a4.toInt64) &&& ((4294967295 : Int64)))))) f)) hc
          · skip
            by_cases hs3 : a0 &&& 7 = (3 : Int32)
            · refine lv_tableIn (tgt := 250) (off := 217) hx hb dL_law_33 (by rw [hs3]; decide) (by rw [hs3]; decide) (by rw [hs3]; decide +kernel) (by decide) ?_
              refine lv_aload_n hx hb dL_law_250 rfl (lv_at hl 1 rfl) ?_
              refine lv_aload_n hx hb dL_law_251 rfl (lv_at hl 0 rfl) ?_
              refine lv_iload_n hx hb dL_law_252 rfl (lv_at hl 3 rfl) ?_
              refine lv_iconst (v := 1) hx hb dL_law_253 (by decide) ?_
              refine lv_iadd hx hb dL_law_254 ?_
              refine va_sld hx hb hX hbl hbA hS hin1 dL_law_255 ?_
              rw [← ea1]
              refine lv_aload_n hx hb dL_law_256 rfl (lv_at hl 0 rfl) ?_
              refine lv_iload_n hx hb dL_law_257 rfl (lv_at hl 3 rfl) ?_
              refine lv_iconst (v := 2) hx hb dL_law_258 (by decide) ?_
              refine lv_iadd hx hb dL_law_259 ?_
              refine va_sld hx hb hX hbl hbA hS hin2 dL_law_260 ?_
              rw [← ea2]
              refine lv_aload_n hx hb dL_law_261 rfl (lv_at hl 0 rfl) ?_
              refine lv_iload_n hx hb dL_law_262 rfl (lv_at hl 3 rfl) ?_
              refine lv_iconst (v := 3) hx hb dL_law_263 (by decide) ?_
              refine lv_iadd hx hb dL_law_264 ?_
              refine va_sld hx hb hX hbl hbA hS hin3 dL_law_265 ?_
              rw [← ea3]
              refine px_i2l hx hb dL_law_266 ?_
              refine lv_bipush (v := 32) hx hb dL_law_267 (by decide) ?_
              refine px_lshl hx hb dL_law_269 ?_
              refine lv_aload_n hx hb dL_law_270 rfl (lv_at hl 0 rfl) ?_
              refine lv_iload_n hx hb dL_law_271 rfl (lv_at hl 3 rfl) ?_
              refine lv_iconst (v := 4) hx hb dL_law_272 (by decide) ?_
              refine lv_iadd hx hb dL_law_273 ?_
              refine va_sld hx hb hX hbl hbA hS hin4 dL_law_274 ?_
              rw [← ea4]
              refine px_i2l hx hb dL_law_275 ?_
              refine lv_ldc2 hx hb hown (hts2 (.constantLong RL 13 (4294967295)) (by decide +kernel)) dL_law_276 ?_
              refine lv_land hx hb dL_law_279 ?_
              refine lv_lor hx hb dL_law_280 ?_
              refine lv_aload_n hx hb dL_law_281 rfl (lv_at hl 0 rfl) ?_
              refine lv_iload_n hx hb dL_law_282 rfl (lv_at hl 3 rfl) ?_
              refine lv_iconst (v := 5) hx hb dL_law_283 (by decide) ?_
              refine lv_iadd hx hb dL_law_284 ?_
              refine va_sld hx hb hX hbl hbA hS hin5 dL_law_285 ?_
              rw [← ea5]
              refine lv_aload_n hx hb dL_law_286 rfl (lv_at hl 0 rfl) ?_
              refine lv_iload_n hx hb dL_law_287 rfl (lv_at hl 3 rfl) ?_
              refine lv_bipush (v := 6) hx hb dL_law_288 (by decide) ?_
              refine lv_iadd hx hb dL_law_290 ?_
              refine va_sld hx hb hX hbl hbA hS hin6 dL_law_291 ?_
              rw [← ea6]
              refine px_i2l hx hb dL_law_292 ?_
              refine lv_bipush (v := 32) hx hb dL_law_293 (by decide) ?_
              refine px_lshl hx hb dL_law_295 ?_
              refine lv_aload_n hx hb dL_law_296 rfl (lv_at hl 0 rfl) ?_
              refine lv_iload_n hx hb dL_law_297 rfl (lv_at hl 3 rfl) ?_
              refine lv_bipush (v := 7) hx hb dL_law_298 (by decide) ?_
              refine lv_iadd hx hb dL_law_300 ?_
              refine va_sld hx hb hX hbl hbA hS hin7 dL_law_301 ?_
              rw [← ea7]
              refine px_i2l hx hb dL_law_302 ?_
              refine lv_ldc2 hx hb hown (hts2 (.constantLong RL 13 (4294967295)) (by decide +kernel)) dL_law_303 ?_
              refine lv_land hx hb dL_law_306 ?_
              refine lv_lor hx hb dL_law_307 ?_
              refine ob_Ll (As := [.int (a1), .int (a2), .long ((((jshl (a3.toInt64) (32 : Int32))) ||| (((a4.toInt64) &&& ((4294967295 : Int64)))))), .int (a5), .long ((((jshl (a6.toInt64) (32 : Int32))) ||| (((a7.toInt64) &&& ((4294967295 : Int64))))))]) (rest := []) ⟨hx, hb, hml, hown, hts2⟩ (kX1_work l D q0 (a1) (a2) ((((jshl (a3.toInt64) (32 : Int32))) ||| (((a4.toInt64) &&& ((4294967295 : Int64)))))) (a5) ((((jshl (a6.toInt64) (32 : Int32))) ||| (((a7.toInt64) &&& ((4294967295 : Int64)))))) f) hK hP1 hA0 hS (ci := 0) rfl (cwV 5 hts2 gL_law_X1_work rfl rfl rfl (by decide +kernel) ⟨Nat.le_of_ble_eq_true rfl, Nat.le_of_ble_eq_true rfl⟩) rfl hl.1 rfl (Nat.le_of_ble_eq_true rfl) dL_law_308 (Nat.le_of_ble_eq_true rfl) (Nat.le_of_ble_eq_true rfl) (fun H locs hP1 hS hz hk => ?_)
              have hP2 := ob_keep hP2 (hk _ (ob_lt hP2) (Ne.symm hne))
              refine lv_aload_n hx hb dL_law_311 rfl (lv_at hl 2 rfl) ?_
              refine lv_aload_n hx hb dL_law_312 rfl (lv_at hl 0 rfl) ?_
              refine lv_iload_n hx hb dL_law_313 rfl (lv_at hl 3 rfl) ?_
              refine lv_iconst (v := 1) hx hb dL_law_314 (by decide) ?_
              refine lv_iadd hx hb dL_law_315 ?_
              refine va_sld hx hb hX hbl hbA hS hin1 dL_law_316 ?_
              rw [← ea1]
              refine lv_aload_n hx hb dL_law_317 rfl (lv_at hl 0 rfl) ?_
              refine lv_iload_n hx hb dL_law_318 rfl (lv_at hl 3 rfl) ?_
              refine lv_iconst (v := 2) hx hb dL_law_319 (by decide) ?_
              refine lv_iadd hx hb dL_law_320 ?_
              refine va_sld hx hb hX hbl hbA hS hin2 dL_law_321 ?_
              rw [← ea2]
              refine lv_aload_n hx hb dL_law_322 rfl (lv_at hl 0 rfl) ?_
              refine lv_iload_n hx hb dL_law_323 rfl (lv_at hl 3 rfl) ?_
              refine lv_iconst (v := 3) hx hb dL_law_324 (by decide) ?_
              refine lv_iadd hx hb dL_law_325 ?_
              refine va_sld hx hb hX hbl hbA hS hin3 dL_law_326 ?_
              rw [← ea3]
              refine px_i2l hx hb dL_law_327 ?_
              refine lv_bipush (v := 32) hx hb dL_law_328 (by decide) ?_
              refine px_lshl hx hb dL_law_330 ?_
              refine lv_aload_n hx hb dL_law_331 rfl (lv_at hl 0 rfl) ?_
              refine lv_iload_n hx hb dL_law_332 rfl (lv_at hl 3 rfl) ?_
              refine lv_iconst (v := 4) hx hb dL_law_333 (by decide) ?_
              refine lv_iadd hx hb dL_law_334 ?_
              refine va_sld hx hb hX hbl hbA hS hin4 dL_law_335 ?_
              rw [← ea4]
              refine px_i2l hx hb dL_law_336 ?_
              refine lv_ldc2 hx hb hown (hts2 (.constantLong RL 13 (4294967295)) (by decide +kernel)) dL_law_337 ?_
              refine lv_land hx hb dL_law_340 ?_
              refine lv_lor hx hb dL_law_341 ?_
              refine lv_aload_n hx hb dL_law_342 rfl (lv_at hl 0 rfl) ?_
              refine lv_iload_n hx hb dL_law_343 rfl (lv_at hl 3 rfl) ?_
              refine lv_iconst (v := 5) hx hb dL_law_344 (by decide) ?_
              refine lv_iadd hx hb dL_law_345 ?_
              refine va_sld hx hb hX hbl hbA hS hin5 dL_law_346 ?_
              rw [← ea5]
              refine lv_aload_n hx hb dL_law_347 rfl (lv_at hl 0 rfl) ?_
              refine lv_iload_n hx hb dL_law_348 rfl (lv_at hl 3 rfl) ?_
              refine lv_bipush (v := 6) hx hb dL_law_349 (by decide) ?_
              refine lv_iadd hx hb dL_law_351 ?_
              refine va_sld hx hb hX hbl hbA hS hin6 dL_law_352 ?_
              rw [← ea6]
              refine px_i2l hx hb dL_law_353 ?_
              refine lv_bipush (v := 32) hx hb dL_law_354 (by decide) ?_
              refine px_lshl hx hb dL_law_356 ?_
              refine lv_aload_n hx hb dL_law_357 rfl (lv_at hl 0 rfl) ?_
              refine lv_iload_n hx hb dL_law_358 rfl (lv_at hl 3 rfl) ?_
              refine lv_bipush (v := 7) hx hb dL_law_359 (by decide) ?_
              refine lv_iadd hx hb dL_law_361 ?_
              refine va_sld hx hb hX hbl hbA hS hin7 dL_law_362 ?_
              rw [← ea7]
              refine px_i2l hx hb dL_law_363 ?_
              refine lv_ldc2 hx hb hown (hts2 (.constantLong RL 13 (4294967295)) (by decide +kernel)) dL_law_364 ?_
              refine lv_land hx hb dL_law_367 ?_
              refine lv_lor hx hb dL_law_368 ?_
              refine ob_LNl (As := [.int (a1), .int (a2), .long ((((jshl (a3.toInt64) (32 : Int32))) ||| (((a4.toInt64) &&& ((4294967295 : Int64)))))), .int (a5), .long ((((jshl (a6.toInt64) (32 : Int32))) ||| (((a7.toInt64) &&& ((4294967295 : Int64))))))]) (rest := [.long ((fX1_work (a1) (a2) ((((jshl (a3.toInt64) (32 : Int32))) ||| (((a4.toInt64) &&& ((4294967295 : Int64)))))) (a5) ((((jshl (a6.toInt64) (32 : Int32))) ||| (((a7.toInt64) &&& ((4294967295 : Int64)))))) f).1)]) ⟨hx, hb, hml, hown, hts2⟩ (kX3_work l D q1 (a1) (a2) ((((jshl (a3.toInt64) (32 : Int32))) ||| (((a4.toInt64) &&& ((4294967295 : Int64)))))) (a5) ((((jshl (a6.toInt64) (32 : Int32))) ||| (((a7.toInt64) &&& ((4294967295 : Int64)))))) f (O_work (a1) (a2) ((((jshl (a3.toInt64) (32 : Int32))) ||| (((a4.toInt64) &&& ((4294967295 : Int64)))))) (a5) ((((jshl (a6.toInt64) (32 : Int32))) ||| (((a7.toInt64) &&& ((4294967295 : Int64)))))) f)) hN hK hP2 hA1 hS (ci := 1) rfl (cwV 5 hts2 gL_law_X3_work rfl rfl rfl (by decide +kernel) ⟨Nat.le_of_ble_eq_true rfl, Nat.le_of_ble_eq_true rfl⟩) rfl hl.1 rfl (Nat.le_of_ble_eq_true rfl) dL_law_369 (Nat.le_of_ble_eq_true rfl) (Nat.le_of_ble_eq_true rfl) (fun H locs hP2 hS hz hk => ?_)
              have hP1 := ob_keep hP1 (hk _ (ob_lt hP1) hne)
              refine px_lcmp_eq (tgt := 725) hx hb dL_law_372 dL_law_373 (by decide) (fun hc => ?_) (fun hc => ?_)
              · have hT := T_work (a1) (a2) ((((jshl (a3.toInt64) (32 : Int32))) ||| (((a4.toInt64) &&& ((4294967295 : Int64)))))) (a5) ((((jshl (a6.toInt64) (32 : Int32))) ||| (((a7.toInt64) &&& ((4294967295 : Int64)))))) f
                rw [hT] at hP1
                refine lv_iinc (v := nI (i + 8)) (lv' := [(3, .int (nI (i + 8))), (0, .ref b), (1, .ref q0), (2, .ref q1)]) hx hb dL_law_725 hl (k := 3) rfl (lw_i8 i) (by decide) rfl (fun ls hl => ?_)
                refine lv_goto (tgt := 18) hx hb dL_law_728 (by decide) ?_
                exact ih (i + 8) (by omega) (by omega) _ H locs hP1 hP2 hS ls (lv_sub hl [1, 2, 3, 0] rfl)
              · exact absurd (congrArg Prod.fst (T_work (a1) (a2) ((((jshl (a3.toInt64) (32 : Int32))) ||| (((a4.toInt64) &&& ((4294967295 : Int64)))))) (a5) ((((jshl (a6.toInt64) (32 : Int32))) ||| (((a7.toInt64) &&& ((4294967295 : Int64)))))) f)) hc
            · skip
              by_cases hs4 : a0 &&& 7 = (4 : Int32)
              · refine lv_tableIn (tgt := 378) (off := 345) hx hb dL_law_33 (by rw [hs4]; decide) (by rw [hs4]; decide) (by rw [hs4]; decide +kernel) (by decide) ?_
                refine lv_aload_n hx hb dL_law_378 rfl (lv_at hl 1 rfl) ?_
                refine lv_aload_n hx hb dL_law_379 rfl (lv_at hl 0 rfl) ?_
                refine lv_iload_n hx hb dL_law_380 rfl (lv_at hl 3 rfl) ?_
                refine lv_iconst (v := 1) hx hb dL_law_381 (by decide) ?_
                refine lv_iadd hx hb dL_law_382 ?_
                refine va_sld hx hb hX hbl hbA hS hin1 dL_law_383 ?_
                rw [← ea1]
                refine lv_aload_n hx hb dL_law_384 rfl (lv_at hl 0 rfl) ?_
                refine lv_iload_n hx hb dL_law_385 rfl (lv_at hl 3 rfl) ?_
                refine lv_iconst (v := 2) hx hb dL_law_386 (by decide) ?_
                refine lv_iadd hx hb dL_law_387 ?_
                refine va_sld hx hb hX hbl hbA hS hin2 dL_law_388 ?_
                rw [← ea2]
                refine lv_aload_n hx hb dL_law_389 rfl (lv_at hl 0 rfl) ?_
                refine lv_iload_n hx hb dL_law_390 rfl (lv_at hl 3 rfl) ?_
                refine lv_iconst (v := 3) hx hb dL_law_391 (by decide) ?_
                refine lv_iadd hx hb dL_law_392 ?_
                refine va_sld hx hb hX hbl hbA hS hin3 dL_law_393 ?_
                rw [← ea3]
                refine px_i2l hx hb dL_law_394 ?_
                refine lv_bipush (v := 32) hx hb dL_law_395 (by decide) ?_
                refine px_lshl hx hb dL_law_397 ?_
                refine lv_aload_n hx hb dL_law_398 rfl (lv_at hl 0 rfl) ?_
                refine lv_iload_n hx hb dL_law_399 rfl (lv_at hl 3 rfl) ?_
                refine lv_iconst (v := 4) hx hb dL_law_400 (by decide) ?_
                refine lv_iadd hx hb dL_law_401 ?_
                refine va_sld hx hb hX hbl hbA hS hin4 dL_law_402 ?_
                rw [← ea4]
                refine px_i2l hx hb dL_law_403 ?_
                refine lv_ldc2 hx hb hown (hts2 (.constantLong RL 13 (4294967295)) (by decide +kernel)) dL_law_404 ?_
                refine lv_land hx hb dL_law_407 ?_
                refine lv_lor hx hb dL_law_408 ?_
                refine lv_aload_n hx hb dL_law_409 rfl (lv_at hl 0 rfl) ?_
                refine lv_iload_n hx hb dL_law_410 rfl (lv_at hl 3 rfl) ?_
                refine lv_iconst (v := 5) hx hb dL_law_411 (by decide) ?_
                refine lv_iadd hx hb dL_law_412 ?_
                refine va_sld hx hb hX hbl hbA hS hin5 dL_law_413 ?_
                rw [← ea5]
                refine px_i2l hx hb dL_law_414 ?_
                refine lv_bipush (v := 32) hx hb dL_law_415 (by decide) ?_
                refine px_lshl hx hb dL_law_417 ?_
                refine lv_aload_n hx hb dL_law_418 rfl (lv_at hl 0 rfl) ?_
                refine lv_iload_n hx hb dL_law_419 rfl (lv_at hl 3 rfl) ?_
                refine lv_bipush (v := 6) hx hb dL_law_420 (by decide) ?_
                refine lv_iadd hx hb dL_law_422 ?_
                refine va_sld hx hb hX hbl hbA hS hin6 dL_law_423 ?_
                rw [← ea6]
                refine px_i2l hx hb dL_law_424 ?_
                refine lv_ldc2 hx hb hown (hts2 (.constantLong RL 13 (4294967295)) (by decide +kernel)) dL_law_425 ?_
                refine lv_land hx hb dL_law_428 ?_
                refine lv_lor hx hb dL_law_429 ?_
                refine ob_Ll (As := [.int (a1), .int (a2), .long ((((jshl (a3.toInt64) (32 : Int32))) ||| (((a4.toInt64) &&& ((4294967295 : Int64)))))), .long ((((jshl (a5.toInt64) (32 : Int32))) ||| (((a6.toInt64) &&& ((4294967295 : Int64))))))]) (rest := []) ⟨hx, hb, hml, hown, hts2⟩ (kX1_shift l D q0 (a1) (a2) ((((jshl (a3.toInt64) (32 : Int32))) ||| (((a4.toInt64) &&& ((4294967295 : Int64)))))) ((((jshl (a5.toInt64) (32 : Int32))) ||| (((a6.toInt64) &&& ((4294967295 : Int64)))))) f) hK hP1 hA0 hS (ci := 0) rfl (cwV 4 hts2 gL_law_X1_shift rfl rfl rfl (by decide +kernel) ⟨Nat.le_of_ble_eq_true rfl, Nat.le_of_ble_eq_true rfl⟩) rfl hl.1 rfl (Nat.le_of_ble_eq_true rfl) dL_law_430 (Nat.le_of_ble_eq_true rfl) (Nat.le_of_ble_eq_true rfl) (fun H locs hP1 hS hz hk => ?_)
                have hP2 := ob_keep hP2 (hk _ (ob_lt hP2) (Ne.symm hne))
                refine lv_aload_n hx hb dL_law_433 rfl (lv_at hl 2 rfl) ?_
                refine lv_aload_n hx hb dL_law_434 rfl (lv_at hl 0 rfl) ?_
                refine lv_iload_n hx hb dL_law_435 rfl (lv_at hl 3 rfl) ?_
                refine lv_iconst (v := 1) hx hb dL_law_436 (by decide) ?_
                refine lv_iadd hx hb dL_law_437 ?_
                refine va_sld hx hb hX hbl hbA hS hin1 dL_law_438 ?_
                rw [← ea1]
                refine lv_aload_n hx hb dL_law_439 rfl (lv_at hl 0 rfl) ?_
                refine lv_iload_n hx hb dL_law_440 rfl (lv_at hl 3 rfl) ?_
                refine lv_iconst (v := 2) hx hb dL_law_441 (by decide) ?_
                refine lv_iadd hx hb dL_law_442 ?_
                refine va_sld hx hb hX hbl hbA hS hin2 dL_law_443 ?_
                rw [← ea2]
                refine lv_aload_n hx hb dL_law_444 rfl (lv_at hl 0 rfl) ?_
                refine lv_iload_n hx hb dL_law_445 rfl (lv_at hl 3 rfl) ?_
                refine lv_iconst (v := 3) hx hb dL_law_446 (by decide) ?_
                refine lv_iadd hx hb dL_law_447 ?_
                refine va_sld hx hb hX hbl hbA hS hin3 dL_law_448 ?_
                rw [← ea3]
                refine px_i2l hx hb dL_law_449 ?_
                refine lv_bipush (v := 32) hx hb dL_law_450 (by decide) ?_
                refine px_lshl hx hb dL_law_452 ?_
                refine lv_aload_n hx hb dL_law_453 rfl (lv_at hl 0 rfl) ?_
                refine lv_iload_n hx hb dL_law_454 rfl (lv_at hl 3 rfl) ?_
                refine lv_iconst (v := 4) hx hb dL_law_455 (by decide) ?_
                refine lv_iadd hx hb dL_law_456 ?_
                refine va_sld hx hb hX hbl hbA hS hin4 dL_law_457 ?_
                rw [← ea4]
                refine px_i2l hx hb dL_law_458 ?_
                refine lv_ldc2 hx hb hown (hts2 (.constantLong RL 13 (4294967295)) (by decide +kernel)) dL_law_459 ?_
                refine lv_land hx hb dL_law_462 ?_
                refine lv_lor hx hb dL_law_463 ?_
                refine lv_aload_n hx hb dL_law_464 rfl (lv_at hl 0 rfl) ?_
                refine lv_iload_n hx hb dL_law_465 rfl (lv_at hl 3 rfl) ?_
                refine lv_iconst (v := 5) hx hb dL_law_466 (by decide) ?_
                refine lv_iadd hx hb dL_law_467 ?_
                refine va_sld hx hb hX hbl hbA hS hin5 dL_law_468 ?_
                rw [← ea5]
                refine px_i2l hx hb dL_law_469 ?_
                refine lv_bipush (v := 32) hx hb dL_law_470 (by decide) ?_
                refine px_lshl hx hb dL_law_472 ?_
                refine lv_aload_n hx hb dL_law_473 rfl (lv_at hl 0 rfl) ?_
                refine lv_iload_n hx hb dL_law_474 rfl (lv_at hl 3 rfl) ?_
                refine lv_bipush (v := 6) hx hb dL_law_475 (by decide) ?_
                refine lv_iadd hx hb dL_law_477 ?_
                refine va_sld hx hb hX hbl hbA hS hin6 dL_law_478 ?_
                rw [← ea6]
                refine px_i2l hx hb dL_law_479 ?_
                refine lv_ldc2 hx hb hown (hts2 (.constantLong RL 13 (4294967295)) (by decide +kernel)) dL_law_480 ?_
                refine lv_land hx hb dL_law_483 ?_
                refine lv_lor hx hb dL_law_484 ?_
                refine ob_Ll (As := [.int (a1), .int (a2), .long ((((jshl (a3.toInt64) (32 : Int32))) ||| (((a4.toInt64) &&& ((4294967295 : Int64)))))), .long ((((jshl (a5.toInt64) (32 : Int32))) ||| (((a6.toInt64) &&& ((4294967295 : Int64))))))]) (rest := [.long ((fX1_shift (a1) (a2) ((((jshl (a3.toInt64) (32 : Int32))) ||| (((a4.toInt64) &&& ((4294967295 : Int64)))))) ((((jshl (a5.toInt64) (32 : Int32))) ||| (((a6.toInt64) &&& ((4294967295 : Int64)))))) f).1)]) ⟨hx, hb, hml, hown, hts2⟩ (kX3_shift l D q1 (a1) (a2) ((((jshl (a3.toInt64) (32 : Int32))) ||| (((a4.toInt64) &&& ((4294967295 : Int64)))))) ((((jshl (a5.toInt64) (32 : Int32))) ||| (((a6.toInt64) &&& ((4294967295 : Int64)))))) f (O_shift (a1) (a2) ((((jshl (a3.toInt64) (32 : Int32))) ||| (((a4.toInt64) &&& ((4294967295 : Int64)))))) ((((jshl (a5.toInt64) (32 : Int32))) ||| (((a6.toInt64) &&& ((4294967295 : Int64)))))) f)) hK hP2 hA1 hS (ci := 1) rfl (cwV 4 hts2 gL_law_X3_shift rfl rfl rfl (by decide +kernel) ⟨Nat.le_of_ble_eq_true rfl, Nat.le_of_ble_eq_true rfl⟩) rfl hl.1 rfl (Nat.le_of_ble_eq_true rfl) dL_law_485 (Nat.le_of_ble_eq_true rfl) (Nat.le_of_ble_eq_true rfl) (fun H locs hP2 hS hz hk => ?_)
                have hP1 := ob_keep hP1 (hk _ (ob_lt hP1) hne)
                refine px_lcmp_eq (tgt := 725) hx hb dL_law_488 dL_law_489 (by decide) (fun hc => ?_) (fun hc => ?_)
                · have hT := T_shift (a1) (a2) ((((jshl (a3.toInt64) (32 : Int32))) ||| (((a4.toInt64) &&& ((4294967295 : Int64)))))) ((((jshl (a5.toInt64) (32 : Int32))) ||| (((a6.toInt64) &&& ((4294967295 : Int64)))))) f
                  rw [hT] at hP1
                  refine lv_iinc (v := nI (i + 8)) (lv' := [(3, .int (nI (i + 8))), (0, .ref b), (1, .ref q0), (2, .ref q1)]) hx hb dL_law_725 hl (k := 3) rfl (lw_i8 i) (by decide) rfl (fun ls hl => ?_)
                  refine lv_goto (tgt := 18) hx hb dL_law_728 (by decide) ?_
                  exact ih (i + 8) (by omega) (by omega) _ H locs hP1 hP2 hS ls (lv_sub hl [1, 2, 3, 0] rfl)
                · exact absurd (congrArg Prod.fst (T_shift (a1) (a2) ((((jshl (a3.toInt64) (32 : Int32))) ||| (((a4.toInt64) &&& ((4294967295 : Int64)))))) ((((jshl (a5.toInt64) (32 : Int32))) ||| (((a6.toInt64) &&& ((4294967295 : Int64)))))) f)) hc
              · skip
                by_cases hs5 : a0 &&& 7 = (5 : Int32)
                · refine lv_tableIn (tgt := 494) (off := 461) hx hb dL_law_33 (by rw [hs5]; decide) (by rw [hs5]; decide) (by rw [hs5]; decide +kernel) (by decide) ?_
                  refine lv_aload_n hx hb dL_law_494 rfl (lv_at hl 1 rfl) ?_
                  refine lv_aload_n hx hb dL_law_495 rfl (lv_at hl 0 rfl) ?_
                  refine lv_iload_n hx hb dL_law_496 rfl (lv_at hl 3 rfl) ?_
                  refine lv_iconst (v := 1) hx hb dL_law_497 (by decide) ?_
                  refine lv_iadd hx hb dL_law_498 ?_
                  refine va_sld hx hb hX hbl hbA hS hin1 dL_law_499 ?_
                  rw [← ea1]
                  refine lv_aload_n hx hb dL_law_500 rfl (lv_at hl 0 rfl) ?_
                  refine lv_iload_n hx hb dL_law_501 rfl (lv_at hl 3 rfl) ?_
                  refine lv_iconst (v := 2) hx hb dL_law_502 (by decide) ?_
                  refine lv_iadd hx hb dL_law_503 ?_
                  refine va_sld hx hb hX hbl hbA hS hin2 dL_law_504 ?_
                  rw [← ea2]
                  refine px_i2l hx hb dL_law_505 ?_
                  refine lv_bipush (v := 32) hx hb dL_law_506 (by decide) ?_
                  refine px_lshl hx hb dL_law_508 ?_
                  refine lv_aload_n hx hb dL_law_509 rfl (lv_at hl 0 rfl) ?_
                  refine lv_iload_n hx hb dL_law_510 rfl (lv_at hl 3 rfl) ?_
                  refine lv_iconst (v := 3) hx hb dL_law_511 (by decide) ?_
                  refine lv_iadd hx hb dL_law_512 ?_
                  refine va_sld hx hb hX hbl hbA hS hin3 dL_law_513 ?_
                  rw [← ea3]
                  refine px_i2l hx hb dL_law_514 ?_
                  refine lv_ldc2 hx hb hown (hts2 (.constantLong RL 13 (4294967295)) (by decide +kernel)) dL_law_515 ?_
                  refine lv_land hx hb dL_law_518 ?_
                  refine lv_lor hx hb dL_law_519 ?_
                  refine lv_aload_n hx hb dL_law_520 rfl (lv_at hl 0 rfl) ?_
                  refine lv_iload_n hx hb dL_law_521 rfl (lv_at hl 3 rfl) ?_
                  refine lv_iconst (v := 4) hx hb dL_law_522 (by decide) ?_
                  refine lv_iadd hx hb dL_law_523 ?_
                  refine va_sld hx hb hX hbl hbA hS hin4 dL_law_524 ?_
                  rw [← ea4]
                  refine lv_aload_n hx hb dL_law_525 rfl (lv_at hl 0 rfl) ?_
                  refine lv_iload_n hx hb dL_law_526 rfl (lv_at hl 3 rfl) ?_
                  refine lv_iconst (v := 5) hx hb dL_law_527 (by decide) ?_
                  refine lv_iadd hx hb dL_law_528 ?_
                  refine va_sld hx hb hX hbl hbA hS hin5 dL_law_529 ?_
                  rw [← ea5]
                  refine px_i2l hx hb dL_law_530 ?_
                  refine lv_bipush (v := 32) hx hb dL_law_531 (by decide) ?_
                  refine px_lshl hx hb dL_law_533 ?_
                  refine lv_aload_n hx hb dL_law_534 rfl (lv_at hl 0 rfl) ?_
                  refine lv_iload_n hx hb dL_law_535 rfl (lv_at hl 3 rfl) ?_
                  refine lv_bipush (v := 6) hx hb dL_law_536 (by decide) ?_
                  refine lv_iadd hx hb dL_law_538 ?_
                  refine va_sld hx hb hX hbl hbA hS hin6 dL_law_539 ?_
                  rw [← ea6]
                  refine px_i2l hx hb dL_law_540 ?_
                  refine lv_ldc2 hx hb hown (hts2 (.constantLong RL 13 (4294967295)) (by decide +kernel)) dL_law_541 ?_
                  refine lv_land hx hb dL_law_544 ?_
                  refine lv_lor hx hb dL_law_545 ?_
                  refine ob_Li (As := [.int (a1), .long ((((jshl (a2.toInt64) (32 : Int32))) ||| (((a3.toInt64) &&& ((4294967295 : Int64)))))), .int (a4), .long ((((jshl (a5.toInt64) (32 : Int32))) ||| (((a6.toInt64) &&& ((4294967295 : Int64))))))]) (rest := []) ⟨hx, hb, hml, hown, hts2⟩ (kX1_compare l D q0 (a1) ((((jshl (a2.toInt64) (32 : Int32))) ||| (((a3.toInt64) &&& ((4294967295 : Int64)))))) (a4) ((((jshl (a5.toInt64) (32 : Int32))) ||| (((a6.toInt64) &&& ((4294967295 : Int64)))))) f) hK hP1 hA0 hS (ci := 0) rfl (cwV 4 hts2 gL_law_X1_compare rfl rfl rfl (by decide +kernel) ⟨Nat.le_of_ble_eq_true rfl, Nat.le_of_ble_eq_true rfl⟩) rfl hl.1 rfl (Nat.le_of_ble_eq_true rfl) dL_law_546 (Nat.le_of_ble_eq_true rfl) (Nat.le_of_ble_eq_true rfl) (fun H locs hP1 hS hz hk => ?_)
                  have hP2 := ob_keep hP2 (hk _ (ob_lt hP2) (Ne.symm hne))
                  refine lv_aload_n hx hb dL_law_549 rfl (lv_at hl 2 rfl) ?_
                  refine lv_aload_n hx hb dL_law_550 rfl (lv_at hl 0 rfl) ?_
                  refine lv_iload_n hx hb dL_law_551 rfl (lv_at hl 3 rfl) ?_
                  refine lv_iconst (v := 1) hx hb dL_law_552 (by decide) ?_
                  refine lv_iadd hx hb dL_law_553 ?_
                  refine va_sld hx hb hX hbl hbA hS hin1 dL_law_554 ?_
                  rw [← ea1]
                  refine lv_aload_n hx hb dL_law_555 rfl (lv_at hl 0 rfl) ?_
                  refine lv_iload_n hx hb dL_law_556 rfl (lv_at hl 3 rfl) ?_
                  refine lv_iconst (v := 2) hx hb dL_law_557 (by decide) ?_
                  refine lv_iadd hx hb dL_law_558 ?_
                  refine va_sld hx hb hX hbl hbA hS hin2 dL_law_559 ?_
                  rw [← ea2]
                  refine px_i2l hx hb dL_law_560 ?_
                  refine lv_bipush (v := 32) hx hb dL_law_561 (by decide) ?_
                  refine px_lshl hx hb dL_law_563 ?_
                  refine lv_aload_n hx hb dL_law_564 rfl (lv_at hl 0 rfl) ?_
                  refine lv_iload_n hx hb dL_law_565 rfl (lv_at hl 3 rfl) ?_
                  refine lv_iconst (v := 3) hx hb dL_law_566 (by decide) ?_
                  refine lv_iadd hx hb dL_law_567 ?_
                  refine va_sld hx hb hX hbl hbA hS hin3 dL_law_568 ?_
                  rw [← ea3]
                  refine px_i2l hx hb dL_law_569 ?_
                  refine lv_ldc2 hx hb hown (hts2 (.constantLong RL 13 (4294967295)) (by decide +kernel)) dL_law_570 ?_
                  refine lv_land hx hb dL_law_573 ?_
                  refine lv_lor hx hb dL_law_574 ?_
                  refine lv_aload_n hx hb dL_law_575 rfl (lv_at hl 0 rfl) ?_
                  refine lv_iload_n hx hb dL_law_576 rfl (lv_at hl 3 rfl) ?_
                  refine lv_iconst (v := 4) hx hb dL_law_577 (by decide) ?_
                  refine lv_iadd hx hb dL_law_578 ?_
                  refine va_sld hx hb hX hbl hbA hS hin4 dL_law_579 ?_
                  rw [← ea4]
                  refine lv_aload_n hx hb dL_law_580 rfl (lv_at hl 0 rfl) ?_
                  refine lv_iload_n hx hb dL_law_581 rfl (lv_at hl 3 rfl) ?_
                  refine lv_iconst (v := 5) hx hb dL_law_582 (by decide) ?_
                  refine lv_iadd hx hb dL_law_583 ?_
                  refine va_sld hx hb hX hbl hbA hS hin5 dL_law_584 ?_
                  rw [← ea5]
                  refine px_i2l hx hb dL_law_585 ?_
                  refine lv_bipush (v := 32) hx hb dL_law_586 (by decide) ?_
                  refine px_lshl hx hb dL_law_588 ?_
                  refine lv_aload_n hx hb dL_law_589 rfl (lv_at hl 0 rfl) ?_
                  refine lv_iload_n hx hb dL_law_590 rfl (lv_at hl 3 rfl) ?_
                  refine lv_bipush (v := 6) hx hb dL_law_591 (by decide) ?_
                  refine lv_iadd hx hb dL_law_593 ?_
                  refine va_sld hx hb hX hbl hbA hS hin6 dL_law_594 ?_
                  rw [← ea6]
                  refine px_i2l hx hb dL_law_595 ?_
                  refine lv_ldc2 hx hb hown (hts2 (.constantLong RL 13 (4294967295)) (by decide +kernel)) dL_law_596 ?_
                  refine lv_land hx hb dL_law_599 ?_
                  refine lv_lor hx hb dL_law_600 ?_
                  refine ob_Li (As := [.int (a1), .long ((((jshl (a2.toInt64) (32 : Int32))) ||| (((a3.toInt64) &&& ((4294967295 : Int64)))))), .int (a4), .long ((((jshl (a5.toInt64) (32 : Int32))) ||| (((a6.toInt64) &&& ((4294967295 : Int64))))))]) (rest := [.int ((fX1_compare (a1) ((((jshl (a2.toInt64) (32 : Int32))) ||| (((a3.toInt64) &&& ((4294967295 : Int64)))))) (a4) ((((jshl (a5.toInt64) (32 : Int32))) ||| (((a6.toInt64) &&& ((4294967295 : Int64)))))) f).1)]) ⟨hx, hb, hml, hown, hts2⟩ (kX3_compare l D q1 (a1) ((((jshl (a2.toInt64) (32 : Int32))) ||| (((a3.toInt64) &&& ((4294967295 : Int64)))))) (a4) ((((jshl (a5.toInt64) (32 : Int32))) ||| (((a6.toInt64) &&& ((4294967295 : Int64)))))) f (O_compare (a1) ((((jshl (a2.toInt64) (32 : Int32))) ||| (((a3.toInt64) &&& ((4294967295 : Int64)))))) (a4) ((((jshl (a5.toInt64) (32 : Int32))) ||| (((a6.toInt64) &&& ((4294967295 : Int64)))))) f)) hK hP2 hA1 hS (ci := 1) rfl (cwV 4 hts2 gL_law_X3_compare rfl rfl rfl (by decide +kernel) ⟨Nat.le_of_ble_eq_true rfl, Nat.le_of_ble_eq_true rfl⟩) rfl hl.1 rfl (Nat.le_of_ble_eq_true rfl) dL_law_601 (Nat.le_of_ble_eq_true rfl) (Nat.le_of_ble_eq_true rfl) (fun H locs hP2 hS hz hk => ?_)
                  have hP1 := ob_keep hP1 (hk _ (ob_lt hP1) hne)
                  refine px_icmp_eq (tgt := 725) hx hb dL_law_604 (by decide) (fun hc => ?_) (fun hc => ?_)
                  · have hT := T_compare (a1) ((((jshl (a2.toInt64) (32 : Int32))) ||| (((a3.toInt64) &&& ((4294967295 : Int64)))))) (a4) ((((jshl (a5.toInt64) (32 : Int32))) ||| (((a6.toInt64) &&& ((4294967295 : Int64)))))) f
                    rw [hT] at hP1
                    refine lv_iinc (v := nI (i + 8)) (lv' := [(3, .int (nI (i + 8))), (0, .ref b), (1, .ref q0), (2, .ref q1)]) hx hb dL_law_725 hl (k := 3) rfl (lw_i8 i) (by decide) rfl (fun ls hl => ?_)
                    refine lv_goto (tgt := 18) hx hb dL_law_728 (by decide) ?_
                    exact ih (i + 8) (by omega) (by omega) _ H locs hP1 hP2 hS ls (lv_sub hl [1, 2, 3, 0] rfl)
                  · exact absurd (congrArg Prod.fst (T_compare (a1) ((((jshl (a2.toInt64) (32 : Int32))) ||| (((a3.toInt64) &&& ((4294967295 : Int64)))))) (a4) ((((jshl (a5.toInt64) (32 : Int32))) ||| (((a6.toInt64) &&& ((4294967295 : Int64)))))) f)) hc
                · skip
                  by_cases hs6 : a0 &&& 7 = (6 : Int32)
                  · refine lv_tableIn (tgt := 609) (off := 576) hx hb dL_law_33 (by rw [hs6]; decide) (by rw [hs6]; decide) (by rw [hs6]; decide +kernel) (by decide) ?_
                    refine lv_aload_n hx hb dL_law_609 rfl (lv_at hl 1 rfl) ?_
                    refine lv_aload_n hx hb dL_law_610 rfl (lv_at hl 0 rfl) ?_
                    refine lv_iload_n hx hb dL_law_611 rfl (lv_at hl 3 rfl) ?_
                    refine lv_iconst (v := 1) hx hb dL_law_612 (by decide) ?_
                    refine lv_iadd hx hb dL_law_613 ?_
                    refine va_sld hx hb hX hbl hbA hS hin1 dL_law_614 ?_
                    rw [← ea1]
                    refine lv_aload_n hx hb dL_law_615 rfl (lv_at hl 0 rfl) ?_
                    refine lv_iload_n hx hb dL_law_616 rfl (lv_at hl 3 rfl) ?_
                    refine lv_iconst (v := 2) hx hb dL_law_617 (by decide) ?_
                    refine lv_iadd hx hb dL_law_618 ?_
                    refine va_sld hx hb hX hbl hbA hS hin2 dL_law_619 ?_
                    rw [← ea2]
                    refine px_i2l hx hb dL_law_620 ?_
                    refine lv_bipush (v := 32) hx hb dL_law_621 (by decide) ?_
                    refine px_lshl hx hb dL_law_623 ?_
                    refine lv_aload_n hx hb dL_law_624 rfl (lv_at hl 0 rfl) ?_
                    refine lv_iload_n hx hb dL_law_625 rfl (lv_at hl 3 rfl) ?_
                    refine lv_iconst (v := 3) hx hb dL_law_626 (by decide) ?_
                    refine lv_iadd hx hb dL_law_627 ?_
                    refine va_sld hx hb hX hbl hbA hS hin3 dL_law_628 ?_
                    rw [← ea3]
                    refine px_i2l hx hb dL_law_629 ?_
                    refine lv_ldc2 hx hb hown (hts2 (.constantLong RL 13 (4294967295)) (by decide +kernel)) dL_law_630 ?_
                    refine lv_land hx hb dL_law_633 ?_
                    refine lv_lor hx hb dL_law_634 ?_
                    refine lv_aload_n hx hb dL_law_635 rfl (lv_at hl 0 rfl) ?_
                    refine lv_iload_n hx hb dL_law_636 rfl (lv_at hl 3 rfl) ?_
                    refine lv_iconst (v := 4) hx hb dL_law_637 (by decide) ?_
                    refine lv_iadd hx hb dL_law_638 ?_
                    refine va_sld hx hb hX hbl hbA hS hin4 dL_law_639 ?_
                    rw [← ea4]
                    refine px_i2l hx hb dL_law_640 ?_
                    refine lv_bipush (v := 32) hx hb dL_law_641 (by decide) ?_
                    refine px_lshl hx hb dL_law_643 ?_
                    refine lv_aload_n hx hb dL_law_644 rfl (lv_at hl 0 rfl) ?_
                    refine lv_iload_n hx hb dL_law_645 rfl (lv_at hl 3 rfl) ?_
                    refine lv_iconst (v := 5) hx hb dL_law_646 (by decide) ?_
                    refine lv_iadd hx hb dL_law_647 ?_
                    refine va_sld hx hb hX hbl hbA hS hin5 dL_law_648 ?_
                    rw [← ea5]
                    refine px_i2l hx hb dL_law_649 ?_
                    refine lv_ldc2 hx hb hown (hts2 (.constantLong RL 13 (4294967295)) (by decide +kernel)) dL_law_650 ?_
                    refine lv_land hx hb dL_law_653 ?_
                    refine lv_lor hx hb dL_law_654 ?_
                    refine ob_Li (As := [.int (a1), .long ((((jshl (a2.toInt64) (32 : Int32))) ||| (((a3.toInt64) &&& ((4294967295 : Int64)))))), .long ((((jshl (a4.toInt64) (32 : Int32))) ||| (((a5.toInt64) &&& ((4294967295 : Int64))))))]) (rest := []) ⟨hx, hb, hml, hown, hts2⟩ (kX1_order l D q0 (a1) ((((jshl (a2.toInt64) (32 : Int32))) ||| (((a3.toInt64) &&& ((4294967295 : Int64)))))) ((((jshl (a4.toInt64) (32 : Int32))) ||| (((a5.toInt64) &&& ((4294967295 : Int64)))))) f) hK hP1 hA0 hS (ci := 0) rfl (cwV 3 hts2 gL_law_X1_order rfl rfl rfl (by decide +kernel) ⟨Nat.le_of_ble_eq_true rfl, Nat.le_of_ble_eq_true rfl⟩) rfl hl.1 rfl (Nat.le_of_ble_eq_true rfl) dL_law_655 (Nat.le_of_ble_eq_true rfl) (Nat.le_of_ble_eq_true rfl) (fun H locs hP1 hS hz hk => ?_)
                    have hP2 := ob_keep hP2 (hk _ (ob_lt hP2) (Ne.symm hne))
                    refine lv_aload_n hx hb dL_law_658 rfl (lv_at hl 2 rfl) ?_
                    refine lv_aload_n hx hb dL_law_659 rfl (lv_at hl 0 rfl) ?_
                    refine lv_iload_n hx hb dL_law_660 rfl (lv_at hl 3 rfl) ?_
                    refine lv_iconst (v := 1) hx hb dL_law_661 (by decide) ?_
                    refine lv_iadd hx hb dL_law_662 ?_
                    refine va_sld hx hb hX hbl hbA hS hin1 dL_law_663 ?_
                    rw [← ea1]
                    refine lv_aload_n hx hb dL_law_664 rfl (lv_at hl 0 rfl) ?_
                    refine lv_iload_n hx hb dL_law_665 rfl (lv_at hl 3 rfl) ?_
                    refine lv_iconst (v := 2) hx hb dL_law_666 (by decide) ?_
                    refine lv_iadd hx hb dL_law_667 ?_
                    refine va_sld hx hb hX hbl hbA hS hin2 dL_law_668 ?_
                    rw [← ea2]
                    refine px_i2l hx hb dL_law_669 ?_
                    refine lv_bipush (v := 32) hx hb dL_law_670 (by decide) ?_
                    refine px_lshl hx hb dL_law_672 ?_
                    refine lv_aload_n hx hb dL_law_673 rfl (lv_at hl 0 rfl) ?_
                    refine lv_iload_n hx hb dL_law_674 rfl (lv_at hl 3 rfl) ?_
                    refine lv_iconst (v := 3) hx hb dL_law_675 (by decide) ?_
                    refine lv_iadd hx hb dL_law_676 ?_
                    refine va_sld hx hb hX hbl hbA hS hin3 dL_law_677 ?_
                    rw [← ea3]
                    refine px_i2l hx hb dL_law_678 ?_
                    refine lv_ldc2 hx hb hown (hts2 (.constantLong RL 13 (4294967295)) (by decide +kernel)) dL_law_679 ?_
                    refine lv_land hx hb dL_law_682 ?_
                    refine lv_lor hx hb dL_law_683 ?_
                    refine lv_aload_n hx hb dL_law_684 rfl (lv_at hl 0 rfl) ?_
                    refine lv_iload_n hx hb dL_law_685 rfl (lv_at hl 3 rfl) ?_
                    refine lv_iconst (v := 4) hx hb dL_law_686 (by decide) ?_
                    refine lv_iadd hx hb dL_law_687 ?_
                    refine va_sld hx hb hX hbl hbA hS hin4 dL_law_688 ?_
                    rw [← ea4]
                    refine px_i2l hx hb dL_law_689 ?_
                    refine lv_bipush (v := 32) hx hb dL_law_690 (by decide) ?_
                    refine px_lshl hx hb dL_law_692 ?_
                    refine lv_aload_n hx hb dL_law_693 rfl (lv_at hl 0 rfl) ?_
                    refine lv_iload_n hx hb dL_law_694 rfl (lv_at hl 3 rfl) ?_
                    refine lv_iconst (v := 5) hx hb dL_law_695 (by decide) ?_
                    refine lv_iadd hx hb dL_law_696 ?_
                    refine va_sld hx hb hX hbl hbA hS hin5 dL_law_697 ?_
                    rw [← ea5]
                    refine px_i2l hx hb dL_law_698 ?_
                    refine lv_ldc2 hx hb hown (hts2 (.constantLong RL 13 (4294967295)) (by decide +kernel)) dL_law_699 ?_
                    refine lv_land hx hb dL_law_702 ?_
                    refine lv_lor hx hb dL_law_703 ?_
                    refine ob_Li (As := [.int (a1), .long ((((jshl (a2.toInt64) (32 : Int32))) ||| (((a3.toInt64) &&& ((4294967295 : Int64)))))), .long ((((jshl (a4.toInt64) (32 : Int32))) ||| (((a5.toInt64) &&& ((4294967295 : Int64))))))]) (rest := [.int ((fX1_order (a1) ((((jshl (a2.toInt64) (32 : Int32))) ||| (((a3.toInt64) &&& ((4294967295 : Int64)))))) ((((jshl (a4.toInt64) (32 : Int32))) ||| (((a5.toInt64) &&& ((4294967295 : Int64)))))) f).1)]) ⟨hx, hb, hml, hown, hts2⟩ (kX3_order l D q1 (a1) ((((jshl (a2.toInt64) (32 : Int32))) ||| (((a3.toInt64) &&& ((4294967295 : Int64)))))) ((((jshl (a4.toInt64) (32 : Int32))) ||| (((a5.toInt64) &&& ((4294967295 : Int64)))))) f (O_order (a1) ((((jshl (a2.toInt64) (32 : Int32))) ||| (((a3.toInt64) &&& ((4294967295 : Int64)))))) ((((jshl (a4.toInt64) (32 : Int32))) ||| (((a5.toInt64) &&& ((4294967295 : Int64)))))) f)) hK hP2 hA1 hS (ci := 1) rfl (cwV 3 hts2 gL_law_X3_order rfl rfl rfl (by decide +kernel) ⟨Nat.le_of_ble_eq_true rfl, Nat.le_of_ble_eq_true rfl⟩) rfl hl.1 rfl (Nat.le_of_ble_eq_true rfl) dL_law_704 (Nat.le_of_ble_eq_true rfl) (Nat.le_of_ble_eq_true rfl) (fun H locs hP2 hS hz hk => ?_)
                    have hP1 := ob_keep hP1 (hk _ (ob_lt hP1) hne)
                    refine px_icmp_eq (tgt := 725) hx hb dL_law_707 (by decide) (fun hc => ?_) (fun hc => ?_)
                    · have hT := T_order (a1) ((((jshl (a2.toInt64) (32 : Int32))) ||| (((a3.toInt64) &&& ((4294967295 : Int64)))))) ((((jshl (a4.toInt64) (32 : Int32))) ||| (((a5.toInt64) &&& ((4294967295 : Int64)))))) f
                      rw [hT] at hP1
                      refine lv_iinc (v := nI (i + 8)) (lv' := [(3, .int (nI (i + 8))), (0, .ref b), (1, .ref q0), (2, .ref q1)]) hx hb dL_law_725 hl (k := 3) rfl (lw_i8 i) (by decide) rfl (fun ls hl => ?_)
                      refine lv_goto (tgt := 18) hx hb dL_law_728 (by decide) ?_
                      exact ih (i + 8) (by omega) (by omega) _ H locs hP1 hP2 hS ls (lv_sub hl [1, 2, 3, 0] rfl)
                    · exact absurd (congrArg Prod.fst (T_order (a1) ((((jshl (a2.toInt64) (32 : Int32))) ||| (((a3.toInt64) &&& ((4294967295 : Int64)))))) ((((jshl (a4.toInt64) (32 : Int32))) ||| (((a5.toInt64) &&& ((4294967295 : Int64)))))) f)) hc
                  · skip
                    by_cases hs7 : a0 &&& 7 = (7 : Int32)
                    · refine lv_tableIn (tgt := 712) (off := 679) hx hb dL_law_33 (by rw [hs7]; decide) (by rw [hs7]; decide) (by rw [hs7]; decide +kernel) (by decide) ?_
                      refine lv_aload_n hx hb dL_law_712 rfl (lv_at hl 1 rfl) ?_
                      refine ob_Li (As := []) (rest := []) ⟨hx, hb, hml, hown, hts2⟩ (kX1_failed l D q0  f) hK hP1 hA0 hS (ci := 0) rfl (cwV 0 hts2 gL_law_X1_failed rfl rfl rfl (by decide +kernel) ⟨Nat.le_of_ble_eq_true rfl, Nat.le_of_ble_eq_true rfl⟩) rfl hl.1 rfl (Nat.le_of_ble_eq_true rfl) dL_law_713 (Nat.le_of_ble_eq_true rfl) (Nat.le_of_ble_eq_true rfl) (fun H locs hP1 hS hz hk => ?_)
                      have hP2 := ob_keep hP2 (hk _ (ob_lt hP2) (Ne.symm hne))
                      refine lv_aload_n hx hb dL_law_716 rfl (lv_at hl 2 rfl) ?_
                      refine ob_Li (As := []) (rest := [.int ((fX1_failed  f).1)]) ⟨hx, hb, hml, hown, hts2⟩ (kX3_failed l D q1  f) hK hP2 hA1 hS (ci := 1) rfl (cwV 0 hts2 gL_law_X3_failed rfl rfl rfl (by decide +kernel) ⟨Nat.le_of_ble_eq_true rfl, Nat.le_of_ble_eq_true rfl⟩) rfl hl.1 rfl (Nat.le_of_ble_eq_true rfl) dL_law_717 (Nat.le_of_ble_eq_true rfl) (Nat.le_of_ble_eq_true rfl) (fun H locs hP2 hS hz hk => ?_)
                      have hP1 := ob_keep hP1 (hk _ (ob_lt hP1) hne)
                      refine px_icmp_eq (tgt := 725) hx hb dL_law_720 (by decide) (fun hc => ?_) (fun hc => ?_)
                      · have hT := T_failed  f
                        rw [hT] at hP1
                        refine lv_iinc (v := nI (i + 8)) (lv' := [(3, .int (nI (i + 8))), (0, .ref b), (1, .ref q0), (2, .ref q1)]) hx hb dL_law_725 hl (k := 3) rfl (lw_i8 i) (by decide) rfl (fun ls hl => ?_)
                        refine lv_goto (tgt := 18) hx hb dL_law_728 (by decide) ?_
                        exact ih (i + 8) (by omega) (by omega) _ H locs hP1 hP2 hS ls (lv_sub hl [1, 2, 3, 0] rfl)
                      · exact absurd (congrArg Prod.fst (T_failed  f)) hc
                    · refine lv_tableOut (tgt := 725) hx hb dL_law_33 (by have z0 := lv_neT (a := 0) hs0 (by decide); have z1 := lv_neT (a := 1) hs1 (by decide); have z2 := lv_neT (a := 2) hs2 (by decide); have z3 := lv_neT (a := 3) hs3 (by decide); have z4 := lv_neT (a := 4) hs4 (by decide); have z5 := lv_neT (a := 5) hs5 (by decide); have z6 := lv_neT (a := 6) hs6 (by decide); have z7 := lv_neT (a := 7) hs7 (by decide); omega) (by decide) ?_
                      refine lv_iinc (v := nI (i + 8)) (lv' := [(3, .int (nI (i + 8))), (0, .ref b), (1, .ref q0), (2, .ref q1)]) hx hb dL_law_725 hl (k := 3) rfl (lw_i8 i) (by decide) rfl (fun ls hl => ?_)
                      refine lv_goto (tgt := 18) hx hb dL_law_728 (by decide) ?_
                      exact ih (i + 8) (by omega) (by omega) _ H locs hP1 hP2 hS ls (lv_sub hl [1, 2, 3, 0] rfl)
