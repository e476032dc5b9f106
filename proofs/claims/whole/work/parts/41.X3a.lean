set_option maxHeartbeats 4000000 in
set_option maxRecDepth 100000 in
theorem wX3_isNumber_0 {p : Program} {l : Launch} {e : Env} {s : State} {m : MethodId} {args : Array Value} {below : List Frame} {meth : Method} {c : Code} (C : px_C p s m args meth c cX3_isNumber 1 (some .boolean) RX3 wsX3_isNumber) (v0 : Int32) {ls : Array Slot} (hl : lv_has ls 1 [(0, .int v0)]) : W p l e { frames := 0, cells := 0, slots := 0, locals := 0 } s m args below meth c s.heap [] 0 0 (MQ below (px_Q (.int (fX3_isNumber_0 v0))) args s 0 0 (fun _ => False)) (F0 m 0 ls []) := by
  obtain ⟨hx, hb, hml, hown, hts, hr, hlocks⟩ := id C
  rw [fX3_isNumber_0]
  refine lv_iload_n hx hb dX3_isNumber_0 rfl (lv_at hl 0 rfl) ?_
  refine lv_iconst (v := 1) hx hb dX3_isNumber_1 (by decide) ?_
  refine px_icmp_lt (tgt := 15) hx hb dX3_isNumber_2 (by decide) (fun hc2 => ?_) (fun hc2 => ?_)
  · rw [if_pos hc2]
    refine lv_iconst (v := 0) hx hb dX3_isNumber_15 (by decide) ?_
    exact W.zret hx hb hr (by decide) (fun t ht _ => ⟨rfl, ht⟩) (fun q h => by cases h) dX3_isNumber_16
  · rw [if_neg hc2]
    refine lv_iload_n hx hb dX3_isNumber_5 rfl (lv_at hl 0 rfl) ?_
    refine lv_bipush (v := 7) hx hb dX3_isNumber_6 (by decide) ?_
    refine px_icmp_gt (tgt := 15) hx hb dX3_isNumber_8 (by decide) (fun hc8 => ?_) (fun hc8 => ?_)
    · rw [if_pos hc8]
      refine lv_iconst (v := 0) hx hb dX3_isNumber_15 (by decide) ?_
      exact W.zret hx hb hr (by decide) (fun t ht _ => ⟨rfl, ht⟩) (fun q h => by cases h) dX3_isNumber_16
    · rw [if_neg hc8]
      refine lv_iconst (v := 1) hx hb dX3_isNumber_11 (by decide) ?_
      refine lv_goto (tgt := 16) hx hb dX3_isNumber_12 (by decide) ?_
      exact W.zret hx hb hr (by decide) (fun t ht _ => ⟨rfl, ht⟩) (fun q h => by cases h) dX3_isNumber_16
theorem zX3_isNumber_0 (v0 : Int32) : fX3_isNumber_0 v0 = 0 ∨ fX3_isNumber_0 v0 = 1 := by
  unfold fX3_isNumber_0
  (repeat' split) <;> first | exact Or.inl rfl | exact Or.inr rfl
theorem zX3_isNumber (v0 : Int32) : fX3_isNumber v0 = 0 ∨ fX3_isNumber v0 = 1 := zX3_isNumber_0 _
set_option maxHeartbeats 4000000 in
set_option maxRecDepth 100000 in
theorem kX3_isNumber (l : Launch) (v0 : Int32) : px_M l yX3_isNumber wsX3_isNumber ({ frames := 0, cells := 0, slots := 0, locals := 0 }) [.int v0] (.int (fX3_isNumber v0)) := by
  refine Met.ofW (cc := cX3_isNumber) (maxL := 1) (ret := (some .boolean)) (by decide) rfl ?_
  intro p e s m args below meth c s₁ B hml hv
  cases hv
  have C : px_C p s m _ meth c cX3_isNumber 1 (some .boolean) RX3 wsX3_isNumber := ⟨B.exec, B.bytes, hml, findClass_of_methodNamed B.named, atoms_spec (ws := wsX3_isNumber) B.pre, B.returns, B.notSynchronized⟩
  have hl := lv_entry ([.int v0]) (n := 1) (Nat.le_of_ble_eq_true rfl)
  rw [lg_entry_eq]
  generalize (lg_sl ([.int v0]) ++ List.replicate (1 - (lg_sl ([.int v0])).length) Slot.unset).toArray = ls at hl ⊢
  have hl : lv_has ls 1 [(0, .int v0)] := hl
  rw [fX3_isNumber]
  exact wX3_isNumber_0 C v0 (lv_sub hl [0] rfl)
set_option maxHeartbeats 4000000 in
set_option maxRecDepth 100000 in
theorem wX3_hasBits_0 {p : Program} {l : Launch} {e : Env} {s : State} {m : MethodId} {args : Array Value} {below : List Frame} {meth : Method} {c : Code} (C : px_C p s m args meth c cX3_hasBits 3 (some .boolean) RX3 wsX3_hasBits) (v0 : Int32) (v1 : Int64) (hok : okX3_hasBits_0 v0 v1) {ls : Array Slot} (hl : lv_has ls 3 [(0, .int v0), (1, .long v1)]) : W p l e { frames := 2, cells := 0, slots := 0, locals := 64 } s m args below meth c s.heap [] 0 0 (MQ below (px_Q (.int (fX3_hasBits_0 v0 v1))) args s 0 0 (fun _ => False)) (F0 m 0 ls []) := by
  obtain ⟨hx, hb, hml, hown, hts, hr, hlocks⟩ := id C
  rw [fX3_hasBits_0]
  rw [okX3_hasBits_0] at hok
  refine lv_iload_n hx hb dX3_hasBits_0 rfl (lv_at hl 0 rfl) ?_
  by_cases hs1_0 : v0 = (0 : Int32)
  · rw [if_pos hs1_0]
    have hok := hok.1 hs1_0
    refine lv_tableIn (tgt := 48) (off := 47) hx hb dX3_hasBits_1 (by rw [hs1_0]; decide) (by rw [hs1_0]; decide) (by rw [hs1_0]; decide +kernel) (by decide) ?_
    refine lv_lload_n hx hb dX3_hasBits_48 rfl (lv_at hl 1 rfl) ?_
    refine lv_lconst (v := 0) hx hb dX3_hasBits_49 (by decide) ?_
    refine px_lcmp_eq (tgt := 60) hx hb dX3_hasBits_50 dX3_hasBits_51 (by decide) (fun hc50 => ?_) (fun hc50 => ?_)
    · rw [if_pos hc50]
      have hok := hok.1 hc50
      refine lv_iconst (v := 1) hx hb dX3_hasBits_60 (by decide) ?_
      refine lv_goto (tgt := 65) hx hb dX3_hasBits_61 (by decide) ?_
      exact W.zret hx hb hr (by decide) (fun t ht _ => ⟨rfl, ht⟩) (fun q h => by cases h) dX3_hasBits_65
    · rw [if_neg hc50]
      have hok := hok.2 hc50
      refine lv_lload_n hx hb dX3_hasBits_54 rfl (lv_at hl 1 rfl) ?_
      refine lv_lconst (v := 1) hx hb dX3_hasBits_55 (by decide) ?_
      refine px_lcmp_ne (tgt := 64) hx hb dX3_hasBits_56 dX3_hasBits_57 (by decide) (fun hc56 => ?_) (fun hc56 => ?_)
      · rw [if_pos hc56]
        have hok := hok.1 hc56
        refine lv_iconst (v := 1) hx hb dX3_hasBits_60 (by decide) ?_
        refine lv_goto (tgt := 65) hx hb dX3_hasBits_61 (by decide) ?_
        exact W.zret hx hb hr (by decide) (fun t ht _ => ⟨rfl, ht⟩) (fun q h => by cases h) dX3_hasBits_65
      · rw [if_neg hc56]
        have hok := hok.2 hc56
        refine lv_iconst (v := 0) hx hb dX3_hasBits_64 (by decide) ?_
        exact W.zret hx hb hr (by decide) (fun t ht _ => ⟨rfl, ht⟩) (fun q h => by cases h) dX3_hasBits_65
  · rw [if_neg hs1_0]
    have hok := hok.2 hs1_0
    by_cases hs1_1 : v0 = (1 : Int32)
    · rw [if_pos hs1_1]
      have hok := hok.1 hs1_1
      refine lv_tableIn (tgt := 66) (off := 65) hx hb dX3_hasBits_1 (by rw [hs1_1]; decide) (by rw [hs1_1]; decide) (by rw [hs1_1]; decide +kernel) (by decide) ?_
      refine lv_lload_n hx hb dX3_hasBits_66 rfl (lv_at hl 1 rfl) ?_
      refine lv_ldc2 hx hb hown (hts (.constantLong RX3 13 (-128)) (by decide +kernel)) dX3_hasBits_67 ?_
      refine px_lcmp_lt (tgt := 86) hx hb dX3_hasBits_70 dX3_hasBits_71 (by decide) (fun hc70 => ?_) (fun hc70 => ?_)
      · rw [if_pos hc70]
        have hok := hok.1 hc70
        refine lv_iconst (v := 0) hx hb dX3_hasBits_86 (by decide) ?_
        exact W.zret hx hb hr (by decide) (fun t ht _ => ⟨rfl, ht⟩) (fun q h => by cases h) dX3_hasBits_87
      · rw [if_neg hc70]
        have hok := hok.2 hc70
        refine lv_lload_n hx hb dX3_hasBits_74 rfl (lv_at hl 1 rfl) ?_
        refine lv_ldc2 hx hb hown (hts (.constantLong RX3 15 (127)) (by decide +kernel)) dX3_hasBits_75 ?_
        refine px_lcmp_gt (tgt := 86) hx hb dX3_hasBits_78 dX3_hasBits_79 (by decide) (fun hc78 => ?_) (fun hc78 => ?_)
        · rw [if_pos hc78]
          have hok := hok.1 hc78
          refine lv_iconst (v := 0) hx hb dX3_hasBits_86 (by decide) ?_
          exact W.zret hx hb hr (by decide) (fun t ht _ => ⟨rfl, ht⟩) (fun q h => by cases h) dX3_hasBits_87
        · rw [if_neg hc78]
          have hok := hok.2 hc78
          refine lv_iconst (v := 1) hx hb dX3_hasBits_82 (by decide) ?_
          refine lv_goto (tgt := 87) hx hb dX3_hasBits_83 (by decide) ?_
          exact W.zret hx hb hr (by decide) (fun t ht _ => ⟨rfl, ht⟩) (fun q h => by cases h) dX3_hasBits_87
    · rw [if_neg hs1_1]
      have hok := hok.2 hs1_1
      by_cases hs1_2 : v0 = (2 : Int32)
      · rw [if_pos hs1_2]
        have hok := hok.1 hs1_2
        refine lv_tableIn (tgt := 88) (off := 87) hx hb dX3_hasBits_1 (by rw [hs1_2]; decide) (by rw [hs1_2]; decide) (by rw [hs1_2]; decide +kernel) (by decide) ?_
        refine lv_lload_n hx hb dX3_hasBits_88 rfl (lv_at hl 1 rfl) ?_
        refine lv_ldc2 hx hb hown (hts (.constantLong RX3 17 (-32768)) (by decide +kernel)) dX3_hasBits_89 ?_
        refine px_lcmp_lt (tgt := 108) hx hb dX3_hasBits_92 dX3_hasBits_93 (by decide) (fun hc92 => ?_) (fun hc92 => ?_)
        · rw [if_pos hc92]
          have hok := hok.1 hc92
          refine lv_iconst (v := 0) hx hb dX3_hasBits_108 (by decide) ?_
          exact W.zret hx hb hr (by decide) (fun t ht _ => ⟨rfl, ht⟩) (fun q h => by cases h) dX3_hasBits_109
        · rw [if_neg hc92]
          have hok := hok.2 hc92
          refine lv_lload_n hx hb dX3_hasBits_96 rfl (lv_at hl 1 rfl) ?_
          refine lv_ldc2 hx hb hown (hts (.constantLong RX3 19 (32767)) (by decide +kernel)) dX3_hasBits_97 ?_
          refine px_lcmp_gt (tgt := 108) hx hb dX3_hasBits_100 dX3_hasBits_101 (by decide) (fun hc100 => ?_) (fun hc100 => ?_)
          · rw [if_pos hc100]
            have hok := hok.1 hc100
            refine lv_iconst (v := 0) hx hb dX3_hasBits_108 (by decide) ?_
            exact W.zret hx hb hr (by decide) (fun t ht _ => ⟨rfl, ht⟩) (fun q h => by cases h) dX3_hasBits_109
          · rw [if_neg hc100]
            have hok := hok.2 hc100
            refine lv_iconst (v := 1) hx hb dX3_hasBits_104 (by decide) ?_
            refine lv_goto (tgt := 109) hx hb dX3_hasBits_105 (by decide) ?_
            exact W.zret hx hb hr (by decide) (fun t ht _ => ⟨rfl, ht⟩) (fun q h => by cases h) dX3_hasBits_109
      · rw [if_neg hs1_2]
        have hok := hok.2 hs1_2
        by_cases hs1_3 : v0 = (3 : Int32)
        · rw [if_pos hs1_3]
          have hok := hok.1 hs1_3
          refine lv_tableIn (tgt := 110) (off := 109) hx hb dX3_hasBits_1 (by rw [hs1_3]; decide) (by rw [hs1_3]; decide) (by rw [hs1_3]; decide +kernel) (by decide) ?_
          refine lv_lload_n hx hb dX3_hasBits_110 rfl (lv_at hl 1 rfl) ?_
          refine lv_lconst (v := 0) hx hb dX3_hasBits_111 (by decide) ?_
          refine px_lcmp_lt (tgt := 128) hx hb dX3_hasBits_112 dX3_hasBits_113 (by decide) (fun hc112 => ?_) (fun hc112 => ?_)
          · rw [if_pos hc112]
            have hok := hok.1 hc112
            refine lv_iconst (v := 0) hx hb dX3_hasBits_128 (by decide) ?_
            exact W.zret hx hb hr (by decide) (fun t ht _ => ⟨rfl, ht⟩) (fun q h => by cases h) dX3_hasBits_129
          · rw [if_neg hc112]
            have hok := hok.2 hc112
            refine lv_lload_n hx hb dX3_hasBits_116 rfl (lv_at hl 1 rfl) ?_
            refine lv_ldc2 hx hb hown (hts (.constantLong RX3 21 (65535)) (by decide +kernel)) dX3_hasBits_117 ?_
            refine px_lcmp_gt (tgt := 128) hx hb dX3_hasBits_120 dX3_hasBits_121 (by decide) (fun hc120 => ?_) (fun hc120 => ?_)
            · rw [if_pos hc120]
              have hok := hok.1 hc120
              refine lv_iconst (v := 0) hx hb dX3_hasBits_128 (by decide) ?_
              exact W.zret hx hb hr (by decide) (fun t ht _ => ⟨rfl, ht⟩) (fun q h => by cases h) dX3_hasBits_129
            · rw [if_neg hc120]
              have hok := hok.2 hc120
              refine lv_iconst (v := 1) hx hb dX3_hasBits_124 (by decide) ?_
              refine lv_goto (tgt := 129) hx hb dX3_hasBits_125 (by decide) ?_
              exact W.zret hx hb hr (by decide) (fun t ht _ => ⟨rfl, ht⟩) (fun q h => by cases h) dX3_hasBits_129
        · rw [if_neg hs1_3]
          have hok := hok.2 hs1_3
          by_cases hs1_4 : v0 = (4 : Int32)
          · rw [if_pos hs1_4]
            have hok := hok.1 hs1_4
            refine lv_tableIn (tgt := 130) (off := 129) hx hb dX3_hasBits_1 (by rw [hs1_4]; decide) (by rw [hs1_4]; decide) (by rw [hs1_4]; decide +kernel) (by decide) ?_
            refine lv_lload_n hx hb dX3_hasBits_130 rfl (lv_at hl 1 rfl) ?_
            refine lv_ldc2 hx hb hown (hts (.constantLong RX3 25 (-2147483648)) (by decide +kernel)) dX3_hasBits_131 ?_
            refine px_lcmp_lt (tgt := 150) hx hb dX3_hasBits_134 dX3_hasBits_135 (by decide) (fun hc134 => ?_) (fun hc134 => ?_)
            · rw [if_pos hc134]
              have hok := hok.1 hc134
              refine lv_iconst (v := 0) hx hb dX3_hasBits_150 (by decide) ?_
              exact W.zret hx hb hr (by decide) (fun t ht _ => ⟨rfl, ht⟩) (fun q h => by cases h) dX3_hasBits_151
            · rw [if_neg hc134]
              have hok := hok.2 hc134
              refine lv_lload_n hx hb dX3_hasBits_138 rfl (lv_at hl 1 rfl) ?_
              refine lv_ldc2 hx hb hown (hts (.constantLong RX3 27 (2147483647)) (by decide +kernel)) dX3_hasBits_139 ?_
              refine px_lcmp_gt (tgt := 150) hx hb dX3_hasBits_142 dX3_hasBits_143 (by decide) (fun hc142 => ?_) (fun hc142 => ?_)
              · rw [if_pos hc142]
                have hok := hok.1 hc142
                refine lv_iconst (v := 0) hx hb dX3_hasBits_150 (by decide) ?_
                exact W.zret hx hb hr (by decide) (fun t ht _ => ⟨rfl, ht⟩) (fun q h => by cases h) dX3_hasBits_151
              · rw [if_neg hc142]
                have hok := hok.2 hc142
                refine lv_iconst (v := 1) hx hb dX3_hasBits_146 (by decide) ?_
                refine lv_goto (tgt := 151) hx hb dX3_hasBits_147 (by decide) ?_
                exact W.zret hx hb hr (by decide) (fun t ht _ => ⟨rfl, ht⟩) (fun q h => by cases h) dX3_hasBits_151
          · rw [if_neg hs1_4]
            have hok := hok.2 hs1_4
            by_cases hs1_5 : v0 = (5 : Int32)
            · rw [if_pos hs1_5]
              have hok := hok.1 hs1_5
              refine lv_tableIn (tgt := 152) (off := 151) hx hb dX3_hasBits_1 (by rw [hs1_5]; decide) (by rw [hs1_5]; decide) (by rw [hs1_5]; decide +kernel) (by decide) ?_
              refine lv_iconst (v := 1) hx hb dX3_hasBits_152 (by decide) ?_
              exact W.zret hx hb hr (by decide) (fun t ht _ => ⟨rfl, ht⟩) (fun q h => by cases h) dX3_hasBits_153
            · rw [if_neg hs1_5]
              have hok := hok.2 hs1_5
              by_cases hs1_6 : v0 = (6 : Int32)
              · rw [if_pos hs1_6]
                have hok := hok.1 hs1_6
                refine lv_tableIn (tgt := 154) (off := 153) hx hb dX3_hasBits_1 (by rw [hs1_6]; decide) (by rw [hs1_6]; decide) (by rw [hs1_6]; decide +kernel) (by decide) ?_
                refine lv_lload_n hx hb dX3_hasBits_154 rfl (lv_at hl 1 rfl) ?_
                refine lv_lconst (v := 0) hx hb dX3_hasBits_155 (by decide) ?_
                refine px_lcmp_lt (tgt := 183) hx hb dX3_hasBits_156 dX3_hasBits_157 (by decide) (fun hc156 => ?_) (fun hc156 => ?_)
                · rw [if_pos hc156]
                  have hok := hok.1 hc156
                  refine lv_iconst (v := 0) hx hb dX3_hasBits_183 (by decide) ?_
                  exact W.zret hx hb hr (by decide) (fun t ht _ => ⟨rfl, ht⟩) (fun q h => by cases h) dX3_hasBits_184
                · rw [if_neg hc156]
                  have hok := hok.2 hc156
                  refine lv_lload_n hx hb dX3_hasBits_160 rfl (lv_at hl 1 rfl) ?_
                  refine lv_ldc2 hx hb hown (hts (.constantLong RX3 29 (4294967295)) (by decide +kernel)) dX3_hasBits_161 ?_
                  refine px_lcmp_gt (tgt := 183) hx hb dX3_hasBits_164 dX3_hasBits_165 (by decide) (fun hc164 => ?_) (fun hc164 => ?_)
                  · rw [if_pos hc164]
                    have hok := hok.1 hc164
                    refine lv_iconst (v := 0) hx hb dX3_hasBits_183 (by decide) ?_
                    exact W.zret hx hb hr (by decide) (fun t ht _ => ⟨rfl, ht⟩) (fun q h => by cases h) dX3_hasBits_184
                  · rw [if_neg hc164]
                    have hok := hok.2 hc164
                    refine lv_lload_n hx hb dX3_hasBits_168 rfl (lv_at hl 1 rfl) ?_
                    refine px_l2i hx hb dX3_hasBits_169 ?_
                    obtain ⟨hk, hok⟩ := hok
                    refine px_S (As := [.int (v1.toInt32)]) (rest := []) ⟨hx, hb, hml, hown, hts⟩ (kX2_wide l (v1.toInt32) hk) (va_cwS 1 hts gX3_hasBits_X2_wide rfl rfl rfl (by decide +kernel) ⟨Nat.le_of_ble_eq_true rfl, Nat.le_of_ble_eq_true rfl⟩) rfl hl.1 rfl (Nat.le_of_ble_eq_true rfl) dX3_hasBits_170 (Nat.zero_le _) (Nat.zero_le _) ?_
                    refine px_S (As := [.long (fX2_wide (v1.toInt32))]) (rest := []) ⟨hx, hb, hml, hown, hts⟩ (kX2_isNone l (fX2_wide (v1.toInt32))) (va_cwS 1 hts gX3_hasBits_X2_isNone rfl rfl rfl (by decide +kernel) ⟨Nat.le_of_ble_eq_true rfl, Nat.le_of_ble_eq_true rfl⟩) rfl hl.1 rfl (Nat.le_of_ble_eq_true rfl) dX3_hasBits_173 (Nat.zero_le _) (Nat.zero_le _) ?_
                    refine px_if_ne (tgt := 183) hx hb dX3_hasBits_176 (by decide) (fun hc176 => ?_) (fun hc176 => ?_)
                    · rw [if_pos hc176]
                      have hok := hok.1 hc176
                      refine lv_iconst (v := 1) hx hb dX3_hasBits_179 (by decide) ?_
                      refine lv_goto (tgt := 184) hx hb dX3_hasBits_180 (by decide) ?_
                      exact W.zret hx hb hr (by decide) (fun t ht _ => ⟨rfl, ht⟩) (fun q h => by cases h) dX3_hasBits_184
                    · rw [if_neg hc176]
                      have hok := hok.2 hc176
                      refine lv_iconst (v := 0) hx hb dX3_hasBits_183 (by decide) ?_
                      exact W.zret hx hb hr (by decide) (fun t ht _ => ⟨rfl, ht⟩) (fun q h => by cases h) dX3_hasBits_184
              · rw [if_neg hs1_6]
                have hok := hok.2 hs1_6
                by_cases hs1_7 : v0 = (7 : Int32)
                · rw [if_pos hs1_7]
                  have hok := hok.1 hs1_7
                  refine lv_tableIn (tgt := 185) (off := 184) hx hb dX3_hasBits_1 (by rw [hs1_7]; decide) (by rw [hs1_7]; decide) (by rw [hs1_7]; decide +kernel) (by decide) ?_
                  refine lv_lload_n hx hb dX3_hasBits_185 rfl (lv_at hl 1 rfl) ?_
                  refine px_S (As := [.long v1]) (rest := []) ⟨hx, hb, hml, hown, hts⟩ (kX2_isNone l v1) (va_cwS 1 hts gX3_hasBits_X2_isNone rfl rfl rfl (by decide +kernel) ⟨Nat.le_of_ble_eq_true rfl, Nat.le_of_ble_eq_true rfl⟩) rfl hl.1 rfl (Nat.le_of_ble_eq_true rfl) dX3_hasBits_186 (Nat.zero_le _) (Nat.zero_le _) ?_
                  refine px_if_ne (tgt := 196) hx hb dX3_hasBits_189 (by decide) (fun hc189 => ?_) (fun hc189 => ?_)
                  · rw [if_pos hc189]
                    have hok := hok.1 hc189
                    refine lv_iconst (v := 1) hx hb dX3_hasBits_192 (by decide) ?_
                    refine lv_goto (tgt := 197) hx hb dX3_hasBits_193 (by decide) ?_
                    exact W.zret hx hb hr (by decide) (fun t ht _ => ⟨rfl, ht⟩) (fun q h => by cases h) dX3_hasBits_197
                  · rw [if_neg hc189]
                    have hok := hok.2 hc189
                    refine lv_iconst (v := 0) hx hb dX3_hasBits_196 (by decide) ?_
                    exact W.zret hx hb hr (by decide) (fun t ht _ => ⟨rfl, ht⟩) (fun q h => by cases h) dX3_hasBits_197
                · rw [if_neg hs1_7]
                  have hok := hok.2 hs1_7
                  refine lv_tableOut (tgt := 198) hx hb dX3_hasBits_1 (by have q0 := lv_neT (a := 0) hs1_0 (by decide); have q1 := lv_neT (a := 1) hs1_1 (by decide); have q2 := lv_neT (a := 2) hs1_2 (by decide); have q3 := lv_neT (a := 3) hs1_3 (by decide); have q4 := lv_neT (a := 4) hs1_4 (by decide); have q5 := lv_neT (a := 5) hs1_5 (by decide); have q6 := lv_neT (a := 6) hs1_6 (by decide); have q7 := lv_neT (a := 7) hs1_7 (by decide); omega) (by decide) ?_
                  refine lv_iconst (v := 0) hx hb dX3_hasBits_198 (by decide) ?_
                  exact W.zret hx hb hr (by decide) (fun t ht _ => ⟨rfl, ht⟩) (fun q h => by cases h) dX3_hasBits_199
theorem zX3_hasBits_0 (v0 : Int32) (v1 : Int64) : fX3_hasBits_0 v0 v1 = 0 ∨ fX3_hasBits_0 v0 v1 = 1 := by
  unfold fX3_hasBits_0
  (repeat' split) <;> first | exact Or.inl rfl | exact Or.inr rfl | exact zX2_isNone _
theorem zX3_hasBits (v0 : Int32) (v1 : Int64) : fX3_hasBits v0 v1 = 0 ∨ fX3_hasBits v0 v1 = 1 := zX3_hasBits_0 _ _
set_option maxHeartbeats 4000000 in
set_option maxRecDepth 100000 in
theorem kX3_hasBits (l : Launch) (v0 : Int32) (v1 : Int64) (hok : okX3_hasBits v0 v1) : px_M l yX3_hasBits wsX3_hasBits ({ frames := 2, cells := 0, slots := 0, locals := 64 }) [.int v0, .long v1] (.int (fX3_hasBits v0 v1)) := by
  refine Met.ofW (cc := cX3_hasBits) (maxL := 3) (ret := (some .boolean)) (by decide) rfl ?_
  intro p e s m args below meth c s₁ B hml hv
  cases hv
  have C : px_C p s m _ meth c cX3_hasBits 3 (some .boolean) RX3 wsX3_hasBits := ⟨B.exec, B.bytes, hml, findClass_of_methodNamed B.named, atoms_spec (ws := wsX3_hasBits) B.pre, B.returns, B.notSynchronized⟩
  have hl := lv_entry ([.int v0, .long v1]) (n := 3) (Nat.le_of_ble_eq_true rfl)
  rw [lg_entry_eq]
  generalize (lg_sl ([.int v0, .long v1]) ++ List.replicate (3 - (lg_sl ([.int v0, .long v1])).length) Slot.unset).toArray = ls at hl ⊢
  have hl : lv_has ls 3 [(0, .int v0), (1, .long v1)] := hl
  rw [fX3_hasBits]
  rw [okX3_hasBits] at hok
  exact wX3_hasBits_0 C v0 v1 hok (lv_sub hl [0, 1] rfl)
set_option maxHeartbeats 4000000 in
set_option maxRecDepth 100000 in
theorem wX3_isWider_62 {p : Program} {l : Launch} {e : Env} {s : State} {m : MethodId} {args : Array Value} {below : List Frame} {meth : Method} {c : Code} (C : px_C p s m args meth c cX3_isWider 2 (some .boolean) RX3 wsX3_isWider) (v1 : Int32) {ls : Array Slot} (hl : lv_has ls 2 [(1, .int v1)]) : W p l e { frames := 0, cells := 0, slots := 0, locals := 0 } s m args below meth c s.heap [] 0 0 (MQ below (px_Q (.int (fX3_isWider_62 v1))) args s 0 0 (fun _ => False)) (F0 m 62 ls []) := by
  obtain ⟨hx, hb, hml, hown, hts, hr, hlocks⟩ := id C
  rw [fX3_isWider_62]
  refine lv_iload_n hx hb dX3_isWider_62 rfl (lv_at hl 0 rfl) ?_
  refine lv_iconst (v := 4) hx hb dX3_isWider_63 (by decide) ?_
  refine px_icmp_lt (tgt := 77) hx hb dX3_isWider_64 (by decide) (fun hc64 => ?_) (fun hc64 => ?_)
  · rw [if_pos hc64]
    refine lv_iconst (v := 0) hx hb dX3_isWider_77 (by decide) ?_
    exact W.zret hx hb hr (by decide) (fun t ht _ => ⟨rfl, ht⟩) (fun q h => by cases h) dX3_isWider_78
  · rw [if_neg hc64]
    refine lv_iload_n hx hb dX3_isWider_67 rfl (lv_at hl 0 rfl) ?_
    refine lv_bipush (v := 7) hx hb dX3_isWider_68 (by decide) ?_
    refine px_icmp_gt (tgt := 77) hx hb dX3_isWider_70 (by decide) (fun hc70 => ?_) (fun hc70 => ?_)
    · rw [if_pos hc70]
      refine lv_iconst (v := 0) hx hb dX3_isWider_77 (by decide) ?_
      exact W.zret hx hb hr (by decide) (fun t ht _ => ⟨rfl, ht⟩) (fun q h => by cases h) dX3_isWider_78
    · rw [if_neg hc70]
      refine lv_iconst (v := 1) hx hb dX3_isWider_73 (by decide) ?_
      refine lv_goto (tgt := 78) hx hb dX3_isWider_74 (by decide) ?_
      exact W.zret hx hb hr (by decide) (fun t ht _ => ⟨rfl, ht⟩) (fun q h => by cases h) dX3_isWider_78
set_option maxHeartbeats 4000000 in
set_option maxRecDepth 100000 in
theorem wX3_isWider_0 {p : Program} {l : Launch} {e : Env} {s : State} {m : MethodId} {args : Array Value} {below : List Frame} {meth : Method} {c : Code} (C : px_C p s m args meth c cX3_isWider 2 (some .boolean) RX3 wsX3_isWider) (v0 : Int32) (v1 : Int32) {ls : Array Slot} (hl : lv_has ls 2 [(0, .int v0), (1, .int v1)]) : W p l e { frames := 0, cells := 0, slots := 0, locals := 0 } s m args below meth c s.heap [] 0 0 (MQ below (px_Q (.int (fX3_isWider_0 v0 v1))) args s 0 0 (fun _ => False)) (F0 m 0 ls []) := by
  obtain ⟨hx, hb, hml, hown, hts, hr, hlocks⟩ := id C
  rw [fX3_isWider_0]
  refine lv_iload_n hx hb dX3_isWider_0 rfl (lv_at hl 0 rfl) ?_
  by_cases hs1_0 : v0 = (1 : Int32)
  · rw [if_pos hs1_0]
    refine lv_tableIn (tgt := 40) (off := 39) hx hb dX3_isWider_1 (by rw [hs1_0]; decide) (by rw [hs1_0]; decide) (by rw [hs1_0]; decide +kernel) (by decide) ?_
    refine lv_iload_n hx hb dX3_isWider_40 rfl (lv_at hl 1 rfl) ?_
    refine lv_iconst (v := 2) hx hb dX3_isWider_41 (by decide) ?_
    refine px_icmp_eq (tgt := 56) hx hb dX3_isWider_42 (by decide) (fun hc42 => ?_) (fun hc42 => ?_)
    · rw [if_pos hc42]
      refine lv_iconst (v := 1) hx hb dX3_isWider_56 (by decide) ?_
      refine lv_goto (tgt := 61) hx hb dX3_isWider_57 (by decide) ?_
      exact W.zret hx hb hr (by decide) (fun t ht _ => ⟨rfl, ht⟩) (fun q h => by cases h) dX3_isWider_61
    · rw [if_neg hc42]
      refine lv_iload_n hx hb dX3_isWider_45 rfl (lv_at hl 1 rfl) ?_
      refine lv_iconst (v := 4) hx hb dX3_isWider_46 (by decide) ?_
      refine px_icmp_lt (tgt := 60) hx hb dX3_isWider_47 (by decide) (fun hc47 => ?_) (fun hc47 => ?_)
      · rw [if_pos hc47]
        refine lv_iconst (v := 0) hx hb dX3_isWider_60 (by decide) ?_
        exact W.zret hx hb hr (by decide) (fun t ht _ => ⟨rfl, ht⟩) (fun q h => by cases h) dX3_isWider_61
      · rw [if_neg hc47]
        refine lv_iload_n hx hb dX3_isWider_50 rfl (lv_at hl 1 rfl) ?_
        refine lv_bipush (v := 7) hx hb dX3_isWider_51 (by decide) ?_
        refine px_icmp_gt (tgt := 60) hx hb dX3_isWider_53 (by decide) (fun hc53 => ?_) (fun hc53 => ?_)
        · rw [if_pos hc53]
          refine lv_iconst (v := 0) hx hb dX3_isWider_60 (by decide) ?_
          exact W.zret hx hb hr (by decide) (fun t ht _ => ⟨rfl, ht⟩) (fun q h => by cases h) dX3_isWider_61
        · rw [if_neg hc53]
          refine lv_iconst (v := 1) hx hb dX3_isWider_56 (by decide) ?_
          refine lv_goto (tgt := 61) hx hb dX3_isWider_57 (by decide) ?_
          exact W.zret hx hb hr (by decide) (fun t ht _ => ⟨rfl, ht⟩) (fun q h => by cases h) dX3_isWider_61
  · rw [if_neg hs1_0]
    by_cases hs1_1 : v0 = (2 : Int32)
    · rw [if_pos hs1_1]
      refine lv_tableIn (tgt := 62) (off := 61) hx hb dX3_isWider_1 (by rw [hs1_1]; decide) (by rw [hs1_1]; decide) (by rw [hs1_1]; decide +kernel) (by decide) ?_
      exact wX3_isWider_62 C v1 (lv_sub hl [1] rfl)
    · rw [if_neg hs1_1]
      by_cases hs1_2 : v0 = (3 : Int32)
      · rw [if_pos hs1_2]
        refine lv_tableIn (tgt := 62) (off := 61) hx hb dX3_isWider_1 (by rw [hs1_2]; decide) (by rw [hs1_2]; decide) (by rw [hs1_2]; decide +kernel) (by decide) ?_
        exact wX3_isWider_62 C v1 (lv_sub hl [1] rfl)
      · rw [if_neg hs1_2]
        by_cases hs1_3 : v0 = (4 : Int32)
        · rw [if_pos hs1_3]
          refine lv_tableIn (tgt := 79) (off := 78) hx hb dX3_isWider_1 (by rw [hs1_3]; decide) (by rw [hs1_3]; decide) (by rw [hs1_3]; decide +kernel) (by decide) ?_
          refine lv_iload_n hx hb dX3_isWider_79 rfl (lv_at hl 1 rfl) ?_
          refine lv_iconst (v := 5) hx hb dX3_isWider_80 (by decide) ?_
          refine px_icmp_lt (tgt := 94) hx hb dX3_isWider_81 (by decide) (fun hc81 => ?_) (fun hc81 => ?_)
          · rw [if_pos hc81]
            refine lv_iconst (v := 0) hx hb dX3_isWider_94 (by decide) ?_
            exact W.zret hx hb hr (by decide) (fun t ht _ => ⟨rfl, ht⟩) (fun q h => by cases h) dX3_isWider_95
          · rw [if_neg hc81]
            refine lv_iload_n hx hb dX3_isWider_84 rfl (lv_at hl 1 rfl) ?_
            refine lv_bipush (v := 7) hx hb dX3_isWider_85 (by decide) ?_
            refine px_icmp_gt (tgt := 94) hx hb dX3_isWider_87 (by decide) (fun hc87 => ?_) (fun hc87 => ?_)
            · rw [if_pos hc87]
              refine lv_iconst (v := 0) hx hb dX3_isWider_94 (by decide) ?_
              exact W.zret hx hb hr (by decide) (fun t ht _ => ⟨rfl, ht⟩) (fun q h => by cases h) dX3_isWider_95
            · rw [if_neg hc87]
              refine lv_iconst (v := 1) hx hb dX3_isWider_90 (by decide) ?_
              refine lv_goto (tgt := 95) hx hb dX3_isWider_91 (by decide) ?_
              exact W.zret hx hb hr (by decide) (fun t ht _ => ⟨rfl, ht⟩) (fun q h => by cases h) dX3_isWider_95
        · rw [if_neg hs1_3]
          by_cases hs1_4 : v0 = (5 : Int32)
          · rw [if_pos hs1_4]
            refine lv_tableIn (tgt := 96) (off := 95) hx hb dX3_isWider_1 (by rw [hs1_4]; decide) (by rw [hs1_4]; decide) (by rw [hs1_4]; decide +kernel) (by decide) ?_
            refine lv_iload_n hx hb dX3_isWider_96 rfl (lv_at hl 1 rfl) ?_
            refine lv_bipush (v := 6) hx hb dX3_isWider_97 (by decide) ?_
            refine px_icmp_eq (tgt := 108) hx hb dX3_isWider_99 (by decide) (fun hc99 => ?_) (fun hc99 => ?_)
            · rw [if_pos hc99]
              refine lv_iconst (v := 1) hx hb dX3_isWider_108 (by decide) ?_
              refine lv_goto (tgt := 113) hx hb dX3_isWider_109 (by decide) ?_
              exact W.zret hx hb hr (by decide) (fun t ht _ => ⟨rfl, ht⟩) (fun q h => by cases h) dX3_isWider_113
            · rw [if_neg hc99]
              refine lv_iload_n hx hb dX3_isWider_102 rfl (lv_at hl 1 rfl) ?_
              refine lv_bipush (v := 7) hx hb dX3_isWider_103 (by decide) ?_
              refine px_icmp_ne (tgt := 112) hx hb dX3_isWider_105 (by decide) (fun hc105 => ?_) (fun hc105 => ?_)
              · rw [if_pos hc105]
                refine lv_iconst (v := 1) hx hb dX3_isWider_108 (by decide) ?_
                refine lv_goto (tgt := 113) hx hb dX3_isWider_109 (by decide) ?_
                exact W.zret hx hb hr (by decide) (fun t ht _ => ⟨rfl, ht⟩) (fun q h => by cases h) dX3_isWider_113
              · rw [if_neg hc105]
                refine lv_iconst (v := 0) hx hb dX3_isWider_112 (by decide) ?_
                exact W.zret hx hb hr (by decide) (fun t ht _ => ⟨rfl, ht⟩) (fun q h => by cases h) dX3_isWider_113
          · rw [if_neg hs1_4]
            by_cases hs1_5 : v0 = (6 : Int32)
            · rw [if_pos hs1_5]
              refine lv_tableIn (tgt := 114) (off := 113) hx hb dX3_isWider_1 (by rw [hs1_5]; decide) (by rw [hs1_5]; decide) (by rw [hs1_5]; decide +kernel) (by decide) ?_
              refine lv_iload_n hx hb dX3_isWider_114 rfl (lv_at hl 1 rfl) ?_
              refine lv_bipush (v := 7) hx hb dX3_isWider_115 (by decide) ?_
              refine px_icmp_ne (tgt := 124) hx hb dX3_isWider_117 (by decide) (fun hc117 => ?_) (fun hc117 => ?_)
              · rw [if_pos hc117]
                refine lv_iconst (v := 1) hx hb dX3_isWider_120 (by decide) ?_
                refine lv_goto (tgt := 125) hx hb dX3_isWider_121 (by decide) ?_
                exact W.zret hx hb hr (by decide) (fun t ht _ => ⟨rfl, ht⟩) (fun q h => by cases h) dX3_isWider_125
              · rw [if_neg hc117]
                refine lv_iconst (v := 0) hx hb dX3_isWider_124 (by decide) ?_
                exact W.zret hx hb hr (by decide) (fun t ht _ => ⟨rfl, ht⟩) (fun q h => by cases h) dX3_isWider_125
            · rw [if_neg hs1_5]
              refine lv_tableOut (tgt := 126) hx hb dX3_isWider_1 (by have q0 := lv_neT (a := 1) hs1_0 (by decide); have q1 := lv_neT (a := 2) hs1_1 (by decide); have q2 := lv_neT (a := 3) hs1_2 (by decide); have q3 := lv_neT (a := 4) hs1_3 (by decide); have q4 := lv_neT (a := 5) hs1_4 (by decide); have q5 := lv_neT (a := 6) hs1_5 (by decide); omega) (by decide) ?_
              refine lv_iconst (v := 0) hx hb dX3_isWider_126 (by decide) ?_
              exact W.zret hx hb hr (by decide) (fun t ht _ => ⟨rfl, ht⟩) (fun q h => by cases h) dX3_isWider_127
theorem zX3_isWider_62 (v1 : Int32) : fX3_isWider_62 v1 = 0 ∨ fX3_isWider_62 v1 = 1 := by
  unfold fX3_isWider_62
  (repeat' split) <;> first | exact Or.inl rfl | exact Or.inr rfl
theorem zX3_isWider_0 (v0 : Int32) (v1 : Int32) : fX3_isWider_0 v0 v1 = 0 ∨ fX3_isWider_0 v0 v1 = 1 := by
  unfold fX3_isWider_0
  (repeat' split) <;> first | exact Or.inl rfl | exact Or.inr rfl | exact zX3_isWider_62 _
theorem zX3_isWider (v0 : Int32) (v1 : Int32) : fX3_isWider v0 v1 = 0 ∨ fX3_isWider v0 v1 = 1 := zX3_isWider_0 _ _
set_option maxHeartbeats 4000000 in
set_option maxRecDepth 100000 in
theorem kX3_isWider (l : Launch) (v0 : Int32) (v1 : Int32) : px_M l yX3_isWider wsX3_isWider ({ frames := 0, cells := 0, slots := 0, locals := 0 }) [.int v0, .int v1] (.int (fX3_isWider v0 v1)) := by
  refine Met.ofW (cc := cX3_isWider) (maxL := 2) (ret := (some .boolean)) (by decide) rfl ?_
  intro p e s m args below meth c s₁ B hml hv
  cases hv
  have C : px_C p s m _ meth c cX3_isWider 2 (some .boolean) RX3 wsX3_isWider := ⟨B.exec, B.bytes, hml, findClass_of_methodNamed B.named, atoms_spec (ws := wsX3_isWider) B.pre, B.returns, B.notSynchronized⟩
  have hl := lv_entry ([.int v0, .int v1]) (n := 2) (Nat.le_of_ble_eq_true rfl)
  rw [lg_entry_eq]
  generalize (lg_sl ([.int v0, .int v1]) ++ List.replicate (2 - (lg_sl ([.int v0, .int v1])).length) Slot.unset).toArray = ls at hl ⊢
  have hl : lv_has ls 2 [(0, .int v0), (1, .int v1)] := hl
  rw [fX3_isWider]
  exact wX3_isWider_0 C v0 v1 (lv_sub hl [0, 1] rfl)
set_option maxHeartbeats 4000000 in
set_option maxRecDepth 100000 in
theorem wX3_widened_0 {p : Program} {l : Launch} {e : Env} {s : State} {m : MethodId} {args : Array Value} {below : List Frame} {meth : Method} {c : Code} (C : px_C p s m args meth c cX3_widened 4 (some .long) RX3 wsX3_widened) (v0 : Int64) (v2 : Int32) (v3 : Int32) (hok : okX3_widened_0 v0 v2 v3) {ls : Array Slot} (hl : lv_has ls 4 [(0, .long v0), (2, .int v2), (3, .int v3)]) : W p l e { frames := 3, cells := 0, slots := 0, locals := 92 } s m args below meth c s.heap [] 0 0 (MQ below (px_Q (.long (fX3_widened_0 v0 v2 v3))) args s 0 0 (fun _ => False)) (F0 m 0 ls []) := by
  obtain ⟨hx, hb, hml, hown, hts, hr, hlocks⟩ := id C
  rw [fX3_widened_0]
  rw [okX3_widened_0] at hok
  refine lv_iload_n hx hb dX3_widened_0 rfl (lv_at hl 1 rfl) ?_
  refine lv_iload_n hx hb dX3_widened_1 rfl (lv_at hl 2 rfl) ?_
  refine px_icmp_eq (tgt := 16) hx hb dX3_widened_2 (by decide) (fun hc2 => ?_) (fun hc2 => ?_)
  · rw [if_pos hc2]
    have hok := hok.1 hc2
    refine lv_lload_n hx hb dX3_widened_16 rfl (lv_at hl 0 rfl) ?_
    exact W.lret hx hb hr (fun t ht _ => ⟨rfl, ht⟩) (fun q h => by cases h) dX3_widened_17
  · rw [if_neg hc2]
    have hok := hok.2 hc2
    refine lv_iload_n hx hb dX3_widened_5 rfl (lv_at hl 1 rfl) ?_
    refine lv_iconst (v := 1) hx hb dX3_widened_6 (by decide) ?_
    refine px_icmp_lt (tgt := 16) hx hb dX3_widened_7 (by decide) (fun hc7 => ?_) (fun hc7 => ?_)
    · rw [if_pos hc7]
      have hok := hok.1 hc7
      refine lv_lload_n hx hb dX3_widened_16 rfl (lv_at hl 0 rfl) ?_
      exact W.lret hx hb hr (fun t ht _ => ⟨rfl, ht⟩) (fun q h => by cases h) dX3_widened_17
    · rw [if_neg hc7]
      have hok := hok.2 hc7
      refine lv_iload_n hx hb dX3_widened_10 rfl (lv_at hl 1 rfl) ?_
      refine lv_bipush (v := 7) hx hb dX3_widened_11 (by decide) ?_
      refine px_icmp_le (tgt := 18) hx hb dX3_widened_13 (by decide) (fun hc13 => ?_) (fun hc13 => ?_)
      · rw [if_pos hc13]
        have hok := hok.1 hc13
        refine lv_lload_n hx hb dX3_widened_16 rfl (lv_at hl 0 rfl) ?_
        exact W.lret hx hb hr (fun t ht _ => ⟨rfl, ht⟩) (fun q h => by cases h) dX3_widened_17
      · rw [if_neg hc13]
        have hok := hok.2 hc13
        refine lv_iload_n hx hb dX3_widened_18 rfl (lv_at hl 2 rfl) ?_
        refine lv_bipush (v := 7) hx hb dX3_widened_19 (by decide) ?_
        refine px_icmp_ne (tgt := 44) hx hb dX3_widened_21 (by decide) (fun hc21 => ?_) (fun hc21 => ?_)
        · rw [if_pos hc21]
          have hok := hok.1 hc21
          refine lv_iload_n hx hb dX3_widened_24 rfl (lv_at hl 1 rfl) ?_
          refine lv_bipush (v := 6) hx hb dX3_widened_25 (by decide) ?_
          refine px_icmp_ne (tgt := 38) hx hb dX3_widened_27 (by decide) (fun hc27 => ?_) (fun hc27 => ?_)
          · rw [if_pos hc27]
            have hok := hok.1 hc27
            refine lv_lload_n hx hb dX3_widened_30 rfl (lv_at hl 0 rfl) ?_
            refine px_l2i hx hb dX3_widened_31 ?_
            obtain ⟨hk, hok⟩ := hok
            refine px_S (As := [.int (v0.toInt32)]) (rest := []) ⟨hx, hb, hml, hown, hts⟩ (kX2_wide l (v0.toInt32) hk) (va_cwS 1 hts gX3_widened_X2_wide rfl rfl rfl (by decide +kernel) ⟨Nat.le_of_ble_eq_true rfl, Nat.le_of_ble_eq_true rfl⟩) rfl hl.1 rfl (Nat.le_of_ble_eq_true rfl) dX3_widened_32 (Nat.zero_le _) (Nat.zero_le _) ?_
            refine lv_goto (tgt := 43) hx hb dX3_widened_35 (by decide) ?_
            exact W.lret hx hb hr (fun t ht _ => ⟨rfl, ht⟩) (fun q h => by cases h) dX3_widened_43
          · rw [if_neg hc27]
            have hok := hok.2 hc27
            refine lv_lload_n hx hb dX3_widened_38 rfl (lv_at hl 0 rfl) ?_
            refine lv_iconst (v := 0) hx hb dX3_widened_39 (by decide) ?_
            obtain ⟨hk, hok⟩ := hok
            refine px_S (As := [.long v0, .int (0 : Int32)]) (rest := []) ⟨hx, hb, hml, hown, hts⟩ (kX2_of l v0 (0 : Int32) hk) (va_cwS 2 hts gX3_widened_X2_of rfl rfl rfl (by decide +kernel) ⟨Nat.le_of_ble_eq_true rfl, Nat.le_of_ble_eq_true rfl⟩) rfl hl.1 rfl (Nat.le_of_ble_eq_true rfl) dX3_widened_40 (Nat.zero_le _) (Nat.zero_le _) ?_
            exact W.lret hx hb hr (fun t ht _ => ⟨rfl, ht⟩) (fun q h => by cases h) dX3_widened_43
        · rw [if_neg hc21]
          have hok := hok.2 hc21
          refine lv_iload_n hx hb dX3_widened_44 rfl (lv_at hl 2 rfl) ?_
          refine lv_bipush (v := 6) hx hb dX3_widened_45 (by decide) ?_
          refine px_icmp_ne (tgt := 64) hx hb dX3_widened_47 (by decide) (fun hc47 => ?_) (fun hc47 => ?_)
          · rw [if_pos hc47]
            have hok := hok.1 hc47
            refine lv_lload_n hx hb dX3_widened_50 rfl (lv_at hl 0 rfl) ?_
            refine lv_iconst (v := 0) hx hb dX3_widened_51 (by decide) ?_
            obtain ⟨hk, hok⟩ := hok
            refine px_S (As := [.long v0, .int (0 : Int32)]) (rest := []) ⟨hx, hb, hml, hown, hts⟩ (kX2_floatOf l v0 (0 : Int32) hk) (va_cwS 2 hts gX3_widened_X2_floatOf rfl rfl rfl (by decide +kernel) ⟨Nat.le_of_ble_eq_true rfl, Nat.le_of_ble_eq_true rfl⟩) rfl hl.1 rfl (Nat.le_of_ble_eq_true rfl) dX3_widened_52 (Nat.zero_le _) (Nat.zero_le _) ?_
            obtain ⟨hk, hok⟩ := hok
            refine px_S (As := [.long (fX2_floatOf v0 (0 : Int32))]) (rest := []) ⟨hx, hb, hml, hown, hts⟩ (kX2_narrow l (fX2_floatOf v0 (0 : Int32)) hk) (va_cwS 1 hts gX3_widened_X2_narrow rfl rfl rfl (by decide +kernel) ⟨Nat.le_of_ble_eq_true rfl, Nat.le_of_ble_eq_true rfl⟩) rfl hl.1 rfl (Nat.le_of_ble_eq_true rfl) dX3_widened_55 (Nat.zero_le _) (Nat.zero_le _) ?_
            refine px_i2l hx hb dX3_widened_58 ?_
            refine lv_ldc2 hx hb hown (hts (.constantLong RX3 29 (4294967295)) (by decide +kernel)) dX3_widened_59 ?_
            refine lv_land hx hb dX3_widened_62 ?_
            exact W.lret hx hb hr (fun t ht _ => ⟨rfl, ht⟩) (fun q h => by cases h) dX3_widened_63
          · rw [if_neg hc47]
            have hok := hok.2 hc47
            refine lv_lload_n hx hb dX3_widened_64 rfl (lv_at hl 0 rfl) ?_
            exact W.lret hx hb hr (fun t ht _ => ⟨rfl, ht⟩) (fun q h => by cases h) dX3_widened_65
set_option maxHeartbeats 4000000 in
set_option maxRecDepth 100000 in
theorem kX3_widened (l : Launch) (v0 : Int64) (v2 : Int32) (v3 : Int32) (hok : okX3_widened v0 v2 v3) : px_M l yX3_widened wsX3_widened ({ frames := 3, cells := 0, slots := 0, locals := 92 }) [.long v0, .int v2, .int v3] (.long (fX3_widened v0 v2 v3)) := by
  refine Met.ofW (cc := cX3_widened) (maxL := 4) (ret := (some .long)) (by decide) rfl ?_
  intro p e s m args below meth c s₁ B hml hv
  cases hv
  have C : px_C p s m _ meth c cX3_widened 4 (some .long) RX3 wsX3_widened := ⟨B.exec, B.bytes, hml, findClass_of_methodNamed B.named, atoms_spec (ws := wsX3_widened) B.pre, B.returns, B.notSynchronized⟩
  have hl := lv_entry ([.long v0, .int v2, .int v3]) (n := 4) (Nat.le_of_ble_eq_true rfl)
  rw [lg_entry_eq]
  generalize (lg_sl ([.long v0, .int v2, .int v3]) ++ List.replicate (4 - (lg_sl ([.long v0, .int v2, .int v3])).length) Slot.unset).toArray = ls at hl ⊢
  have hl : lv_has ls 4 [(0, .long v0), (2, .int v2), (3, .int v3)] := hl
  rw [fX3_widened]
  rw [okX3_widened] at hok
  exact wX3_widened_0 C v0 v2 v3 hok (lv_sub hl [0, 1, 2] rfl)
set_option maxHeartbeats 4000000 in
set_option maxRecDepth 100000 in
theorem wX3_cut_72 {p : Program} {l : Launch} {e : Env} {s : State} {m : MethodId} {args : Array Value} {below : List Frame} {meth : Method} {c : Code} (C : px_C p s m args meth c cX3_cut 9 (some .long) RX3 wsX3_cut) (v3 : Int64) (v5 : Int32) (v7 : Int64) (s0 : Int32) {ls : Array Slot} (hl : lv_has ls 9 [(3, .long v3), (5, .int v5), (7, .long v7)]) : W p l e { frames := 2, cells := 0, slots := 0, locals := 49 } s m args below meth c s.heap [] 0 0 (MQ below (px_Q (.long (fX3_cut_72 v3 v5 v7 s0))) args s 0 0 (fun _ => False)) (F0 m 72 ls [.int s0]) := by
  obtain ⟨hx, hb, hml, hown, hts, hr, hlocks⟩ := id C
  rw [fX3_cut_72]
  refine lv_istore (lv' := [(6, .int s0), (3, .long v3), (5, .int v5), (7, .long v7)]) hx hb dX3_cut_72 hl (by decide) rfl (fun ls hl => ?_)
  refine lv_iload hx hb dX3_cut_74 (lv_at hl 0 rfl) ?_
  refine px_if_eq (tgt := 93) hx hb dX3_cut_76 (by decide) (fun hc76 => ?_) (fun hc76 => ?_)
  · rw [if_pos hc76]
    refine lv_iload hx hb dX3_cut_93 (lv_at hl 2 rfl) ?_
    refine px_if_eq (tgt := 104) hx hb dX3_cut_95 (by decide) (fun hc95 => ?_) (fun hc95 => ?_)
    · rw [if_pos hc95]
      refine lv_lload hx hb dX3_cut_104 (lv_at hl 3 rfl) ?_
      exact W.lret hx hb hr (fun t ht _ => ⟨rfl, ht⟩) (fun q h => by cases h) dX3_cut_106
    · rw [if_neg hc95]
      refine lv_lload hx hb dX3_cut_98 (lv_at hl 3 rfl) ?_
      refine lv_lneg hx hb dX3_cut_100 ?_
      refine lv_goto (tgt := 106) hx hb dX3_cut_101 (by decide) ?_
      exact W.lret hx hb hr (fun t ht _ => ⟨rfl, ht⟩) (fun q h => by cases h) dX3_cut_106
  · rw [if_neg hc76]
    refine lv_iload hx hb dX3_cut_79 (lv_at hl 2 rfl) ?_
    refine px_if_eq (tgt := 91) hx hb dX3_cut_81 (by decide) (fun hc81 => ?_) (fun hc81 => ?_)
    · rw [if_pos hc81]
      refine lv_lload_n hx hb dX3_cut_91 rfl (lv_at hl 1 rfl) ?_
      exact W.lret hx hb hr (fun t ht _ => ⟨rfl, ht⟩) (fun q h => by cases h) dX3_cut_92
    · rw [if_neg hc81]
      refine lv_lload_n hx hb dX3_cut_84 rfl (lv_at hl 1 rfl) ?_
      refine lv_lneg hx hb dX3_cut_85 ?_
      refine lv_lconst (v := 1) hx hb dX3_cut_86 (by decide) ?_
      refine lv_lsub hx hb dX3_cut_87 ?_
      refine lv_goto (tgt := 92) hx hb dX3_cut_88 (by decide) ?_
      exact W.lret hx hb hr (fun t ht _ => ⟨rfl, ht⟩) (fun q h => by cases h) dX3_cut_92
set_option maxHeartbeats 4000000 in
set_option maxRecDepth 100000 in
theorem wX3_cut_67 {p : Program} {l : Launch} {e : Env} {s : State} {m : MethodId} {args : Array Value} {below : List Frame} {meth : Method} {c : Code} (C : px_C p s m args meth c cX3_cut 9 (some .long) RX3 wsX3_cut) (v3 : Int64) (v5 : Int32) (v7 : Int64) {ls : Array Slot} (hl : lv_has ls 9 [(3, .long v3), (5, .int v5), (7, .long v7)]) : W p l e { frames := 2, cells := 0, slots := 0, locals := 49 } s m args below meth c s.heap [] 0 0 (MQ below (px_Q (.long (fX3_cut_67 v3 v5 v7))) args s 0 0 (fun _ => False)) (F0 m 67 ls []) := by
  obtain ⟨hx, hb, hml, hown, hts, hr, hlocks⟩ := id C
  rw [fX3_cut_67]
  refine lv_iconst (v := 1) hx hb dX3_cut_67 (by decide) ?_
  refine lv_goto (tgt := 72) hx hb dX3_cut_68 (by decide) ?_
  exact wX3_cut_72 C v3 v5 v7 (1 : Int32) (lv_sub hl [0, 1, 2] rfl)
set_option maxHeartbeats 4000000 in
set_option maxRecDepth 100000 in
theorem wX3_cut_46 {p : Program} {l : Launch} {e : Env} {s : State} {m : MethodId} {args : Array Value} {below : List Frame} {meth : Method} {c : Code} (C : px_C p s m args meth c cX3_cut 9 (some .long) RX3 wsX3_cut) (v3 : Int64) (v5 : Int32) (v6 : Int32) (s0 : Int64) {ls : Array Slot} (hl : lv_has ls 9 [(3, .long v3), (5, .int v5), (6, .int v6)]) : W p l e { frames := 2, cells := 0, slots := 0, locals := 49 } s m args below meth c s.heap [] 0 0 (MQ below (px_Q (.long (fX3_cut_46 v3 v5 v6 s0))) args s 0 0 (fun _ => False)) (F0 m 46 ls [.long s0]) := by
  obtain ⟨hx, hb, hml, hown, hts, hr, hlocks⟩ := id C
  rw [fX3_cut_46]
  refine lv_lstore (lv' := [(7, .long s0), (3, .long v3), (5, .int v5), (6, .int v6)]) hx hb dX3_cut_46 hl (by decide) rfl (fun ls hl => ?_)
  refine lv_iload hx hb dX3_cut_48 (lv_at hl 3 rfl) ?_
  refine px_if_ne (tgt := 67) hx hb dX3_cut_50 (by decide) (fun hc50 => ?_) (fun hc50 => ?_)
  · rw [if_pos hc50]
    refine lv_lload hx hb dX3_cut_53 (lv_at hl 0 rfl) ?_
    refine lv_lconst (v := 0) hx hb dX3_cut_55 (by decide) ?_
    refine px_lcmp_lt (tgt := 67) hx hb dX3_cut_56 dX3_cut_57 (by decide) (fun hc56 => ?_) (fun hc56 => ?_)
    · rw [if_pos hc56]
      exact wX3_cut_67 C v3 v5 s0 (lv_sub hl [1, 2, 0] rfl)
    · rw [if_neg hc56]
      refine lv_lload hx hb dX3_cut_60 (lv_at hl 0 rfl) ?_
      refine lv_lload_n hx hb dX3_cut_62 rfl (lv_at hl 1 rfl) ?_
      refine px_lcmp_le (tgt := 71) hx hb dX3_cut_63 dX3_cut_64 (by decide) (fun hc63 => ?_) (fun hc63 => ?_)
      · rw [if_pos hc63]
        exact wX3_cut_67 C v3 v5 s0 (lv_sub hl [1, 2, 0] rfl)
      · rw [if_neg hc63]
        refine lv_iconst (v := 0) hx hb dX3_cut_71 (by decide) ?_
        exact wX3_cut_72 C v3 v5 s0 (0 : Int32) (lv_sub hl [1, 2, 0] rfl)
  · rw [if_neg hc50]
    exact wX3_cut_67 C v3 v5 s0 (lv_sub hl [1, 2, 0] rfl)
set_option maxHeartbeats 4000000 in
set_option maxRecDepth 100000 in
theorem wX3_cut_25 {p : Program} {l : Launch} {e : Env} {s : State} {m : MethodId} {args : Array Value} {below : List Frame} {meth : Method} {c : Code} (C : px_C p s m args meth c cX3_cut 9 (some .long) RX3 wsX3_cut) (v0 : Int64) (v3 : Int64) (s0 : Int32) (hok : okX3_cut_25 v0 v3 s0) {ls : Array Slot} (hl : lv_has ls 9 [(0, .long v0), (3, .long v3)]) : W p l e { frames := 2, cells := 0, slots := 0, locals := 49 } s m args below meth c s.heap [] 0 0 (MQ below (px_Q (.long (fX3_cut_25 v0 v3 s0))) args s 0 0 (fun _ => False)) (F0 m 25 ls [.int s0]) := by
  obtain ⟨hx, hb, hml, hown, hts, hr, hlocks⟩ := id C
  rw [fX3_cut_25]
  rw [okX3_cut_25] at hok
  refine lv_istore (lv' := [(5, .int s0), (0, .long v0), (3, .long v3)]) hx hb dX3_cut_25 hl (by decide) rfl (fun ls hl => ?_)
  refine lv_lload_n hx hb dX3_cut_27 rfl (lv_at hl 1 rfl) ?_
  obtain ⟨hk, hok⟩ := hok
  refine px_S (As := [.long v0]) (rest := []) ⟨hx, hb, hml, hown, hts⟩ (kX2_isGreat l v0 hk) (va_cwS 1 hts gX3_cut_X2_isGreat rfl rfl rfl (by decide +kernel) ⟨Nat.le_of_ble_eq_true rfl, Nat.le_of_ble_eq_true rfl⟩) rfl hl.1 rfl (Nat.le_of_ble_eq_true rfl) dX3_cut_28 (Nat.zero_le _) (Nat.zero_le _) ?_
  refine lv_topi (fun v6_31 ev6_31 => ?_)
  rw [← ev6_31]
  rw [← ev6_31] at hok
  refine lv_istore (lv' := [(6, .int v6_31), (5, .int s0), (0, .long v0), (3, .long v3)]) hx hb dX3_cut_31 hl (by decide) rfl (fun ls hl => ?_)
  rw [fX3_cut_33]
  rw [okX3_cut_33] at hok
  refine lv_iload hx hb dX3_cut_33 (lv_at hl 0 rfl) ?_
  refine px_if_eq (tgt := 42) hx hb dX3_cut_35 (by decide) (fun hc35 => ?_) (fun hc35 => ?_)
  · rw [if_pos hc35]
    have hok := hok.1 hc35
    refine lv_lload_n hx hb dX3_cut_42 rfl (lv_at hl 2 rfl) ?_
    obtain ⟨hk, hok⟩ := hok
    refine px_S (As := [.long v0]) (rest := []) ⟨hx, hb, hml, hown, hts⟩ (kX2_cut l v0 hk) (va_cwS 1 hts gX3_cut_X2_cut rfl rfl rfl (by decide +kernel) ⟨Nat.le_of_ble_eq_true rfl, Nat.le_of_ble_eq_true rfl⟩) rfl hl.1 rfl (Nat.le_of_ble_eq_true rfl) dX3_cut_43 (Nat.zero_le _) (Nat.zero_le _) ?_
    exact wX3_cut_46 C v3 s0 v6_31 (fX2_cut v0) (lv_sub hl [3, 1, 0] rfl)
  · rw [if_neg hc35]
    have hok := hok.2 hc35
    refine lv_lconst (v := 0) hx hb dX3_cut_38 (by decide) ?_
    refine lv_goto (tgt := 46) hx hb dX3_cut_39 (by decide) ?_
    exact wX3_cut_46 C v3 s0 v6_31 (0 : Int64) (lv_sub hl [3, 1, 0] rfl)
set_option maxHeartbeats 4000000 in
set_option maxRecDepth 100000 in
theorem wX3_cut_13 {p : Program} {l : Launch} {e : Env} {s : State} {m : MethodId} {args : Array Value} {below : List Frame} {meth : Method} {c : Code} (C : px_C p s m args meth c cX3_cut 9 (some .long) RX3 wsX3_cut) (v0 : Int64) (s0 : Int64) (hok : okX3_cut_13 v0 s0) {ls : Array Slot} (hl : lv_has ls 9 [(0, .long v0)]) : W p l e { frames := 2, cells := 0, slots := 0, locals := 49 } s m args below meth c s.heap [] 0 0 (MQ below (px_Q (.long (fX3_cut_13 v0 s0))) args s 0 0 (fun _ => False)) (F0 m 13 ls [.long s0]) := by
  obtain ⟨hx, hb, hml, hown, hts, hr, hlocks⟩ := id C
  rw [fX3_cut_13]
  rw [okX3_cut_13] at hok
  refine lv_lstore_n (lv' := [(3, .long s0), (0, .long v0)]) hx hb dX3_cut_13 rfl hl (by decide) rfl (fun ls hl => ?_)
  refine lv_lload_n hx hb dX3_cut_14 rfl (lv_at hl 1 rfl) ?_
  refine lv_lconst (v := 0) hx hb dX3_cut_15 (by decide) ?_
  refine px_lcmp_ge (tgt := 24) hx hb dX3_cut_16 dX3_cut_17 (by decide) (fun hc16 => ?_) (fun hc16 => ?_)
  · rw [if_pos hc16]
    have hok := hok.1 hc16
    refine lv_iconst (v := 1) hx hb dX3_cut_20 (by decide) ?_
    refine lv_goto (tgt := 25) hx hb dX3_cut_21 (by decide) ?_
    exact wX3_cut_25 C v0 s0 (1 : Int32) hok (lv_sub hl [1, 0] rfl)
  · rw [if_neg hc16]
    have hok := hok.2 hc16
    refine lv_iconst (v := 0) hx hb dX3_cut_24 (by decide) ?_
    exact wX3_cut_25 C v0 s0 (0 : Int32) hok (lv_sub hl [1, 0] rfl)
set_option maxHeartbeats 4000000 in
set_option maxRecDepth 100000 in
theorem wX3_cut_0 {p : Program} {l : Launch} {e : Env} {s : State} {m : MethodId} {args : Array Value} {below : List Frame} {meth : Method} {c : Code} (C : px_C p s m args meth c cX3_cut 9 (some .long) RX3 wsX3_cut) (v0 : Int64) (v2 : Int32) (hok : okX3_cut_0 v0 v2) {ls : Array Slot} (hl : lv_has ls 9 [(0, .long v0), (2, .int v2)]) : W p l e { frames := 2, cells := 0, slots := 0, locals := 49 } s m args below meth c s.heap [] 0 0 (MQ below (px_Q (.long (fX3_cut_0 v0 v2))) args s 0 0 (fun _ => False)) (F0 m 0 ls []) := by
  obtain ⟨hx, hb, hml, hown, hts, hr, hlocks⟩ := id C
  rw [fX3_cut_0]
  rw [okX3_cut_0] at hok
  refine lv_iload_n hx hb dX3_cut_0 rfl (lv_at hl 1 rfl) ?_
  refine px_if_eq (tgt := 10) hx hb dX3_cut_1 (by decide) (fun hc1 => ?_) (fun hc1 => ?_)
  · rw [if_pos hc1]
    have hok := hok.1 hc1
    refine lv_ldc2 hx hb hown (hts (.constantLong RX3 27 (2147483647)) (by decide +kernel)) dX3_cut_10 ?_
    exact wX3_cut_13 C v0 (2147483647 : Int64) hok (lv_sub hl [0] rfl)
  · rw [if_neg hc1]
    have hok := hok.2 hc1
    refine lv_ldc2 hx hb hown (hts (.constantLong RX3 61 (9223372036854775807)) (by decide +kernel)) dX3_cut_4 ?_
    refine lv_goto (tgt := 13) hx hb dX3_cut_7 (by decide) ?_
    exact wX3_cut_13 C v0 (9223372036854775807 : Int64) hok (lv_sub hl [0] rfl)
set_option maxHeartbeats 4000000 in
set_option maxRecDepth 100000 in
theorem kX3_cut (l : Launch) (v0 : Int64) (v2 : Int32) (hok : okX3_cut v0 v2) : px_M l yX3_cut wsX3_cut ({ frames := 2, cells := 0, slots := 0, locals := 49 }) [.long v0, .int v2] (.long (fX3_cut v0 v2)) := by
  refine Met.ofW (cc := cX3_cut) (maxL := 9) (ret := (some .long)) (by decide) rfl ?_
  intro p e s m args below meth c s₁ B hml hv
  cases hv
  have C : px_C p s m _ meth c cX3_cut 9 (some .long) RX3 wsX3_cut := ⟨B.exec, B.bytes, hml, findClass_of_methodNamed B.named, atoms_spec (ws := wsX3_cut) B.pre, B.returns, B.notSynchronized⟩
  have hl := lv_entry ([.long v0, .int v2]) (n := 9) (Nat.le_of_ble_eq_true rfl)
  rw [lg_entry_eq]
  generalize (lg_sl ([.long v0, .int v2]) ++ List.replicate (9 - (lg_sl ([.long v0, .int v2])).length) Slot.unset).toArray = ls at hl ⊢
  have hl : lv_has ls 9 [(0, .long v0), (2, .int v2)] := hl
  rw [fX3_cut]
  rw [okX3_cut] at hok
  exact wX3_cut_0 C v0 v2 hok (lv_sub hl [0, 1] rfl)
set_option maxHeartbeats 4000000 in
set_option maxRecDepth 100000 in
theorem wX3_casted_25 {p : Program} {l : Launch} {e : Env} {s : State} {m : MethodId} {args : Array Value} {below : List Frame} {meth : Method} {c : Code} (C : px_C p s m args meth c cX3_casted 6 (some .long) RX3 wsX3_casted) (v0 : Int64) (v2 : Int32) (v3 : Int32) (hok : okX3_casted_25 v0 v2 v3) {ls : Array Slot} (hl : lv_has ls 6 [(0, .long v0), (2, .int v2), (3, .int v3)]) : W p l e { frames := 4, cells := 0, slots := 0, locals := 115 } s m args below meth c s.heap [] 0 0 (MQ below (px_Q (.long (fX3_casted_25 v0 v2 v3))) args s 0 0 (fun _ => False)) (F0 m 25 ls []) := by
  obtain ⟨hx, hb, hml, hown, hts, hr, hlocks⟩ := id C
  rw [fX3_casted_25]
  rw [okX3_casted_25] at hok
  refine lv_lload_n hx hb dX3_casted_25 rfl (lv_at hl 0 rfl) ?_
  refine lv_iload_n hx hb dX3_casted_26 rfl (lv_at hl 1 rfl) ?_
  refine lv_iload_n hx hb dX3_casted_27 rfl (lv_at hl 2 rfl) ?_
  obtain ⟨hk, hok⟩ := hok
  refine px_S (As := [.long v0, .int v2, .int v3]) (rest := []) ⟨hx, hb, hml, hown, hts⟩ (kX3_widened l v0 v2 v3 hk) (va_cwS 3 hts gX3_casted_X3_widened rfl rfl rfl (by decide +kernel) ⟨Nat.le_of_ble_eq_true rfl, Nat.le_of_ble_eq_true rfl⟩) rfl hl.1 rfl (Nat.le_of_ble_eq_true rfl) dX3_casted_28 (Nat.zero_le _) (Nat.zero_le _) ?_
  exact W.lret hx hb hr (fun t ht _ => ⟨rfl, ht⟩) (fun q h => by cases h) dX3_casted_31
set_option maxHeartbeats 4000000 in
set_option maxRecDepth 100000 in
theorem wX3_casted_93 {p : Program} {l : Launch} {e : Env} {s : State} {m : MethodId} {args : Array Value} {below : List Frame} {meth : Method} {c : Code} (C : px_C p s m args meth c cX3_casted 6 (some .long) RX3 wsX3_casted) (v3 : Int32) (v4 : Int64) {ls : Array Slot} (hl : lv_has ls 6 [(3, .int v3), (4, .long v4)]) : W p l e { frames := 4, cells := 0, slots := 0, locals := 115 } s m args below meth c s.heap [] 0 0 (MQ below (px_Q (.long (fX3_casted_93 v3 v4))) args s 0 0 (fun _ => False)) (F0 m 93 ls []) := by
  obtain ⟨hx, hb, hml, hown, hts, hr, hlocks⟩ := id C
  rw [fX3_casted_93]
  refine lv_iload_n hx hb dX3_casted_93 rfl (lv_at hl 0 rfl) ?_
  by_cases hs94_0 : v3 = (1 : Int32)
  · rw [if_pos hs94_0]
    refine lv_tableIn (tgt := 124) (off := 30) hx hb dX3_casted_94 (by rw [hs94_0]; decide) (by rw [hs94_0]; decide) (by rw [hs94_0]; decide +kernel) (by decide) ?_
    refine lv_lload hx hb dX3_casted_124 (lv_at hl 1 rfl) ?_
    refine px_l2i hx hb dX3_casted_126 ?_
    refine px_i2b hx hb dX3_casted_127 ?_
    refine px_i2l hx hb dX3_casted_128 ?_
    exact W.lret hx hb hr (fun t ht _ => ⟨rfl, ht⟩) (fun q h => by cases h) dX3_casted_129
  · rw [if_neg hs94_0]
    by_cases hs94_1 : v3 = (2 : Int32)
    · rw [if_pos hs94_1]
      refine lv_tableIn (tgt := 130) (off := 36) hx hb dX3_casted_94 (by rw [hs94_1]; decide) (by rw [hs94_1]; decide) (by rw [hs94_1]; decide +kernel) (by decide) ?_
      refine lv_lload hx hb dX3_casted_130 (lv_at hl 1 rfl) ?_
      refine px_l2i hx hb dX3_casted_132 ?_
      refine px_i2s hx hb dX3_casted_133 ?_
      refine px_i2l hx hb dX3_casted_134 ?_
      exact W.lret hx hb hr (fun t ht _ => ⟨rfl, ht⟩) (fun q h => by cases h) dX3_casted_135
    · rw [if_neg hs94_1]
      by_cases hs94_2 : v3 = (3 : Int32)
      · rw [if_pos hs94_2]
        refine lv_tableIn (tgt := 136) (off := 42) hx hb dX3_casted_94 (by rw [hs94_2]; decide) (by rw [hs94_2]; decide) (by rw [hs94_2]; decide +kernel) (by decide) ?_
        refine lv_lload hx hb dX3_casted_136 (lv_at hl 1 rfl) ?_
        refine px_l2i hx hb dX3_casted_138 ?_
        refine px_i2c hx hb dX3_casted_139 ?_
        refine px_i2l hx hb dX3_casted_140 ?_
        exact W.lret hx hb hr (fun t ht _ => ⟨rfl, ht⟩) (fun q h => by cases h) dX3_casted_141
      · rw [if_neg hs94_2]
        by_cases hs94_3 : v3 = (4 : Int32)
        · rw [if_pos hs94_3]
          refine lv_tableIn (tgt := 142) (off := 48) hx hb dX3_casted_94 (by rw [hs94_3]; decide) (by rw [hs94_3]; decide) (by rw [hs94_3]; decide +kernel) (by decide) ?_
          refine lv_lload hx hb dX3_casted_142 (lv_at hl 1 rfl) ?_
          refine px_l2i hx hb dX3_casted_144 ?_
          refine px_i2l hx hb dX3_casted_145 ?_
          exact W.lret hx hb hr (fun t ht _ => ⟨rfl, ht⟩) (fun q h => by cases h) dX3_casted_146
        · rw [if_neg hs94_3]
          refine lv_tableOut (tgt := 147) hx hb dX3_casted_94 (by have q0 := lv_neT (a := 1) hs94_0 (by decide); have q1 := lv_neT (a := 2) hs94_1 (by decide); have q2 := lv_neT (a := 3) hs94_2 (by decide); have q3 := lv_neT (a := 4) hs94_3 (by decide); omega) (by decide) ?_
          refine lv_lload hx hb dX3_casted_147 (lv_at hl 1 rfl) ?_
          exact W.lret hx hb hr (fun t ht _ => ⟨rfl, ht⟩) (fun q h => by cases h) dX3_casted_149
set_option maxHeartbeats 4000000 in
set_option maxRecDepth 100000 in
theorem wX3_casted_88 {p : Program} {l : Launch} {e : Env} {s : State} {m : MethodId} {args : Array Value} {below : List Frame} {meth : Method} {c : Code} (C : px_C p s m args meth c cX3_casted 6 (some .long) RX3 wsX3_casted) (v3 : Int32) (s0 : Int64) (s1 : Int32) (hok : okX3_casted_88 v3 s0 s1) {ls : Array Slot} (hl : lv_has ls 6 [(3, .int v3)]) : W p l e { frames := 4, cells := 0, slots := 0, locals := 115 } s m args below meth c s.heap [] 0 0 (MQ below (px_Q (.long (fX3_casted_88 v3 s0 s1))) args s 0 0 (fun _ => False)) (F0 m 88 ls [.int s1, .long s0]) := by
  obtain ⟨hx, hb, hml, hown, hts, hr, hlocks⟩ := id C
  rw [fX3_casted_88]
  rw [okX3_casted_88] at hok
  obtain ⟨hk, hok⟩ := hok
  refine px_S (As := [.long s0, .int s1]) (rest := []) ⟨hx, hb, hml, hown, hts⟩ (kX3_cut l s0 s1 hk) (va_cwS 2 hts gX3_casted_X3_cut rfl rfl rfl (by decide +kernel) ⟨Nat.le_of_ble_eq_true rfl, Nat.le_of_ble_eq_true rfl⟩) rfl hl.1 rfl (Nat.le_of_ble_eq_true rfl) dX3_casted_88 (Nat.zero_le _) (Nat.zero_le _) ?_
  refine lv_lstore (lv' := [(4, .long (fX3_cut s0 s1)), (3, .int v3)]) hx hb dX3_casted_91 hl (by decide) rfl (fun ls hl => ?_)
  exact wX3_casted_93 C v3 (fX3_cut s0 s1) (lv_sub hl [1, 0] rfl)
set_option maxHeartbeats 4000000 in
set_option maxRecDepth 100000 in
theorem wX3_casted_78 {p : Program} {l : Launch} {e : Env} {s : State} {m : MethodId} {args : Array Value} {below : List Frame} {meth : Method} {c : Code} (C : px_C p s m args meth c cX3_casted 6 (some .long) RX3 wsX3_casted) (v3 : Int32) (s0 : Int64) (hok : okX3_casted_78 v3 s0) {ls : Array Slot} (hl : lv_has ls 6 [(3, .int v3)]) : W p l e { frames := 4, cells := 0, slots := 0, locals := 115 } s m args below meth c s.heap [] 0 0 (MQ below (px_Q (.long (fX3_casted_78 v3 s0))) args s 0 0 (fun _ => False)) (F0 m 78 ls [.long s0]) := by
  obtain ⟨hx, hb, hml, hown, hts, hr, hlocks⟩ := id C
  rw [fX3_casted_78]
  rw [okX3_casted_78] at hok
  refine lv_iload_n hx hb dX3_casted_78 rfl (lv_at hl 0 rfl) ?_
  refine lv_iconst (v := 5) hx hb dX3_casted_79 (by decide) ?_
  refine px_icmp_ne (tgt := 87) hx hb dX3_casted_80 (by decide) (fun hc80 => ?_) (fun hc80 => ?_)
  · rw [if_pos hc80]
    have hok := hok.1 hc80
    refine lv_iconst (v := 1) hx hb dX3_casted_83 (by decide) ?_
    refine lv_goto (tgt := 88) hx hb dX3_casted_84 (by decide) ?_
    exact wX3_casted_88 C v3 s0 (1 : Int32) hok (lv_sub hl [0] rfl)
  · rw [if_neg hc80]
    have hok := hok.2 hc80
    refine lv_iconst (v := 0) hx hb dX3_casted_87 (by decide) ?_
    exact wX3_casted_88 C v3 s0 (0 : Int32) hok (lv_sub hl [0] rfl)
set_option maxHeartbeats 4000000 in
set_option maxRecDepth 100000 in
theorem wX3_casted_63 {p : Program} {l : Launch} {e : Env} {s : State} {m : MethodId} {args : Array Value} {below : List Frame} {meth : Method} {c : Code} (C : px_C p s m args meth c cX3_casted 6 (some .long) RX3 wsX3_casted) (v0 : Int64) (v2 : Int32) (v3 : Int32) (hok : okX3_casted_63 v0 v2 v3) {ls : Array Slot} (hl : lv_has ls 6 [(0, .long v0), (2, .int v2), (3, .int v3)]) : W p l e { frames := 4, cells := 0, slots := 0, locals := 115 } s m args below meth c s.heap [] 0 0 (MQ below (px_Q (.long (fX3_casted_63 v0 v2 v3))) args s 0 0 (fun _ => False)) (F0 m 63 ls []) := by
  obtain ⟨hx, hb, hml, hown, hts, hr, hlocks⟩ := id C
  rw [fX3_casted_63]
  rw [okX3_casted_63] at hok
  refine lv_iload_n hx hb dX3_casted_63 rfl (lv_at hl 1 rfl) ?_
  refine lv_bipush (v := 6) hx hb dX3_casted_64 (by decide) ?_
  refine px_icmp_ne (tgt := 77) hx hb dX3_casted_66 (by decide) (fun hc66 => ?_) (fun hc66 => ?_)
  · rw [if_pos hc66]
    have hok := hok.1 hc66
    refine lv_lload_n hx hb dX3_casted_69 rfl (lv_at hl 0 rfl) ?_
    refine px_l2i hx hb dX3_casted_70 ?_
    obtain ⟨hk, hok⟩ := hok
    refine px_S (As := [.int (v0.toInt32)]) (rest := []) ⟨hx, hb, hml, hown, hts⟩ (kX2_wide l (v0.toInt32) hk) (va_cwS 1 hts gX3_casted_X2_wide rfl rfl rfl (by decide +kernel) ⟨Nat.le_of_ble_eq_true rfl, Nat.le_of_ble_eq_true rfl⟩) rfl hl.1 rfl (Nat.le_of_ble_eq_true rfl) dX3_casted_71 (Nat.zero_le _) (Nat.zero_le _) ?_
    refine lv_goto (tgt := 78) hx hb dX3_casted_74 (by decide) ?_
    exact wX3_casted_78 C v3 (fX2_wide (v0.toInt32)) hok (lv_sub hl [2] rfl)
  · rw [if_neg hc66]
    have hok := hok.2 hc66
    refine lv_lload_n hx hb dX3_casted_77 rfl (lv_at hl 0 rfl) ?_
    exact wX3_casted_78 C v3 v0 hok (lv_sub hl [2] rfl)
set_option maxHeartbeats 4000000 in
set_option maxRecDepth 100000 in
theorem wX3_casted_32 {p : Program} {l : Launch} {e : Env} {s : State} {m : MethodId} {args : Array Value} {below : List Frame} {meth : Method} {c : Code} (C : px_C p s m args meth c cX3_casted 6 (some .long) RX3 wsX3_casted) (v0 : Int64) (v2 : Int32) (v3 : Int32) (hok : okX3_casted_32 v0 v2 v3) {ls : Array Slot} (hl : lv_has ls 6 [(0, .long v0), (2, .int v2), (3, .int v3)]) : W p l e { frames := 4, cells := 0, slots := 0, locals := 115 } s m args below meth c s.heap [] 0 0 (MQ below (px_Q (.long (fX3_casted_32 v0 v2 v3))) args s 0 0 (fun _ => False)) (F0 m 32 ls []) := by
  obtain ⟨hx, hb, hml, hown, hts, hr, hlocks⟩ := id C
  rw [fX3_casted_32]
  rw [okX3_casted_32] at hok
  refine lv_iload_n hx hb dX3_casted_32 rfl (lv_at hl 2 rfl) ?_
  refine lv_bipush (v := 6) hx hb dX3_casted_33 (by decide) ?_
  refine px_icmp_ne (tgt := 48) hx hb dX3_casted_35 (by decide) (fun hc35 => ?_) (fun hc35 => ?_)
  · rw [if_pos hc35]
    have hok := hok.1 hc35
    refine lv_lload_n hx hb dX3_casted_38 rfl (lv_at hl 0 rfl) ?_
    obtain ⟨hk, hok⟩ := hok
    refine px_S (As := [.long v0]) (rest := []) ⟨hx, hb, hml, hown, hts⟩ (kX2_narrow l v0 hk) (va_cwS 1 hts gX3_casted_X2_narrow rfl rfl rfl (by decide +kernel) ⟨Nat.le_of_ble_eq_true rfl, Nat.le_of_ble_eq_true rfl⟩) rfl hl.1 rfl (Nat.le_of_ble_eq_true rfl) dX3_casted_39 (Nat.zero_le _) (Nat.zero_le _) ?_
    refine px_i2l hx hb dX3_casted_42 ?_
    refine lv_ldc2 hx hb hown (hts (.constantLong RX3 29 (4294967295)) (by decide +kernel)) dX3_casted_43 ?_
    refine lv_land hx hb dX3_casted_46 ?_
    exact W.lret hx hb hr (fun t ht _ => ⟨rfl, ht⟩) (fun q h => by cases h) dX3_casted_47
  · rw [if_neg hc35]
    have hok := hok.2 hc35
    refine lv_lload_n hx hb dX3_casted_48 rfl (lv_at hl 0 rfl) ?_
    refine lv_lstore (lv' := [(4, .long v0), (0, .long v0), (2, .int v2), (3, .int v3)]) hx hb dX3_casted_49 hl (by decide) rfl (fun ls hl => ?_)
    refine lv_iload_n hx hb dX3_casted_51 rfl (lv_at hl 2 rfl) ?_
    refine lv_bipush (v := 6) hx hb dX3_casted_52 (by decide) ?_
    refine px_icmp_eq (tgt := 63) hx hb dX3_casted_54 (by decide) (fun hc54 => ?_) (fun hc54 => ?_)
    · rw [if_pos hc54]
      have hok := hok.1 hc54
      exact wX3_casted_63 C v0 v2 v3 hok (lv_sub hl [1, 2, 3] rfl)
    · rw [if_neg hc54]
      have hok := hok.2 hc54
      refine lv_iload_n hx hb dX3_casted_57 rfl (lv_at hl 2 rfl) ?_
      refine lv_bipush (v := 7) hx hb dX3_casted_58 (by decide) ?_
      refine px_icmp_ne (tgt := 93) hx hb dX3_casted_60 (by decide) (fun hc60 => ?_) (fun hc60 => ?_)
      · rw [if_pos hc60]
        have hok := hok.1 hc60
        exact wX3_casted_63 C v0 v2 v3 hok (lv_sub hl [1, 2, 3] rfl)
      · rw [if_neg hc60]
        have hok := hok.2 hc60
        exact wX3_casted_93 C v3 v0 (lv_sub hl [3, 0] rfl)
set_option maxHeartbeats 4000000 in
set_option maxRecDepth 100000 in
theorem wX3_casted_0 {p : Program} {l : Launch} {e : Env} {s : State} {m : MethodId} {args : Array Value} {below : List Frame} {meth : Method} {c : Code} (C : px_C p s m args meth c cX3_casted 6 (some .long) RX3 wsX3_casted) (v0 : Int64) (v2 : Int32) (v3 : Int32) (hok : okX3_casted_0 v0 v2 v3) {ls : Array Slot} (hl : lv_has ls 6 [(0, .long v0), (2, .int v2), (3, .int v3)]) : W p l e { frames := 4, cells := 0, slots := 0, locals := 115 } s m args below meth c s.heap [] 0 0 (MQ below (px_Q (.long (fX3_casted_0 v0 v2 v3))) args s 0 0 (fun _ => False)) (F0 m 0 ls []) := by
  obtain ⟨hx, hb, hml, hown, hts, hr, hlocks⟩ := id C
  rw [fX3_casted_0]
  rw [okX3_casted_0] at hok
  refine lv_iload_n hx hb dX3_casted_0 rfl (lv_at hl 1 rfl) ?_
  refine lv_iload_n hx hb dX3_casted_1 rfl (lv_at hl 2 rfl) ?_
  refine px_icmp_ne (tgt := 7) hx hb dX3_casted_2 (by decide) (fun hc2 => ?_) (fun hc2 => ?_)
  · rw [if_pos hc2]
    have hok := hok.1 hc2
    refine lv_lload_n hx hb dX3_casted_5 rfl (lv_at hl 0 rfl) ?_
    exact W.lret hx hb hr (fun t ht _ => ⟨rfl, ht⟩) (fun q h => by cases h) dX3_casted_6
  · rw [if_neg hc2]
    have hok := hok.2 hc2
    refine lv_iload_n hx hb dX3_casted_7 rfl (lv_at hl 2 rfl) ?_
    refine lv_bipush (v := 7) hx hb dX3_casted_8 (by decide) ?_
    refine px_icmp_eq (tgt := 25) hx hb dX3_casted_10 (by decide) (fun hc10 => ?_) (fun hc10 => ?_)
    · rw [if_pos hc10]
      have hok := hok.1 hc10
      exact wX3_casted_25 C v0 v2 v3 hok (lv_sub hl [0, 1, 2] rfl)
    · rw [if_neg hc10]
      have hok := hok.2 hc10
      refine lv_iload_n hx hb dX3_casted_13 rfl (lv_at hl 2 rfl) ?_
      refine lv_bipush (v := 6) hx hb dX3_casted_14 (by decide) ?_
      refine px_icmp_ne (tgt := 32) hx hb dX3_casted_16 (by decide) (fun hc16 => ?_) (fun hc16 => ?_)
      · rw [if_pos hc16]
        have hok := hok.1 hc16
        refine lv_iload_n hx hb dX3_casted_19 rfl (lv_at hl 1 rfl) ?_
        refine lv_bipush (v := 6) hx hb dX3_casted_20 (by decide) ?_
        refine px_icmp_ge (tgt := 32) hx hb dX3_casted_22 (by decide) (fun hc22 => ?_) (fun hc22 => ?_)
        · rw [if_pos hc22]
          have hok := hok.1 hc22
          exact wX3_casted_25 C v0 v2 v3 hok (lv_sub hl [0, 1, 2] rfl)
        · rw [if_neg hc22]
          have hok := hok.2 hc22
          exact wX3_casted_32 C v0 v2 v3 hok (lv_sub hl [0, 1, 2] rfl)
      · rw [if_neg hc16]
        have hok := hok.2 hc16
        exact wX3_casted_32 C v0 v2 v3 hok (lv_sub hl [0, 1, 2] rfl)
set_option maxHeartbeats 4000000 in
set_option maxRecDepth 100000 in
theorem kX3_casted (l : Launch) (v0 : Int64) (v2 : Int32) (v3 : Int32) (hok : okX3_casted v0 v2 v3) : px_M l yX3_casted wsX3_casted ({ frames := 4, cells := 0, slots := 0, locals := 115 }) [.long v0, .int v2, .int v3] (.long (fX3_casted v0 v2 v3)) := by
  refine Met.ofW (cc := cX3_casted) (maxL := 6) (ret := (some .long)) (by decide) rfl ?_
  intro p e s m args below meth c s₁ B hml hv
  cases hv
  have C : px_C p s m _ meth c cX3_casted 6 (some .long) RX3 wsX3_casted := ⟨B.exec, B.bytes, hml, findClass_of_methodNamed B.named, atoms_spec (ws := wsX3_casted) B.pre, B.returns, B.notSynchronized⟩
  have hl := lv_entry ([.long v0, .int v2, .int v3]) (n := 6) (Nat.le_of_ble_eq_true rfl)
  rw [lg_entry_eq]
  generalize (lg_sl ([.long v0, .int v2, .int v3]) ++ List.replicate (6 - (lg_sl ([.long v0, .int v2, .int v3])).length) Slot.unset).toArray = ls at hl ⊢
  have hl : lv_has ls 6 [(0, .long v0), (2, .int v2), (3, .int v3)] := hl
  rw [fX3_casted]
  rw [okX3_casted] at hok
  exact wX3_casted_0 C v0 v2 v3 hok (lv_sub hl [0, 1, 2] rfl)
set_option maxHeartbeats 4000000 in
set_option maxRecDepth 100000 in
theorem wX3_rest_89 {p : Program} {l : Launch} {e : Env} {s : State} {m : MethodId} {args : Array Value} {below : List Frame} {meth : Method} {c : Code} (C : px_C p s m args meth c cX3_rest 15 (some .long) RX3 wsX3_rest) (hN : nx_N s) (v9 : Int32) (v10 : Int64) (v12 : Int64) (hok : okX3_rest_89 v9 v10 v12) {ls : Array Slot} (hl : lv_has ls 15 [(9, .int v9), (10, .long v10), (12, .long v12)]) : W p l e { frames := 2, cells := 0, slots := 0, locals := 63 } s m args below meth c s.heap [] 0 0 (MQ below (px_Q (.long (fX3_rest_89 v9 v10 v12))) args s 0 0 (fun _ => False)) (F0 m 89 ls []) := by
  obtain ⟨hx, hb, hml, hown, hts, hr, hlocks⟩ := id C
  obtain ⟨hN75, hN78, hN83⟩ := id hN
  rw [fX3_rest_89]
  rw [okX3_rest_89] at hok
  refine lv_lload hx hb dX3_rest_89 (lv_at hl 2 rfl) ?_
  refine lv_lconst (v := 0) hx hb dX3_rest_91 (by decide) ?_
  refine px_lcmp_ne (tgt := 99) hx hb dX3_rest_92 dX3_rest_93 (by decide) (fun hc92 => ?_) (fun hc92 => ?_)
  · rw [if_pos hc92]
    have hok := hok.1 hc92
    refine lv_lload hx hb dX3_rest_96 (lv_at hl 1 rfl) ?_
    exact W.lret hx hb hr (fun t ht _ => ⟨rfl, ht⟩) (fun q h => by cases h) dX3_rest_98
  · rw [if_neg hc92]
    have hok := hok.2 hc92
    refine lv_lload hx hb dX3_rest_99 (lv_at hl 1 rfl) ?_
    refine lv_iconst (v := 0) hx hb dX3_rest_101 (by decide) ?_
    refine lv_lload hx hb dX3_rest_102 (lv_at hl 2 rfl) ?_
    refine lv_iload hx hb dX3_rest_104 (lv_at hl 0 rfl) ?_
    refine lv_iconst (v := 0) hx hb dX3_rest_106 (by decide) ?_
    obtain ⟨hk, hok⟩ := hok
    refine px_N (As := [.int (0 : Int32), .long v12, .int v9, .int (0 : Int32)]) (rest := [.long v10]) ⟨hx, hb, hml, hown, hts⟩ (kX2_made l (0 : Int32) v12 v9 (0 : Int32) hk) (va_cnB 4 hts gX3_rest_X2_made_n83 rfl rfl rfl hN83 (hts (.initialized RX2) (by decide +kernel)) (by decide +kernel) ⟨Nat.le_of_ble_eq_true rfl, Nat.le_of_ble_eq_true rfl⟩) (hts (.static yX2_made) (by decide +kernel)) rfl hl.1 rfl (Nat.le_of_ble_eq_true rfl) dX3_rest_107 (Nat.zero_le _) (Nat.zero_le _) ?_
    refine lv_lor hx hb dX3_rest_110 ?_
    exact W.lret hx hb hr (fun t ht _ => ⟨rfl, ht⟩) (fun q h => by cases h) dX3_rest_111
set_option maxHeartbeats 4000000 in
set_option maxRecDepth 100000 in
theorem wX3_rest_67 {p : Program} {l : Launch} {e : Env} {s : State} {m : MethodId} {args : Array Value} {below : List Frame} {meth : Method} {c : Code} (C : px_C p s m args meth c cX3_rest 15 (some .long) RX3 wsX3_rest) (hN : nx_N s) : ∀ (n : Nat) (v6 : Int64) (v9 : Int32) (v10 : Int64) (v12 : Int64) (v14 : Int32) (hok : okX3_rest_67 n v6 v9 v10 v12 v14) (ls : Array Slot) (hl : lv_has ls 15 [(6, .long v6), (9, .int v9), (10, .long v10), (12, .long v12), (14, .int v14)]), W p l e { frames := 2, cells := 0, slots := 0, locals := 63 } s m args below meth c s.heap [] 0 0 (MQ below (px_Q (.long (fX3_rest_67 n v6 v9 v10 v12 v14))) args s 0 0 (fun _ => False)) (F0 m 67 ls []) := by
  obtain ⟨hx, hb, hml, hown, hts, hr, hlocks⟩ := id C
  obtain ⟨hN75, hN78, hN83⟩ := id hN
  intro n
  induction n with
  | zero => intro v6 v9 v10 v12 v14 hok; exact hok.elim
  | succ n ih =>
    intro v6 v9 v10 v12 v14 hok ls hl
    rw [fX3_rest_67]
    rw [okX3_rest_67] at hok
    refine lv_iload hx hb dX3_rest_67 (lv_at hl 4 rfl) ?_
    refine lv_iload hx hb dX3_rest_69 (lv_at hl 1 rfl) ?_
    refine px_icmp_le (tgt := 89) hx hb dX3_rest_71 (by decide) (fun hc71 => ?_) (fun hc71 => ?_)
    · rw [if_pos hc71]
      have hok := hok.1 hc71
      refine lv_lload hx hb dX3_rest_74 (lv_at hl 3 rfl) ?_
      refine lv_iconst (v := 1) hx hb dX3_rest_76 (by decide) ?_
      refine px_lshl hx hb dX3_rest_77 ?_
      refine lv_lload hx hb dX3_rest_78 (lv_at hl 0 rfl) ?_
      obtain ⟨hne, hok⟩ := hok
      refine px_lrem hx hb dX3_rest_80 hne ?_
      refine lv_lstore (lv' := [(12, .long (jrem (jshl v12 (1 : Int32)) v6)), (6, .long v6), (9, .int v9), (10, .long v10), (14, .int v14)]) hx hb dX3_rest_81 hl (by decide) rfl (fun ls hl => ?_)
      refine lv_iinc (v := (v14 + (-1 : Int32))) (lv' := [(14, .int (v14 + (-1 : Int32))), (12, .long (jrem (jshl v12 (1 : Int32)) v6)), (6, .long v6), (9, .int v9), (10, .long v10)]) hx hb dX3_rest_83 hl (k := 4) rfl (congrArg (HAdd.hAdd v14) (by decide : Int32.ofInt (-1) = (-1 : Int32))) (by decide) rfl (fun ls hl => ?_)
      refine lv_goto (tgt := 67) hx hb dX3_rest_86 (by decide) ?_
      exact ih v6 v9 v10 (jrem (jshl v12 (1 : Int32)) v6) (v14 + (-1 : Int32)) hok _ (lv_sub hl [2, 3, 4, 1, 0] rfl)
    · rw [if_neg hc71]
      have hok := hok.2 hc71
      exact wX3_rest_89 C hN v9 v10 v12 hok (lv_sub hl [1, 2, 3] rfl)
set_option maxHeartbeats 4000000 in
set_option maxRecDepth 100000 in
theorem wX3_rest_0 {p : Program} {l : Launch} {e : Env} {s : State} {m : MethodId} {args : Array Value} {below : List Frame} {meth : Method} {c : Code} (C : px_C p s m args meth c cX3_rest 15 (some .long) RX3 wsX3_rest) (hN : nx_N s) (v0 : Int64) (v2 : Int64) (hok : okX3_rest_0 v0 v2) {ls : Array Slot} (hl : lv_has ls 15 [(0, .long v0), (2, .long v2)]) : W p l e { frames := 2, cells := 0, slots := 0, locals := 63 } s m args below meth c s.heap [] 0 0 (MQ below (px_Q (.long (fX3_rest_0 v0 v2))) args s 0 0 (fun _ => False)) (F0 m 0 ls []) := by
  obtain ⟨hx, hb, hml, hown, hts, hr, hlocks⟩ := id C
  obtain ⟨hN75, hN78, hN83⟩ := id hN
  rw [fX3_rest_0]
  rw [okX3_rest_0] at hok
  refine lv_lload_n hx hb dX3_rest_0 rfl (lv_at hl 1 rfl) ?_
  refine px_S (As := [.long v2]) (rest := []) ⟨hx, hb, hml, hown, hts⟩ (kX2_isInfinite l v2) (va_cwS 1 hts gX3_rest_X2_isInfinite rfl rfl rfl (by decide +kernel) ⟨Nat.le_of_ble_eq_true rfl, Nat.le_of_ble_eq_true rfl⟩) rfl hl.1 rfl (Nat.le_of_ble_eq_true rfl) dX3_rest_1 (Nat.zero_le _) (Nat.zero_le _) ?_
  refine px_if_ne (tgt := 14) hx hb dX3_rest_4 (by decide) (fun hc4 => ?_) (fun hc4 => ?_)
  · rw [if_pos hc4]
    have hok := hok.1 hc4
    refine lv_lload_n hx hb dX3_rest_7 rfl (lv_at hl 0 rfl) ?_
    refine px_S (As := [.long v0]) (rest := []) ⟨hx, hb, hml, hown, hts⟩ (kX2_isZero l v0) (va_cwS 1 hts gX3_rest_X2_isZero rfl rfl rfl (by decide +kernel) ⟨Nat.le_of_ble_eq_true rfl, Nat.le_of_ble_eq_true rfl⟩) rfl hl.1 rfl (Nat.le_of_ble_eq_true rfl) dX3_rest_8 (Nat.zero_le _) (Nat.zero_le _) ?_
    refine px_if_eq (tgt := 16) hx hb dX3_rest_11 (by decide) (fun hc11 => ?_) (fun hc11 => ?_)
    · rw [if_pos hc11]
      have hok := hok.1 hc11
      refine lv_lload_n hx hb dX3_rest_16 rfl (lv_at hl 0 rfl) ?_
      obtain ⟨hk, hok⟩ := hok
      refine px_N (As := [.long v0]) (rest := []) ⟨hx, hb, hml, hown, hts⟩ (kX2_significand l v0 hk) (va_cnB 1 hts gX3_rest_X2_significand_n75 rfl rfl rfl hN75 (hts (.initialized RX2) (by decide +kernel)) (by decide +kernel) ⟨Nat.le_of_ble_eq_true rfl, Nat.le_of_ble_eq_true rfl⟩) (hts (.static yX2_significand) (by decide +kernel)) rfl hl.1 rfl (Nat.le_of_ble_eq_true rfl) dX3_rest_17 (Nat.zero_le _) (Nat.zero_le _) ?_
      refine lv_topl (fun v4_20 ev4_20 => ?_)
      rw [← ev4_20]
      rw [← ev4_20] at hok
      refine lv_lstore (lv' := [(4, .long v4_20), (0, .long v0), (2, .long v2)]) hx hb dX3_rest_20 hl (by decide) rfl (fun ls hl => ?_)
      rw [fX3_rest_22]
      rw [okX3_rest_22] at hok
      refine lv_lload_n hx hb dX3_rest_22 rfl (lv_at hl 2 rfl) ?_
      obtain ⟨hk, hok⟩ := hok
      refine px_N (As := [.long v2]) (rest := []) ⟨hx, hb, hml, hown, hts⟩ (kX2_significand l v2 hk) (va_cnB 1 hts gX3_rest_X2_significand_n75 rfl rfl rfl hN75 (hts (.initialized RX2) (by decide +kernel)) (by decide +kernel) ⟨Nat.le_of_ble_eq_true rfl, Nat.le_of_ble_eq_true rfl⟩) (hts (.static yX2_significand) (by decide +kernel)) rfl hl.1 rfl (Nat.le_of_ble_eq_true rfl) dX3_rest_23 (Nat.zero_le _) (Nat.zero_le _) ?_
      refine lv_topl (fun v6_26 ev6_26 => ?_)
      rw [← ev6_26]
      rw [← ev6_26] at hok
      refine lv_lstore (lv' := [(6, .long v6_26), (4, .long v4_20), (0, .long v0), (2, .long v2)]) hx hb dX3_rest_26 hl (by decide) rfl (fun ls hl => ?_)
      rw [fX3_rest_28]
      rw [okX3_rest_28] at hok
      refine lv_lload_n hx hb dX3_rest_28 rfl (lv_at hl 2 rfl) ?_
      obtain ⟨hk, hok⟩ := hok
      refine px_N (As := [.long v0]) (rest := []) ⟨hx, hb, hml, hown, hts⟩ (kX2_exponent l v0 hk) (va_cnB 1 hts gX3_rest_X2_exponent_n78 rfl rfl rfl hN78 (hts (.initialized RX2) (by decide +kernel)) (by decide +kernel) ⟨Nat.le_of_ble_eq_true rfl, Nat.le_of_ble_eq_true rfl⟩) (hts (.static yX2_exponent) (by decide +kernel)) rfl hl.1 rfl (Nat.le_of_ble_eq_true rfl) dX3_rest_29 (Nat.zero_le _) (Nat.zero_le _) ?_
      refine lv_topi (fun v8_32 ev8_32 => ?_)
      rw [← ev8_32]
      rw [← ev8_32] at hok
      refine lv_istore (lv' := [(8, .int v8_32), (6, .long v6_26), (4, .long v4_20), (0, .long v0), (2, .long v2)]) hx hb dX3_rest_32 hl (by decide) rfl (fun ls hl => ?_)
      rw [fX3_rest_34]
      rw [okX3_rest_34] at hok
      refine lv_lload_n hx hb dX3_rest_34 rfl (lv_at hl 4 rfl) ?_
      obtain ⟨hk, hok⟩ := hok
      refine px_N (As := [.long v2]) (rest := []) ⟨hx, hb, hml, hown, hts⟩ (kX2_exponent l v2 hk) (va_cnB 1 hts gX3_rest_X2_exponent_n78 rfl rfl rfl hN78 (hts (.initialized RX2) (by decide +kernel)) (by decide +kernel) ⟨Nat.le_of_ble_eq_true rfl, Nat.le_of_ble_eq_true rfl⟩) (hts (.static yX2_exponent) (by decide +kernel)) rfl hl.1 rfl (Nat.le_of_ble_eq_true rfl) dX3_rest_35 (Nat.zero_le _) (Nat.zero_le _) ?_
      refine lv_topi (fun v9_38 ev9_38 => ?_)
      rw [← ev9_38]
      rw [← ev9_38] at hok
      refine lv_istore (lv' := [(9, .int v9_38), (8, .int v8_32), (6, .long v6_26), (4, .long v4_20), (0, .long v0), (2, .long v2)]) hx hb dX3_rest_38 hl (by decide) rfl (fun ls hl => ?_)
      rw [fX3_rest_40]
      rw [okX3_rest_40] at hok
      refine lv_lload_n hx hb dX3_rest_40 rfl (lv_at hl 4 rfl) ?_
      refine lv_ldc2 hx hb hown (hts (.constantLong RX3 81 (-9223372036854775808)) (by decide +kernel)) dX3_rest_41 ?_
      refine lv_land hx hb dX3_rest_44 ?_
      refine lv_topl (fun v10_45 ev10_45 => ?_)
      rw [← ev10_45]
      rw [← ev10_45] at hok
      refine lv_lstore (lv' := [(10, .long v10_45), (9, .int v9_38), (8, .int v8_32), (6, .long v6_26), (4, .long v4_20), (0, .long v0), (2, .long v2)]) hx hb dX3_rest_45 hl (by decide) rfl (fun ls hl => ?_)
      rw [fX3_rest_47]
      rw [okX3_rest_47] at hok
      refine lv_iload hx hb dX3_rest_47 (lv_at hl 2 rfl) ?_
      refine lv_iload hx hb dX3_rest_49 (lv_at hl 1 rfl) ?_
      refine px_icmp_ge (tgt := 56) hx hb dX3_rest_51 (by decide) (fun hc51 => ?_) (fun hc51 => ?_)
      · rw [if_pos hc51]
        have hok := hok.1 hc51
        refine lv_lload_n hx hb dX3_rest_54 rfl (lv_at hl 5 rfl) ?_
        exact W.lret hx hb hr (fun t ht _ => ⟨rfl, ht⟩) (fun q h => by cases h) dX3_rest_55
      · rw [if_neg hc51]
        have hok := hok.2 hc51
        refine lv_lload hx hb dX3_rest_56 (lv_at hl 4 rfl) ?_
        refine lv_lload hx hb dX3_rest_58 (lv_at hl 3 rfl) ?_
        obtain ⟨hne, hok⟩ := hok
        refine px_lrem hx hb dX3_rest_60 hne ?_
        refine lv_topl (fun v12_61 ev12_61 => ?_)
        rw [← ev12_61]
        rw [← ev12_61] at hok
        refine lv_lstore (lv' := [(12, .long v12_61), (10, .long v10_45), (9, .int v9_38), (8, .int v8_32), (6, .long v6_26), (4, .long v4_20), (0, .long v0), (2, .long v2)]) hx hb dX3_rest_61 hl (by decide) rfl (fun ls hl => ?_)
        rw [fX3_rest_63]
        rw [okX3_rest_63] at hok
        refine lv_iload hx hb dX3_rest_63 (lv_at hl 3 rfl) ?_
        refine lv_istore (lv' := [(14, .int v8_32), (12, .long v12_61), (10, .long v10_45), (9, .int v9_38), (8, .int v8_32), (6, .long v6_26), (4, .long v4_20), (0, .long v0), (2, .long v2)]) hx hb dX3_rest_65 hl (by decide) rfl (fun ls hl => ?_)
        exact wX3_rest_67 C hN _ v6_26 v9_38 v10_45 v12_61 v8_32 hok _ (lv_sub hl [5, 3, 2, 1, 0] rfl)
    · rw [if_neg hc11]
      have hok := hok.2 hc11
      refine lv_lload_n hx hb dX3_rest_14 rfl (lv_at hl 0 rfl) ?_
      exact W.lret hx hb hr (fun t ht _ => ⟨rfl, ht⟩) (fun q h => by cases h) dX3_rest_15
  · rw [if_neg hc4]
    have hok := hok.2 hc4
    refine lv_lload_n hx hb dX3_rest_14 rfl (lv_at hl 0 rfl) ?_
    exact W.lret hx hb hr (fun t ht _ => ⟨rfl, ht⟩) (fun q h => by cases h) dX3_rest_15
set_option maxHeartbeats 4000000 in
set_option maxRecDepth 100000 in
theorem kX3_rest (l : Launch) (v0 : Int64) (v2 : Int64) (hok : okX3_rest v0 v2) : px_MN l yX3_rest wsX3_rest ({ frames := 2, cells := 0, slots := 0, locals := 63 }) [.long v0, .long v2] (.long (fX3_rest v0 v2)) := by
  refine Met.ofW (cc := cX3_rest) (maxL := 15) (ret := (some .long)) (by decide) rfl ?_
  intro p e s m args below meth c s₁ B hml hv
  obtain ⟨rfl, hN⟩ := hv
  have C : px_C p s m _ meth c cX3_rest 15 (some .long) RX3 wsX3_rest := ⟨B.exec, B.bytes, hml, findClass_of_methodNamed B.named, atoms_spec (ws := wsX3_rest) B.pre, B.returns, B.notSynchronized⟩
  have hl := lv_entry ([.long v0, .long v2]) (n := 15) (Nat.le_of_ble_eq_true rfl)
  rw [lg_entry_eq]
  generalize (lg_sl ([.long v0, .long v2]) ++ List.replicate (15 - (lg_sl ([.long v0, .long v2])).length) Slot.unset).toArray = ls at hl ⊢
  have hl : lv_has ls 15 [(0, .long v0), (2, .long v2)] := hl
  rw [fX3_rest]
  rw [okX3_rest] at hok
  exact wX3_rest_0 C hN v0 v2 hok (lv_sub hl [0, 1] rfl)
set_option maxHeartbeats 4000000 in
set_option maxRecDepth 100000 in
theorem wJ13_compare_74951_0 {p : Program} {l : Launch} {e : Env} {s : State} {m : MethodId} {args : Array Value} {below : List Frame} {meth : Method} {c : Code} (C : px_C p s m args meth c cJ13_compare_74951 4 (some .int) RJ13 wsJ13_compare_74951) (v0 : Int64) (v2 : Int64) {ls : Array Slot} (hl : lv_has ls 4 [(0, .long v0), (2, .long v2)]) : W p l e { frames := 0, cells := 0, slots := 0, locals := 0 } s m args below meth c s.heap [] 0 0 (MQ below (px_Q (.int (fJ13_compare_74951_0 v0 v2))) args s 0 0 (fun _ => False)) (F0 m 0 ls []) := by
  obtain ⟨hx, hb, hml, hown, hts, hr, hlocks⟩ := id C
  rw [fJ13_compare_74951_0]
  refine lv_lload_n hx hb dJ13_compare_74951_0 rfl (lv_at hl 0 rfl) ?_
  refine lv_lload_n hx hb dJ13_compare_74951_1 rfl (lv_at hl 1 rfl) ?_
  refine px_lcmp_ge (tgt := 10) hx hb dJ13_compare_74951_2 dJ13_compare_74951_3 (by decide) (fun hc2 => ?_) (fun hc2 => ?_)
  · rw [if_pos hc2]
    refine lv_iconst (v := -1) hx hb dJ13_compare_74951_6 (by decide) ?_
    refine lv_goto (tgt := 21) hx hb dJ13_compare_74951_7 (by decide) ?_
    exact W.iret hx hb hr (fun t ht _ => ⟨rfl, ht⟩) (fun q h => by cases h) dJ13_compare_74951_21
  · rw [if_neg hc2]
    refine lv_lload_n hx hb dJ13_compare_74951_10 rfl (lv_at hl 0 rfl) ?_
    refine lv_lload_n hx hb dJ13_compare_74951_11 rfl (lv_at hl 1 rfl) ?_
    refine px_lcmp_ne (tgt := 20) hx hb dJ13_compare_74951_12 dJ13_compare_74951_13 (by decide) (fun hc12 => ?_) (fun hc12 => ?_)
    · rw [if_pos hc12]
      refine lv_iconst (v := 0) hx hb dJ13_compare_74951_16 (by decide) ?_
      refine lv_goto (tgt := 21) hx hb dJ13_compare_74951_17 (by decide) ?_
      exact W.iret hx hb hr (fun t ht _ => ⟨rfl, ht⟩) (fun q h => by cases h) dJ13_compare_74951_21
    · rw [if_neg hc12]
      refine lv_iconst (v := 1) hx hb dJ13_compare_74951_20 (by decide) ?_
      exact W.iret hx hb hr (fun t ht _ => ⟨rfl, ht⟩) (fun q h => by cases h) dJ13_compare_74951_21
set_option maxHeartbeats 4000000 in
set_option maxRecDepth 100000 in
theorem kJ13_compare_74951 (l : Launch) (v0 : Int64) (v2 : Int64) : px_M l yJ13_compare_74951 wsJ13_compare_74951 ({ frames := 0, cells := 0, slots := 0, locals := 0 }) [.long v0, .long v2] (.int (fJ13_compare_74951 v0 v2)) := by
  refine Met.ofW (cc := cJ13_compare_74951) (maxL := 4) (ret := (some .int)) (by decide) rfl ?_
  intro p e s m args below meth c s₁ B hml hv
  cases hv
  have C : px_C p s m _ meth c cJ13_compare_74951 4 (some .int) RJ13 wsJ13_compare_74951 := ⟨B.exec, B.bytes, hml, findClass_of_methodNamed B.named, atoms_spec (ws := wsJ13_compare_74951) B.pre, B.returns, B.notSynchronized⟩
  have hl := lv_entry ([.long v0, .long v2]) (n := 4) (Nat.le_of_ble_eq_true rfl)
  rw [lg_entry_eq]
  generalize (lg_sl ([.long v0, .long v2]) ++ List.replicate (4 - (lg_sl ([.long v0, .long v2])).length) Slot.unset).toArray = ls at hl ⊢
  have hl : lv_has ls 4 [(0, .long v0), (2, .long v2)] := hl
  rw [fJ13_compare_74951]
  exact wJ13_compare_74951_0 C v0 v2 (lv_sub hl [0, 1] rfl)
set_option maxHeartbeats 4000000 in
set_option maxRecDepth 100000 in
theorem wX3_ranked_23 {p : Program} {l : Launch} {e : Env} {s : State} {m : MethodId} {args : Array Value} {below : List Frame} {meth : Method} {c : Code} (C : px_C p s m args meth c cX3_ranked 5 (some .long) RX3 wsX3_ranked) (s0 : Int64) {ls : Array Slot} (hl : lv_has ls 5 []) : W p l e { frames := 2, cells := 0, slots := 0, locals := 64 } s m args below meth c s.heap [] 0 0 (MQ below (px_Q (.long (fX3_ranked_23 s0))) args s 0 0 (fun _ => False)) (F0 m 23 ls [.long s0]) := by
  obtain ⟨hx, hb, hml, hown, hts, hr, hlocks⟩ := id C
  rw [fX3_ranked_23]
  refine lv_lstore_n (lv' := [(3, .long s0)]) hx hb dX3_ranked_23 rfl hl (by decide) rfl (fun ls hl => ?_)
  refine lv_lload_n hx hb dX3_ranked_24 rfl (lv_at hl 0 rfl) ?_
  refine lv_lconst (v := 0) hx hb dX3_ranked_25 (by decide) ?_
  refine px_lcmp_ge (tgt := 38) hx hb dX3_ranked_26 dX3_ranked_27 (by decide) (fun hc26 => ?_) (fun hc26 => ?_)
  · rw [if_pos hc26]
    refine lv_lload_n hx hb dX3_ranked_30 rfl (lv_at hl 0 rfl) ?_
    refine lv_ldc2 hx hb hown (hts (.constantLong RX3 61 (9223372036854775807)) (by decide +kernel)) dX3_ranked_31 ?_
    refine lv_lxor hx hb dX3_ranked_34 ?_
    refine lv_goto (tgt := 39) hx hb dX3_ranked_35 (by decide) ?_
    exact W.lret hx hb hr (fun t ht _ => ⟨rfl, ht⟩) (fun q h => by cases h) dX3_ranked_39
  · rw [if_neg hc26]
    refine lv_lload_n hx hb dX3_ranked_38 rfl (lv_at hl 0 rfl) ?_
    exact W.lret hx hb hr (fun t ht _ => ⟨rfl, ht⟩) (fun q h => by cases h) dX3_ranked_39
set_option maxHeartbeats 4000000 in
set_option maxRecDepth 100000 in
theorem wX3_ranked_0 {p : Program} {l : Launch} {e : Env} {s : State} {m : MethodId} {args : Array Value} {below : List Frame} {meth : Method} {c : Code} (C : px_C p s m args meth c cX3_ranked 5 (some .long) RX3 wsX3_ranked) (v0 : Int32) (v1 : Int64) (hok : okX3_ranked_0 v0 v1) {ls : Array Slot} (hl : lv_has ls 5 [(0, .int v0), (1, .long v1)]) : W p l e { frames := 2, cells := 0, slots := 0, locals := 64 } s m args below meth c s.heap [] 0 0 (MQ below (px_Q (.long (fX3_ranked_0 v0 v1))) args s 0 0 (fun _ => False)) (F0 m 0 ls []) := by
  obtain ⟨hx, hb, hml, hown, hts, hr, hlocks⟩ := id C
  rw [fX3_ranked_0]
  rw [okX3_ranked_0] at hok
  refine lv_iload_n hx hb dX3_ranked_0 rfl (lv_at hl 0 rfl) ?_
  refine lv_bipush (v := 6) hx hb dX3_ranked_1 (by decide) ?_
  refine px_icmp_ge (tgt := 8) hx hb dX3_ranked_3 (by decide) (fun hc3 => ?_) (fun hc3 => ?_)
  · rw [if_pos hc3]
    have hok := hok.1 hc3
    refine lv_lload_n hx hb dX3_ranked_6 rfl (lv_at hl 1 rfl) ?_
    exact W.lret hx hb hr (fun t ht _ => ⟨rfl, ht⟩) (fun q h => by cases h) dX3_ranked_7
  · rw [if_neg hc3]
    have hok := hok.2 hc3
    refine lv_iload_n hx hb dX3_ranked_8 rfl (lv_at hl 0 rfl) ?_
    refine lv_bipush (v := 6) hx hb dX3_ranked_9 (by decide) ?_
    refine px_icmp_ne (tgt := 22) hx hb dX3_ranked_11 (by decide) (fun hc11 => ?_) (fun hc11 => ?_)
    · rw [if_pos hc11]
      have hok := hok.1 hc11
      refine lv_lload_n hx hb dX3_ranked_14 rfl (lv_at hl 1 rfl) ?_
      refine px_l2i hx hb dX3_ranked_15 ?_
      obtain ⟨hk, hok⟩ := hok
      refine px_S (As := [.int (v1.toInt32)]) (rest := []) ⟨hx, hb, hml, hown, hts⟩ (kX2_wide l (v1.toInt32) hk) (va_cwS 1 hts gX3_ranked_X2_wide rfl rfl rfl (by decide +kernel) ⟨Nat.le_of_ble_eq_true rfl, Nat.le_of_ble_eq_true rfl⟩) rfl hl.1 rfl (Nat.le_of_ble_eq_true rfl) dX3_ranked_16 (Nat.zero_le _) (Nat.zero_le _) ?_
      refine lv_goto (tgt := 23) hx hb dX3_ranked_19 (by decide) ?_
      exact wX3_ranked_23 C (fX2_wide (v1.toInt32)) (lv_sub hl [] rfl)
    · rw [if_neg hc11]
      have hok := hok.2 hc11
      refine lv_lload_n hx hb dX3_ranked_22 rfl (lv_at hl 1 rfl) ?_
      exact wX3_ranked_23 C v1 (lv_sub hl [] rfl)
set_option maxHeartbeats 4000000 in
set_option maxRecDepth 100000 in
theorem kX3_ranked (l : Launch) (v0 : Int32) (v1 : Int64) (hok : okX3_ranked v0 v1) : px_M l yX3_ranked wsX3_ranked ({ frames := 2, cells := 0, slots := 0, locals := 64 }) [.int v0, .long v1] (.long (fX3_ranked v0 v1)) := by
  refine Met.ofW (cc := cX3_ranked) (maxL := 5) (ret := (some .long)) (by decide) rfl ?_
  intro p e s m args below meth c s₁ B hml hv
  cases hv
  have C : px_C p s m _ meth c cX3_ranked 5 (some .long) RX3 wsX3_ranked := ⟨B.exec, B.bytes, hml, findClass_of_methodNamed B.named, atoms_spec (ws := wsX3_ranked) B.pre, B.returns, B.notSynchronized⟩
  have hl := lv_entry ([.int v0, .long v1]) (n := 5) (Nat.le_of_ble_eq_true rfl)
  rw [lg_entry_eq]
  generalize (lg_sl ([.int v0, .long v1]) ++ List.replicate (5 - (lg_sl ([.int v0, .long v1])).length) Slot.unset).toArray = ls at hl ⊢
  have hl : lv_has ls 5 [(0, .int v0), (1, .long v1)] := hl
  rw [fX3_ranked]
  rw [okX3_ranked] at hok
  exact wX3_ranked_0 C v0 v1 hok (lv_sub hl [0, 1] rfl)
