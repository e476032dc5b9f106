set_option maxHeartbeats 4000000 in
set_option maxRecDepth 100000 in
theorem wX2_multiply_174 {p : Program} {l : Launch} {e : Env} {s : State} {m : MethodId} {args : Array Value} {below : List Frame} {meth : Method} {c : Code} (C : px_C p s m args meth c cX2_multiply 21 (some .long) RX2 wsX2_multiply) (v0 : Int64) (v2 : Int64) (v16 : Int64) (v18 : Int64) (v20 : Int32) (s0 : Int32) (hok : okX2_multiply_174 v0 v2 v16 v18 v20 s0) {ls : Array Slot} (hl : lv_has ls 21 [(0, .long v0), (2, .long v2), (16, .long v16), (18, .long v18), (20, .int v20)]) : W p l e { frames := 2, cells := 0, slots := 0, locals := 63 } s m args below meth c s.heap [] 0 0 (MQ below (px_Q (.long (fX2_multiply_174 v0 v2 v16 v18 v20 s0))) args s 0 0 (fun _ => False)) (F0 m 174 ls [.int s0]) := by
  obtain ⟨hx, hb, hml, hown, hts, hr, hlocks⟩ := id C
  rw [fX2_multiply_174]
  rw [okX2_multiply_174] at hok
  refine lv_lload hx hb dX2_multiply_174 (lv_at hl 2 rfl) ?_
  refine lv_bipush (v := 8) hx hb dX2_multiply_176 (by decide) ?_
  refine px_lshl hx hb dX2_multiply_178 ?_
  refine lv_lload hx hb dX2_multiply_179 (lv_at hl 3 rfl) ?_
  refine lv_bipush (v := 19) hx hb dX2_multiply_181 (by decide) ?_
  refine px_lushr hx hb dX2_multiply_183 ?_
  refine lv_lor hx hb dX2_multiply_184 ?_
  refine lv_lload_n hx hb dX2_multiply_185 rfl (lv_at hl 0 rfl) ?_
  obtain ⟨hk, hok⟩ := hok
  refine px_S (As := [.long v0]) (rest := [.long ((jshl v16 (8 : Int32)) ||| (jushr v18 (19 : Int32))), .int s0]) ⟨hx, hb, hml, hown, hts⟩ (kX2_exponent l v0 hk) (va_cwS 1 hts gX2_multiply_X2_exponent rfl rfl rfl (by decide +kernel) ⟨Nat.le_of_ble_eq_true rfl, Nat.le_of_ble_eq_true rfl⟩) rfl hl.1 rfl (Nat.le_of_ble_eq_true rfl) dX2_multiply_186 (Nat.zero_le _) (Nat.zero_le _) ?_
  refine lv_lload_n hx hb dX2_multiply_189 rfl (lv_at hl 1 rfl) ?_
  obtain ⟨hk, hok⟩ := hok
  refine px_S (As := [.long v2]) (rest := [.int (fX2_exponent v0), .long ((jshl v16 (8 : Int32)) ||| (jushr v18 (19 : Int32))), .int s0]) ⟨hx, hb, hml, hown, hts⟩ (kX2_exponent l v2 hk) (va_cwS 1 hts gX2_multiply_X2_exponent rfl rfl rfl (by decide +kernel) ⟨Nat.le_of_ble_eq_true rfl, Nat.le_of_ble_eq_true rfl⟩) rfl hl.1 rfl (Nat.le_of_ble_eq_true rfl) dX2_multiply_190 (Nat.zero_le _) (Nat.zero_le _) ?_
  refine lv_iadd hx hb dX2_multiply_193 ?_
  refine lv_bipush (v := 46) hx hb dX2_multiply_194 (by decide) ?_
  refine lv_iadd hx hb dX2_multiply_196 ?_
  refine lv_iload hx hb dX2_multiply_197 (lv_at hl 4 rfl) ?_
  obtain ⟨hk, hok⟩ := hok
  refine px_S (As := [.int s0, .long ((jshl v16 (8 : Int32)) ||| (jushr v18 (19 : Int32))), .int (((fX2_exponent v0) + (fX2_exponent v2)) + (46 : Int32)), .int v20]) (rest := []) ⟨hx, hb, hml, hown, hts⟩ (kX2_made l s0 ((jshl v16 (8 : Int32)) ||| (jushr v18 (19 : Int32))) (((fX2_exponent v0) + (fX2_exponent v2)) + (46 : Int32)) v20 hk) (va_cwS 4 hts gX2_multiply_X2_made rfl rfl rfl (by decide +kernel) ⟨Nat.le_of_ble_eq_true rfl, Nat.le_of_ble_eq_true rfl⟩) rfl hl.1 rfl (Nat.le_of_ble_eq_true rfl) dX2_multiply_199 (Nat.zero_le _) (Nat.zero_le _) ?_
  exact W.lret hx hb hr (fun t ht _ => ⟨rfl, ht⟩) (fun q h => by cases h) dX2_multiply_202
set_option maxHeartbeats 4000000 in
set_option maxRecDepth 100000 in
theorem wX2_multiply_160 {p : Program} {l : Launch} {e : Env} {s : State} {m : MethodId} {args : Array Value} {below : List Frame} {meth : Method} {c : Code} (C : px_C p s m args meth c cX2_multiply 21 (some .long) RX2 wsX2_multiply) (v0 : Int64) (v2 : Int64) (v4 : Int64) (v16 : Int64) (v18 : Int64) (s0 : Int32) (hok : okX2_multiply_160 v0 v2 v4 v16 v18 s0) {ls : Array Slot} (hl : lv_has ls 21 [(0, .long v0), (2, .long v2), (4, .long v4), (16, .long v16), (18, .long v18)]) : W p l e { frames := 2, cells := 0, slots := 0, locals := 63 } s m args below meth c s.heap [] 0 0 (MQ below (px_Q (.long (fX2_multiply_160 v0 v2 v4 v16 v18 s0))) args s 0 0 (fun _ => False)) (F0 m 160 ls [.int s0]) := by
  obtain ⟨hx, hb, hml, hown, hts, hr, hlocks⟩ := id C
  rw [fX2_multiply_160]
  rw [okX2_multiply_160] at hok
  refine lv_istore (lv' := [(20, .int s0), (0, .long v0), (2, .long v2), (4, .long v4), (16, .long v16), (18, .long v18)]) hx hb dX2_multiply_160 hl (by decide) rfl (fun ls hl => ?_)
  refine lv_lload hx hb dX2_multiply_162 (lv_at hl 3 rfl) ?_
  refine lv_lconst (v := 0) hx hb dX2_multiply_164 (by decide) ?_
  refine px_lcmp_eq (tgt := 173) hx hb dX2_multiply_165 dX2_multiply_166 (by decide) (fun hc165 => ?_) (fun hc165 => ?_)
  · rw [if_pos hc165]
    have hok := hok.1 hc165
    refine lv_iconst (v := 0) hx hb dX2_multiply_173 (by decide) ?_
    exact wX2_multiply_174 C v0 v2 v16 v18 s0 (0 : Int32) hok (lv_sub hl [1, 2, 4, 5, 0] rfl)
  · rw [if_neg hc165]
    have hok := hok.2 hc165
    refine lv_iconst (v := 1) hx hb dX2_multiply_169 (by decide) ?_
    refine lv_goto (tgt := 174) hx hb dX2_multiply_170 (by decide) ?_
    exact wX2_multiply_174 C v0 v2 v16 v18 s0 (1 : Int32) hok (lv_sub hl [1, 2, 4, 5, 0] rfl)
set_option maxHeartbeats 4000000 in
set_option maxRecDepth 100000 in
theorem wX2_multiply_155 {p : Program} {l : Launch} {e : Env} {s : State} {m : MethodId} {args : Array Value} {below : List Frame} {meth : Method} {c : Code} (C : px_C p s m args meth c cX2_multiply 21 (some .long) RX2 wsX2_multiply) (v0 : Int64) (v2 : Int64) (v4 : Int64) (v16 : Int64) (v18 : Int64) (hok : okX2_multiply_155 v0 v2 v4 v16 v18) {ls : Array Slot} (hl : lv_has ls 21 [(0, .long v0), (2, .long v2), (4, .long v4), (16, .long v16), (18, .long v18)]) : W p l e { frames := 2, cells := 0, slots := 0, locals := 63 } s m args below meth c s.heap [] 0 0 (MQ below (px_Q (.long (fX2_multiply_155 v0 v2 v4 v16 v18))) args s 0 0 (fun _ => False)) (F0 m 155 ls []) := by
  obtain ⟨hx, hb, hml, hown, hts, hr, hlocks⟩ := id C
  rw [fX2_multiply_155]
  rw [okX2_multiply_155] at hok
  refine lv_iconst (v := 1) hx hb dX2_multiply_155 (by decide) ?_
  refine lv_goto (tgt := 160) hx hb dX2_multiply_156 (by decide) ?_
  exact wX2_multiply_160 C v0 v2 v4 v16 v18 (1 : Int32) hok (lv_sub hl [0, 1, 2, 3, 4] rfl)
set_option maxHeartbeats 4000000 in
set_option maxRecDepth 100000 in
theorem wX2_multiply_0 {p : Program} {l : Launch} {e : Env} {s : State} {m : MethodId} {args : Array Value} {below : List Frame} {meth : Method} {c : Code} (C : px_C p s m args meth c cX2_multiply 21 (some .long) RX2 wsX2_multiply) (v0 : Int64) (v2 : Int64) (hok : okX2_multiply_0 v0 v2) {ls : Array Slot} (hl : lv_has ls 21 [(0, .long v0), (2, .long v2)]) : W p l e { frames := 2, cells := 0, slots := 0, locals := 63 } s m args below meth c s.heap [] 0 0 (MQ below (px_Q (.long (fX2_multiply_0 v0 v2))) args s 0 0 (fun _ => False)) (F0 m 0 ls []) := by
  obtain ⟨hx, hb, hml, hown, hts, hr, hlocks⟩ := id C
  rw [fX2_multiply_0]
  rw [okX2_multiply_0] at hok
  refine lv_lload_n hx hb dX2_multiply_0 rfl (lv_at hl 0 rfl) ?_
  refine lv_lload_n hx hb dX2_multiply_1 rfl (lv_at hl 1 rfl) ?_
  refine lv_lxor hx hb dX2_multiply_2 ?_
  refine lv_ldc2 hx hb hown (hts (.constantLong RX2 15 (-9223372036854775808)) (by decide +kernel)) dX2_multiply_3 ?_
  refine lv_land hx hb dX2_multiply_6 ?_
  refine lv_topl (fun v4_7 ev4_7 => ?_)
  rw [← ev4_7]
  rw [← ev4_7] at hok
  refine lv_lstore (lv' := [(4, .long v4_7), (0, .long v0), (2, .long v2)]) hx hb dX2_multiply_7 hl (by decide) rfl (fun ls hl => ?_)
  rw [fX2_multiply_9]
  rw [okX2_multiply_9] at hok
  refine lv_lload_n hx hb dX2_multiply_9 rfl (lv_at hl 1 rfl) ?_
  refine px_S (As := [.long v0]) (rest := []) ⟨hx, hb, hml, hown, hts⟩ (kX2_isInfinite l v0) (va_cwS 1 hts gX2_multiply_X2_isInfinite rfl rfl rfl (by decide +kernel) ⟨Nat.le_of_ble_eq_true rfl, Nat.le_of_ble_eq_true rfl⟩) rfl hl.1 rfl (Nat.le_of_ble_eq_true rfl) dX2_multiply_10 (Nat.zero_le _) (Nat.zero_le _) ?_
  refine px_if_ne (tgt := 23) hx hb dX2_multiply_13 (by decide) (fun hc13 => ?_) (fun hc13 => ?_)
  · rw [if_pos hc13]
    have hok := hok.1 hc13
    refine lv_lload_n hx hb dX2_multiply_16 rfl (lv_at hl 2 rfl) ?_
    refine px_S (As := [.long v2]) (rest := []) ⟨hx, hb, hml, hown, hts⟩ (kX2_isInfinite l v2) (va_cwS 1 hts gX2_multiply_X2_isInfinite rfl rfl rfl (by decide +kernel) ⟨Nat.le_of_ble_eq_true rfl, Nat.le_of_ble_eq_true rfl⟩) rfl hl.1 rfl (Nat.le_of_ble_eq_true rfl) dX2_multiply_17 (Nat.zero_le _) (Nat.zero_le _) ?_
    refine px_if_eq (tgt := 30) hx hb dX2_multiply_20 (by decide) (fun hc20 => ?_) (fun hc20 => ?_)
    · rw [if_pos hc20]
      have hok := hok.1 hc20
      refine lv_lload_n hx hb dX2_multiply_30 rfl (lv_at hl 1 rfl) ?_
      refine px_S (As := [.long v0]) (rest := []) ⟨hx, hb, hml, hown, hts⟩ (kX2_isZero l v0) (va_cwS 1 hts gX2_multiply_X2_isZero rfl rfl rfl (by decide +kernel) ⟨Nat.le_of_ble_eq_true rfl, Nat.le_of_ble_eq_true rfl⟩) rfl hl.1 rfl (Nat.le_of_ble_eq_true rfl) dX2_multiply_31 (Nat.zero_le _) (Nat.zero_le _) ?_
      refine px_if_ne (tgt := 44) hx hb dX2_multiply_34 (by decide) (fun hc34 => ?_) (fun hc34 => ?_)
      · rw [if_pos hc34]
        have hok := hok.1 hc34
        refine lv_lload_n hx hb dX2_multiply_37 rfl (lv_at hl 2 rfl) ?_
        refine px_S (As := [.long v2]) (rest := []) ⟨hx, hb, hml, hown, hts⟩ (kX2_isZero l v2) (va_cwS 1 hts gX2_multiply_X2_isZero rfl rfl rfl (by decide +kernel) ⟨Nat.le_of_ble_eq_true rfl, Nat.le_of_ble_eq_true rfl⟩) rfl hl.1 rfl (Nat.le_of_ble_eq_true rfl) dX2_multiply_38 (Nat.zero_le _) (Nat.zero_le _) ?_
        refine px_if_eq (tgt := 47) hx hb dX2_multiply_41 (by decide) (fun hc41 => ?_) (fun hc41 => ?_)
        · rw [if_pos hc41]
          have hok := hok.1 hc41
          refine lv_lload_n hx hb dX2_multiply_47 rfl (lv_at hl 1 rfl) ?_
          obtain ⟨hk, hok⟩ := hok
          refine px_S (As := [.long v0]) (rest := []) ⟨hx, hb, hml, hown, hts⟩ (kX2_significand l v0 hk) (va_cwS 1 hts gX2_multiply_X2_significand rfl rfl rfl (by decide +kernel) ⟨Nat.le_of_ble_eq_true rfl, Nat.le_of_ble_eq_true rfl⟩) rfl hl.1 rfl (Nat.le_of_ble_eq_true rfl) dX2_multiply_48 (Nat.zero_le _) (Nat.zero_le _) ?_
          refine lv_topl (fun v6_51 ev6_51 => ?_)
          rw [← ev6_51]
          rw [← ev6_51] at hok
          refine lv_lstore (lv' := [(6, .long v6_51), (4, .long v4_7), (0, .long v0), (2, .long v2)]) hx hb dX2_multiply_51 hl (by decide) rfl (fun ls hl => ?_)
          rw [fX2_multiply_53]
          rw [okX2_multiply_53] at hok
          refine lv_lload_n hx hb dX2_multiply_53 rfl (lv_at hl 3 rfl) ?_
          obtain ⟨hk, hok⟩ := hok
          refine px_S (As := [.long v2]) (rest := []) ⟨hx, hb, hml, hown, hts⟩ (kX2_significand l v2 hk) (va_cwS 1 hts gX2_multiply_X2_significand rfl rfl rfl (by decide +kernel) ⟨Nat.le_of_ble_eq_true rfl, Nat.le_of_ble_eq_true rfl⟩) rfl hl.1 rfl (Nat.le_of_ble_eq_true rfl) dX2_multiply_54 (Nat.zero_le _) (Nat.zero_le _) ?_
          refine lv_topl (fun v8_57 ev8_57 => ?_)
          rw [← ev8_57]
          rw [← ev8_57] at hok
          refine lv_lstore (lv' := [(8, .long v8_57), (6, .long v6_51), (4, .long v4_7), (0, .long v0), (2, .long v2)]) hx hb dX2_multiply_57 hl (by decide) rfl (fun ls hl => ?_)
          rw [fX2_multiply_59]
          rw [okX2_multiply_59] at hok
          refine lv_ldc2 hx hb hown (hts (.constantLong RX2 48 (134217727)) (by decide +kernel)) dX2_multiply_59 ?_
          refine lv_lstore (lv' := [(10, .long (134217727 : Int64)), (8, .long v8_57), (6, .long v6_51), (4, .long v4_7), (0, .long v0), (2, .long v2)]) hx hb dX2_multiply_62 hl (by decide) rfl (fun ls hl => ?_)
          refine lv_lload hx hb dX2_multiply_64 (lv_at hl 2 rfl) ?_
          refine lv_lload hx hb dX2_multiply_66 (lv_at hl 0 rfl) ?_
          refine lv_land hx hb dX2_multiply_68 ?_
          refine lv_lload hx hb dX2_multiply_69 (lv_at hl 1 rfl) ?_
          refine lv_lload hx hb dX2_multiply_71 (lv_at hl 0 rfl) ?_
          refine lv_land hx hb dX2_multiply_73 ?_
          refine lv_lmul hx hb dX2_multiply_74 ?_
          refine lv_topl (fun v12_75 ev12_75 => ?_)
          rw [← ev12_75]
          rw [← ev12_75] at hok
          refine lv_lstore (lv' := [(12, .long v12_75), (10, .long (134217727 : Int64)), (8, .long v8_57), (6, .long v6_51), (4, .long v4_7), (0, .long v0), (2, .long v2)]) hx hb dX2_multiply_75 hl (by decide) rfl (fun ls hl => ?_)
          rw [fX2_multiply_77]
          rw [okX2_multiply_77] at hok
          refine lv_lload hx hb dX2_multiply_77 (lv_at hl 3 rfl) ?_
          refine lv_bipush (v := 27) hx hb dX2_multiply_79 (by decide) ?_
          refine px_lushr hx hb dX2_multiply_81 ?_
          refine lv_lload hx hb dX2_multiply_82 (lv_at hl 2 rfl) ?_
          refine lv_lload hx hb dX2_multiply_84 (lv_at hl 1 rfl) ?_
          refine lv_land hx hb dX2_multiply_86 ?_
          refine lv_lmul hx hb dX2_multiply_87 ?_
          refine lv_lload hx hb dX2_multiply_88 (lv_at hl 3 rfl) ?_
          refine lv_lload hx hb dX2_multiply_90 (lv_at hl 1 rfl) ?_
          refine lv_land hx hb dX2_multiply_92 ?_
          refine lv_lload hx hb dX2_multiply_93 (lv_at hl 2 rfl) ?_
          refine lv_bipush (v := 27) hx hb dX2_multiply_95 (by decide) ?_
          refine px_lushr hx hb dX2_multiply_97 ?_
          refine lv_lmul hx hb dX2_multiply_98 ?_
          refine lv_ladd hx hb dX2_multiply_99 ?_
          refine lv_lload hx hb dX2_multiply_100 (lv_at hl 0 rfl) ?_
          refine lv_bipush (v := 27) hx hb dX2_multiply_102 (by decide) ?_
          refine px_lushr hx hb dX2_multiply_104 ?_
          refine lv_ladd hx hb dX2_multiply_105 ?_
          refine lv_topl (fun v14_106 ev14_106 => ?_)
          rw [← ev14_106]
          rw [← ev14_106] at hok
          refine lv_lstore (lv' := [(14, .long v14_106), (12, .long v12_75), (10, .long (134217727 : Int64)), (8, .long v8_57), (6, .long v6_51), (4, .long v4_7), (0, .long v0), (2, .long v2)]) hx hb dX2_multiply_106 hl (by decide) rfl (fun ls hl => ?_)
          rw [fX2_multiply_108]
          rw [okX2_multiply_108] at hok
          refine lv_lload hx hb dX2_multiply_108 (lv_at hl 4 rfl) ?_
          refine lv_bipush (v := 27) hx hb dX2_multiply_110 (by decide) ?_
          refine px_lushr hx hb dX2_multiply_112 ?_
          refine lv_lload hx hb dX2_multiply_113 (lv_at hl 3 rfl) ?_
          refine lv_bipush (v := 27) hx hb dX2_multiply_115 (by decide) ?_
          refine px_lushr hx hb dX2_multiply_117 ?_
          refine lv_lmul hx hb dX2_multiply_118 ?_
          refine lv_lload hx hb dX2_multiply_119 (lv_at hl 0 rfl) ?_
          refine lv_bipush (v := 27) hx hb dX2_multiply_121 (by decide) ?_
          refine px_lushr hx hb dX2_multiply_123 ?_
          refine lv_ladd hx hb dX2_multiply_124 ?_
          refine lv_topl (fun v16_125 ev16_125 => ?_)
          rw [← ev16_125]
          rw [← ev16_125] at hok
          refine lv_lstore (lv' := [(16, .long v16_125), (14, .long v14_106), (12, .long v12_75), (10, .long (134217727 : Int64)), (8, .long v8_57), (6, .long v6_51), (4, .long v4_7), (0, .long v0), (2, .long v2)]) hx hb dX2_multiply_125 hl (by decide) rfl (fun ls hl => ?_)
          rw [fX2_multiply_127]
          rw [okX2_multiply_127] at hok
          refine lv_lload hx hb dX2_multiply_127 (lv_at hl 1 rfl) ?_
          refine lv_lload hx hb dX2_multiply_129 (lv_at hl 3 rfl) ?_
          refine lv_land hx hb dX2_multiply_131 ?_
          refine lv_topl (fun v18_132 ev18_132 => ?_)
          rw [← ev18_132]
          rw [← ev18_132] at hok
          refine lv_lstore (lv' := [(18, .long v18_132), (16, .long v16_125), (14, .long v14_106), (12, .long v12_75), (10, .long (134217727 : Int64)), (8, .long v8_57), (6, .long v6_51), (4, .long v4_7), (0, .long v0), (2, .long v2)]) hx hb dX2_multiply_132 hl (by decide) rfl (fun ls hl => ?_)
          rw [fX2_multiply_134]
          rw [okX2_multiply_134] at hok
          refine lv_lload hx hb dX2_multiply_134 (lv_at hl 3 rfl) ?_
          refine lv_lload hx hb dX2_multiply_136 (lv_at hl 4 rfl) ?_
          refine lv_land hx hb dX2_multiply_138 ?_
          refine lv_lconst (v := 0) hx hb dX2_multiply_139 (by decide) ?_
          refine px_lcmp_ne (tgt := 155) hx hb dX2_multiply_140 dX2_multiply_141 (by decide) (fun hc140 => ?_) (fun hc140 => ?_)
          · rw [if_pos hc140]
            have hok := hok.1 hc140
            refine lv_lload hx hb dX2_multiply_144 (lv_at hl 0 rfl) ?_
            refine lv_ldc2 hx hb hown (hts (.constantLong RX2 50 (524287)) (by decide +kernel)) dX2_multiply_146 ?_
            refine lv_land hx hb dX2_multiply_149 ?_
            refine lv_lconst (v := 0) hx hb dX2_multiply_150 (by decide) ?_
            refine px_lcmp_eq (tgt := 159) hx hb dX2_multiply_151 dX2_multiply_152 (by decide) (fun hc151 => ?_) (fun hc151 => ?_)
            · rw [if_pos hc151]
              have hok := hok.1 hc151
              refine lv_iconst (v := 0) hx hb dX2_multiply_159 (by decide) ?_
              exact wX2_multiply_160 C v0 v2 v4_7 v16_125 v18_132 (0 : Int32) hok (lv_sub hl [8, 9, 7, 1, 0] rfl)
            · rw [if_neg hc151]
              have hok := hok.2 hc151
              exact wX2_multiply_155 C v0 v2 v4_7 v16_125 v18_132 hok (lv_sub hl [8, 9, 7, 1, 0] rfl)
          · rw [if_neg hc140]
            have hok := hok.2 hc140
            exact wX2_multiply_155 C v0 v2 v4_7 v16_125 v18_132 hok (lv_sub hl [8, 9, 7, 1, 0] rfl)
        · rw [if_neg hc41]
          have hok := hok.2 hc41
          refine lv_lload hx hb dX2_multiply_44 (lv_at hl 0 rfl) ?_
          exact W.lret hx hb hr (fun t ht _ => ⟨rfl, ht⟩) (fun q h => by cases h) dX2_multiply_46
      · rw [if_neg hc34]
        have hok := hok.2 hc34
        refine lv_lload hx hb dX2_multiply_44 (lv_at hl 0 rfl) ?_
        exact W.lret hx hb hr (fun t ht _ => ⟨rfl, ht⟩) (fun q h => by cases h) dX2_multiply_46
    · rw [if_neg hc20]
      have hok := hok.2 hc20
      refine lv_lload hx hb dX2_multiply_23 (lv_at hl 0 rfl) ?_
      refine lv_ldc2 hx hb hown (hts (.constantLong RX2 13 (9218868437227405312)) (by decide +kernel)) dX2_multiply_25 ?_
      refine lv_lor hx hb dX2_multiply_28 ?_
      exact W.lret hx hb hr (fun t ht _ => ⟨rfl, ht⟩) (fun q h => by cases h) dX2_multiply_29
  · rw [if_neg hc13]
    have hok := hok.2 hc13
    refine lv_lload hx hb dX2_multiply_23 (lv_at hl 0 rfl) ?_
    refine lv_ldc2 hx hb hown (hts (.constantLong RX2 13 (9218868437227405312)) (by decide +kernel)) dX2_multiply_25 ?_
    refine lv_lor hx hb dX2_multiply_28 ?_
    exact W.lret hx hb hr (fun t ht _ => ⟨rfl, ht⟩) (fun q h => by cases h) dX2_multiply_29
set_option maxHeartbeats 4000000 in
set_option maxRecDepth 100000 in
theorem kX2_multiply (l : Launch) (v0 : Int64) (v2 : Int64) (hok : okX2_multiply v0 v2) : px_M l yX2_multiply wsX2_multiply ({ frames := 2, cells := 0, slots := 0, locals := 63 }) [.long v0, .long v2] (.long (fX2_multiply v0 v2)) := by
  refine Met.ofW (cc := cX2_multiply) (maxL := 21) (ret := (some .long)) (by decide) rfl ?_
  intro p e s m args below meth c s₁ B hml hv
  cases hv
  have C : px_C p s m _ meth c cX2_multiply 21 (some .long) RX2 wsX2_multiply := ⟨B.exec, B.bytes, hml, findClass_of_methodNamed B.named, atoms_spec (ws := wsX2_multiply) B.pre, B.returns, B.notSynchronized⟩
  have hl := lv_entry ([.long v0, .long v2]) (n := 21) (Nat.le_of_ble_eq_true rfl)
  rw [lg_entry_eq]
  generalize (lg_sl ([.long v0, .long v2]) ++ List.replicate (21 - (lg_sl ([.long v0, .long v2])).length) Slot.unset).toArray = ls at hl ⊢
  have hl : lv_has ls 21 [(0, .long v0), (2, .long v2)] := hl
  rw [fX2_multiply]
  rw [okX2_multiply] at hok
  exact wX2_multiply_0 C v0 v2 hok (lv_sub hl [0, 1] rfl)
set_option maxHeartbeats 4000000 in
set_option maxRecDepth 100000 in
theorem wX2_divide_149 {p : Program} {l : Launch} {e : Env} {s : State} {m : MethodId} {args : Array Value} {below : List Frame} {meth : Method} {c : Code} (C : px_C p s m args meth c cX2_divide 13 (some .long) RX2 wsX2_divide) (s0 : Int32) (s1 : Int64) (s2 : Int32) (s3 : Int32) (hok : okX2_divide_149 s0 s1 s2 s3) {ls : Array Slot} (hl : lv_has ls 13 []) : W p l e { frames := 2, cells := 0, slots := 0, locals := 63 } s m args below meth c s.heap [] 0 0 (MQ below (px_Q (.long (fX2_divide_149 s0 s1 s2 s3))) args s 0 0 (fun _ => False)) (F0 m 149 ls [.int s3, .int s2, .long s1, .int s0]) := by
  obtain ⟨hx, hb, hml, hown, hts, hr, hlocks⟩ := id C
  rw [fX2_divide_149]
  rw [okX2_divide_149] at hok
  obtain ⟨hk, hok⟩ := hok
  refine px_S (As := [.int s0, .long s1, .int s2, .int s3]) (rest := []) ⟨hx, hb, hml, hown, hts⟩ (kX2_made l s0 s1 s2 s3 hk) (va_cwS 4 hts gX2_divide_X2_made rfl rfl rfl (by decide +kernel) ⟨Nat.le_of_ble_eq_true rfl, Nat.le_of_ble_eq_true rfl⟩) rfl hl.1 rfl (Nat.le_of_ble_eq_true rfl) dX2_divide_149 (Nat.zero_le _) (Nat.zero_le _) ?_
  exact W.lret hx hb hr (fun t ht _ => ⟨rfl, ht⟩) (fun q h => by cases h) dX2_divide_152
set_option maxHeartbeats 4000000 in
set_option maxRecDepth 100000 in
theorem wX2_divide_123 {p : Program} {l : Launch} {e : Env} {s : State} {m : MethodId} {args : Array Value} {below : List Frame} {meth : Method} {c : Code} (C : px_C p s m args meth c cX2_divide 13 (some .long) RX2 wsX2_divide) (v0 : Int64) (v2 : Int64) (v6 : Int64) (v10 : Int64) (s0 : Int32) (hok : okX2_divide_123 v0 v2 v6 v10 s0) {ls : Array Slot} (hl : lv_has ls 13 [(0, .long v0), (2, .long v2), (6, .long v6), (10, .long v10)]) : W p l e { frames := 2, cells := 0, slots := 0, locals := 63 } s m args below meth c s.heap [] 0 0 (MQ below (px_Q (.long (fX2_divide_123 v0 v2 v6 v10 s0))) args s 0 0 (fun _ => False)) (F0 m 123 ls [.int s0]) := by
  obtain ⟨hx, hb, hml, hown, hts, hr, hlocks⟩ := id C
  rw [fX2_divide_123]
  rw [okX2_divide_123] at hok
  refine lv_lload hx hb dX2_divide_123 (lv_at hl 3 rfl) ?_
  refine lv_lload_n hx hb dX2_divide_125 rfl (lv_at hl 0 rfl) ?_
  obtain ⟨hk, hok⟩ := hok
  refine px_S (As := [.long v0]) (rest := [.long v10, .int s0]) ⟨hx, hb, hml, hown, hts⟩ (kX2_exponent l v0 hk) (va_cwS 1 hts gX2_divide_X2_exponent rfl rfl rfl (by decide +kernel) ⟨Nat.le_of_ble_eq_true rfl, Nat.le_of_ble_eq_true rfl⟩) rfl hl.1 rfl (Nat.le_of_ble_eq_true rfl) dX2_divide_126 (Nat.zero_le _) (Nat.zero_le _) ?_
  refine lv_lload_n hx hb dX2_divide_129 rfl (lv_at hl 1 rfl) ?_
  obtain ⟨hk, hok⟩ := hok
  refine px_S (As := [.long v2]) (rest := [.int (fX2_exponent v0), .long v10, .int s0]) ⟨hx, hb, hml, hown, hts⟩ (kX2_exponent l v2 hk) (va_cwS 1 hts gX2_divide_X2_exponent rfl rfl rfl (by decide +kernel) ⟨Nat.le_of_ble_eq_true rfl, Nat.le_of_ble_eq_true rfl⟩) rfl hl.1 rfl (Nat.le_of_ble_eq_true rfl) dX2_divide_130 (Nat.zero_le _) (Nat.zero_le _) ?_
  refine lv_isub hx hb dX2_divide_133 ?_
  refine lv_bipush (v := 56) hx hb dX2_divide_134 (by decide) ?_
  refine lv_isub hx hb dX2_divide_136 ?_
  refine lv_lload hx hb dX2_divide_137 (lv_at hl 2 rfl) ?_
  refine lv_lconst (v := 0) hx hb dX2_divide_139 (by decide) ?_
  refine px_lcmp_eq (tgt := 148) hx hb dX2_divide_140 dX2_divide_141 (by decide) (fun hc140 => ?_) (fun hc140 => ?_)
  · rw [if_pos hc140]
    have hok := hok.1 hc140
    refine lv_iconst (v := 0) hx hb dX2_divide_148 (by decide) ?_
    exact wX2_divide_149 C s0 v10 (((fX2_exponent v0) - (fX2_exponent v2)) - (56 : Int32)) (0 : Int32) hok (lv_sub hl [] rfl)
  · rw [if_neg hc140]
    have hok := hok.2 hc140
    refine lv_iconst (v := 1) hx hb dX2_divide_144 (by decide) ?_
    refine lv_goto (tgt := 149) hx hb dX2_divide_145 (by decide) ?_
    exact wX2_divide_149 C s0 v10 (((fX2_exponent v0) - (fX2_exponent v2)) - (56 : Int32)) (1 : Int32) hok (lv_sub hl [] rfl)
set_option maxHeartbeats 4000000 in
set_option maxRecDepth 100000 in
theorem wX2_divide_111 {p : Program} {l : Launch} {e : Env} {s : State} {m : MethodId} {args : Array Value} {below : List Frame} {meth : Method} {c : Code} (C : px_C p s m args meth c cX2_divide 13 (some .long) RX2 wsX2_divide) (v0 : Int64) (v2 : Int64) (v4 : Int64) (v6 : Int64) (v10 : Int64) (hok : okX2_divide_111 v0 v2 v4 v6 v10) {ls : Array Slot} (hl : lv_has ls 13 [(0, .long v0), (2, .long v2), (4, .long v4), (6, .long v6), (10, .long v10)]) : W p l e { frames := 2, cells := 0, slots := 0, locals := 63 } s m args below meth c s.heap [] 0 0 (MQ below (px_Q (.long (fX2_divide_111 v0 v2 v4 v6 v10))) args s 0 0 (fun _ => False)) (F0 m 111 ls []) := by
  obtain ⟨hx, hb, hml, hown, hts, hr, hlocks⟩ := id C
  rw [fX2_divide_111]
  rw [okX2_divide_111] at hok
  refine lv_lload hx hb dX2_divide_111 (lv_at hl 2 rfl) ?_
  refine lv_lconst (v := 0) hx hb dX2_divide_113 (by decide) ?_
  refine px_lcmp_eq (tgt := 122) hx hb dX2_divide_114 dX2_divide_115 (by decide) (fun hc114 => ?_) (fun hc114 => ?_)
  · rw [if_pos hc114]
    have hok := hok.1 hc114
    refine lv_iconst (v := 0) hx hb dX2_divide_122 (by decide) ?_
    exact wX2_divide_123 C v0 v2 v6 v10 (0 : Int32) hok (lv_sub hl [0, 1, 3, 4] rfl)
  · rw [if_neg hc114]
    have hok := hok.2 hc114
    refine lv_iconst (v := 1) hx hb dX2_divide_118 (by decide) ?_
    refine lv_goto (tgt := 123) hx hb dX2_divide_119 (by decide) ?_
    exact wX2_divide_123 C v0 v2 v6 v10 (1 : Int32) hok (lv_sub hl [0, 1, 3, 4] rfl)
set_option maxHeartbeats 4000000 in
set_option maxRecDepth 100000 in
theorem wX2_divide_65 {p : Program} {l : Launch} {e : Env} {s : State} {m : MethodId} {args : Array Value} {below : List Frame} {meth : Method} {c : Code} (C : px_C p s m args meth c cX2_divide 13 (some .long) RX2 wsX2_divide) : ∀ (n : Nat) (v0 : Int64) (v2 : Int64) (v4 : Int64) (v6 : Int64) (v8 : Int64) (v10 : Int64) (v12 : Int32) (hok : okX2_divide_65 n v0 v2 v4 v6 v8 v10 v12) (ls : Array Slot) (hl : lv_has ls 13 [(0, .long v0), (2, .long v2), (4, .long v4), (6, .long v6), (8, .long v8), (10, .long v10), (12, .int v12)]), W p l e { frames := 2, cells := 0, slots := 0, locals := 63 } s m args below meth c s.heap [] 0 0 (MQ below (px_Q (.long (fX2_divide_65 n v0 v2 v4 v6 v8 v10 v12))) args s 0 0 (fun _ => False)) (F0 m 65 ls []) := by
  obtain ⟨hx, hb, hml, hown, hts, hr, hlocks⟩ := id C
  intro n
  induction n with
  | zero => intro v0 v2 v4 v6 v8 v10 v12 hok; exact hok.elim
  | succ n ih =>
    intro v0 v2 v4 v6 v8 v10 v12 hok ls hl
    rw [fX2_divide_65]
    rw [okX2_divide_65] at hok
    refine lv_iload hx hb dX2_divide_65 (lv_at hl 6 rfl) ?_
    refine lv_bipush (v := 57) hx hb dX2_divide_67 (by decide) ?_
    refine px_icmp_ge (tgt := 111) hx hb dX2_divide_69 (by decide) (fun hc69 => ?_) (fun hc69 => ?_)
    · rw [if_pos hc69]
      have hok := hok.1 hc69
      refine lv_lload hx hb dX2_divide_72 (lv_at hl 5 rfl) ?_
      refine lv_iconst (v := 1) hx hb dX2_divide_74 (by decide) ?_
      refine px_lshl hx hb dX2_divide_75 ?_
      refine lv_lstore (lv' := [(10, .long (jshl v10 (1 : Int32))), (0, .long v0), (2, .long v2), (4, .long v4), (6, .long v6), (8, .long v8), (12, .int v12)]) hx hb dX2_divide_76 hl (by decide) rfl (fun ls hl => ?_)
      refine lv_lload hx hb dX2_divide_78 (lv_at hl 4 rfl) ?_
      refine lv_lload hx hb dX2_divide_80 (lv_at hl 5 rfl) ?_
      refine px_lcmp_lt (tgt := 99) hx hb dX2_divide_82 dX2_divide_83 (by decide) (fun hc82 => ?_) (fun hc82 => ?_)
      · rw [if_pos hc82]
        have hok := hok.1 hc82
        refine lv_lload hx hb dX2_divide_99 (lv_at hl 4 rfl) ?_
        refine lv_iconst (v := 1) hx hb dX2_divide_101 (by decide) ?_
        refine px_lshl hx hb dX2_divide_102 ?_
        refine lv_lstore (lv' := [(6, .long (jshl v6 (1 : Int32))), (10, .long (jshl v10 (1 : Int32))), (0, .long v0), (2, .long v2), (4, .long v4), (8, .long v8), (12, .int v12)]) hx hb dX2_divide_103 hl (by decide) rfl (fun ls hl => ?_)
        refine lv_iinc (v := (v12 + (1 : Int32))) (lv' := [(12, .int (v12 + (1 : Int32))), (6, .long (jshl v6 (1 : Int32))), (10, .long (jshl v10 (1 : Int32))), (0, .long v0), (2, .long v2), (4, .long v4), (8, .long v8)]) hx hb dX2_divide_105 hl (k := 6) rfl (congrArg (HAdd.hAdd v12) (by decide : Int32.ofInt (1) = (1 : Int32))) (by decide) rfl (fun ls hl => ?_)
        refine lv_goto (tgt := 65) hx hb dX2_divide_108 (by decide) ?_
        exact ih v0 v2 v4 (jshl v6 (1 : Int32)) v8 (jshl v10 (1 : Int32)) (v12 + (1 : Int32)) hok _ (lv_sub hl [3, 4, 5, 1, 6, 2, 0] rfl)
      · rw [if_neg hc82]
        have hok := hok.2 hc82
        refine lv_lload hx hb dX2_divide_86 (lv_at hl 4 rfl) ?_
        refine lv_lload hx hb dX2_divide_88 (lv_at hl 5 rfl) ?_
        refine lv_lsub hx hb dX2_divide_90 ?_
        refine lv_lstore (lv' := [(6, .long (v6 - v8)), (10, .long (jshl v10 (1 : Int32))), (0, .long v0), (2, .long v2), (4, .long v4), (8, .long v8), (12, .int v12)]) hx hb dX2_divide_91 hl (by decide) rfl (fun ls hl => ?_)
        refine lv_lload hx hb dX2_divide_93 (lv_at hl 1 rfl) ?_
        refine lv_lconst (v := 1) hx hb dX2_divide_95 (by decide) ?_
        refine lv_lor hx hb dX2_divide_96 ?_
        refine lv_lstore (lv' := [(10, .long ((jshl v10 (1 : Int32)) ||| (1 : Int64))), (6, .long (v6 - v8)), (0, .long v0), (2, .long v2), (4, .long v4), (8, .long v8), (12, .int v12)]) hx hb dX2_divide_97 hl (by decide) rfl (fun ls hl => ?_)
        refine lv_lload hx hb dX2_divide_99 (lv_at hl 1 rfl) ?_
        refine lv_iconst (v := 1) hx hb dX2_divide_101 (by decide) ?_
        refine px_lshl hx hb dX2_divide_102 ?_
        refine lv_lstore (lv' := [(6, .long (jshl (v6 - v8) (1 : Int32))), (10, .long ((jshl v10 (1 : Int32)) ||| (1 : Int64))), (0, .long v0), (2, .long v2), (4, .long v4), (8, .long v8), (12, .int v12)]) hx hb dX2_divide_103 hl (by decide) rfl (fun ls hl => ?_)
        refine lv_iinc (v := (v12 + (1 : Int32))) (lv' := [(12, .int (v12 + (1 : Int32))), (6, .long (jshl (v6 - v8) (1 : Int32))), (10, .long ((jshl v10 (1 : Int32)) ||| (1 : Int64))), (0, .long v0), (2, .long v2), (4, .long v4), (8, .long v8)]) hx hb dX2_divide_105 hl (k := 6) rfl (congrArg (HAdd.hAdd v12) (by decide : Int32.ofInt (1) = (1 : Int32))) (by decide) rfl (fun ls hl => ?_)
        refine lv_goto (tgt := 65) hx hb dX2_divide_108 (by decide) ?_
        exact ih v0 v2 v4 (jshl (v6 - v8) (1 : Int32)) v8 ((jshl v10 (1 : Int32)) ||| (1 : Int64)) (v12 + (1 : Int32)) hok _ (lv_sub hl [3, 4, 5, 1, 6, 2, 0] rfl)
    · rw [if_neg hc69]
      have hok := hok.2 hc69
      exact wX2_divide_111 C v0 v2 v4 v6 v10 hok (lv_sub hl [0, 1, 2, 3, 5] rfl)
set_option maxHeartbeats 4000000 in
set_option maxRecDepth 100000 in
theorem wX2_divide_0 {p : Program} {l : Launch} {e : Env} {s : State} {m : MethodId} {args : Array Value} {below : List Frame} {meth : Method} {c : Code} (C : px_C p s m args meth c cX2_divide 13 (some .long) RX2 wsX2_divide) (v0 : Int64) (v2 : Int64) (hok : okX2_divide_0 v0 v2) {ls : Array Slot} (hl : lv_has ls 13 [(0, .long v0), (2, .long v2)]) : W p l e { frames := 2, cells := 0, slots := 0, locals := 63 } s m args below meth c s.heap [] 0 0 (MQ below (px_Q (.long (fX2_divide_0 v0 v2))) args s 0 0 (fun _ => False)) (F0 m 0 ls []) := by
  obtain ⟨hx, hb, hml, hown, hts, hr, hlocks⟩ := id C
  rw [fX2_divide_0]
  rw [okX2_divide_0] at hok
  refine lv_lload_n hx hb dX2_divide_0 rfl (lv_at hl 0 rfl) ?_
  refine lv_lload_n hx hb dX2_divide_1 rfl (lv_at hl 1 rfl) ?_
  refine lv_lxor hx hb dX2_divide_2 ?_
  refine lv_ldc2 hx hb hown (hts (.constantLong RX2 15 (-9223372036854775808)) (by decide +kernel)) dX2_divide_3 ?_
  refine lv_land hx hb dX2_divide_6 ?_
  refine lv_topl (fun v4_7 ev4_7 => ?_)
  rw [← ev4_7]
  rw [← ev4_7] at hok
  refine lv_lstore (lv' := [(4, .long v4_7), (0, .long v0), (2, .long v2)]) hx hb dX2_divide_7 hl (by decide) rfl (fun ls hl => ?_)
  rw [fX2_divide_9]
  rw [okX2_divide_9] at hok
  refine lv_lload_n hx hb dX2_divide_9 rfl (lv_at hl 1 rfl) ?_
  refine px_S (As := [.long v0]) (rest := []) ⟨hx, hb, hml, hown, hts⟩ (kX2_isInfinite l v0) (va_cwS 1 hts gX2_divide_X2_isInfinite rfl rfl rfl (by decide +kernel) ⟨Nat.le_of_ble_eq_true rfl, Nat.le_of_ble_eq_true rfl⟩) rfl hl.1 rfl (Nat.le_of_ble_eq_true rfl) dX2_divide_10 (Nat.zero_le _) (Nat.zero_le _) ?_
  refine px_if_ne (tgt := 23) hx hb dX2_divide_13 (by decide) (fun hc13 => ?_) (fun hc13 => ?_)
  · rw [if_pos hc13]
    have hok := hok.1 hc13
    refine lv_lload_n hx hb dX2_divide_16 rfl (lv_at hl 2 rfl) ?_
    refine px_S (As := [.long v2]) (rest := []) ⟨hx, hb, hml, hown, hts⟩ (kX2_isZero l v2) (va_cwS 1 hts gX2_divide_X2_isZero rfl rfl rfl (by decide +kernel) ⟨Nat.le_of_ble_eq_true rfl, Nat.le_of_ble_eq_true rfl⟩) rfl hl.1 rfl (Nat.le_of_ble_eq_true rfl) dX2_divide_17 (Nat.zero_le _) (Nat.zero_le _) ?_
    refine px_if_eq (tgt := 30) hx hb dX2_divide_20 (by decide) (fun hc20 => ?_) (fun hc20 => ?_)
    · rw [if_pos hc20]
      have hok := hok.1 hc20
      refine lv_lload_n hx hb dX2_divide_30 rfl (lv_at hl 1 rfl) ?_
      refine px_S (As := [.long v0]) (rest := []) ⟨hx, hb, hml, hown, hts⟩ (kX2_isZero l v0) (va_cwS 1 hts gX2_divide_X2_isZero rfl rfl rfl (by decide +kernel) ⟨Nat.le_of_ble_eq_true rfl, Nat.le_of_ble_eq_true rfl⟩) rfl hl.1 rfl (Nat.le_of_ble_eq_true rfl) dX2_divide_31 (Nat.zero_le _) (Nat.zero_le _) ?_
      refine px_if_ne (tgt := 44) hx hb dX2_divide_34 (by decide) (fun hc34 => ?_) (fun hc34 => ?_)
      · rw [if_pos hc34]
        have hok := hok.1 hc34
        refine lv_lload_n hx hb dX2_divide_37 rfl (lv_at hl 2 rfl) ?_
        refine px_S (As := [.long v2]) (rest := []) ⟨hx, hb, hml, hown, hts⟩ (kX2_isInfinite l v2) (va_cwS 1 hts gX2_divide_X2_isInfinite rfl rfl rfl (by decide +kernel) ⟨Nat.le_of_ble_eq_true rfl, Nat.le_of_ble_eq_true rfl⟩) rfl hl.1 rfl (Nat.le_of_ble_eq_true rfl) dX2_divide_38 (Nat.zero_le _) (Nat.zero_le _) ?_
        refine px_if_eq (tgt := 47) hx hb dX2_divide_41 (by decide) (fun hc41 => ?_) (fun hc41 => ?_)
        · rw [if_pos hc41]
          have hok := hok.1 hc41
          refine lv_lload_n hx hb dX2_divide_47 rfl (lv_at hl 1 rfl) ?_
          obtain ⟨hk, hok⟩ := hok
          refine px_S (As := [.long v0]) (rest := []) ⟨hx, hb, hml, hown, hts⟩ (kX2_significand l v0 hk) (va_cwS 1 hts gX2_divide_X2_significand rfl rfl rfl (by decide +kernel) ⟨Nat.le_of_ble_eq_true rfl, Nat.le_of_ble_eq_true rfl⟩) rfl hl.1 rfl (Nat.le_of_ble_eq_true rfl) dX2_divide_48 (Nat.zero_le _) (Nat.zero_le _) ?_
          refine lv_topl (fun v6_51 ev6_51 => ?_)
          rw [← ev6_51]
          rw [← ev6_51] at hok
          refine lv_lstore (lv' := [(6, .long v6_51), (4, .long v4_7), (0, .long v0), (2, .long v2)]) hx hb dX2_divide_51 hl (by decide) rfl (fun ls hl => ?_)
          rw [fX2_divide_53]
          rw [okX2_divide_53] at hok
          refine lv_lload_n hx hb dX2_divide_53 rfl (lv_at hl 3 rfl) ?_
          obtain ⟨hk, hok⟩ := hok
          refine px_S (As := [.long v2]) (rest := []) ⟨hx, hb, hml, hown, hts⟩ (kX2_significand l v2 hk) (va_cwS 1 hts gX2_divide_X2_significand rfl rfl rfl (by decide +kernel) ⟨Nat.le_of_ble_eq_true rfl, Nat.le_of_ble_eq_true rfl⟩) rfl hl.1 rfl (Nat.le_of_ble_eq_true rfl) dX2_divide_54 (Nat.zero_le _) (Nat.zero_le _) ?_
          refine lv_topl (fun v8_57 ev8_57 => ?_)
          rw [← ev8_57]
          rw [← ev8_57] at hok
          refine lv_lstore (lv' := [(8, .long v8_57), (6, .long v6_51), (4, .long v4_7), (0, .long v0), (2, .long v2)]) hx hb dX2_divide_57 hl (by decide) rfl (fun ls hl => ?_)
          rw [fX2_divide_59]
          rw [okX2_divide_59] at hok
          refine lv_lconst (v := 0) hx hb dX2_divide_59 (by decide) ?_
          refine lv_lstore (lv' := [(10, .long (0 : Int64)), (8, .long v8_57), (6, .long v6_51), (4, .long v4_7), (0, .long v0), (2, .long v2)]) hx hb dX2_divide_60 hl (by decide) rfl (fun ls hl => ?_)
          refine lv_iconst (v := 0) hx hb dX2_divide_62 (by decide) ?_
          refine lv_istore (lv' := [(12, .int (0 : Int32)), (10, .long (0 : Int64)), (8, .long v8_57), (6, .long v6_51), (4, .long v4_7), (0, .long v0), (2, .long v2)]) hx hb dX2_divide_63 hl (by decide) rfl (fun ls hl => ?_)
          exact wX2_divide_65 C _ v0 v2 v4_7 v6_51 v8_57 (0 : Int64) (0 : Int32) hok _ (lv_sub hl [5, 6, 4, 3, 2, 1, 0] rfl)
        · rw [if_neg hc41]
          have hok := hok.2 hc41
          refine lv_lload hx hb dX2_divide_44 (lv_at hl 0 rfl) ?_
          exact W.lret hx hb hr (fun t ht _ => ⟨rfl, ht⟩) (fun q h => by cases h) dX2_divide_46
      · rw [if_neg hc34]
        have hok := hok.2 hc34
        refine lv_lload hx hb dX2_divide_44 (lv_at hl 0 rfl) ?_
        exact W.lret hx hb hr (fun t ht _ => ⟨rfl, ht⟩) (fun q h => by cases h) dX2_divide_46
    · rw [if_neg hc20]
      have hok := hok.2 hc20
      refine lv_lload hx hb dX2_divide_23 (lv_at hl 0 rfl) ?_
      refine lv_ldc2 hx hb hown (hts (.constantLong RX2 13 (9218868437227405312)) (by decide +kernel)) dX2_divide_25 ?_
      refine lv_lor hx hb dX2_divide_28 ?_
      exact W.lret hx hb hr (fun t ht _ => ⟨rfl, ht⟩) (fun q h => by cases h) dX2_divide_29
  · rw [if_neg hc13]
    have hok := hok.2 hc13
    refine lv_lload hx hb dX2_divide_23 (lv_at hl 0 rfl) ?_
    refine lv_ldc2 hx hb hown (hts (.constantLong RX2 13 (9218868437227405312)) (by decide +kernel)) dX2_divide_25 ?_
    refine lv_lor hx hb dX2_divide_28 ?_
    exact W.lret hx hb hr (fun t ht _ => ⟨rfl, ht⟩) (fun q h => by cases h) dX2_divide_29
set_option maxHeartbeats 4000000 in
set_option maxRecDepth 100000 in
theorem kX2_divide (l : Launch) (v0 : Int64) (v2 : Int64) (hok : okX2_divide v0 v2) : px_M l yX2_divide wsX2_divide ({ frames := 2, cells := 0, slots := 0, locals := 63 }) [.long v0, .long v2] (.long (fX2_divide v0 v2)) := by
  refine Met.ofW (cc := cX2_divide) (maxL := 13) (ret := (some .long)) (by decide) rfl ?_
  intro p e s m args below meth c s₁ B hml hv
  cases hv
  have C : px_C p s m _ meth c cX2_divide 13 (some .long) RX2 wsX2_divide := ⟨B.exec, B.bytes, hml, findClass_of_methodNamed B.named, atoms_spec (ws := wsX2_divide) B.pre, B.returns, B.notSynchronized⟩
  have hl := lv_entry ([.long v0, .long v2]) (n := 13) (Nat.le_of_ble_eq_true rfl)
  rw [lg_entry_eq]
  generalize (lg_sl ([.long v0, .long v2]) ++ List.replicate (13 - (lg_sl ([.long v0, .long v2])).length) Slot.unset).toArray = ls at hl ⊢
  have hl : lv_has ls 13 [(0, .long v0), (2, .long v2)] := hl
  rw [fX2_divide]
  rw [okX2_divide] at hok
  exact wX2_divide_0 C v0 v2 hok (lv_sub hl [0, 1] rfl)
set_option maxHeartbeats 4000000 in
set_option maxRecDepth 100000 in
theorem wX2_compare_48 {p : Program} {l : Launch} {e : Env} {s : State} {m : MethodId} {args : Array Value} {below : List Frame} {meth : Method} {c : Code} (C : px_C p s m args meth c cX2_compare 8 (some .int) RX2 wsX2_compare) (v4 : Int64) (s0 : Int64) {ls : Array Slot} (hl : lv_has ls 8 [(4, .long v4)]) : W p l e { frames := 1, cells := 0, slots := 0, locals := 21 } s m args below meth c s.heap [] 0 0 (MQ below (px_Q (.int (fX2_compare_48 v4 s0))) args s 0 0 (fun _ => False)) (F0 m 48 ls [.long s0]) := by
  obtain ⟨hx, hb, hml, hown, hts, hr, hlocks⟩ := id C
  rw [fX2_compare_48]
  refine lv_lstore (lv' := [(6, .long s0), (4, .long v4)]) hx hb dX2_compare_48 hl (by decide) rfl (fun ls hl => ?_)
  refine lv_lload hx hb dX2_compare_50 (lv_at hl 1 rfl) ?_
  refine lv_lload hx hb dX2_compare_52 (lv_at hl 0 rfl) ?_
  refine px_lcmp_ge (tgt := 62) hx hb dX2_compare_54 dX2_compare_55 (by decide) (fun hc54 => ?_) (fun hc54 => ?_)
  · rw [if_pos hc54]
    refine lv_iconst (v := -1) hx hb dX2_compare_58 (by decide) ?_
    refine lv_goto (tgt := 75) hx hb dX2_compare_59 (by decide) ?_
    exact W.iret hx hb hr (fun t ht _ => ⟨rfl, ht⟩) (fun q h => by cases h) dX2_compare_75
  · rw [if_neg hc54]
    refine lv_lload hx hb dX2_compare_62 (lv_at hl 1 rfl) ?_
    refine lv_lload hx hb dX2_compare_64 (lv_at hl 0 rfl) ?_
    refine px_lcmp_le (tgt := 74) hx hb dX2_compare_66 dX2_compare_67 (by decide) (fun hc66 => ?_) (fun hc66 => ?_)
    · rw [if_pos hc66]
      refine lv_iconst (v := 1) hx hb dX2_compare_70 (by decide) ?_
      refine lv_goto (tgt := 75) hx hb dX2_compare_71 (by decide) ?_
      exact W.iret hx hb hr (fun t ht _ => ⟨rfl, ht⟩) (fun q h => by cases h) dX2_compare_75
    · rw [if_neg hc66]
      refine lv_iconst (v := 0) hx hb dX2_compare_74 (by decide) ?_
      exact W.iret hx hb hr (fun t ht _ => ⟨rfl, ht⟩) (fun q h => by cases h) dX2_compare_75
set_option maxHeartbeats 4000000 in
set_option maxRecDepth 100000 in
theorem wX2_compare_31 {p : Program} {l : Launch} {e : Env} {s : State} {m : MethodId} {args : Array Value} {below : List Frame} {meth : Method} {c : Code} (C : px_C p s m args meth c cX2_compare 8 (some .int) RX2 wsX2_compare) (v2 : Int64) (s0 : Int64) {ls : Array Slot} (hl : lv_has ls 8 [(2, .long v2)]) : W p l e { frames := 1, cells := 0, slots := 0, locals := 21 } s m args below meth c s.heap [] 0 0 (MQ below (px_Q (.int (fX2_compare_31 v2 s0))) args s 0 0 (fun _ => False)) (F0 m 31 ls [.long s0]) := by
  obtain ⟨hx, hb, hml, hown, hts, hr, hlocks⟩ := id C
  rw [fX2_compare_31]
  refine lv_lstore (lv' := [(4, .long s0), (2, .long v2)]) hx hb dX2_compare_31 hl (by decide) rfl (fun ls hl => ?_)
  refine lv_lload_n hx hb dX2_compare_33 rfl (lv_at hl 1 rfl) ?_
  refine lv_lconst (v := 0) hx hb dX2_compare_34 (by decide) ?_
  refine px_lcmp_ge (tgt := 47) hx hb dX2_compare_35 dX2_compare_36 (by decide) (fun hc35 => ?_) (fun hc35 => ?_)
  · rw [if_pos hc35]
    refine lv_lload_n hx hb dX2_compare_39 rfl (lv_at hl 1 rfl) ?_
    refine lv_ldc2 hx hb hown (hts (.constantLong RX2 9 (9223372036854775807)) (by decide +kernel)) dX2_compare_40 ?_
    refine lv_lxor hx hb dX2_compare_43 ?_
    refine lv_goto (tgt := 48) hx hb dX2_compare_44 (by decide) ?_
    exact wX2_compare_48 C s0 (v2 ^^^ (9223372036854775807 : Int64)) (lv_sub hl [0] rfl)
  · rw [if_neg hc35]
    refine lv_lload_n hx hb dX2_compare_47 rfl (lv_at hl 1 rfl) ?_
    exact wX2_compare_48 C s0 v2 (lv_sub hl [0] rfl)
set_option maxHeartbeats 4000000 in
set_option maxRecDepth 100000 in
theorem wX2_compare_16 {p : Program} {l : Launch} {e : Env} {s : State} {m : MethodId} {args : Array Value} {below : List Frame} {meth : Method} {c : Code} (C : px_C p s m args meth c cX2_compare 8 (some .int) RX2 wsX2_compare) (v0 : Int64) (v2 : Int64) {ls : Array Slot} (hl : lv_has ls 8 [(0, .long v0), (2, .long v2)]) : W p l e { frames := 1, cells := 0, slots := 0, locals := 21 } s m args below meth c s.heap [] 0 0 (MQ below (px_Q (.int (fX2_compare_16 v0 v2))) args s 0 0 (fun _ => False)) (F0 m 16 ls []) := by
  obtain ⟨hx, hb, hml, hown, hts, hr, hlocks⟩ := id C
  rw [fX2_compare_16]
  refine lv_lload_n hx hb dX2_compare_16 rfl (lv_at hl 0 rfl) ?_
  refine lv_lconst (v := 0) hx hb dX2_compare_17 (by decide) ?_
  refine px_lcmp_ge (tgt := 30) hx hb dX2_compare_18 dX2_compare_19 (by decide) (fun hc18 => ?_) (fun hc18 => ?_)
  · rw [if_pos hc18]
    refine lv_lload_n hx hb dX2_compare_22 rfl (lv_at hl 0 rfl) ?_
    refine lv_ldc2 hx hb hown (hts (.constantLong RX2 9 (9223372036854775807)) (by decide +kernel)) dX2_compare_23 ?_
    refine lv_lxor hx hb dX2_compare_26 ?_
    refine lv_goto (tgt := 31) hx hb dX2_compare_27 (by decide) ?_
    exact wX2_compare_31 C v2 (v0 ^^^ (9223372036854775807 : Int64)) (lv_sub hl [1] rfl)
  · rw [if_neg hc18]
    refine lv_lload_n hx hb dX2_compare_30 rfl (lv_at hl 0 rfl) ?_
    exact wX2_compare_31 C v2 v0 (lv_sub hl [1] rfl)
set_option maxHeartbeats 4000000 in
set_option maxRecDepth 100000 in
theorem wX2_compare_0 {p : Program} {l : Launch} {e : Env} {s : State} {m : MethodId} {args : Array Value} {below : List Frame} {meth : Method} {c : Code} (C : px_C p s m args meth c cX2_compare 8 (some .int) RX2 wsX2_compare) (v0 : Int64) (v2 : Int64) {ls : Array Slot} (hl : lv_has ls 8 [(0, .long v0), (2, .long v2)]) : W p l e { frames := 1, cells := 0, slots := 0, locals := 21 } s m args below meth c s.heap [] 0 0 (MQ below (px_Q (.int (fX2_compare_0 v0 v2))) args s 0 0 (fun _ => False)) (F0 m 0 ls []) := by
  obtain ⟨hx, hb, hml, hown, hts, hr, hlocks⟩ := id C
  rw [fX2_compare_0]
  refine lv_lload_n hx hb dX2_compare_0 rfl (lv_at hl 0 rfl) ?_
  refine px_S (As := [.long v0]) (rest := []) ⟨hx, hb, hml, hown, hts⟩ (kX2_isZero l v0) (va_cwS 1 hts gX2_compare_X2_isZero rfl rfl rfl (by decide +kernel) ⟨Nat.le_of_ble_eq_true rfl, Nat.le_of_ble_eq_true rfl⟩) rfl hl.1 rfl (Nat.le_of_ble_eq_true rfl) dX2_compare_1 (Nat.zero_le _) (Nat.zero_le _) ?_
  refine px_if_eq (tgt := 16) hx hb dX2_compare_4 (by decide) (fun hc4 => ?_) (fun hc4 => ?_)
  · rw [if_pos hc4]
    exact wX2_compare_16 C v0 v2 (lv_sub hl [0, 1] rfl)
  · rw [if_neg hc4]
    refine lv_lload_n hx hb dX2_compare_7 rfl (lv_at hl 1 rfl) ?_
    refine px_S (As := [.long v2]) (rest := []) ⟨hx, hb, hml, hown, hts⟩ (kX2_isZero l v2) (va_cwS 1 hts gX2_compare_X2_isZero rfl rfl rfl (by decide +kernel) ⟨Nat.le_of_ble_eq_true rfl, Nat.le_of_ble_eq_true rfl⟩) rfl hl.1 rfl (Nat.le_of_ble_eq_true rfl) dX2_compare_8 (Nat.zero_le _) (Nat.zero_le _) ?_
    refine px_if_eq (tgt := 16) hx hb dX2_compare_11 (by decide) (fun hc11 => ?_) (fun hc11 => ?_)
    · rw [if_pos hc11]
      exact wX2_compare_16 C v0 v2 (lv_sub hl [0, 1] rfl)
    · rw [if_neg hc11]
      refine lv_iconst (v := 0) hx hb dX2_compare_14 (by decide) ?_
      exact W.iret hx hb hr (fun t ht _ => ⟨rfl, ht⟩) (fun q h => by cases h) dX2_compare_15
set_option maxHeartbeats 4000000 in
set_option maxRecDepth 100000 in
theorem kX2_compare (l : Launch) (v0 : Int64) (v2 : Int64) : px_M l yX2_compare wsX2_compare ({ frames := 1, cells := 0, slots := 0, locals := 21 }) [.long v0, .long v2] (.int (fX2_compare v0 v2)) := by
  refine Met.ofW (cc := cX2_compare) (maxL := 8) (ret := (some .int)) (by decide) rfl ?_
  intro p e s m args below meth c s₁ B hml hv
  cases hv
  have C : px_C p s m _ meth c cX2_compare 8 (some .int) RX2 wsX2_compare := ⟨B.exec, B.bytes, hml, findClass_of_methodNamed B.named, atoms_spec (ws := wsX2_compare) B.pre, B.returns, B.notSynchronized⟩
  have hl := lv_entry ([.long v0, .long v2]) (n := 8) (Nat.le_of_ble_eq_true rfl)
  rw [lg_entry_eq]
  generalize (lg_sl ([.long v0, .long v2]) ++ List.replicate (8 - (lg_sl ([.long v0, .long v2])).length) Slot.unset).toArray = ls at hl ⊢
  have hl : lv_has ls 8 [(0, .long v0), (2, .long v2)] := hl
  rw [fX2_compare]
  exact wX2_compare_0 C v0 v2 (lv_sub hl [0, 1] rfl)
set_option maxHeartbeats 4000000 in
set_option maxRecDepth 100000 in
theorem wX2_of_83 {p : Program} {l : Launch} {e : Env} {s : State} {m : MethodId} {args : Array Value} {below : List Frame} {meth : Method} {c : Code} (C : px_C p s m args meth c cX2_of 6 (some .long) RX2 wsX2_of) (s0 : Int32) (s1 : Int64) (s2 : Int32) (s3 : Int32) (hok : okX2_of_83 s0 s1 s2 s3) {ls : Array Slot} (hl : lv_has ls 6 []) : W p l e { frames := 2, cells := 0, slots := 0, locals := 63 } s m args below meth c s.heap [] 0 0 (MQ below (px_Q (.long (fX2_of_83 s0 s1 s2 s3))) args s 0 0 (fun _ => False)) (F0 m 83 ls [.int s3, .int s2, .long s1, .int s0]) := by
  obtain ⟨hx, hb, hml, hown, hts, hr, hlocks⟩ := id C
  rw [fX2_of_83]
  rw [okX2_of_83] at hok
  obtain ⟨hk, hok⟩ := hok
  refine px_S (As := [.int s0, .long s1, .int s2, .int s3]) (rest := []) ⟨hx, hb, hml, hown, hts⟩ (kX2_made l s0 s1 s2 s3 hk) (va_cwS 4 hts gX2_of_X2_made rfl rfl rfl (by decide +kernel) ⟨Nat.le_of_ble_eq_true rfl, Nat.le_of_ble_eq_true rfl⟩) rfl hl.1 rfl (Nat.le_of_ble_eq_true rfl) dX2_of_83 (Nat.zero_le _) (Nat.zero_le _) ?_
  exact W.lret hx hb hr (fun t ht _ => ⟨rfl, ht⟩) (fun q h => by cases h) dX2_of_86
set_option maxHeartbeats 4000000 in
set_option maxRecDepth 100000 in
theorem wX2_of_61 {p : Program} {l : Launch} {e : Env} {s : State} {m : MethodId} {args : Array Value} {below : List Frame} {meth : Method} {c : Code} (C : px_C p s m args meth c cX2_of 6 (some .long) RX2 wsX2_of) (v3 : Int32) (v4 : Int64) (hok : okX2_of_61 v3 v4) {ls : Array Slot} (hl : lv_has ls 6 [(3, .int v3), (4, .long v4)]) : W p l e { frames := 2, cells := 0, slots := 0, locals := 63 } s m args below meth c s.heap [] 0 0 (MQ below (px_Q (.long (fX2_of_61 v3 v4))) args s 0 0 (fun _ => False)) (F0 m 61 ls []) := by
  obtain ⟨hx, hb, hml, hown, hts, hr, hlocks⟩ := id C
  rw [fX2_of_61]
  rw [okX2_of_61] at hok
  refine lv_iload_n hx hb dX2_of_61 rfl (lv_at hl 0 rfl) ?_
  refine lv_lload hx hb dX2_of_62 (lv_at hl 1 rfl) ?_
  refine lv_iconst (v := 2) hx hb dX2_of_64 (by decide) ?_
  refine px_lushr hx hb dX2_of_65 ?_
  refine lv_iconst (v := 2) hx hb dX2_of_66 (by decide) ?_
  refine lv_lload hx hb dX2_of_67 (lv_at hl 1 rfl) ?_
  refine lv_ldc2 hx hb hown (hts (.constantLong RX2 54 (3)) (by decide +kernel)) dX2_of_69 ?_
  refine lv_land hx hb dX2_of_72 ?_
  refine lv_lconst (v := 0) hx hb dX2_of_73 (by decide) ?_
  refine px_lcmp_eq (tgt := 82) hx hb dX2_of_74 dX2_of_75 (by decide) (fun hc74 => ?_) (fun hc74 => ?_)
  · rw [if_pos hc74]
    have hok := hok.1 hc74
    refine lv_iconst (v := 0) hx hb dX2_of_82 (by decide) ?_
    exact wX2_of_83 C v3 (jushr v4 (2 : Int32)) (2 : Int32) (0 : Int32) hok (lv_sub hl [] rfl)
  · rw [if_neg hc74]
    have hok := hok.2 hc74
    refine lv_iconst (v := 1) hx hb dX2_of_78 (by decide) ?_
    refine lv_goto (tgt := 83) hx hb dX2_of_79 (by decide) ?_
    exact wX2_of_83 C v3 (jushr v4 (2 : Int32)) (2 : Int32) (1 : Int32) hok (lv_sub hl [] rfl)
set_option maxHeartbeats 4000000 in
set_option maxRecDepth 100000 in
theorem wX2_of_34 {p : Program} {l : Launch} {e : Env} {s : State} {m : MethodId} {args : Array Value} {below : List Frame} {meth : Method} {c : Code} (C : px_C p s m args meth c cX2_of 6 (some .long) RX2 wsX2_of) (v3 : Int32) (s0 : Int64) (hok : okX2_of_34 v3 s0) {ls : Array Slot} (hl : lv_has ls 6 [(3, .int v3)]) : W p l e { frames := 2, cells := 0, slots := 0, locals := 63 } s m args below meth c s.heap [] 0 0 (MQ below (px_Q (.long (fX2_of_34 v3 s0))) args s 0 0 (fun _ => False)) (F0 m 34 ls [.long s0]) := by
  obtain ⟨hx, hb, hml, hown, hts, hr, hlocks⟩ := id C
  rw [fX2_of_34]
  rw [okX2_of_34] at hok
  refine lv_lstore (lv' := [(4, .long s0), (3, .int v3)]) hx hb dX2_of_34 hl (by decide) rfl (fun ls hl => ?_)
  refine lv_lload hx hb dX2_of_36 (lv_at hl 0 rfl) ?_
  refine lv_lconst (v := 0) hx hb dX2_of_38 (by decide) ?_
  refine px_lcmp_le (tgt := 61) hx hb dX2_of_39 dX2_of_40 (by decide) (fun hc39 => ?_) (fun hc39 => ?_)
  · rw [if_pos hc39]
    have hok := hok.1 hc39
    refine lv_lload hx hb dX2_of_43 (lv_at hl 0 rfl) ?_
    refine lv_ldc2 hx hb hown (hts (.constantLong RX2 52 (4611686018427387904)) (by decide +kernel)) dX2_of_45 ?_
    refine px_lcmp_ge (tgt := 61) hx hb dX2_of_48 dX2_of_49 (by decide) (fun hc48 => ?_) (fun hc48 => ?_)
    · rw [if_pos hc48]
      have hok := hok.1 hc48
      refine lv_iload_n hx hb dX2_of_52 rfl (lv_at hl 1 rfl) ?_
      refine lv_lload hx hb dX2_of_53 (lv_at hl 0 rfl) ?_
      refine lv_iconst (v := 0) hx hb dX2_of_55 (by decide) ?_
      refine lv_iconst (v := 0) hx hb dX2_of_56 (by decide) ?_
      obtain ⟨hk, hok⟩ := hok
      refine px_S (As := [.int v3, .long s0, .int (0 : Int32), .int (0 : Int32)]) (rest := []) ⟨hx, hb, hml, hown, hts⟩ (kX2_made l v3 s0 (0 : Int32) (0 : Int32) hk) (va_cwS 4 hts gX2_of_X2_made rfl rfl rfl (by decide +kernel) ⟨Nat.le_of_ble_eq_true rfl, Nat.le_of_ble_eq_true rfl⟩) rfl hl.1 rfl (Nat.le_of_ble_eq_true rfl) dX2_of_57 (Nat.zero_le _) (Nat.zero_le _) ?_
      exact W.lret hx hb hr (fun t ht _ => ⟨rfl, ht⟩) (fun q h => by cases h) dX2_of_60
    · rw [if_neg hc48]
      have hok := hok.2 hc48
      exact wX2_of_61 C v3 s0 hok (lv_sub hl [1, 0] rfl)
  · rw [if_neg hc39]
    have hok := hok.2 hc39
    exact wX2_of_61 C v3 s0 hok (lv_sub hl [1, 0] rfl)
set_option maxHeartbeats 4000000 in
set_option maxRecDepth 100000 in
theorem wX2_of_23 {p : Program} {l : Launch} {e : Env} {s : State} {m : MethodId} {args : Array Value} {below : List Frame} {meth : Method} {c : Code} (C : px_C p s m args meth c cX2_of 6 (some .long) RX2 wsX2_of) (v0 : Int64) (s0 : Int32) (hok : okX2_of_23 v0 s0) {ls : Array Slot} (hl : lv_has ls 6 [(0, .long v0)]) : W p l e { frames := 2, cells := 0, slots := 0, locals := 63 } s m args below meth c s.heap [] 0 0 (MQ below (px_Q (.long (fX2_of_23 v0 s0))) args s 0 0 (fun _ => False)) (F0 m 23 ls [.int s0]) := by
  obtain ⟨hx, hb, hml, hown, hts, hr, hlocks⟩ := id C
  rw [fX2_of_23]
  rw [okX2_of_23] at hok
  refine lv_istore_n (lv' := [(3, .int s0), (0, .long v0)]) hx hb dX2_of_23 rfl hl (by decide) rfl (fun ls hl => ?_)
  refine lv_iload_n hx hb dX2_of_24 rfl (lv_at hl 0 rfl) ?_
  refine px_if_eq (tgt := 33) hx hb dX2_of_25 (by decide) (fun hc25 => ?_) (fun hc25 => ?_)
  · rw [if_pos hc25]
    have hok := hok.1 hc25
    refine lv_lload_n hx hb dX2_of_33 rfl (lv_at hl 1 rfl) ?_
    exact wX2_of_34 C s0 v0 hok (lv_sub hl [0] rfl)
  · rw [if_neg hc25]
    have hok := hok.2 hc25
    refine lv_lload_n hx hb dX2_of_28 rfl (lv_at hl 1 rfl) ?_
    refine lv_lneg hx hb dX2_of_29 ?_
    refine lv_goto (tgt := 34) hx hb dX2_of_30 (by decide) ?_
    exact wX2_of_34 C s0 (-v0) hok (lv_sub hl [0] rfl)
set_option maxHeartbeats 4000000 in
set_option maxRecDepth 100000 in
theorem wX2_of_22 {p : Program} {l : Launch} {e : Env} {s : State} {m : MethodId} {args : Array Value} {below : List Frame} {meth : Method} {c : Code} (C : px_C p s m args meth c cX2_of 6 (some .long) RX2 wsX2_of) (v0 : Int64) (hok : okX2_of_22 v0) {ls : Array Slot} (hl : lv_has ls 6 [(0, .long v0)]) : W p l e { frames := 2, cells := 0, slots := 0, locals := 63 } s m args below meth c s.heap [] 0 0 (MQ below (px_Q (.long (fX2_of_22 v0))) args s 0 0 (fun _ => False)) (F0 m 22 ls []) := by
  obtain ⟨hx, hb, hml, hown, hts, hr, hlocks⟩ := id C
  rw [fX2_of_22]
  rw [okX2_of_22] at hok
  refine lv_iconst (v := 0) hx hb dX2_of_22 (by decide) ?_
  exact wX2_of_23 C v0 (0 : Int32) hok (lv_sub hl [0] rfl)
set_option maxHeartbeats 4000000 in
set_option maxRecDepth 100000 in
theorem wX2_of_0 {p : Program} {l : Launch} {e : Env} {s : State} {m : MethodId} {args : Array Value} {below : List Frame} {meth : Method} {c : Code} (C : px_C p s m args meth c cX2_of 6 (some .long) RX2 wsX2_of) (v0 : Int64) (v2 : Int32) (hok : okX2_of_0 v0 v2) {ls : Array Slot} (hl : lv_has ls 6 [(0, .long v0), (2, .int v2)]) : W p l e { frames := 2, cells := 0, slots := 0, locals := 63 } s m args below meth c s.heap [] 0 0 (MQ below (px_Q (.long (fX2_of_0 v0 v2))) args s 0 0 (fun _ => False)) (F0 m 0 ls []) := by
  obtain ⟨hx, hb, hml, hown, hts, hr, hlocks⟩ := id C
  rw [fX2_of_0]
  rw [okX2_of_0] at hok
  refine lv_lload_n hx hb dX2_of_0 rfl (lv_at hl 0 rfl) ?_
  refine lv_lconst (v := 0) hx hb dX2_of_1 (by decide) ?_
  refine px_lcmp_ne (tgt := 8) hx hb dX2_of_2 dX2_of_3 (by decide) (fun hc2 => ?_) (fun hc2 => ?_)
  · rw [if_pos hc2]
    have hok := hok.1 hc2
    refine lv_lconst (v := 0) hx hb dX2_of_6 (by decide) ?_
    exact W.lret hx hb hr (fun t ht _ => ⟨rfl, ht⟩) (fun q h => by cases h) dX2_of_7
  · rw [if_neg hc2]
    have hok := hok.2 hc2
    refine lv_lload_n hx hb dX2_of_8 rfl (lv_at hl 0 rfl) ?_
    refine lv_lconst (v := 0) hx hb dX2_of_9 (by decide) ?_
    refine px_lcmp_ge (tgt := 22) hx hb dX2_of_10 dX2_of_11 (by decide) (fun hc10 => ?_) (fun hc10 => ?_)
    · rw [if_pos hc10]
      have hok := hok.1 hc10
      refine lv_iload_n hx hb dX2_of_14 rfl (lv_at hl 1 rfl) ?_
      refine px_if_ne (tgt := 22) hx hb dX2_of_15 (by decide) (fun hc15 => ?_) (fun hc15 => ?_)
      · rw [if_pos hc15]
        have hok := hok.1 hc15
        refine lv_iconst (v := 1) hx hb dX2_of_18 (by decide) ?_
        refine lv_goto (tgt := 23) hx hb dX2_of_19 (by decide) ?_
        exact wX2_of_23 C v0 (1 : Int32) hok (lv_sub hl [0] rfl)
      · rw [if_neg hc15]
        have hok := hok.2 hc15
        exact wX2_of_22 C v0 hok (lv_sub hl [0] rfl)
    · rw [if_neg hc10]
      have hok := hok.2 hc10
      exact wX2_of_22 C v0 hok (lv_sub hl [0] rfl)
set_option maxHeartbeats 4000000 in
set_option maxRecDepth 100000 in
theorem kX2_of (l : Launch) (v0 : Int64) (v2 : Int32) (hok : okX2_of v0 v2) : px_M l yX2_of wsX2_of ({ frames := 2, cells := 0, slots := 0, locals := 63 }) [.long v0, .int v2] (.long (fX2_of v0 v2)) := by
  refine Met.ofW (cc := cX2_of) (maxL := 6) (ret := (some .long)) (by decide) rfl ?_
  intro p e s m args below meth c s₁ B hml hv
  cases hv
  have C : px_C p s m _ meth c cX2_of 6 (some .long) RX2 wsX2_of := ⟨B.exec, B.bytes, hml, findClass_of_methodNamed B.named, atoms_spec (ws := wsX2_of) B.pre, B.returns, B.notSynchronized⟩
  have hl := lv_entry ([.long v0, .int v2]) (n := 6) (Nat.le_of_ble_eq_true rfl)
  rw [lg_entry_eq]
  generalize (lg_sl ([.long v0, .int v2]) ++ List.replicate (6 - (lg_sl ([.long v0, .int v2])).length) Slot.unset).toArray = ls at hl ⊢
  have hl : lv_has ls 6 [(0, .long v0), (2, .int v2)] := hl
  rw [fX2_of]
  rw [okX2_of] at hok
  exact wX2_of_0 C v0 v2 hok (lv_sub hl [0, 1] rfl)
set_option maxHeartbeats 4000000 in
set_option maxRecDepth 100000 in
theorem wX2_wide_81 {p : Program} {l : Launch} {e : Env} {s : State} {m : MethodId} {args : Array Value} {below : List Frame} {meth : Method} {c : Code} (C : px_C p s m args meth c cX2_wide 8 (some .long) RX2 wsX2_wide) (v1 : Int64) (s0 : Int64) (s1 : Int32) (hok : okX2_wide_81 v1 s0 s1) {ls : Array Slot} (hl : lv_has ls 8 [(1, .long v1)]) : W p l e { frames := 1, cells := 0, slots := 0, locals := 37 } s m args below meth c s.heap [] 0 0 (MQ below (px_Q (.long (fX2_wide_81 v1 s0 s1))) args s 0 0 (fun _ => False)) (F0 m 81 ls [.int s1, .long s0]) := by
  obtain ⟨hx, hb, hml, hown, hts, hr, hlocks⟩ := id C
  rw [fX2_wide_81]
  rw [okX2_wide_81] at hok
  refine lv_sipush (v := 150) hx hb dX2_wide_81 (by decide) ?_
  refine lv_isub hx hb dX2_wide_84 ?_
  refine lv_iconst (v := 0) hx hb dX2_wide_85 (by decide) ?_
  refine lv_bipush (v := 53) hx hb dX2_wide_86 (by decide) ?_
  refine lv_sipush (v := 1023) hx hb dX2_wide_88 (by decide) ?_
  obtain ⟨hk, hok⟩ := hok
  refine px_S (As := [.long s0, .int (s1 - (150 : Int32)), .int (0 : Int32), .int (53 : Int32), .int (1023 : Int32)]) (rest := []) ⟨hx, hb, hml, hown, hts⟩ (kX2_rounded l s0 (s1 - (150 : Int32)) (0 : Int32) (53 : Int32) (1023 : Int32) hk) (va_cwS 5 hts gX2_wide_X2_rounded rfl rfl rfl (by decide +kernel) ⟨Nat.le_of_ble_eq_true rfl, Nat.le_of_ble_eq_true rfl⟩) rfl hl.1 rfl (Nat.le_of_ble_eq_true rfl) dX2_wide_91 (Nat.zero_le _) (Nat.zero_le _) ?_
  refine lv_lstore (lv' := [(6, .long (fX2_rounded s0 (s1 - (150 : Int32)) (0 : Int32) (53 : Int32) (1023 : Int32))), (1, .long v1)]) hx hb dX2_wide_94 hl (by decide) rfl (fun ls hl => ?_)
  refine lv_lload_n hx hb dX2_wide_96 rfl (lv_at hl 1 rfl) ?_
  refine lv_lload hx hb dX2_wide_97 (lv_at hl 0 rfl) ?_
  refine lv_lor hx hb dX2_wide_99 ?_
  exact W.lret hx hb hr (fun t ht _ => ⟨rfl, ht⟩) (fun q h => by cases h) dX2_wide_100
set_option maxHeartbeats 4000000 in
set_option maxRecDepth 100000 in
theorem wX2_wide_72 {p : Program} {l : Launch} {e : Env} {s : State} {m : MethodId} {args : Array Value} {below : List Frame} {meth : Method} {c : Code} (C : px_C p s m args meth c cX2_wide 8 (some .long) RX2 wsX2_wide) (v1 : Int64) (v3 : Int32) (s0 : Int64) (hok : okX2_wide_72 v1 v3 s0) {ls : Array Slot} (hl : lv_has ls 8 [(1, .long v1), (3, .int v3)]) : W p l e { frames := 1, cells := 0, slots := 0, locals := 37 } s m args below meth c s.heap [] 0 0 (MQ below (px_Q (.long (fX2_wide_72 v1 v3 s0))) args s 0 0 (fun _ => False)) (F0 m 72 ls [.long s0]) := by
  obtain ⟨hx, hb, hml, hown, hts, hr, hlocks⟩ := id C
  rw [fX2_wide_72]
  rw [okX2_wide_72] at hok
  refine lv_iload_n hx hb dX2_wide_72 rfl (lv_at hl 1 rfl) ?_
  refine px_if_ne (tgt := 80) hx hb dX2_wide_73 (by decide) (fun hc73 => ?_) (fun hc73 => ?_)
  · rw [if_pos hc73]
    have hok := hok.1 hc73
    refine lv_iconst (v := 1) hx hb dX2_wide_76 (by decide) ?_
    refine lv_goto (tgt := 81) hx hb dX2_wide_77 (by decide) ?_
    exact wX2_wide_81 C v1 s0 (1 : Int32) hok (lv_sub hl [0] rfl)
  · rw [if_neg hc73]
    have hok := hok.2 hc73
    refine lv_iload_n hx hb dX2_wide_80 rfl (lv_at hl 1 rfl) ?_
    exact wX2_wide_81 C v1 s0 v3 hok (lv_sub hl [0] rfl)
set_option maxHeartbeats 4000000 in
set_option maxRecDepth 100000 in
theorem wX2_wide_57 {p : Program} {l : Launch} {e : Env} {s : State} {m : MethodId} {args : Array Value} {below : List Frame} {meth : Method} {c : Code} (C : px_C p s m args meth c cX2_wide 8 (some .long) RX2 wsX2_wide) (v1 : Int64) (v3 : Int32) (v4 : Int64) (hok : okX2_wide_57 v1 v3 v4) {ls : Array Slot} (hl : lv_has ls 8 [(1, .long v1), (3, .int v3), (4, .long v4)]) : W p l e { frames := 1, cells := 0, slots := 0, locals := 37 } s m args below meth c s.heap [] 0 0 (MQ below (px_Q (.long (fX2_wide_57 v1 v3 v4))) args s 0 0 (fun _ => False)) (F0 m 57 ls []) := by
  obtain ⟨hx, hb, hml, hown, hts, hr, hlocks⟩ := id C
  rw [fX2_wide_57]
  rw [okX2_wide_57] at hok
  refine lv_iload_n hx hb dX2_wide_57 rfl (lv_at hl 1 rfl) ?_
  refine px_if_ne (tgt := 66) hx hb dX2_wide_58 (by decide) (fun hc58 => ?_) (fun hc58 => ?_)
  · rw [if_pos hc58]
    have hok := hok.1 hc58
    refine lv_lload hx hb dX2_wide_61 (lv_at hl 2 rfl) ?_
    refine lv_goto (tgt := 72) hx hb dX2_wide_63 (by decide) ?_
    exact wX2_wide_72 C v1 v3 v4 hok (lv_sub hl [0, 1] rfl)
  · rw [if_neg hc58]
    have hok := hok.2 hc58
    refine lv_lload hx hb dX2_wide_66 (lv_at hl 2 rfl) ?_
    refine lv_ldc2 hx hb hown (hts (.constantLong RX2 65 (8388608)) (by decide +kernel)) dX2_wide_68 ?_
    refine lv_lor hx hb dX2_wide_71 ?_
    exact wX2_wide_72 C v1 v3 (v4 ||| (8388608 : Int64)) hok (lv_sub hl [0, 1] rfl)
set_option maxHeartbeats 4000000 in
set_option maxRecDepth 100000 in
theorem wX2_wide_11 {p : Program} {l : Launch} {e : Env} {s : State} {m : MethodId} {args : Array Value} {below : List Frame} {meth : Method} {c : Code} (C : px_C p s m args meth c cX2_wide 8 (some .long) RX2 wsX2_wide) (v0 : Int32) (s0 : Int64) (hok : okX2_wide_11 v0 s0) {ls : Array Slot} (hl : lv_has ls 8 [(0, .int v0)]) : W p l e { frames := 1, cells := 0, slots := 0, locals := 37 } s m args below meth c s.heap [] 0 0 (MQ below (px_Q (.long (fX2_wide_11 v0 s0))) args s 0 0 (fun _ => False)) (F0 m 11 ls [.long s0]) := by
  obtain ⟨hx, hb, hml, hown, hts, hr, hlocks⟩ := id C
  rw [fX2_wide_11]
  rw [okX2_wide_11] at hok
  refine lv_lstore_n (lv' := [(1, .long s0), (0, .int v0)]) hx hb dX2_wide_11 rfl hl (by decide) rfl (fun ls hl => ?_)
  refine lv_iload_n hx hb dX2_wide_12 rfl (lv_at hl 1 rfl) ?_
  refine lv_bipush (v := 23) hx hb dX2_wide_13 (by decide) ?_
  refine px_ishr hx hb dX2_wide_15 ?_
  refine lv_sipush (v := 255) hx hb dX2_wide_16 (by decide) ?_
  refine lv_iand hx hb dX2_wide_19 ?_
  refine lv_topi (fun v3_20 ev3_20 => ?_)
  rw [← ev3_20]
  rw [← ev3_20] at hok
  refine lv_istore_n (lv' := [(3, .int v3_20), (1, .long s0), (0, .int v0)]) hx hb dX2_wide_20 rfl hl (by decide) rfl (fun ls hl => ?_)
  rw [fX2_wide_21]
  rw [okX2_wide_21] at hok
  refine lv_iload_n hx hb dX2_wide_21 rfl (lv_at hl 2 rfl) ?_
  refine lv_ldc hx hb hown (hts (.constant RX2 64 (8388607)) (by decide +kernel)) dX2_wide_22 ?_
  refine lv_iand hx hb dX2_wide_24 ?_
  refine px_i2l hx hb dX2_wide_25 ?_
  refine lv_topl (fun v4_26 ev4_26 => ?_)
  rw [← ev4_26]
  rw [← ev4_26] at hok
  refine lv_lstore (lv' := [(4, .long v4_26), (3, .int v3_20), (1, .long s0), (0, .int v0)]) hx hb dX2_wide_26 hl (by decide) rfl (fun ls hl => ?_)
  rw [fX2_wide_28]
  rw [okX2_wide_28] at hok
  refine lv_iload_n hx hb dX2_wide_28 rfl (lv_at hl 1 rfl) ?_
  refine lv_sipush (v := 255) hx hb dX2_wide_29 (by decide) ?_
  refine px_icmp_ne (tgt := 44) hx hb dX2_wide_32 (by decide) (fun hc32 => ?_) (fun hc32 => ?_)
  · rw [if_pos hc32]
    have hok := hok.1 hc32
    refine lv_lload_n hx hb dX2_wide_35 rfl (lv_at hl 2 rfl) ?_
    refine lv_ldc2 hx hb hown (hts (.constantLong RX2 13 (9218868437227405312)) (by decide +kernel)) dX2_wide_36 ?_
    refine lv_lor hx hb dX2_wide_39 ?_
    refine lv_lload hx hb dX2_wide_40 (lv_at hl 0 rfl) ?_
    refine lv_lor hx hb dX2_wide_42 ?_
    exact W.lret hx hb hr (fun t ht _ => ⟨rfl, ht⟩) (fun q h => by cases h) dX2_wide_43
  · rw [if_neg hc32]
    have hok := hok.2 hc32
    refine lv_iload_n hx hb dX2_wide_44 rfl (lv_at hl 1 rfl) ?_
    refine px_if_ne (tgt := 57) hx hb dX2_wide_45 (by decide) (fun hc45 => ?_) (fun hc45 => ?_)
    · rw [if_pos hc45]
      have hok := hok.1 hc45
      refine lv_lload hx hb dX2_wide_48 (lv_at hl 0 rfl) ?_
      refine lv_lconst (v := 0) hx hb dX2_wide_50 (by decide) ?_
      refine px_lcmp_ne (tgt := 57) hx hb dX2_wide_51 dX2_wide_52 (by decide) (fun hc51 => ?_) (fun hc51 => ?_)
      · rw [if_pos hc51]
        have hok := hok.1 hc51
        refine lv_lload_n hx hb dX2_wide_55 rfl (lv_at hl 2 rfl) ?_
        exact W.lret hx hb hr (fun t ht _ => ⟨rfl, ht⟩) (fun q h => by cases h) dX2_wide_56
      · rw [if_neg hc51]
        have hok := hok.2 hc51
        exact wX2_wide_57 C s0 v3_20 v4_26 hok (lv_sub hl [2, 1, 0] rfl)
    · rw [if_neg hc45]
      have hok := hok.2 hc45
      exact wX2_wide_57 C s0 v3_20 v4_26 hok (lv_sub hl [2, 1, 0] rfl)
set_option maxHeartbeats 4000000 in
set_option maxRecDepth 100000 in
theorem wX2_wide_0 {p : Program} {l : Launch} {e : Env} {s : State} {m : MethodId} {args : Array Value} {below : List Frame} {meth : Method} {c : Code} (C : px_C p s m args meth c cX2_wide 8 (some .long) RX2 wsX2_wide) (v0 : Int32) (hok : okX2_wide_0 v0) {ls : Array Slot} (hl : lv_has ls 8 [(0, .int v0)]) : W p l e { frames := 1, cells := 0, slots := 0, locals := 37 } s m args below meth c s.heap [] 0 0 (MQ below (px_Q (.long (fX2_wide_0 v0))) args s 0 0 (fun _ => False)) (F0 m 0 ls []) := by
  obtain ⟨hx, hb, hml, hown, hts, hr, hlocks⟩ := id C
  rw [fX2_wide_0]
  rw [okX2_wide_0] at hok
  refine lv_iload_n hx hb dX2_wide_0 rfl (lv_at hl 0 rfl) ?_
  refine px_if_ge (tgt := 10) hx hb dX2_wide_1 (by decide) (fun hc1 => ?_) (fun hc1 => ?_)
  · rw [if_pos hc1]
    have hok := hok.1 hc1
    refine lv_ldc2 hx hb hown (hts (.constantLong RX2 15 (-9223372036854775808)) (by decide +kernel)) dX2_wide_4 ?_
    refine lv_goto (tgt := 11) hx hb dX2_wide_7 (by decide) ?_
    exact wX2_wide_11 C v0 (-9223372036854775808 : Int64) hok (lv_sub hl [0] rfl)
  · rw [if_neg hc1]
    have hok := hok.2 hc1
    refine lv_lconst (v := 0) hx hb dX2_wide_10 (by decide) ?_
    exact wX2_wide_11 C v0 (0 : Int64) hok (lv_sub hl [0] rfl)
set_option maxHeartbeats 4000000 in
set_option maxRecDepth 100000 in
theorem kX2_wide (l : Launch) (v0 : Int32) (hok : okX2_wide v0) : px_M l yX2_wide wsX2_wide ({ frames := 1, cells := 0, slots := 0, locals := 37 }) [.int v0] (.long (fX2_wide v0)) := by
  refine Met.ofW (cc := cX2_wide) (maxL := 8) (ret := (some .long)) (by decide) rfl ?_
  intro p e s m args below meth c s₁ B hml hv
  cases hv
  have C : px_C p s m _ meth c cX2_wide 8 (some .long) RX2 wsX2_wide := ⟨B.exec, B.bytes, hml, findClass_of_methodNamed B.named, atoms_spec (ws := wsX2_wide) B.pre, B.returns, B.notSynchronized⟩
  have hl := lv_entry ([.int v0]) (n := 8) (Nat.le_of_ble_eq_true rfl)
  rw [lg_entry_eq]
  generalize (lg_sl ([.int v0]) ++ List.replicate (8 - (lg_sl ([.int v0])).length) Slot.unset).toArray = ls at hl ⊢
  have hl : lv_has ls 8 [(0, .int v0)] := hl
  rw [fX2_wide]
  rw [okX2_wide] at hok
  exact wX2_wide_0 C v0 hok (lv_sub hl [0] rfl)
set_option maxHeartbeats 4000000 in
set_option maxRecDepth 100000 in
theorem wX2_floatOf_126 {p : Program} {l : Launch} {e : Env} {s : State} {m : MethodId} {args : Array Value} {below : List Frame} {meth : Method} {c : Code} (C : px_C p s m args meth c cX2_floatOf 9 (some .long) RX2 wsX2_floatOf) (s0 : Int32) (s1 : Int32) (hok : okX2_floatOf_126 s0 s1) {ls : Array Slot} (hl : lv_has ls 9 []) : W p l e { frames := 2, cells := 0, slots := 0, locals := 64 } s m args below meth c s.heap [] 0 0 (MQ below (px_Q (.long (fX2_floatOf_126 s0 s1))) args s 0 0 (fun _ => False)) (F0 m 126 ls [.int s1, .int s0]) := by
  obtain ⟨hx, hb, hml, hown, hts, hr, hlocks⟩ := id C
  rw [fX2_floatOf_126]
  rw [okX2_floatOf_126] at hok
  refine lv_ior hx hb dX2_floatOf_126 ?_
  obtain ⟨hk, hok⟩ := hok
  refine px_S (As := [.int (s0 ||| s1)]) (rest := []) ⟨hx, hb, hml, hown, hts⟩ (kX2_wide l (s0 ||| s1) hk) (va_cwS 1 hts gX2_floatOf_X2_wide rfl rfl rfl (by decide +kernel) ⟨Nat.le_of_ble_eq_true rfl, Nat.le_of_ble_eq_true rfl⟩) rfl hl.1 rfl (Nat.le_of_ble_eq_true rfl) dX2_floatOf_127 (Nat.zero_le _) (Nat.zero_le _) ?_
  exact W.lret hx hb hr (fun t ht _ => ⟨rfl, ht⟩) (fun q h => by cases h) dX2_floatOf_130
set_option maxHeartbeats 4000000 in
set_option maxRecDepth 100000 in
theorem wX2_floatOf_104 {p : Program} {l : Launch} {e : Env} {s : State} {m : MethodId} {args : Array Value} {below : List Frame} {meth : Method} {c : Code} (C : px_C p s m args meth c cX2_floatOf 9 (some .long) RX2 wsX2_floatOf) (v3 : Int32) (s0 : Int64) (s1 : Int32) (s2 : Int32) (hok : okX2_floatOf_104 v3 s0 s1 s2) {ls : Array Slot} (hl : lv_has ls 9 [(3, .int v3)]) : W p l e { frames := 2, cells := 0, slots := 0, locals := 64 } s m args below meth c s.heap [] 0 0 (MQ below (px_Q (.long (fX2_floatOf_104 v3 s0 s1 s2))) args s 0 0 (fun _ => False)) (F0 m 104 ls [.int s2, .int s1, .long s0]) := by
  obtain ⟨hx, hb, hml, hown, hts, hr, hlocks⟩ := id C
  rw [fX2_floatOf_104]
  rw [okX2_floatOf_104] at hok
  refine lv_bipush (v := 24) hx hb dX2_floatOf_104 (by decide) ?_
  refine lv_bipush (v := 127) hx hb dX2_floatOf_106 (by decide) ?_
  obtain ⟨hk, hok⟩ := hok
  refine px_S (As := [.long s0, .int s1, .int s2, .int (24 : Int32), .int (127 : Int32)]) (rest := []) ⟨hx, hb, hml, hown, hts⟩ (kX2_rounded l s0 s1 s2 (24 : Int32) (127 : Int32) hk) (va_cwS 5 hts gX2_floatOf_X2_rounded rfl rfl rfl (by decide +kernel) ⟨Nat.le_of_ble_eq_true rfl, Nat.le_of_ble_eq_true rfl⟩) rfl hl.1 rfl (Nat.le_of_ble_eq_true rfl) dX2_floatOf_108 (Nat.zero_le _) (Nat.zero_le _) ?_
  refine lv_topl (fun v7_111 ev7_111 => ?_)
  rw [← ev7_111]
  rw [← ev7_111] at hok
  refine lv_lstore (lv' := [(7, .long v7_111), (3, .int v3)]) hx hb dX2_floatOf_111 hl (by decide) rfl (fun ls hl => ?_)
  rw [fX2_floatOf_113]
  rw [okX2_floatOf_113] at hok
  refine lv_lload hx hb dX2_floatOf_113 (lv_at hl 0 rfl) ?_
  refine px_l2i hx hb dX2_floatOf_115 ?_
  refine lv_iload_n hx hb dX2_floatOf_116 rfl (lv_at hl 1 rfl) ?_
  refine px_if_eq (tgt := 125) hx hb dX2_floatOf_117 (by decide) (fun hc117 => ?_) (fun hc117 => ?_)
  · rw [if_pos hc117]
    have hok := hok.1 hc117
    refine lv_iconst (v := 0) hx hb dX2_floatOf_125 (by decide) ?_
    exact wX2_floatOf_126 C (v7_111.toInt32) (0 : Int32) hok (lv_sub hl [] rfl)
  · rw [if_neg hc117]
    have hok := hok.2 hc117
    refine lv_ldc hx hb hown (hts (.constant RX2 58 (-2147483648)) (by decide +kernel)) dX2_floatOf_120 ?_
    refine lv_goto (tgt := 126) hx hb dX2_floatOf_122 (by decide) ?_
    exact wX2_floatOf_126 C (v7_111.toInt32) (-2147483648 : Int32) hok (lv_sub hl [] rfl)
set_option maxHeartbeats 4000000 in
set_option maxRecDepth 100000 in
theorem wX2_floatOf_103 {p : Program} {l : Launch} {e : Env} {s : State} {m : MethodId} {args : Array Value} {below : List Frame} {meth : Method} {c : Code} (C : px_C p s m args meth c cX2_floatOf 9 (some .long) RX2 wsX2_floatOf) (v3 : Int32) (s0 : Int64) (s1 : Int32) (hok : okX2_floatOf_103 v3 s0 s1) {ls : Array Slot} (hl : lv_has ls 9 [(3, .int v3)]) : W p l e { frames := 2, cells := 0, slots := 0, locals := 64 } s m args below meth c s.heap [] 0 0 (MQ below (px_Q (.long (fX2_floatOf_103 v3 s0 s1))) args s 0 0 (fun _ => False)) (F0 m 103 ls [.int s1, .long s0]) := by
  obtain ⟨hx, hb, hml, hown, hts, hr, hlocks⟩ := id C
  rw [fX2_floatOf_103]
  rw [okX2_floatOf_103] at hok
  refine lv_iconst (v := 0) hx hb dX2_floatOf_103 (by decide) ?_
  exact wX2_floatOf_104 C v3 s0 s1 (0 : Int32) hok (lv_sub hl [0] rfl)
set_option maxHeartbeats 4000000 in
set_option maxRecDepth 100000 in
theorem wX2_floatOf_83 {p : Program} {l : Launch} {e : Env} {s : State} {m : MethodId} {args : Array Value} {below : List Frame} {meth : Method} {c : Code} (C : px_C p s m args meth c cX2_floatOf 9 (some .long) RX2 wsX2_floatOf) (v3 : Int32) (v4 : Int64) (v6 : Int32) (s0 : Int64) (s1 : Int32) (hok : okX2_floatOf_83 v3 v4 v6 s0 s1) {ls : Array Slot} (hl : lv_has ls 9 [(3, .int v3), (4, .long v4), (6, .int v6)]) : W p l e { frames := 2, cells := 0, slots := 0, locals := 64 } s m args below meth c s.heap [] 0 0 (MQ below (px_Q (.long (fX2_floatOf_83 v3 v4 v6 s0 s1))) args s 0 0 (fun _ => False)) (F0 m 83 ls [.int s1, .long s0]) := by
  obtain ⟨hx, hb, hml, hown, hts, hr, hlocks⟩ := id C
  rw [fX2_floatOf_83]
  rw [okX2_floatOf_83] at hok
  refine lv_iload hx hb dX2_floatOf_83 (lv_at hl 2 rfl) ?_
  refine px_if_ne (tgt := 103) hx hb dX2_floatOf_85 (by decide) (fun hc85 => ?_) (fun hc85 => ?_)
  · rw [if_pos hc85]
    have hok := hok.1 hc85
    refine lv_lload hx hb dX2_floatOf_88 (lv_at hl 1 rfl) ?_
    refine lv_ldc2 hx hb hown (hts (.constantLong RX2 54 (3)) (by decide +kernel)) dX2_floatOf_90 ?_
    refine lv_land hx hb dX2_floatOf_93 ?_
    refine lv_lconst (v := 0) hx hb dX2_floatOf_94 (by decide) ?_
    refine px_lcmp_eq (tgt := 103) hx hb dX2_floatOf_95 dX2_floatOf_96 (by decide) (fun hc95 => ?_) (fun hc95 => ?_)
    · rw [if_pos hc95]
      have hok := hok.1 hc95
      exact wX2_floatOf_103 C v3 s0 s1 hok (lv_sub hl [0] rfl)
    · rw [if_neg hc95]
      have hok := hok.2 hc95
      refine lv_iconst (v := 1) hx hb dX2_floatOf_99 (by decide) ?_
      refine lv_goto (tgt := 104) hx hb dX2_floatOf_100 (by decide) ?_
      exact wX2_floatOf_104 C v3 s0 s1 (1 : Int32) hok (lv_sub hl [0] rfl)
  · rw [if_neg hc85]
    have hok := hok.2 hc85
    exact wX2_floatOf_103 C v3 s0 s1 hok (lv_sub hl [0] rfl)
set_option maxHeartbeats 4000000 in
set_option maxRecDepth 100000 in
theorem wX2_floatOf_73 {p : Program} {l : Launch} {e : Env} {s : State} {m : MethodId} {args : Array Value} {below : List Frame} {meth : Method} {c : Code} (C : px_C p s m args meth c cX2_floatOf 9 (some .long) RX2 wsX2_floatOf) (v3 : Int32) (v4 : Int64) (v6 : Int32) (s0 : Int64) (hok : okX2_floatOf_73 v3 v4 v6 s0) {ls : Array Slot} (hl : lv_has ls 9 [(3, .int v3), (4, .long v4), (6, .int v6)]) : W p l e { frames := 2, cells := 0, slots := 0, locals := 64 } s m args below meth c s.heap [] 0 0 (MQ below (px_Q (.long (fX2_floatOf_73 v3 v4 v6 s0))) args s 0 0 (fun _ => False)) (F0 m 73 ls [.long s0]) := by
  obtain ⟨hx, hb, hml, hown, hts, hr, hlocks⟩ := id C
  rw [fX2_floatOf_73]
  rw [okX2_floatOf_73] at hok
  refine lv_iload hx hb dX2_floatOf_73 (lv_at hl 2 rfl) ?_
  refine px_if_eq (tgt := 82) hx hb dX2_floatOf_75 (by decide) (fun hc75 => ?_) (fun hc75 => ?_)
  · rw [if_pos hc75]
    have hok := hok.1 hc75
    refine lv_iconst (v := 2) hx hb dX2_floatOf_82 (by decide) ?_
    exact wX2_floatOf_83 C v3 v4 v6 s0 (2 : Int32) hok (lv_sub hl [0, 1, 2] rfl)
  · rw [if_neg hc75]
    have hok := hok.2 hc75
    refine lv_iconst (v := 0) hx hb dX2_floatOf_78 (by decide) ?_
    refine lv_goto (tgt := 83) hx hb dX2_floatOf_79 (by decide) ?_
    exact wX2_floatOf_83 C v3 v4 v6 s0 (0 : Int32) hok (lv_sub hl [0, 1, 2] rfl)
set_option maxHeartbeats 4000000 in
set_option maxRecDepth 100000 in
theorem wX2_floatOf_57 {p : Program} {l : Launch} {e : Env} {s : State} {m : MethodId} {args : Array Value} {below : List Frame} {meth : Method} {c : Code} (C : px_C p s m args meth c cX2_floatOf 9 (some .long) RX2 wsX2_floatOf) (v3 : Int32) (v4 : Int64) (s0 : Int32) (hok : okX2_floatOf_57 v3 v4 s0) {ls : Array Slot} (hl : lv_has ls 9 [(3, .int v3), (4, .long v4)]) : W p l e { frames := 2, cells := 0, slots := 0, locals := 64 } s m args below meth c s.heap [] 0 0 (MQ below (px_Q (.long (fX2_floatOf_57 v3 v4 s0))) args s 0 0 (fun _ => False)) (F0 m 57 ls [.int s0]) := by
  obtain ⟨hx, hb, hml, hown, hts, hr, hlocks⟩ := id C
  rw [fX2_floatOf_57]
  rw [okX2_floatOf_57] at hok
  refine lv_istore (lv' := [(6, .int s0), (3, .int v3), (4, .long v4)]) hx hb dX2_floatOf_57 hl (by decide) rfl (fun ls hl => ?_)
  refine lv_iload hx hb dX2_floatOf_59 (lv_at hl 0 rfl) ?_
  refine px_if_eq (tgt := 69) hx hb dX2_floatOf_61 (by decide) (fun hc61 => ?_) (fun hc61 => ?_)
  · rw [if_pos hc61]
    have hok := hok.1 hc61
    refine lv_lload hx hb dX2_floatOf_69 (lv_at hl 2 rfl) ?_
    refine lv_iconst (v := 2) hx hb dX2_floatOf_71 (by decide) ?_
    refine px_lushr hx hb dX2_floatOf_72 ?_
    exact wX2_floatOf_73 C v3 v4 s0 (jushr v4 (2 : Int32)) hok (lv_sub hl [1, 2, 0] rfl)
  · rw [if_neg hc61]
    have hok := hok.2 hc61
    refine lv_lload hx hb dX2_floatOf_64 (lv_at hl 2 rfl) ?_
    refine lv_goto (tgt := 73) hx hb dX2_floatOf_66 (by decide) ?_
    exact wX2_floatOf_73 C v3 v4 s0 v4 hok (lv_sub hl [1, 2, 0] rfl)
set_option maxHeartbeats 4000000 in
set_option maxRecDepth 100000 in
theorem wX2_floatOf_56 {p : Program} {l : Launch} {e : Env} {s : State} {m : MethodId} {args : Array Value} {below : List Frame} {meth : Method} {c : Code} (C : px_C p s m args meth c cX2_floatOf 9 (some .long) RX2 wsX2_floatOf) (v3 : Int32) (v4 : Int64) (hok : okX2_floatOf_56 v3 v4) {ls : Array Slot} (hl : lv_has ls 9 [(3, .int v3), (4, .long v4)]) : W p l e { frames := 2, cells := 0, slots := 0, locals := 64 } s m args below meth c s.heap [] 0 0 (MQ below (px_Q (.long (fX2_floatOf_56 v3 v4))) args s 0 0 (fun _ => False)) (F0 m 56 ls []) := by
  obtain ⟨hx, hb, hml, hown, hts, hr, hlocks⟩ := id C
  rw [fX2_floatOf_56]
  rw [okX2_floatOf_56] at hok
  refine lv_iconst (v := 0) hx hb dX2_floatOf_56 (by decide) ?_
  exact wX2_floatOf_57 C v3 v4 (0 : Int32) hok (lv_sub hl [0, 1] rfl)
set_option maxHeartbeats 4000000 in
set_option maxRecDepth 100000 in
theorem wX2_floatOf_34 {p : Program} {l : Launch} {e : Env} {s : State} {m : MethodId} {args : Array Value} {below : List Frame} {meth : Method} {c : Code} (C : px_C p s m args meth c cX2_floatOf 9 (some .long) RX2 wsX2_floatOf) (v3 : Int32) (s0 : Int64) (hok : okX2_floatOf_34 v3 s0) {ls : Array Slot} (hl : lv_has ls 9 [(3, .int v3)]) : W p l e { frames := 2, cells := 0, slots := 0, locals := 64 } s m args below meth c s.heap [] 0 0 (MQ below (px_Q (.long (fX2_floatOf_34 v3 s0))) args s 0 0 (fun _ => False)) (F0 m 34 ls [.long s0]) := by
  obtain ⟨hx, hb, hml, hown, hts, hr, hlocks⟩ := id C
  rw [fX2_floatOf_34]
  rw [okX2_floatOf_34] at hok
  refine lv_lstore (lv' := [(4, .long s0), (3, .int v3)]) hx hb dX2_floatOf_34 hl (by decide) rfl (fun ls hl => ?_)
  refine lv_lload hx hb dX2_floatOf_36 (lv_at hl 0 rfl) ?_
  refine lv_lconst (v := 0) hx hb dX2_floatOf_38 (by decide) ?_
  refine px_lcmp_le (tgt := 56) hx hb dX2_floatOf_39 dX2_floatOf_40 (by decide) (fun hc39 => ?_) (fun hc39 => ?_)
  · rw [if_pos hc39]
    have hok := hok.1 hc39
    refine lv_lload hx hb dX2_floatOf_43 (lv_at hl 0 rfl) ?_
    refine lv_ldc2 hx hb hown (hts (.constantLong RX2 52 (4611686018427387904)) (by decide +kernel)) dX2_floatOf_45 ?_
    refine px_lcmp_ge (tgt := 56) hx hb dX2_floatOf_48 dX2_floatOf_49 (by decide) (fun hc48 => ?_) (fun hc48 => ?_)
    · rw [if_pos hc48]
      have hok := hok.1 hc48
      refine lv_iconst (v := 1) hx hb dX2_floatOf_52 (by decide) ?_
      refine lv_goto (tgt := 57) hx hb dX2_floatOf_53 (by decide) ?_
      exact wX2_floatOf_57 C v3 s0 (1 : Int32) hok (lv_sub hl [1, 0] rfl)
    · rw [if_neg hc48]
      have hok := hok.2 hc48
      exact wX2_floatOf_56 C v3 s0 hok (lv_sub hl [1, 0] rfl)
  · rw [if_neg hc39]
    have hok := hok.2 hc39
    exact wX2_floatOf_56 C v3 s0 hok (lv_sub hl [1, 0] rfl)
set_option maxHeartbeats 4000000 in
set_option maxRecDepth 100000 in
theorem wX2_floatOf_23 {p : Program} {l : Launch} {e : Env} {s : State} {m : MethodId} {args : Array Value} {below : List Frame} {meth : Method} {c : Code} (C : px_C p s m args meth c cX2_floatOf 9 (some .long) RX2 wsX2_floatOf) (v0 : Int64) (s0 : Int32) (hok : okX2_floatOf_23 v0 s0) {ls : Array Slot} (hl : lv_has ls 9 [(0, .long v0)]) : W p l e { frames := 2, cells := 0, slots := 0, locals := 64 } s m args below meth c s.heap [] 0 0 (MQ below (px_Q (.long (fX2_floatOf_23 v0 s0))) args s 0 0 (fun _ => False)) (F0 m 23 ls [.int s0]) := by
  obtain ⟨hx, hb, hml, hown, hts, hr, hlocks⟩ := id C
  rw [fX2_floatOf_23]
  rw [okX2_floatOf_23] at hok
  refine lv_istore_n (lv' := [(3, .int s0), (0, .long v0)]) hx hb dX2_floatOf_23 rfl hl (by decide) rfl (fun ls hl => ?_)
  refine lv_iload_n hx hb dX2_floatOf_24 rfl (lv_at hl 0 rfl) ?_
  refine px_if_eq (tgt := 33) hx hb dX2_floatOf_25 (by decide) (fun hc25 => ?_) (fun hc25 => ?_)
  · rw [if_pos hc25]
    have hok := hok.1 hc25
    refine lv_lload_n hx hb dX2_floatOf_33 rfl (lv_at hl 1 rfl) ?_
    exact wX2_floatOf_34 C s0 v0 hok (lv_sub hl [0] rfl)
  · rw [if_neg hc25]
    have hok := hok.2 hc25
    refine lv_lload_n hx hb dX2_floatOf_28 rfl (lv_at hl 1 rfl) ?_
    refine lv_lneg hx hb dX2_floatOf_29 ?_
    refine lv_goto (tgt := 34) hx hb dX2_floatOf_30 (by decide) ?_
    exact wX2_floatOf_34 C s0 (-v0) hok (lv_sub hl [0] rfl)
set_option maxHeartbeats 4000000 in
set_option maxRecDepth 100000 in
theorem wX2_floatOf_22 {p : Program} {l : Launch} {e : Env} {s : State} {m : MethodId} {args : Array Value} {below : List Frame} {meth : Method} {c : Code} (C : px_C p s m args meth c cX2_floatOf 9 (some .long) RX2 wsX2_floatOf) (v0 : Int64) (hok : okX2_floatOf_22 v0) {ls : Array Slot} (hl : lv_has ls 9 [(0, .long v0)]) : W p l e { frames := 2, cells := 0, slots := 0, locals := 64 } s m args below meth c s.heap [] 0 0 (MQ below (px_Q (.long (fX2_floatOf_22 v0))) args s 0 0 (fun _ => False)) (F0 m 22 ls []) := by
  obtain ⟨hx, hb, hml, hown, hts, hr, hlocks⟩ := id C
  rw [fX2_floatOf_22]
  rw [okX2_floatOf_22] at hok
  refine lv_iconst (v := 0) hx hb dX2_floatOf_22 (by decide) ?_
  exact wX2_floatOf_23 C v0 (0 : Int32) hok (lv_sub hl [0] rfl)
set_option maxHeartbeats 4000000 in
set_option maxRecDepth 100000 in
theorem wX2_floatOf_0 {p : Program} {l : Launch} {e : Env} {s : State} {m : MethodId} {args : Array Value} {below : List Frame} {meth : Method} {c : Code} (C : px_C p s m args meth c cX2_floatOf 9 (some .long) RX2 wsX2_floatOf) (v0 : Int64) (v2 : Int32) (hok : okX2_floatOf_0 v0 v2) {ls : Array Slot} (hl : lv_has ls 9 [(0, .long v0), (2, .int v2)]) : W p l e { frames := 2, cells := 0, slots := 0, locals := 64 } s m args below meth c s.heap [] 0 0 (MQ below (px_Q (.long (fX2_floatOf_0 v0 v2))) args s 0 0 (fun _ => False)) (F0 m 0 ls []) := by
  obtain ⟨hx, hb, hml, hown, hts, hr, hlocks⟩ := id C
  rw [fX2_floatOf_0]
  rw [okX2_floatOf_0] at hok
  refine lv_lload_n hx hb dX2_floatOf_0 rfl (lv_at hl 0 rfl) ?_
  refine lv_lconst (v := 0) hx hb dX2_floatOf_1 (by decide) ?_
  refine px_lcmp_ne (tgt := 8) hx hb dX2_floatOf_2 dX2_floatOf_3 (by decide) (fun hc2 => ?_) (fun hc2 => ?_)
  · rw [if_pos hc2]
    have hok := hok.1 hc2
    refine lv_lconst (v := 0) hx hb dX2_floatOf_6 (by decide) ?_
    exact W.lret hx hb hr (fun t ht _ => ⟨rfl, ht⟩) (fun q h => by cases h) dX2_floatOf_7
  · rw [if_neg hc2]
    have hok := hok.2 hc2
    refine lv_lload_n hx hb dX2_floatOf_8 rfl (lv_at hl 0 rfl) ?_
    refine lv_lconst (v := 0) hx hb dX2_floatOf_9 (by decide) ?_
    refine px_lcmp_ge (tgt := 22) hx hb dX2_floatOf_10 dX2_floatOf_11 (by decide) (fun hc10 => ?_) (fun hc10 => ?_)
    · rw [if_pos hc10]
      have hok := hok.1 hc10
      refine lv_iload_n hx hb dX2_floatOf_14 rfl (lv_at hl 1 rfl) ?_
      refine px_if_ne (tgt := 22) hx hb dX2_floatOf_15 (by decide) (fun hc15 => ?_) (fun hc15 => ?_)
      · rw [if_pos hc15]
        have hok := hok.1 hc15
        refine lv_iconst (v := 1) hx hb dX2_floatOf_18 (by decide) ?_
        refine lv_goto (tgt := 23) hx hb dX2_floatOf_19 (by decide) ?_
        exact wX2_floatOf_23 C v0 (1 : Int32) hok (lv_sub hl [0] rfl)
      · rw [if_neg hc15]
        have hok := hok.2 hc15
        exact wX2_floatOf_22 C v0 hok (lv_sub hl [0] rfl)
    · rw [if_neg hc10]
      have hok := hok.2 hc10
      exact wX2_floatOf_22 C v0 hok (lv_sub hl [0] rfl)
set_option maxHeartbeats 4000000 in
set_option maxRecDepth 100000 in
theorem kX2_floatOf (l : Launch) (v0 : Int64) (v2 : Int32) (hok : okX2_floatOf v0 v2) : px_M l yX2_floatOf wsX2_floatOf ({ frames := 2, cells := 0, slots := 0, locals := 64 }) [.long v0, .int v2] (.long (fX2_floatOf v0 v2)) := by
  refine Met.ofW (cc := cX2_floatOf) (maxL := 9) (ret := (some .long)) (by decide) rfl ?_
  intro p e s m args below meth c s₁ B hml hv
  cases hv
  have C : px_C p s m _ meth c cX2_floatOf 9 (some .long) RX2 wsX2_floatOf := ⟨B.exec, B.bytes, hml, findClass_of_methodNamed B.named, atoms_spec (ws := wsX2_floatOf) B.pre, B.returns, B.notSynchronized⟩
  have hl := lv_entry ([.long v0, .int v2]) (n := 9) (Nat.le_of_ble_eq_true rfl)
  rw [lg_entry_eq]
  generalize (lg_sl ([.long v0, .int v2]) ++ List.replicate (9 - (lg_sl ([.long v0, .int v2])).length) Slot.unset).toArray = ls at hl ⊢
  have hl : lv_has ls 9 [(0, .long v0), (2, .int v2)] := hl
  rw [fX2_floatOf]
  rw [okX2_floatOf] at hok
  exact wX2_floatOf_0 C v0 v2 hok (lv_sub hl [0, 1] rfl)
set_option maxHeartbeats 4000000 in
set_option maxRecDepth 100000 in
theorem wX2_narrow_12 {p : Program} {l : Launch} {e : Env} {s : State} {m : MethodId} {args : Array Value} {below : List Frame} {meth : Method} {c : Code} (C : px_C p s m args meth c cX2_narrow 3 (some .int) RX2 wsX2_narrow) (v0 : Int64) (s0 : Int32) (hok : okX2_narrow_12 v0 s0) {ls : Array Slot} (hl : lv_has ls 3 [(0, .long v0)]) : W p l e { frames := 1, cells := 0, slots := 0, locals := 37 } s m args below meth c s.heap [] 0 0 (MQ below (px_Q (.int (fX2_narrow_12 v0 s0))) args s 0 0 (fun _ => False)) (F0 m 12 ls [.int s0]) := by
  obtain ⟨hx, hb, hml, hown, hts, hr, hlocks⟩ := id C
  rw [fX2_narrow_12]
  rw [okX2_narrow_12] at hok
  refine lv_istore_n (lv' := [(2, .int s0), (0, .long v0)]) hx hb dX2_narrow_12 rfl hl (by decide) rfl (fun ls hl => ?_)
  refine lv_lload_n hx hb dX2_narrow_13 rfl (lv_at hl 1 rfl) ?_
  refine px_S (As := [.long v0]) (rest := []) ⟨hx, hb, hml, hown, hts⟩ (kX2_isInfinite l v0) (va_cwS 1 hts gX2_narrow_X2_isInfinite rfl rfl rfl (by decide +kernel) ⟨Nat.le_of_ble_eq_true rfl, Nat.le_of_ble_eq_true rfl⟩) rfl hl.1 rfl (Nat.le_of_ble_eq_true rfl) dX2_narrow_14 (Nat.zero_le _) (Nat.zero_le _) ?_
  refine px_if_eq (tgt := 25) hx hb dX2_narrow_17 (by decide) (fun hc17 => ?_) (fun hc17 => ?_)
  · rw [if_pos hc17]
    have hok := hok.1 hc17
    refine lv_lload_n hx hb dX2_narrow_25 rfl (lv_at hl 1 rfl) ?_
    refine px_S (As := [.long v0]) (rest := []) ⟨hx, hb, hml, hown, hts⟩ (kX2_isZero l v0) (va_cwS 1 hts gX2_narrow_X2_isZero rfl rfl rfl (by decide +kernel) ⟨Nat.le_of_ble_eq_true rfl, Nat.le_of_ble_eq_true rfl⟩) rfl hl.1 rfl (Nat.le_of_ble_eq_true rfl) dX2_narrow_26 (Nat.zero_le _) (Nat.zero_le _) ?_
    refine px_if_eq (tgt := 34) hx hb dX2_narrow_29 (by decide) (fun hc29 => ?_) (fun hc29 => ?_)
    · rw [if_pos hc29]
      have hok := hok.1 hc29
      refine lv_lload_n hx hb dX2_narrow_34 rfl (lv_at hl 1 rfl) ?_
      obtain ⟨hk, hok⟩ := hok
      refine px_S (As := [.long v0]) (rest := []) ⟨hx, hb, hml, hown, hts⟩ (kX2_significand l v0 hk) (va_cwS 1 hts gX2_narrow_X2_significand rfl rfl rfl (by decide +kernel) ⟨Nat.le_of_ble_eq_true rfl, Nat.le_of_ble_eq_true rfl⟩) rfl hl.1 rfl (Nat.le_of_ble_eq_true rfl) dX2_narrow_35 (Nat.zero_le _) (Nat.zero_le _) ?_
      refine lv_lload_n hx hb dX2_narrow_38 rfl (lv_at hl 1 rfl) ?_
      obtain ⟨hk, hok⟩ := hok
      refine px_S (As := [.long v0]) (rest := [.long (fX2_significand v0)]) ⟨hx, hb, hml, hown, hts⟩ (kX2_exponent l v0 hk) (va_cwS 1 hts gX2_narrow_X2_exponent rfl rfl rfl (by decide +kernel) ⟨Nat.le_of_ble_eq_true rfl, Nat.le_of_ble_eq_true rfl⟩) rfl hl.1 rfl (Nat.le_of_ble_eq_true rfl) dX2_narrow_39 (Nat.zero_le _) (Nat.zero_le _) ?_
      refine lv_iconst (v := 0) hx hb dX2_narrow_42 (by decide) ?_
      refine lv_bipush (v := 24) hx hb dX2_narrow_43 (by decide) ?_
      refine lv_bipush (v := 127) hx hb dX2_narrow_45 (by decide) ?_
      obtain ⟨hk, hok⟩ := hok
      refine px_S (As := [.long (fX2_significand v0), .int (fX2_exponent v0), .int (0 : Int32), .int (24 : Int32), .int (127 : Int32)]) (rest := []) ⟨hx, hb, hml, hown, hts⟩ (kX2_rounded l (fX2_significand v0) (fX2_exponent v0) (0 : Int32) (24 : Int32) (127 : Int32) hk) (va_cwS 5 hts gX2_narrow_X2_rounded rfl rfl rfl (by decide +kernel) ⟨Nat.le_of_ble_eq_true rfl, Nat.le_of_ble_eq_true rfl⟩) rfl hl.1 rfl (Nat.le_of_ble_eq_true rfl) dX2_narrow_47 (Nat.zero_le _) (Nat.zero_le _) ?_
      refine px_l2i hx hb dX2_narrow_50 ?_
      refine lv_iload_n hx hb dX2_narrow_51 rfl (lv_at hl 0 rfl) ?_
      refine lv_ior hx hb dX2_narrow_52 ?_
      exact W.iret hx hb hr (fun t ht _ => ⟨rfl, ht⟩) (fun q h => by cases h) dX2_narrow_53
    · rw [if_neg hc29]
      have hok := hok.2 hc29
      refine lv_iload_n hx hb dX2_narrow_32 rfl (lv_at hl 0 rfl) ?_
      exact W.iret hx hb hr (fun t ht _ => ⟨rfl, ht⟩) (fun q h => by cases h) dX2_narrow_33
  · rw [if_neg hc17]
    have hok := hok.2 hc17
    refine lv_iload_n hx hb dX2_narrow_20 rfl (lv_at hl 0 rfl) ?_
    refine lv_ldc hx hb hown (hts (.constant RX2 63 (2139095040)) (by decide +kernel)) dX2_narrow_21 ?_
    refine lv_ior hx hb dX2_narrow_23 ?_
    exact W.iret hx hb hr (fun t ht _ => ⟨rfl, ht⟩) (fun q h => by cases h) dX2_narrow_24
set_option maxHeartbeats 4000000 in
set_option maxRecDepth 100000 in
theorem wX2_narrow_0 {p : Program} {l : Launch} {e : Env} {s : State} {m : MethodId} {args : Array Value} {below : List Frame} {meth : Method} {c : Code} (C : px_C p s m args meth c cX2_narrow 3 (some .int) RX2 wsX2_narrow) (v0 : Int64) (hok : okX2_narrow_0 v0) {ls : Array Slot} (hl : lv_has ls 3 [(0, .long v0)]) : W p l e { frames := 1, cells := 0, slots := 0, locals := 37 } s m args below meth c s.heap [] 0 0 (MQ below (px_Q (.int (fX2_narrow_0 v0))) args s 0 0 (fun _ => False)) (F0 m 0 ls []) := by
  obtain ⟨hx, hb, hml, hown, hts, hr, hlocks⟩ := id C
  rw [fX2_narrow_0]
  rw [okX2_narrow_0] at hok
  refine lv_lload_n hx hb dX2_narrow_0 rfl (lv_at hl 0 rfl) ?_
  refine lv_lconst (v := 0) hx hb dX2_narrow_1 (by decide) ?_
  refine px_lcmp_ge (tgt := 11) hx hb dX2_narrow_2 dX2_narrow_3 (by decide) (fun hc2 => ?_) (fun hc2 => ?_)
  · rw [if_pos hc2]
    have hok := hok.1 hc2
    refine lv_ldc hx hb hown (hts (.constant RX2 58 (-2147483648)) (by decide +kernel)) dX2_narrow_6 ?_
    refine lv_goto (tgt := 12) hx hb dX2_narrow_8 (by decide) ?_
    exact wX2_narrow_12 C v0 (-2147483648 : Int32) hok (lv_sub hl [0] rfl)
  · rw [if_neg hc2]
    have hok := hok.2 hc2
    refine lv_iconst (v := 0) hx hb dX2_narrow_11 (by decide) ?_
    exact wX2_narrow_12 C v0 (0 : Int32) hok (lv_sub hl [0] rfl)
set_option maxHeartbeats 4000000 in
set_option maxRecDepth 100000 in
theorem kX2_narrow (l : Launch) (v0 : Int64) (hok : okX2_narrow v0) : px_M l yX2_narrow wsX2_narrow ({ frames := 1, cells := 0, slots := 0, locals := 37 }) [.long v0] (.int (fX2_narrow v0)) := by
  refine Met.ofW (cc := cX2_narrow) (maxL := 3) (ret := (some .int)) (by decide) rfl ?_
  intro p e s m args below meth c s₁ B hml hv
  cases hv
  have C : px_C p s m _ meth c cX2_narrow 3 (some .int) RX2 wsX2_narrow := ⟨B.exec, B.bytes, hml, findClass_of_methodNamed B.named, atoms_spec (ws := wsX2_narrow) B.pre, B.returns, B.notSynchronized⟩
  have hl := lv_entry ([.long v0]) (n := 3) (Nat.le_of_ble_eq_true rfl)
  rw [lg_entry_eq]
  generalize (lg_sl ([.long v0]) ++ List.replicate (3 - (lg_sl ([.long v0])).length) Slot.unset).toArray = ls at hl ⊢
  have hl : lv_has ls 3 [(0, .long v0)] := hl
  rw [fX2_narrow]
  rw [okX2_narrow] at hok
  exact wX2_narrow_0 C v0 hok (lv_sub hl [0] rfl)
set_option maxHeartbeats 4000000 in
set_option maxRecDepth 100000 in
theorem wX2_cut_0 {p : Program} {l : Launch} {e : Env} {s : State} {m : MethodId} {args : Array Value} {below : List Frame} {meth : Method} {c : Code} (C : px_C p s m args meth c cX2_cut 5 (some .long) RX2 wsX2_cut) (v0 : Int64) (hok : okX2_cut_0 v0) {ls : Array Slot} (hl : lv_has ls 5 [(0, .long v0)]) : W p l e { frames := 1, cells := 0, slots := 0, locals := 25 } s m args below meth c s.heap [] 0 0 (MQ below (px_Q (.long (fX2_cut_0 v0))) args s 0 0 (fun _ => False)) (F0 m 0 ls []) := by
  obtain ⟨hx, hb, hml, hown, hts, hr, hlocks⟩ := id C
  rw [fX2_cut_0]
  rw [okX2_cut_0] at hok
  refine lv_lload_n hx hb dX2_cut_0 rfl (lv_at hl 0 rfl) ?_
  refine px_S (As := [.long v0]) (rest := []) ⟨hx, hb, hml, hown, hts⟩ (kX2_isZero l v0) (va_cwS 1 hts gX2_cut_X2_isZero rfl rfl rfl (by decide +kernel) ⟨Nat.le_of_ble_eq_true rfl, Nat.le_of_ble_eq_true rfl⟩) rfl hl.1 rfl (Nat.le_of_ble_eq_true rfl) dX2_cut_1 (Nat.zero_le _) (Nat.zero_le _) ?_
  refine px_if_eq (tgt := 9) hx hb dX2_cut_4 (by decide) (fun hc4 => ?_) (fun hc4 => ?_)
  · rw [if_pos hc4]
    have hok := hok.1 hc4
    refine lv_lload_n hx hb dX2_cut_9 rfl (lv_at hl 0 rfl) ?_
    obtain ⟨hk, hok⟩ := hok
    refine px_S (As := [.long v0]) (rest := []) ⟨hx, hb, hml, hown, hts⟩ (kX2_exponent l v0 hk) (va_cwS 1 hts gX2_cut_X2_exponent rfl rfl rfl (by decide +kernel) ⟨Nat.le_of_ble_eq_true rfl, Nat.le_of_ble_eq_true rfl⟩) rfl hl.1 rfl (Nat.le_of_ble_eq_true rfl) dX2_cut_10 (Nat.zero_le _) (Nat.zero_le _) ?_
    refine lv_topi (fun v2_13 ev2_13 => ?_)
    rw [← ev2_13]
    rw [← ev2_13] at hok
    refine lv_istore_n (lv' := [(2, .int v2_13), (0, .long v0)]) hx hb dX2_cut_13 rfl hl (by decide) rfl (fun ls hl => ?_)
    rw [fX2_cut_14]
    rw [okX2_cut_14] at hok
    refine lv_lload_n hx hb dX2_cut_14 rfl (lv_at hl 1 rfl) ?_
    obtain ⟨hk, hok⟩ := hok
    refine px_S (As := [.long v0]) (rest := []) ⟨hx, hb, hml, hown, hts⟩ (kX2_significand l v0 hk) (va_cwS 1 hts gX2_cut_X2_significand rfl rfl rfl (by decide +kernel) ⟨Nat.le_of_ble_eq_true rfl, Nat.le_of_ble_eq_true rfl⟩) rfl hl.1 rfl (Nat.le_of_ble_eq_true rfl) dX2_cut_15 (Nat.zero_le _) (Nat.zero_le _) ?_
    refine lv_topl (fun v3_18 ev3_18 => ?_)
    rw [← ev3_18]
    refine lv_lstore_n (lv' := [(3, .long v3_18), (2, .int v2_13), (0, .long v0)]) hx hb dX2_cut_18 rfl hl (by decide) rfl (fun ls hl => ?_)
    rw [fX2_cut_19]
    refine lv_iload_n hx hb dX2_cut_19 rfl (lv_at hl 1 rfl) ?_
    refine px_if_lt (tgt := 29) hx hb dX2_cut_20 (by decide) (fun hc20 => ?_) (fun hc20 => ?_)
    · rw [if_pos hc20]
      refine lv_iload_n hx hb dX2_cut_29 rfl (lv_at hl 1 rfl) ?_
      refine lv_bipush (v := -52) hx hb dX2_cut_30 (by decide) ?_
      refine px_icmp_ge (tgt := 39) hx hb dX2_cut_32 (by decide) (fun hc32 => ?_) (fun hc32 => ?_)
      · rw [if_pos hc32]
        refine lv_lconst (v := 0) hx hb dX2_cut_35 (by decide) ?_
        refine lv_goto (tgt := 43) hx hb dX2_cut_36 (by decide) ?_
        exact W.lret hx hb hr (fun t ht _ => ⟨rfl, ht⟩) (fun q h => by cases h) dX2_cut_43
      · rw [if_neg hc32]
        refine lv_lload_n hx hb dX2_cut_39 rfl (lv_at hl 0 rfl) ?_
        refine lv_iload_n hx hb dX2_cut_40 rfl (lv_at hl 1 rfl) ?_
        refine lv_ineg hx hb dX2_cut_41 ?_
        refine px_lushr hx hb dX2_cut_42 ?_
        exact W.lret hx hb hr (fun t ht _ => ⟨rfl, ht⟩) (fun q h => by cases h) dX2_cut_43
    · rw [if_neg hc20]
      refine lv_lload_n hx hb dX2_cut_23 rfl (lv_at hl 0 rfl) ?_
      refine lv_iload_n hx hb dX2_cut_24 rfl (lv_at hl 1 rfl) ?_
      refine px_lshl hx hb dX2_cut_25 ?_
      refine lv_goto (tgt := 43) hx hb dX2_cut_26 (by decide) ?_
      exact W.lret hx hb hr (fun t ht _ => ⟨rfl, ht⟩) (fun q h => by cases h) dX2_cut_43
  · rw [if_neg hc4]
    have hok := hok.2 hc4
    refine lv_lconst (v := 0) hx hb dX2_cut_7 (by decide) ?_
    exact W.lret hx hb hr (fun t ht _ => ⟨rfl, ht⟩) (fun q h => by cases h) dX2_cut_8
set_option maxHeartbeats 4000000 in
set_option maxRecDepth 100000 in
theorem kX2_cut (l : Launch) (v0 : Int64) (hok : okX2_cut v0) : px_M l yX2_cut wsX2_cut ({ frames := 1, cells := 0, slots := 0, locals := 25 }) [.long v0] (.long (fX2_cut v0)) := by
  refine Met.ofW (cc := cX2_cut) (maxL := 5) (ret := (some .long)) (by decide) rfl ?_
  intro p e s m args below meth c s₁ B hml hv
  cases hv
  have C : px_C p s m _ meth c cX2_cut 5 (some .long) RX2 wsX2_cut := ⟨B.exec, B.bytes, hml, findClass_of_methodNamed B.named, atoms_spec (ws := wsX2_cut) B.pre, B.returns, B.notSynchronized⟩
  have hl := lv_entry ([.long v0]) (n := 5) (Nat.le_of_ble_eq_true rfl)
  rw [lg_entry_eq]
  generalize (lg_sl ([.long v0]) ++ List.replicate (5 - (lg_sl ([.long v0])).length) Slot.unset).toArray = ls at hl ⊢
  have hl : lv_has ls 5 [(0, .long v0)] := hl
  rw [fX2_cut]
  rw [okX2_cut] at hok
  exact wX2_cut_0 C v0 hok (lv_sub hl [0] rfl)
set_option maxHeartbeats 4000000 in
set_option maxRecDepth 100000 in
theorem wX2_isGreat_0 {p : Program} {l : Launch} {e : Env} {s : State} {m : MethodId} {args : Array Value} {below : List Frame} {meth : Method} {c : Code} (C : px_C p s m args meth c cX2_isGreat 2 (some .boolean) RX2 wsX2_isGreat) (v0 : Int64) (hok : okX2_isGreat_0 v0) {ls : Array Slot} (hl : lv_has ls 2 [(0, .long v0)]) : W p l e { frames := 1, cells := 0, slots := 0, locals := 25 } s m args below meth c s.heap [] 0 0 (MQ below (px_Q (.int (fX2_isGreat_0 v0))) args s 0 0 (fun _ => False)) (F0 m 0 ls []) := by
  obtain ⟨hx, hb, hml, hown, hts, hr, hlocks⟩ := id C
  rw [fX2_isGreat_0]
  rw [okX2_isGreat_0] at hok
  refine lv_lload_n hx hb dX2_isGreat_0 rfl (lv_at hl 0 rfl) ?_
  refine px_S (As := [.long v0]) (rest := []) ⟨hx, hb, hml, hown, hts⟩ (kX2_isInfinite l v0) (va_cwS 1 hts gX2_isGreat_X2_isInfinite rfl rfl rfl (by decide +kernel) ⟨Nat.le_of_ble_eq_true rfl, Nat.le_of_ble_eq_true rfl⟩) rfl hl.1 rfl (Nat.le_of_ble_eq_true rfl) dX2_isGreat_1 (Nat.zero_le _) (Nat.zero_le _) ?_
  refine px_if_ne (tgt := 23) hx hb dX2_isGreat_4 (by decide) (fun hc4 => ?_) (fun hc4 => ?_)
  · rw [if_pos hc4]
    have hok := hok.1 hc4
    refine lv_lload_n hx hb dX2_isGreat_7 rfl (lv_at hl 0 rfl) ?_
    refine px_S (As := [.long v0]) (rest := []) ⟨hx, hb, hml, hown, hts⟩ (kX2_isZero l v0) (va_cwS 1 hts gX2_isGreat_X2_isZero rfl rfl rfl (by decide +kernel) ⟨Nat.le_of_ble_eq_true rfl, Nat.le_of_ble_eq_true rfl⟩) rfl hl.1 rfl (Nat.le_of_ble_eq_true rfl) dX2_isGreat_8 (Nat.zero_le _) (Nat.zero_le _) ?_
    refine px_if_ne (tgt := 27) hx hb dX2_isGreat_11 (by decide) (fun hc11 => ?_) (fun hc11 => ?_)
    · rw [if_pos hc11]
      have hok := hok.1 hc11
      refine lv_lload_n hx hb dX2_isGreat_14 rfl (lv_at hl 0 rfl) ?_
      obtain ⟨hk, hok⟩ := hok
      refine px_S (As := [.long v0]) (rest := []) ⟨hx, hb, hml, hown, hts⟩ (kX2_exponent l v0 hk) (va_cwS 1 hts gX2_isGreat_X2_exponent rfl rfl rfl (by decide +kernel) ⟨Nat.le_of_ble_eq_true rfl, Nat.le_of_ble_eq_true rfl⟩) rfl hl.1 rfl (Nat.le_of_ble_eq_true rfl) dX2_isGreat_15 (Nat.zero_le _) (Nat.zero_le _) ?_
      refine lv_bipush (v := 11) hx hb dX2_isGreat_18 (by decide) ?_
      refine px_icmp_le (tgt := 27) hx hb dX2_isGreat_20 (by decide) (fun hc20 => ?_) (fun hc20 => ?_)
      · rw [if_pos hc20]
        have hok := hok.1 hc20
        refine lv_iconst (v := 1) hx hb dX2_isGreat_23 (by decide) ?_
        refine lv_goto (tgt := 28) hx hb dX2_isGreat_24 (by decide) ?_
        exact W.zret hx hb hr (by decide) (fun t ht _ => ⟨rfl, ht⟩) (fun q h => by cases h) dX2_isGreat_28
      · rw [if_neg hc20]
        have hok := hok.2 hc20
        refine lv_iconst (v := 0) hx hb dX2_isGreat_27 (by decide) ?_
        exact W.zret hx hb hr (by decide) (fun t ht _ => ⟨rfl, ht⟩) (fun q h => by cases h) dX2_isGreat_28
    · rw [if_neg hc11]
      have hok := hok.2 hc11
      refine lv_iconst (v := 0) hx hb dX2_isGreat_27 (by decide) ?_
      exact W.zret hx hb hr (by decide) (fun t ht _ => ⟨rfl, ht⟩) (fun q h => by cases h) dX2_isGreat_28
  · rw [if_neg hc4]
    have hok := hok.2 hc4
    refine lv_iconst (v := 1) hx hb dX2_isGreat_23 (by decide) ?_
    refine lv_goto (tgt := 28) hx hb dX2_isGreat_24 (by decide) ?_
    exact W.zret hx hb hr (by decide) (fun t ht _ => ⟨rfl, ht⟩) (fun q h => by cases h) dX2_isGreat_28
theorem zX2_isGreat_0 (v0 : Int64) : fX2_isGreat_0 v0 = 0 ∨ fX2_isGreat_0 v0 = 1 := by
  unfold fX2_isGreat_0
  (repeat' split) <;> first | exact Or.inl rfl | exact Or.inr rfl | exact zX2_isInfinite _ | exact zX2_isZero _
theorem zX2_isGreat (v0 : Int64) : fX2_isGreat v0 = 0 ∨ fX2_isGreat v0 = 1 := zX2_isGreat_0 _
set_option maxHeartbeats 4000000 in
set_option maxRecDepth 100000 in
theorem kX2_isGreat (l : Launch) (v0 : Int64) (hok : okX2_isGreat v0) : px_M l yX2_isGreat wsX2_isGreat ({ frames := 1, cells := 0, slots := 0, locals := 25 }) [.long v0] (.int (fX2_isGreat v0)) := by
  refine Met.ofW (cc := cX2_isGreat) (maxL := 2) (ret := (some .boolean)) (by decide) rfl ?_
  intro p e s m args below meth c s₁ B hml hv
  cases hv
  have C : px_C p s m _ meth c cX2_isGreat 2 (some .boolean) RX2 wsX2_isGreat := ⟨B.exec, B.bytes, hml, findClass_of_methodNamed B.named, atoms_spec (ws := wsX2_isGreat) B.pre, B.returns, B.notSynchronized⟩
  have hl := lv_entry ([.long v0]) (n := 2) (Nat.le_of_ble_eq_true rfl)
  rw [lg_entry_eq]
  generalize (lg_sl ([.long v0]) ++ List.replicate (2 - (lg_sl ([.long v0])).length) Slot.unset).toArray = ls at hl ⊢
  have hl : lv_has ls 2 [(0, .long v0)] := hl
  rw [fX2_isGreat]
  rw [okX2_isGreat] at hok
  exact wX2_isGreat_0 C v0 hok (lv_sub hl [0] rfl)
