set_option maxHeartbeats 4000000 in
set_option maxRecDepth 100000 in
theorem wX0_roundedDown_57 {p : Program} {l : Launch} {e : Env} {s : State} {m : MethodId} {args : Array Value} {below : List Frame} {meth : Method} {c : Code} (C : px_C p s m args meth c cX0_roundedDown 10 (some .long) RX0 wsX0_roundedDown) (v3 : Int64) (s0 : Int32) {ls : Array Slot} (hl : lv_has ls 10 [(3, .long v3)]) : W p l e { frames := 0, cells := 0, slots := 0, locals := 0 } s m args below meth c s.heap [] 0 0 (MQ below (px_Q (.long (fX0_roundedDown_57 v3 s0))) args s 0 0 (fun _ => False)) (F0 m 57 ls [.int s0]) := by
  obtain ⟨hx, hb, hml, hown, hts, hr, hlocks⟩ := id C
  rw [fX0_roundedDown_57]
  refine lv_istore (lv' := [(9, .int s0), (3, .long v3)]) hx hb dX0_roundedDown_57 hl (by decide) rfl (fun ls hl => ?_)
  refine lv_iload hx hb dX0_roundedDown_59 (lv_at hl 0 rfl) ?_
  refine px_if_eq (tgt := 70) hx hb dX0_roundedDown_61 (by decide) (fun hc61 => ?_) (fun hc61 => ?_)
  · rw [if_pos hc61]
    refine lv_lload_n hx hb dX0_roundedDown_70 rfl (lv_at hl 1 rfl) ?_
    exact W.lret hx hb hr (fun t ht _ => ⟨rfl, ht⟩) (fun q h => by cases h) dX0_roundedDown_71
  · rw [if_neg hc61]
    refine lv_lload_n hx hb dX0_roundedDown_64 rfl (lv_at hl 1 rfl) ?_
    refine lv_lconst (v := 1) hx hb dX0_roundedDown_65 (by decide) ?_
    refine lv_ladd hx hb dX0_roundedDown_66 ?_
    refine lv_goto (tgt := 71) hx hb dX0_roundedDown_67 (by decide) ?_
    exact W.lret hx hb hr (fun t ht _ => ⟨rfl, ht⟩) (fun q h => by cases h) dX0_roundedDown_71
set_option maxHeartbeats 4000000 in
set_option maxRecDepth 100000 in
theorem wX0_roundedDown_52 {p : Program} {l : Launch} {e : Env} {s : State} {m : MethodId} {args : Array Value} {below : List Frame} {meth : Method} {c : Code} (C : px_C p s m args meth c cX0_roundedDown 10 (some .long) RX0 wsX0_roundedDown) (v3 : Int64) {ls : Array Slot} (hl : lv_has ls 10 [(3, .long v3)]) : W p l e { frames := 0, cells := 0, slots := 0, locals := 0 } s m args below meth c s.heap [] 0 0 (MQ below (px_Q (.long (fX0_roundedDown_52 v3))) args s 0 0 (fun _ => False)) (F0 m 52 ls []) := by
  obtain ⟨hx, hb, hml, hown, hts, hr, hlocks⟩ := id C
  rw [fX0_roundedDown_52]
  refine lv_iconst (v := 1) hx hb dX0_roundedDown_52 (by decide) ?_
  refine lv_goto (tgt := 57) hx hb dX0_roundedDown_53 (by decide) ?_
  exact wX0_roundedDown_57 C v3 (1 : Int32) (lv_sub hl [0] rfl)
set_option maxHeartbeats 4000000 in
set_option maxRecDepth 100000 in
theorem wX0_roundedDown_56 {p : Program} {l : Launch} {e : Env} {s : State} {m : MethodId} {args : Array Value} {below : List Frame} {meth : Method} {c : Code} (C : px_C p s m args meth c cX0_roundedDown 10 (some .long) RX0 wsX0_roundedDown) (v3 : Int64) {ls : Array Slot} (hl : lv_has ls 10 [(3, .long v3)]) : W p l e { frames := 0, cells := 0, slots := 0, locals := 0 } s m args below meth c s.heap [] 0 0 (MQ below (px_Q (.long (fX0_roundedDown_56 v3))) args s 0 0 (fun _ => False)) (F0 m 56 ls []) := by
  obtain ⟨hx, hb, hml, hown, hts, hr, hlocks⟩ := id C
  rw [fX0_roundedDown_56]
  refine lv_iconst (v := 0) hx hb dX0_roundedDown_56 (by decide) ?_
  exact wX0_roundedDown_57 C v3 (0 : Int32) (lv_sub hl [0] rfl)
set_option maxHeartbeats 4000000 in
set_option maxRecDepth 100000 in
theorem wX0_roundedDown_0 {p : Program} {l : Launch} {e : Env} {s : State} {m : MethodId} {args : Array Value} {below : List Frame} {meth : Method} {c : Code} (C : px_C p s m args meth c cX0_roundedDown 10 (some .long) RX0 wsX0_roundedDown) (v0 : Int64) (v2 : Int32) {ls : Array Slot} (hl : lv_has ls 10 [(0, .long v0), (2, .int v2)]) : W p l e { frames := 0, cells := 0, slots := 0, locals := 0 } s m args below meth c s.heap [] 0 0 (MQ below (px_Q (.long (fX0_roundedDown_0 v0 v2))) args s 0 0 (fun _ => False)) (F0 m 0 ls []) := by
  obtain ⟨hx, hb, hml, hown, hts, hr, hlocks⟩ := id C
  rw [fX0_roundedDown_0]
  refine lv_iload_n hx hb dX0_roundedDown_0 rfl (lv_at hl 1 rfl) ?_
  refine lv_bipush (v := 63) hx hb dX0_roundedDown_1 (by decide) ?_
  refine px_icmp_le (tgt := 8) hx hb dX0_roundedDown_3 (by decide) (fun hc3 => ?_) (fun hc3 => ?_)
  · rw [if_pos hc3]
    refine lv_lconst (v := 0) hx hb dX0_roundedDown_6 (by decide) ?_
    exact W.lret hx hb hr (fun t ht _ => ⟨rfl, ht⟩) (fun q h => by cases h) dX0_roundedDown_7
  · rw [if_neg hc3]
    refine lv_lload_n hx hb dX0_roundedDown_8 rfl (lv_at hl 0 rfl) ?_
    refine lv_iload_n hx hb dX0_roundedDown_9 rfl (lv_at hl 1 rfl) ?_
    refine px_lushr hx hb dX0_roundedDown_10 ?_
    refine lv_topl (fun v3_11 ev3_11 => ?_)
    rw [← ev3_11]
    refine lv_lstore_n (lv' := [(3, .long v3_11), (0, .long v0), (2, .int v2)]) hx hb dX0_roundedDown_11 rfl hl (by decide) rfl (fun ls hl => ?_)
    rw [fX0_roundedDown_12]
    refine lv_lload_n hx hb dX0_roundedDown_12 rfl (lv_at hl 1 rfl) ?_
    refine lv_lconst (v := 1) hx hb dX0_roundedDown_13 (by decide) ?_
    refine lv_iload_n hx hb dX0_roundedDown_14 rfl (lv_at hl 2 rfl) ?_
    refine px_lshl hx hb dX0_roundedDown_15 ?_
    refine lv_lconst (v := 1) hx hb dX0_roundedDown_16 (by decide) ?_
    refine lv_lsub hx hb dX0_roundedDown_17 ?_
    refine lv_land hx hb dX0_roundedDown_18 ?_
    refine lv_topl (fun v5_19 ev5_19 => ?_)
    rw [← ev5_19]
    refine lv_lstore (lv' := [(5, .long v5_19), (3, .long v3_11), (0, .long v0), (2, .int v2)]) hx hb dX0_roundedDown_19 hl (by decide) rfl (fun ls hl => ?_)
    rw [fX0_roundedDown_21]
    refine lv_lconst (v := 1) hx hb dX0_roundedDown_21 (by decide) ?_
    refine lv_iload_n hx hb dX0_roundedDown_22 rfl (lv_at hl 3 rfl) ?_
    refine lv_iconst (v := 1) hx hb dX0_roundedDown_23 (by decide) ?_
    refine lv_isub hx hb dX0_roundedDown_24 ?_
    refine px_lshl hx hb dX0_roundedDown_25 ?_
    refine lv_topl (fun v7_26 ev7_26 => ?_)
    rw [← ev7_26]
    refine lv_lstore (lv' := [(7, .long v7_26), (5, .long v5_19), (3, .long v3_11), (0, .long v0), (2, .int v2)]) hx hb dX0_roundedDown_26 hl (by decide) rfl (fun ls hl => ?_)
    rw [fX0_roundedDown_28]
    refine lv_lload hx hb dX0_roundedDown_28 (lv_at hl 1 rfl) ?_
    refine lv_lload hx hb dX0_roundedDown_30 (lv_at hl 0 rfl) ?_
    refine px_lcmp_gt (tgt := 52) hx hb dX0_roundedDown_32 dX0_roundedDown_33 (by decide) (fun hc32 => ?_) (fun hc32 => ?_)
    · rw [if_pos hc32]
      exact wX0_roundedDown_52 C v3_11 (lv_sub hl [2] rfl)
    · rw [if_neg hc32]
      refine lv_lload hx hb dX0_roundedDown_36 (lv_at hl 1 rfl) ?_
      refine lv_lload hx hb dX0_roundedDown_38 (lv_at hl 0 rfl) ?_
      refine px_lcmp_ne (tgt := 56) hx hb dX0_roundedDown_40 dX0_roundedDown_41 (by decide) (fun hc40 => ?_) (fun hc40 => ?_)
      · rw [if_pos hc40]
        refine lv_lload_n hx hb dX0_roundedDown_44 rfl (lv_at hl 2 rfl) ?_
        refine lv_lconst (v := 1) hx hb dX0_roundedDown_45 (by decide) ?_
        refine lv_land hx hb dX0_roundedDown_46 ?_
        refine lv_lconst (v := 1) hx hb dX0_roundedDown_47 (by decide) ?_
        refine px_lcmp_ne (tgt := 56) hx hb dX0_roundedDown_48 dX0_roundedDown_49 (by decide) (fun hc48 => ?_) (fun hc48 => ?_)
        · rw [if_pos hc48]
          exact wX0_roundedDown_52 C v3_11 (lv_sub hl [2] rfl)
        · rw [if_neg hc48]
          exact wX0_roundedDown_56 C v3_11 (lv_sub hl [2] rfl)
      · rw [if_neg hc40]
        exact wX0_roundedDown_56 C v3_11 (lv_sub hl [2] rfl)
set_option maxHeartbeats 4000000 in
set_option maxRecDepth 100000 in
theorem kX0_roundedDown (l : Launch) (v0 : Int64) (v2 : Int32) : px_M l yX0_roundedDown wsX0_roundedDown ({ frames := 0, cells := 0, slots := 0, locals := 0 }) [.long v0, .int v2] (.long (fX0_roundedDown v0 v2)) := by
  refine Met.ofW (cc := cX0_roundedDown) (maxL := 10) (ret := (some .long)) (by decide) rfl ?_
  intro p e s m args below meth c s₁ B hml hv
  cases hv
  have C : px_C p s m _ meth c cX0_roundedDown 10 (some .long) RX0 wsX0_roundedDown := ⟨B.exec, B.bytes, hml, findClass_of_methodNamed B.named, atoms_spec (ws := wsX0_roundedDown) B.pre, B.returns, B.notSynchronized⟩
  have hl := lv_entry ([.long v0, .int v2]) (n := 10) (Nat.le_of_ble_eq_true rfl)
  rw [lg_entry_eq]
  generalize (lg_sl ([.long v0, .int v2]) ++ List.replicate (10 - (lg_sl ([.long v0, .int v2])).length) Slot.unset).toArray = ls at hl ⊢
  have hl : lv_has ls 10 [(0, .long v0), (2, .int v2)] := hl
  rw [fX0_roundedDown]
  exact wX0_roundedDown_0 C v0 v2 (lv_sub hl [0, 1] rfl)
set_option maxHeartbeats 4000000 in
set_option maxRecDepth 100000 in
theorem wX0_nearest_79 {p : Program} {l : Launch} {e : Env} {s : State} {m : MethodId} {args : Array Value} {below : List Frame} {meth : Method} {c : Code} (C : px_C p s m args meth c cX0_nearest 10 (some .long) RX0 wsX0_nearest) (v0 : Int32) (v1 : Int32) (v2 : Int64) (v5 : Int32) (v6 : Int32) (v7 : Int32) {ls : Array Slot} (hl : lv_has ls 10 [(0, .int v0), (1, .int v1), (2, .long v2), (5, .int v5), (6, .int v6), (7, .int v7)]) : W p l e { frames := 2, cells := 0, slots := 0, locals := 43 } s m args below meth c s.heap [] 0 0 (MQ below (px_Q (.long (fX0_nearest_79 v0 v1 v2 v5 v6 v7))) args s 0 0 (fun _ => False)) (F0 m 79 ls []) := by
  obtain ⟨hx, hb, hml, hown, hts, hr, hlocks⟩ := id C
  rw [fX0_nearest_79]
  refine lv_lload_n hx hb dX0_nearest_79 rfl (lv_at hl 2 rfl) ?_
  refine lv_iload hx hb dX0_nearest_80 (lv_at hl 3 rfl) ?_
  refine px_lshl hx hb dX0_nearest_82 ?_
  refine lv_iload hx hb dX0_nearest_83 (lv_at hl 4 rfl) ?_
  refine px_S (As := [.long (jshl v2 v5), .int v6]) (rest := []) ⟨hx, hb, hml, hown, hts⟩ (kX0_roundedDown l (jshl v2 v5) v6) (va_cwS 2 hts gX0_nearest_X0_roundedDown rfl rfl rfl (by decide +kernel) ⟨Nat.le_of_ble_eq_true rfl, Nat.le_of_ble_eq_true rfl⟩) rfl hl.1 rfl (Nat.le_of_ble_eq_true rfl) dX0_nearest_85 (Nat.zero_le _) (Nat.zero_le _) ?_
  refine lv_topl (fun v8_88 ev8_88 => ?_)
  rw [← ev8_88]
  refine lv_lstore (lv' := [(8, .long v8_88), (0, .int v0), (1, .int v1), (2, .long v2), (5, .int v5), (6, .int v6), (7, .int v7)]) hx hb dX0_nearest_88 hl (by decide) rfl (fun ls hl => ?_)
  rw [fX0_nearest_90]
  refine lv_iload_n hx hb dX0_nearest_90 rfl (lv_at hl 1 rfl) ?_
  refine lv_iload_n hx hb dX0_nearest_91 rfl (lv_at hl 2 rfl) ?_
  refine lv_iload hx hb dX0_nearest_92 (lv_at hl 6 rfl) ?_
  refine px_i2l hx hb dX0_nearest_94 ?_
  refine lv_iload_n hx hb dX0_nearest_95 rfl (lv_at hl 1 rfl) ?_
  refine px_S (As := [.int v0]) (rest := [.long (v7.toInt64), .int v1, .int v0]) ⟨hx, hb, hml, hown, hts⟩ (kX0_fractionBits l v0) (va_cwS 1 hts gX0_nearest_X0_fractionBits rfl rfl rfl (by decide +kernel) ⟨Nat.le_of_ble_eq_true rfl, Nat.le_of_ble_eq_true rfl⟩) rfl hl.1 rfl (Nat.le_of_ble_eq_true rfl) dX0_nearest_96 (Nat.zero_le _) (Nat.zero_le _) ?_
  refine px_lshl hx hb dX0_nearest_99 ?_
  refine lv_lload hx hb dX0_nearest_100 (lv_at hl 0 rfl) ?_
  refine lv_ladd hx hb dX0_nearest_102 ?_
  refine px_S (As := [.int v0, .int v1, .long ((jshl (v7.toInt64) (fX0_fractionBits v0)) + v8_88)]) (rest := []) ⟨hx, hb, hml, hown, hts⟩ (kX0_signed l v0 v1 ((jshl (v7.toInt64) (fX0_fractionBits v0)) + v8_88)) (va_cwS 3 hts gX0_nearest_X0_signed rfl rfl rfl (by decide +kernel) ⟨Nat.le_of_ble_eq_true rfl, Nat.le_of_ble_eq_true rfl⟩) rfl hl.1 rfl (Nat.le_of_ble_eq_true rfl) dX0_nearest_103 (Nat.zero_le _) (Nat.zero_le _) ?_
  exact W.lret hx hb hr (fun t ht _ => ⟨rfl, ht⟩) (fun q h => by cases h) dX0_nearest_106
set_option maxHeartbeats 4000000 in
set_option maxRecDepth 100000 in
theorem wX0_nearest_0 {p : Program} {l : Launch} {e : Env} {s : State} {m : MethodId} {args : Array Value} {below : List Frame} {meth : Method} {c : Code} (C : px_C p s m args meth c cX0_nearest 10 (some .long) RX0 wsX0_nearest) (v0 : Int32) (v1 : Int32) (v2 : Int64) (v4 : Int32) {ls : Array Slot} (hl : lv_has ls 10 [(0, .int v0), (1, .int v1), (2, .long v2), (4, .int v4)]) : W p l e { frames := 2, cells := 0, slots := 0, locals := 43 } s m args below meth c s.heap [] 0 0 (MQ below (px_Q (.long (fX0_nearest_0 v0 v1 v2 v4))) args s 0 0 (fun _ => False)) (F0 m 0 ls []) := by
  obtain ⟨hx, hb, hml, hown, hts, hr, hlocks⟩ := id C
  rw [fX0_nearest_0]
  refine lv_lload_n hx hb dX0_nearest_0 rfl (lv_at hl 2 rfl) ?_
  refine lv_lconst (v := 0) hx hb dX0_nearest_1 (by decide) ?_
  refine px_lcmp_ne (tgt := 13) hx hb dX0_nearest_2 dX0_nearest_3 (by decide) (fun hc2 => ?_) (fun hc2 => ?_)
  · rw [if_pos hc2]
    refine lv_iload_n hx hb dX0_nearest_6 rfl (lv_at hl 0 rfl) ?_
    refine lv_iload_n hx hb dX0_nearest_7 rfl (lv_at hl 1 rfl) ?_
    refine lv_lconst (v := 0) hx hb dX0_nearest_8 (by decide) ?_
    refine px_S (As := [.int v0, .int v1, .long (0 : Int64)]) (rest := []) ⟨hx, hb, hml, hown, hts⟩ (kX0_signed l v0 v1 (0 : Int64)) (va_cwS 3 hts gX0_nearest_X0_signed rfl rfl rfl (by decide +kernel) ⟨Nat.le_of_ble_eq_true rfl, Nat.le_of_ble_eq_true rfl⟩) rfl hl.1 rfl (Nat.le_of_ble_eq_true rfl) dX0_nearest_9 (Nat.zero_le _) (Nat.zero_le _) ?_
    exact W.lret hx hb hr (fun t ht _ => ⟨rfl, ht⟩) (fun q h => by cases h) dX0_nearest_12
  · rw [if_neg hc2]
    refine lv_bipush (v := 62) hx hb dX0_nearest_13 (by decide) ?_
    refine lv_lload_n hx hb dX0_nearest_15 rfl (lv_at hl 2 rfl) ?_
    refine px_S (As := [.int (62 : Int32), .long v2]) (rest := []) ⟨hx, hb, hml, hown, hts⟩ (kX0_roomBelow l (62 : Int32) v2 (okX0_roomBelow_all (62 : Int32) v2)) (va_cwS 2 hts gX0_nearest_X0_roomBelow rfl rfl rfl (by decide +kernel) ⟨Nat.le_of_ble_eq_true rfl, Nat.le_of_ble_eq_true rfl⟩) rfl hl.1 rfl (Nat.le_of_ble_eq_true rfl) dX0_nearest_16 (Nat.zero_le _) (Nat.zero_le _) ?_
    refine lv_topi (fun v5_19 ev5_19 => ?_)
    rw [← ev5_19]
    refine lv_istore (lv' := [(5, .int v5_19), (0, .int v0), (1, .int v1), (2, .long v2), (4, .int v4)]) hx hb dX0_nearest_19 hl (by decide) rfl (fun ls hl => ?_)
    rw [fX0_nearest_21]
    refine lv_bipush (v := 62) hx hb dX0_nearest_21 (by decide) ?_
    refine lv_iload_n hx hb dX0_nearest_23 rfl (lv_at hl 1 rfl) ?_
    refine px_S (As := [.int v0]) (rest := [.int (62 : Int32)]) ⟨hx, hb, hml, hown, hts⟩ (kX0_fractionBits l v0) (va_cwS 1 hts gX0_nearest_X0_fractionBits rfl rfl rfl (by decide +kernel) ⟨Nat.le_of_ble_eq_true rfl, Nat.le_of_ble_eq_true rfl⟩) rfl hl.1 rfl (Nat.le_of_ble_eq_true rfl) dX0_nearest_24 (Nat.zero_le _) (Nat.zero_le _) ?_
    refine lv_isub hx hb dX0_nearest_27 ?_
    refine lv_topi (fun v6_28 ev6_28 => ?_)
    rw [← ev6_28]
    refine lv_istore (lv' := [(6, .int v6_28), (5, .int v5_19), (0, .int v0), (1, .int v1), (2, .long v2), (4, .int v4)]) hx hb dX0_nearest_28 hl (by decide) rfl (fun ls hl => ?_)
    rw [fX0_nearest_30]
    refine lv_iload hx hb dX0_nearest_30 (lv_at hl 5 rfl) ?_
    refine lv_iload hx hb dX0_nearest_32 (lv_at hl 1 rfl) ?_
    refine lv_isub hx hb dX0_nearest_34 ?_
    refine lv_iload hx hb dX0_nearest_35 (lv_at hl 0 rfl) ?_
    refine lv_iadd hx hb dX0_nearest_37 ?_
    refine lv_iload_n hx hb dX0_nearest_38 rfl (lv_at hl 2 rfl) ?_
    refine px_S (As := [.int v0]) (rest := [.int ((v4 - v5_19) + v6_28)]) ⟨hx, hb, hml, hown, hts⟩ (kX0_leastExponent l v0) (va_cwS 1 hts gX0_nearest_X0_leastExponent rfl rfl rfl (by decide +kernel) ⟨Nat.le_of_ble_eq_true rfl, Nat.le_of_ble_eq_true rfl⟩) rfl hl.1 rfl (Nat.le_of_ble_eq_true rfl) dX0_nearest_39 (Nat.zero_le _) (Nat.zero_le _) ?_
    refine lv_isub hx hb dX0_nearest_42 ?_
    refine lv_topi (fun v7_43 ev7_43 => ?_)
    rw [← ev7_43]
    refine lv_istore (lv' := [(7, .int v7_43), (6, .int v6_28), (5, .int v5_19), (0, .int v0), (1, .int v1), (2, .long v2), (4, .int v4)]) hx hb dX0_nearest_43 hl (by decide) rfl (fun ls hl => ?_)
    rw [fX0_nearest_45]
    refine lv_iload hx hb dX0_nearest_45 (lv_at hl 0 rfl) ?_
    refine lv_iload_n hx hb dX0_nearest_47 rfl (lv_at hl 3 rfl) ?_
    refine px_S (As := [.int v0]) (rest := [.int v7_43]) ⟨hx, hb, hml, hown, hts⟩ (kX0_greatestAbove l v0) (va_cwS 1 hts gX0_nearest_X0_greatestAbove rfl rfl rfl (by decide +kernel) ⟨Nat.le_of_ble_eq_true rfl, Nat.le_of_ble_eq_true rfl⟩) rfl hl.1 rfl (Nat.le_of_ble_eq_true rfl) dX0_nearest_48 (Nat.zero_le _) (Nat.zero_le _) ?_
    refine px_icmp_le (tgt := 64) hx hb dX0_nearest_51 (by decide) (fun hc51 => ?_) (fun hc51 => ?_)
    · rw [if_pos hc51]
      refine lv_iload_n hx hb dX0_nearest_54 rfl (lv_at hl 3 rfl) ?_
      refine lv_iload_n hx hb dX0_nearest_55 rfl (lv_at hl 4 rfl) ?_
      refine lv_iload_n hx hb dX0_nearest_56 rfl (lv_at hl 3 rfl) ?_
      refine px_S (As := [.int v0]) (rest := [.int v1, .int v0]) ⟨hx, hb, hml, hown, hts⟩ (kX0_infinity l v0) (va_cwS 1 hts gX0_nearest_X0_infinity rfl rfl rfl (by decide +kernel) ⟨Nat.le_of_ble_eq_true rfl, Nat.le_of_ble_eq_true rfl⟩) rfl hl.1 rfl (Nat.le_of_ble_eq_true rfl) dX0_nearest_57 (Nat.zero_le _) (Nat.zero_le _) ?_
      refine px_S (As := [.int v0, .int v1, .long (fX0_infinity v0)]) (rest := []) ⟨hx, hb, hml, hown, hts⟩ (kX0_signed l v0 v1 (fX0_infinity v0)) (va_cwS 3 hts gX0_nearest_X0_signed rfl rfl rfl (by decide +kernel) ⟨Nat.le_of_ble_eq_true rfl, Nat.le_of_ble_eq_true rfl⟩) rfl hl.1 rfl (Nat.le_of_ble_eq_true rfl) dX0_nearest_60 (Nat.zero_le _) (Nat.zero_le _) ?_
      exact W.lret hx hb hr (fun t ht _ => ⟨rfl, ht⟩) (fun q h => by cases h) dX0_nearest_63
    · rw [if_neg hc51]
      refine lv_iload hx hb dX0_nearest_64 (lv_at hl 0 rfl) ?_
      refine px_if_ge (tgt := 79) hx hb dX0_nearest_66 (by decide) (fun hc66 => ?_) (fun hc66 => ?_)
      · rw [if_pos hc66]
        refine lv_iload hx hb dX0_nearest_69 (lv_at hl 1 rfl) ?_
        refine lv_iload hx hb dX0_nearest_71 (lv_at hl 0 rfl) ?_
        refine lv_isub hx hb dX0_nearest_73 ?_
        refine lv_topi (fun v6_74 ev6_74 => ?_)
        rw [← ev6_74]
        refine lv_istore (lv' := [(6, .int v6_74), (7, .int v7_43), (5, .int v5_19), (0, .int v0), (1, .int v1), (2, .long v2), (4, .int v4)]) hx hb dX0_nearest_74 hl (by decide) rfl (fun ls hl => ?_)
        rw [fX0_nearest_76]
        refine lv_iconst (v := 0) hx hb dX0_nearest_76 (by decide) ?_
        refine lv_istore (lv' := [(7, .int (0 : Int32)), (6, .int v6_74), (5, .int v5_19), (0, .int v0), (1, .int v1), (2, .long v2), (4, .int v4)]) hx hb dX0_nearest_77 hl (by decide) rfl (fun ls hl => ?_)
        exact wX0_nearest_79 C v0 v1 v2 v5_19 v6_74 (0 : Int32) (lv_sub hl [3, 4, 5, 2, 1, 0] rfl)
      · rw [if_neg hc66]
        exact wX0_nearest_79 C v0 v1 v2 v5_19 v6_28 v7_43 (lv_sub hl [3, 4, 5, 2, 1, 0] rfl)
set_option maxHeartbeats 4000000 in
set_option maxRecDepth 100000 in
theorem kX0_nearest (l : Launch) (v0 : Int32) (v1 : Int32) (v2 : Int64) (v4 : Int32) : px_M l yX0_nearest wsX0_nearest ({ frames := 2, cells := 0, slots := 0, locals := 43 }) [.int v0, .int v1, .long v2, .int v4] (.long (fX0_nearest v0 v1 v2 v4)) := by
  refine Met.ofW (cc := cX0_nearest) (maxL := 10) (ret := (some .long)) (by decide) rfl ?_
  intro p e s m args below meth c s₁ B hml hv
  cases hv
  have C : px_C p s m _ meth c cX0_nearest 10 (some .long) RX0 wsX0_nearest := ⟨B.exec, B.bytes, hml, findClass_of_methodNamed B.named, atoms_spec (ws := wsX0_nearest) B.pre, B.returns, B.notSynchronized⟩
  have hl := lv_entry ([.int v0, .int v1, .long v2, .int v4]) (n := 10) (Nat.le_of_ble_eq_true rfl)
  rw [lg_entry_eq]
  generalize (lg_sl ([.int v0, .int v1, .long v2, .int v4]) ++ List.replicate (10 - (lg_sl ([.int v0, .int v1, .long v2, .int v4])).length) Slot.unset).toArray = ls at hl ⊢
  have hl : lv_has ls 10 [(0, .int v0), (1, .int v1), (2, .long v2), (4, .int v4)] := hl
  rw [fX0_nearest]
  exact wX0_nearest_0 C v0 v1 v2 v4 (lv_sub hl [0, 1, 2, 3] rfl)
set_option maxHeartbeats 4000000 in
set_option maxRecDepth 100000 in
theorem wX0_ofWhole_30 {p : Program} {l : Launch} {e : Env} {s : State} {m : MethodId} {args : Array Value} {below : List Frame} {meth : Method} {c : Code} (C : px_C p s m args meth c cX0_ofWhole 3 (some .long) RX0 wsX0_ofWhole) (v1 : Int64) (s0 : Int32) (s1 : Int32) {ls : Array Slot} (hl : lv_has ls 3 [(1, .long v1)]) : W p l e { frames := 3, cells := 0, slots := 0, locals := 72 } s m args below meth c s.heap [] 0 0 (MQ below (px_Q (.long (fX0_ofWhole_30 v1 s0 s1))) args s 0 0 (fun _ => False)) (F0 m 30 ls [.int s1, .int s0]) := by
  obtain ⟨hx, hb, hml, hown, hts, hr, hlocks⟩ := id C
  rw [fX0_ofWhole_30]
  refine lv_lload_n hx hb dX0_ofWhole_30 rfl (lv_at hl 0 rfl) ?_
  refine px_mabsl hx hb (hml.trans hl.1.symm) hown (hts (.methodLink RX0 57 Lib.MathLoose.abs_long.x) (by decide +kernel)) (hts (.static Lib.MathLoose.abs_long.x) (by decide +kernel)) (hts (.initialized "java/lang/Math") (by decide +kernel)) (hts (.code Lib.MathLoose.abs_long.x Lib.MathLoose.abs_long.code 2 (some .long)) (by decide +kernel)) (Nat.le_of_ble_eq_true rfl) (Nat.le_of_ble_eq_true rfl) (Nat.zero_le _) (Nat.zero_le _) dX0_ofWhole_31 ?_
  refine lv_iconst (v := 0) hx hb dX0_ofWhole_34 (by decide) ?_
  refine px_S (As := [.int s0, .int s1, .long (jabs v1), .int (0 : Int32)]) (rest := []) ⟨hx, hb, hml, hown, hts⟩ (kX0_nearest l s0 s1 (jabs v1) (0 : Int32)) (va_cwS 4 hts gX0_ofWhole_X0_nearest rfl rfl rfl (by decide +kernel) ⟨Nat.le_of_ble_eq_true rfl, Nat.le_of_ble_eq_true rfl⟩) rfl hl.1 rfl (Nat.le_of_ble_eq_true rfl) dX0_ofWhole_35 (Nat.zero_le _) (Nat.zero_le _) ?_
  exact W.lret hx hb hr (fun t ht _ => ⟨rfl, ht⟩) (fun q h => by cases h) dX0_ofWhole_38
set_option maxHeartbeats 4000000 in
set_option maxRecDepth 100000 in
theorem wX0_ofWhole_0 {p : Program} {l : Launch} {e : Env} {s : State} {m : MethodId} {args : Array Value} {below : List Frame} {meth : Method} {c : Code} (C : px_C p s m args meth c cX0_ofWhole 3 (some .long) RX0 wsX0_ofWhole) (v0 : Int32) (v1 : Int64) {ls : Array Slot} (hl : lv_has ls 3 [(0, .int v0), (1, .long v1)]) : W p l e { frames := 3, cells := 0, slots := 0, locals := 72 } s m args below meth c s.heap [] 0 0 (MQ below (px_Q (.long (fX0_ofWhole_0 v0 v1))) args s 0 0 (fun _ => False)) (F0 m 0 ls []) := by
  obtain ⟨hx, hb, hml, hown, hts, hr, hlocks⟩ := id C
  rw [fX0_ofWhole_0]
  refine lv_lload_n hx hb dX0_ofWhole_0 rfl (lv_at hl 1 rfl) ?_
  refine lv_ldc2 hx hb hown (hts (.constantLong RX0 23 (-9223372036854775808)) (by decide +kernel)) dX0_ofWhole_1 ?_
  refine px_lcmp_ne (tgt := 18) hx hb dX0_ofWhole_4 dX0_ofWhole_5 (by decide) (fun hc4 => ?_) (fun hc4 => ?_)
  · rw [if_pos hc4]
    refine lv_iload_n hx hb dX0_ofWhole_8 rfl (lv_at hl 0 rfl) ?_
    refine lv_iconst (v := 1) hx hb dX0_ofWhole_9 (by decide) ?_
    refine lv_ldc2 hx hb hown (hts (.constantLong RX0 51 (4611686018427387904)) (by decide +kernel)) dX0_ofWhole_10 ?_
    refine lv_iconst (v := 1) hx hb dX0_ofWhole_13 (by decide) ?_
    refine px_S (As := [.int v0, .int (1 : Int32), .long (4611686018427387904 : Int64), .int (1 : Int32)]) (rest := []) ⟨hx, hb, hml, hown, hts⟩ (kX0_nearest l v0 (1 : Int32) (4611686018427387904 : Int64) (1 : Int32)) (va_cwS 4 hts gX0_ofWhole_X0_nearest rfl rfl rfl (by decide +kernel) ⟨Nat.le_of_ble_eq_true rfl, Nat.le_of_ble_eq_true rfl⟩) rfl hl.1 rfl (Nat.le_of_ble_eq_true rfl) dX0_ofWhole_14 (Nat.zero_le _) (Nat.zero_le _) ?_
    exact W.lret hx hb hr (fun t ht _ => ⟨rfl, ht⟩) (fun q h => by cases h) dX0_ofWhole_17
  · rw [if_neg hc4]
    refine lv_iload_n hx hb dX0_ofWhole_18 rfl (lv_at hl 0 rfl) ?_
    refine lv_lload_n hx hb dX0_ofWhole_19 rfl (lv_at hl 1 rfl) ?_
    refine lv_lconst (v := 0) hx hb dX0_ofWhole_20 (by decide) ?_
    refine px_lcmp_ge (tgt := 29) hx hb dX0_ofWhole_21 dX0_ofWhole_22 (by decide) (fun hc21 => ?_) (fun hc21 => ?_)
    · rw [if_pos hc21]
      refine lv_iconst (v := 1) hx hb dX0_ofWhole_25 (by decide) ?_
      refine lv_goto (tgt := 30) hx hb dX0_ofWhole_26 (by decide) ?_
      exact wX0_ofWhole_30 C v1 v0 (1 : Int32) (lv_sub hl [1] rfl)
    · rw [if_neg hc21]
      refine lv_iconst (v := 0) hx hb dX0_ofWhole_29 (by decide) ?_
      exact wX0_ofWhole_30 C v1 v0 (0 : Int32) (lv_sub hl [1] rfl)
set_option maxHeartbeats 4000000 in
set_option maxRecDepth 100000 in
theorem kX0_ofWhole (l : Launch) (v0 : Int32) (v1 : Int64) : px_M l yX0_ofWhole wsX0_ofWhole ({ frames := 3, cells := 0, slots := 0, locals := 72 }) [.int v0, .long v1] (.long (fX0_ofWhole v0 v1)) := by
  refine Met.ofW (cc := cX0_ofWhole) (maxL := 3) (ret := (some .long)) (by decide) rfl ?_
  intro p e s m args below meth c s₁ B hml hv
  cases hv
  have C : px_C p s m _ meth c cX0_ofWhole 3 (some .long) RX0 wsX0_ofWhole := ⟨B.exec, B.bytes, hml, findClass_of_methodNamed B.named, atoms_spec (ws := wsX0_ofWhole) B.pre, B.returns, B.notSynchronized⟩
  have hl := lv_entry ([.int v0, .long v1]) (n := 3) (Nat.le_of_ble_eq_true rfl)
  rw [lg_entry_eq]
  generalize (lg_sl ([.int v0, .long v1]) ++ List.replicate (3 - (lg_sl ([.int v0, .long v1])).length) Slot.unset).toArray = ls at hl ⊢
  have hl : lv_has ls 3 [(0, .int v0), (1, .long v1)] := hl
  rw [fX0_ofWhole]
  exact wX0_ofWhole_0 C v0 v1 (lv_sub hl [0, 1] rfl)
set_option maxHeartbeats 4000000 in
set_option maxRecDepth 100000 in
theorem wX0_ofReal_0 {p : Program} {l : Launch} {e : Env} {s : State} {m : MethodId} {args : Array Value} {below : List Frame} {meth : Method} {c : Code} (C : px_C p s m args meth c cX0_ofReal 5 (some .long) RX0 wsX0_ofReal) (v0 : Int32) (v1 : Int32) (v2 : Int64) {ls : Array Slot} (hl : lv_has ls 5 [(0, .int v0), (1, .int v1), (2, .long v2)]) : W p l e { frames := 3, cells := 0, slots := 0, locals := 72 } s m args below meth c s.heap [] 0 0 (MQ below (px_Q (.long (fX0_ofReal_0 v0 v1 v2))) args s 0 0 (fun _ => False)) (F0 m 0 ls []) := by
  obtain ⟨hx, hb, hml, hown, hts, hr, hlocks⟩ := id C
  rw [fX0_ofReal_0]
  refine lv_iload_n hx hb dX0_ofReal_0 rfl (lv_at hl 1 rfl) ?_
  refine lv_lload_n hx hb dX0_ofReal_1 rfl (lv_at hl 2 rfl) ?_
  refine px_S (As := [.int v1, .long v2]) (rest := []) ⟨hx, hb, hml, hown, hts⟩ (kX0_isNegative l v1 v2) (va_cwS 2 hts gX0_ofReal_X0_isNegative rfl rfl rfl (by decide +kernel) ⟨Nat.le_of_ble_eq_true rfl, Nat.le_of_ble_eq_true rfl⟩) rfl hl.1 rfl (Nat.le_of_ble_eq_true rfl) dX0_ofReal_2 (Nat.zero_le _) (Nat.zero_le _) ?_
  refine lv_topi (fun v4_5 ev4_5 => ?_)
  rw [← ev4_5]
  refine lv_istore (lv' := [(4, .int v4_5), (0, .int v0), (1, .int v1), (2, .long v2)]) hx hb dX0_ofReal_5 hl (by decide) rfl (fun ls hl => ?_)
  rw [fX0_ofReal_7]
  refine lv_iload_n hx hb dX0_ofReal_7 rfl (lv_at hl 2 rfl) ?_
  refine lv_lload_n hx hb dX0_ofReal_8 rfl (lv_at hl 3 rfl) ?_
  refine px_S (As := [.int v1, .long v2]) (rest := []) ⟨hx, hb, hml, hown, hts⟩ (kX0_isInfinite l v1 v2) (va_cwS 2 hts gX0_ofReal_X0_isInfinite rfl rfl rfl (by decide +kernel) ⟨Nat.le_of_ble_eq_true rfl, Nat.le_of_ble_eq_true rfl⟩) rfl hl.1 rfl (Nat.le_of_ble_eq_true rfl) dX0_ofReal_9 (Nat.zero_le _) (Nat.zero_le _) ?_
  refine px_if_eq (tgt := 26) hx hb dX0_ofReal_12 (by decide) (fun hc12 => ?_) (fun hc12 => ?_)
  · rw [if_pos hc12]
    refine lv_iload_n hx hb dX0_ofReal_26 rfl (lv_at hl 1 rfl) ?_
    refine lv_iload hx hb dX0_ofReal_27 (lv_at hl 0 rfl) ?_
    refine lv_iload_n hx hb dX0_ofReal_29 rfl (lv_at hl 2 rfl) ?_
    refine lv_lload_n hx hb dX0_ofReal_30 rfl (lv_at hl 3 rfl) ?_
    refine px_S (As := [.int v1, .long v2]) (rest := [.int v4_5, .int v0]) ⟨hx, hb, hml, hown, hts⟩ (kX0_magnitude l v1 v2) (va_cwS 2 hts gX0_ofReal_X0_magnitude rfl rfl rfl (by decide +kernel) ⟨Nat.le_of_ble_eq_true rfl, Nat.le_of_ble_eq_true rfl⟩) rfl hl.1 rfl (Nat.le_of_ble_eq_true rfl) dX0_ofReal_31 (Nat.zero_le _) (Nat.zero_le _) ?_
    refine lv_iload_n hx hb dX0_ofReal_34 rfl (lv_at hl 2 rfl) ?_
    refine lv_lload_n hx hb dX0_ofReal_35 rfl (lv_at hl 3 rfl) ?_
    refine px_S (As := [.int v1, .long v2]) (rest := [.long (fX0_magnitude v1 v2), .int v4_5, .int v0]) ⟨hx, hb, hml, hown, hts⟩ (kX0_exponent l v1 v2) (va_cwS 2 hts gX0_ofReal_X0_exponent rfl rfl rfl (by decide +kernel) ⟨Nat.le_of_ble_eq_true rfl, Nat.le_of_ble_eq_true rfl⟩) rfl hl.1 rfl (Nat.le_of_ble_eq_true rfl) dX0_ofReal_36 (Nat.zero_le _) (Nat.zero_le _) ?_
    refine px_S (As := [.int v0, .int v4_5, .long (fX0_magnitude v1 v2), .int (fX0_exponent v1 v2)]) (rest := []) ⟨hx, hb, hml, hown, hts⟩ (kX0_nearest l v0 v4_5 (fX0_magnitude v1 v2) (fX0_exponent v1 v2)) (va_cwS 4 hts gX0_ofReal_X0_nearest rfl rfl rfl (by decide +kernel) ⟨Nat.le_of_ble_eq_true rfl, Nat.le_of_ble_eq_true rfl⟩) rfl hl.1 rfl (Nat.le_of_ble_eq_true rfl) dX0_ofReal_39 (Nat.zero_le _) (Nat.zero_le _) ?_
    exact W.lret hx hb hr (fun t ht _ => ⟨rfl, ht⟩) (fun q h => by cases h) dX0_ofReal_42
  · rw [if_neg hc12]
    refine lv_iload_n hx hb dX0_ofReal_15 rfl (lv_at hl 1 rfl) ?_
    refine lv_iload hx hb dX0_ofReal_16 (lv_at hl 0 rfl) ?_
    refine lv_iload_n hx hb dX0_ofReal_18 rfl (lv_at hl 1 rfl) ?_
    refine px_S (As := [.int v0]) (rest := [.int v4_5, .int v0]) ⟨hx, hb, hml, hown, hts⟩ (kX0_infinity l v0) (va_cwS 1 hts gX0_ofReal_X0_infinity rfl rfl rfl (by decide +kernel) ⟨Nat.le_of_ble_eq_true rfl, Nat.le_of_ble_eq_true rfl⟩) rfl hl.1 rfl (Nat.le_of_ble_eq_true rfl) dX0_ofReal_19 (Nat.zero_le _) (Nat.zero_le _) ?_
    refine px_S (As := [.int v0, .int v4_5, .long (fX0_infinity v0)]) (rest := []) ⟨hx, hb, hml, hown, hts⟩ (kX0_signed l v0 v4_5 (fX0_infinity v0)) (va_cwS 3 hts gX0_ofReal_X0_signed rfl rfl rfl (by decide +kernel) ⟨Nat.le_of_ble_eq_true rfl, Nat.le_of_ble_eq_true rfl⟩) rfl hl.1 rfl (Nat.le_of_ble_eq_true rfl) dX0_ofReal_22 (Nat.zero_le _) (Nat.zero_le _) ?_
    exact W.lret hx hb hr (fun t ht _ => ⟨rfl, ht⟩) (fun q h => by cases h) dX0_ofReal_25
set_option maxHeartbeats 4000000 in
set_option maxRecDepth 100000 in
theorem kX0_ofReal (l : Launch) (v0 : Int32) (v1 : Int32) (v2 : Int64) : px_M l yX0_ofReal wsX0_ofReal ({ frames := 3, cells := 0, slots := 0, locals := 72 }) [.int v0, .int v1, .long v2] (.long (fX0_ofReal v0 v1 v2)) := by
  refine Met.ofW (cc := cX0_ofReal) (maxL := 5) (ret := (some .long)) (by decide) rfl ?_
  intro p e s m args below meth c s₁ B hml hv
  cases hv
  have C : px_C p s m _ meth c cX0_ofReal 5 (some .long) RX0 wsX0_ofReal := ⟨B.exec, B.bytes, hml, findClass_of_methodNamed B.named, atoms_spec (ws := wsX0_ofReal) B.pre, B.returns, B.notSynchronized⟩
  have hl := lv_entry ([.int v0, .int v1, .long v2]) (n := 5) (Nat.le_of_ble_eq_true rfl)
  rw [lg_entry_eq]
  generalize (lg_sl ([.int v0, .int v1, .long v2]) ++ List.replicate (5 - (lg_sl ([.int v0, .int v1, .long v2])).length) Slot.unset).toArray = ls at hl ⊢
  have hl : lv_has ls 5 [(0, .int v0), (1, .int v1), (2, .long v2)] := hl
  rw [fX0_ofReal]
  exact wX0_ofReal_0 C v0 v1 v2 (lv_sub hl [0, 1, 2] rfl)
set_option maxHeartbeats 4000000 in
set_option maxRecDepth 100000 in
theorem wX0_wholePart_42 {p : Program} {l : Launch} {e : Env} {s : State} {m : MethodId} {args : Array Value} {below : List Frame} {meth : Method} {c : Code} (C : px_C p s m args meth c cX0_wholePart 9 (some .long) RX0 wsX0_wholePart) (v3 : Int32) (s0 : Int64) {ls : Array Slot} (hl : lv_has ls 9 [(3, .int v3)]) : W p l e { frames := 3, cells := 0, slots := 0, locals := 68 } s m args below meth c s.heap [] 0 0 (MQ below (px_Q (.long (fX0_wholePart_42 v3 s0))) args s 0 0 (fun _ => False)) (F0 m 42 ls [.long s0]) := by
  obtain ⟨hx, hb, hml, hown, hts, hr, hlocks⟩ := id C
  rw [fX0_wholePart_42]
  refine lv_lstore (lv' := [(7, .long s0), (3, .int v3)]) hx hb dX0_wholePart_42 hl (by decide) rfl (fun ls hl => ?_)
  refine lv_iload_n hx hb dX0_wholePart_44 rfl (lv_at hl 1 rfl) ?_
  refine px_if_eq (tgt := 54) hx hb dX0_wholePart_45 (by decide) (fun hc45 => ?_) (fun hc45 => ?_)
  · rw [if_pos hc45]
    refine lv_lload hx hb dX0_wholePart_54 (lv_at hl 0 rfl) ?_
    exact W.lret hx hb hr (fun t ht _ => ⟨rfl, ht⟩) (fun q h => by cases h) dX0_wholePart_56
  · rw [if_neg hc45]
    refine lv_lload hx hb dX0_wholePart_48 (lv_at hl 0 rfl) ?_
    refine lv_lneg hx hb dX0_wholePart_50 ?_
    refine lv_goto (tgt := 56) hx hb dX0_wholePart_51 (by decide) ?_
    exact W.lret hx hb hr (fun t ht _ => ⟨rfl, ht⟩) (fun q h => by cases h) dX0_wholePart_56
set_option maxHeartbeats 4000000 in
set_option maxRecDepth 100000 in
theorem wX0_wholePart_76 {p : Program} {l : Launch} {e : Env} {s : State} {m : MethodId} {args : Array Value} {below : List Frame} {meth : Method} {c : Code} (C : px_C p s m args meth c cX0_wholePart 9 (some .long) RX0 wsX0_wholePart) (v3 : Int32) {ls : Array Slot} (hl : lv_has ls 9 [(3, .int v3)]) : W p l e { frames := 3, cells := 0, slots := 0, locals := 68 } s m args below meth c s.heap [] 0 0 (MQ below (px_Q (.long (fX0_wholePart_76 v3))) args s 0 0 (fun _ => False)) (F0 m 76 ls []) := by
  obtain ⟨hx, hb, hml, hown, hts, hr, hlocks⟩ := id C
  rw [fX0_wholePart_76]
  refine lv_iload_n hx hb dX0_wholePart_76 rfl (lv_at hl 0 rfl) ?_
  refine px_if_eq (tgt := 86) hx hb dX0_wholePart_77 (by decide) (fun hc77 => ?_) (fun hc77 => ?_)
  · rw [if_pos hc77]
    refine lv_ldc2 hx hb hown (hts (.constantLong RX0 75 (9223372036854775807)) (by decide +kernel)) dX0_wholePart_86 ?_
    exact W.lret hx hb hr (fun t ht _ => ⟨rfl, ht⟩) (fun q h => by cases h) dX0_wholePart_89
  · rw [if_neg hc77]
    refine lv_ldc2 hx hb hown (hts (.constantLong RX0 23 (-9223372036854775808)) (by decide +kernel)) dX0_wholePart_80 ?_
    refine lv_goto (tgt := 89) hx hb dX0_wholePart_83 (by decide) ?_
    exact W.lret hx hb hr (fun t ht _ => ⟨rfl, ht⟩) (fun q h => by cases h) dX0_wholePart_89
set_option maxHeartbeats 4000000 in
set_option maxRecDepth 100000 in
theorem wX0_wholePart_0 {p : Program} {l : Launch} {e : Env} {s : State} {m : MethodId} {args : Array Value} {below : List Frame} {meth : Method} {c : Code} (C : px_C p s m args meth c cX0_wholePart 9 (some .long) RX0 wsX0_wholePart) (v0 : Int32) (v1 : Int64) {ls : Array Slot} (hl : lv_has ls 9 [(0, .int v0), (1, .long v1)]) : W p l e { frames := 3, cells := 0, slots := 0, locals := 68 } s m args below meth c s.heap [] 0 0 (MQ below (px_Q (.long (fX0_wholePart_0 v0 v1))) args s 0 0 (fun _ => False)) (F0 m 0 ls []) := by
  obtain ⟨hx, hb, hml, hown, hts, hr, hlocks⟩ := id C
  rw [fX0_wholePart_0]
  refine lv_iload_n hx hb dX0_wholePart_0 rfl (lv_at hl 0 rfl) ?_
  refine lv_lload_n hx hb dX0_wholePart_1 rfl (lv_at hl 1 rfl) ?_
  refine px_S (As := [.int v0, .long v1]) (rest := []) ⟨hx, hb, hml, hown, hts⟩ (kX0_isNegative l v0 v1) (va_cwS 2 hts gX0_wholePart_X0_isNegative rfl rfl rfl (by decide +kernel) ⟨Nat.le_of_ble_eq_true rfl, Nat.le_of_ble_eq_true rfl⟩) rfl hl.1 rfl (Nat.le_of_ble_eq_true rfl) dX0_wholePart_2 (Nat.zero_le _) (Nat.zero_le _) ?_
  refine lv_topi (fun v3_5 ev3_5 => ?_)
  rw [← ev3_5]
  refine lv_istore_n (lv' := [(3, .int v3_5), (0, .int v0), (1, .long v1)]) hx hb dX0_wholePart_5 rfl hl (by decide) rfl (fun ls hl => ?_)
  rw [fX0_wholePart_6]
  refine lv_iload_n hx hb dX0_wholePart_6 rfl (lv_at hl 1 rfl) ?_
  refine lv_lload_n hx hb dX0_wholePart_7 rfl (lv_at hl 2 rfl) ?_
  refine px_S (As := [.int v0, .long v1]) (rest := []) ⟨hx, hb, hml, hown, hts⟩ (kX0_magnitude l v0 v1) (va_cwS 2 hts gX0_wholePart_X0_magnitude rfl rfl rfl (by decide +kernel) ⟨Nat.le_of_ble_eq_true rfl, Nat.le_of_ble_eq_true rfl⟩) rfl hl.1 rfl (Nat.le_of_ble_eq_true rfl) dX0_wholePart_8 (Nat.zero_le _) (Nat.zero_le _) ?_
  refine lv_topl (fun v4_11 ev4_11 => ?_)
  rw [← ev4_11]
  refine lv_lstore (lv' := [(4, .long v4_11), (3, .int v3_5), (0, .int v0), (1, .long v1)]) hx hb dX0_wholePart_11 hl (by decide) rfl (fun ls hl => ?_)
  rw [fX0_wholePart_13]
  refine lv_iload_n hx hb dX0_wholePart_13 rfl (lv_at hl 2 rfl) ?_
  refine lv_lload_n hx hb dX0_wholePart_14 rfl (lv_at hl 3 rfl) ?_
  refine px_S (As := [.int v0, .long v1]) (rest := []) ⟨hx, hb, hml, hown, hts⟩ (kX0_exponent l v0 v1) (va_cwS 2 hts gX0_wholePart_X0_exponent rfl rfl rfl (by decide +kernel) ⟨Nat.le_of_ble_eq_true rfl, Nat.le_of_ble_eq_true rfl⟩) rfl hl.1 rfl (Nat.le_of_ble_eq_true rfl) dX0_wholePart_15 (Nat.zero_le _) (Nat.zero_le _) ?_
  refine lv_topi (fun v6_18 ev6_18 => ?_)
  rw [← ev6_18]
  refine lv_istore (lv' := [(6, .int v6_18), (4, .long v4_11), (3, .int v3_5), (0, .int v0), (1, .long v1)]) hx hb dX0_wholePart_18 hl (by decide) rfl (fun ls hl => ?_)
  rw [fX0_wholePart_20]
  refine lv_iload hx hb dX0_wholePart_20 (lv_at hl 0 rfl) ?_
  refine px_if_gt (tgt := 57) hx hb dX0_wholePart_22 (by decide) (fun hc22 => ?_) (fun hc22 => ?_)
  · rw [if_pos hc22]
    refine lv_iload hx hb dX0_wholePart_57 (lv_at hl 0 rfl) ?_
    refine lv_bipush (v := 63) hx hb dX0_wholePart_59 (by decide) ?_
    refine px_icmp_gt (tgt := 76) hx hb dX0_wholePart_61 (by decide) (fun hc61 => ?_) (fun hc61 => ?_)
    · rw [if_pos hc61]
      exact wX0_wholePart_76 C v3_5 (lv_sub hl [2] rfl)
    · rw [if_neg hc61]
      refine lv_lload hx hb dX0_wholePart_64 (lv_at hl 1 rfl) ?_
      refine lv_ldc2 hx hb hown (hts (.constantLong RX0 75 (9223372036854775807)) (by decide +kernel)) dX0_wholePart_66 ?_
      refine lv_iload hx hb dX0_wholePart_69 (lv_at hl 0 rfl) ?_
      refine px_lushr hx hb dX0_wholePart_71 ?_
      refine px_lcmp_le (tgt := 90) hx hb dX0_wholePart_72 dX0_wholePart_73 (by decide) (fun hc72 => ?_) (fun hc72 => ?_)
      · rw [if_pos hc72]
        exact wX0_wholePart_76 C v3_5 (lv_sub hl [2] rfl)
      · rw [if_neg hc72]
        refine lv_iload_n hx hb dX0_wholePart_90 rfl (lv_at hl 2 rfl) ?_
        refine px_if_eq (tgt := 103) hx hb dX0_wholePart_91 (by decide) (fun hc91 => ?_) (fun hc91 => ?_)
        · rw [if_pos hc91]
          refine lv_lload hx hb dX0_wholePart_103 (lv_at hl 1 rfl) ?_
          refine lv_iload hx hb dX0_wholePart_105 (lv_at hl 0 rfl) ?_
          refine px_lshl hx hb dX0_wholePart_107 ?_
          exact W.lret hx hb hr (fun t ht _ => ⟨rfl, ht⟩) (fun q h => by cases h) dX0_wholePart_108
        · rw [if_neg hc91]
          refine lv_lload hx hb dX0_wholePart_94 (lv_at hl 1 rfl) ?_
          refine lv_iload hx hb dX0_wholePart_96 (lv_at hl 0 rfl) ?_
          refine px_lshl hx hb dX0_wholePart_98 ?_
          refine lv_lneg hx hb dX0_wholePart_99 ?_
          refine lv_goto (tgt := 108) hx hb dX0_wholePart_100 (by decide) ?_
          exact W.lret hx hb hr (fun t ht _ => ⟨rfl, ht⟩) (fun q h => by cases h) dX0_wholePart_108
  · rw [if_neg hc22]
    refine lv_iload hx hb dX0_wholePart_25 (lv_at hl 0 rfl) ?_
    refine lv_bipush (v := -63) hx hb dX0_wholePart_27 (by decide) ?_
    refine px_icmp_ge (tgt := 36) hx hb dX0_wholePart_29 (by decide) (fun hc29 => ?_) (fun hc29 => ?_)
    · rw [if_pos hc29]
      refine lv_lconst (v := 0) hx hb dX0_wholePart_32 (by decide) ?_
      refine lv_goto (tgt := 42) hx hb dX0_wholePart_33 (by decide) ?_
      exact wX0_wholePart_42 C v3_5 (0 : Int64) (lv_sub hl [2] rfl)
    · rw [if_neg hc29]
      refine lv_lload hx hb dX0_wholePart_36 (lv_at hl 1 rfl) ?_
      refine lv_iload hx hb dX0_wholePart_38 (lv_at hl 0 rfl) ?_
      refine lv_ineg hx hb dX0_wholePart_40 ?_
      refine px_lushr hx hb dX0_wholePart_41 ?_
      exact wX0_wholePart_42 C v3_5 (jushr v4_11 (-v6_18)) (lv_sub hl [2] rfl)
set_option maxHeartbeats 4000000 in
set_option maxRecDepth 100000 in
theorem kX0_wholePart (l : Launch) (v0 : Int32) (v1 : Int64) : px_M l yX0_wholePart wsX0_wholePart ({ frames := 3, cells := 0, slots := 0, locals := 68 }) [.int v0, .long v1] (.long (fX0_wholePart v0 v1)) := by
  refine Met.ofW (cc := cX0_wholePart) (maxL := 9) (ret := (some .long)) (by decide) rfl ?_
  intro p e s m args below meth c s₁ B hml hv
  cases hv
  have C : px_C p s m _ meth c cX0_wholePart 9 (some .long) RX0 wsX0_wholePart := ⟨B.exec, B.bytes, hml, findClass_of_methodNamed B.named, atoms_spec (ws := wsX0_wholePart) B.pre, B.returns, B.notSynchronized⟩
  have hl := lv_entry ([.int v0, .long v1]) (n := 9) (Nat.le_of_ble_eq_true rfl)
  rw [lg_entry_eq]
  generalize (lg_sl ([.int v0, .long v1]) ++ List.replicate (9 - (lg_sl ([.int v0, .long v1])).length) Slot.unset).toArray = ls at hl ⊢
  have hl : lv_has ls 9 [(0, .int v0), (1, .long v1)] := hl
  rw [fX0_wholePart]
  exact wX0_wholePart_0 C v0 v1 (lv_sub hl [0, 1] rfl)
set_option maxHeartbeats 4000000 in
set_option maxRecDepth 100000 in
theorem wX0_sumByGreater_70 {p : Program} {l : Launch} {e : Env} {s : State} {m : MethodId} {args : Array Value} {below : List Frame} {meth : Method} {c : Code} (C : px_C p s m args meth c cX0_sumByGreater 13 (some .long) RX0 wsX0_sumByGreater) (v0 : Int32) (v1 : Int64) (v3 : Int64) (v6 : Int64) (v8 : Int32) (s0 : Int64) {ls : Array Slot} (hl : lv_has ls 13 [(0, .int v0), (1, .long v1), (3, .long v3), (6, .long v6), (8, .int v8)]) : W p l e { frames := 3, cells := 0, slots := 0, locals := 72 } s m args below meth c s.heap [] 0 0 (MQ below (px_Q (.long (fX0_sumByGreater_70 v0 v1 v3 v6 v8 s0))) args s 0 0 (fun _ => False)) (F0 m 70 ls [.long s0]) := by
  obtain ⟨hx, hb, hml, hown, hts, hr, hlocks⟩ := id C
  rw [fX0_sumByGreater_70]
  refine lv_lstore (lv' := [(9, .long s0), (0, .int v0), (1, .long v1), (3, .long v3), (6, .long v6), (8, .int v8)]) hx hb dX0_sumByGreater_70 hl (by decide) rfl (fun ls hl => ?_)
  refine lv_iload_n hx hb dX0_sumByGreater_72 rfl (lv_at hl 1 rfl) ?_
  refine lv_lload_n hx hb dX0_sumByGreater_73 rfl (lv_at hl 2 rfl) ?_
  refine px_S (As := [.int v0, .long v1]) (rest := []) ⟨hx, hb, hml, hown, hts⟩ (kX0_isNegative l v0 v1) (va_cwS 2 hts gX0_sumByGreater_X0_isNegative rfl rfl rfl (by decide +kernel) ⟨Nat.le_of_ble_eq_true rfl, Nat.le_of_ble_eq_true rfl⟩) rfl hl.1 rfl (Nat.le_of_ble_eq_true rfl) dX0_sumByGreater_74 (Nat.zero_le _) (Nat.zero_le _) ?_
  refine lv_topi (fun v12_77 ev12_77 => ?_)
  rw [← ev12_77]
  refine lv_istore (lv' := [(12, .int v12_77), (9, .long s0), (0, .int v0), (1, .long v1), (3, .long v3), (6, .long v6), (8, .int v8)]) hx hb dX0_sumByGreater_77 hl (by decide) rfl (fun ls hl => ?_)
  rw [fX0_sumByGreater_79]
  refine lv_iload hx hb dX0_sumByGreater_79 (lv_at hl 0 rfl) ?_
  refine lv_iload_n hx hb dX0_sumByGreater_81 rfl (lv_at hl 2 rfl) ?_
  refine lv_lload_n hx hb dX0_sumByGreater_82 rfl (lv_at hl 4 rfl) ?_
  refine px_S (As := [.int v0, .long v3]) (rest := [.int v12_77]) ⟨hx, hb, hml, hown, hts⟩ (kX0_isNegative l v0 v3) (va_cwS 2 hts gX0_sumByGreater_X0_isNegative rfl rfl rfl (by decide +kernel) ⟨Nat.le_of_ble_eq_true rfl, Nat.le_of_ble_eq_true rfl⟩) rfl hl.1 rfl (Nat.le_of_ble_eq_true rfl) dX0_sumByGreater_83 (Nat.zero_le _) (Nat.zero_le _) ?_
  refine px_icmp_ne (tgt := 103) hx hb dX0_sumByGreater_86 (by decide) (fun hc86 => ?_) (fun hc86 => ?_)
  · rw [if_pos hc86]
    refine lv_iload_n hx hb dX0_sumByGreater_89 rfl (lv_at hl 2 rfl) ?_
    refine lv_iload hx hb dX0_sumByGreater_90 (lv_at hl 0 rfl) ?_
    refine lv_lload hx hb dX0_sumByGreater_92 (lv_at hl 5 rfl) ?_
    refine lv_lload hx hb dX0_sumByGreater_94 (lv_at hl 1 rfl) ?_
    refine lv_ladd hx hb dX0_sumByGreater_96 ?_
    refine lv_iload hx hb dX0_sumByGreater_97 (lv_at hl 6 rfl) ?_
    refine px_S (As := [.int v0, .int v12_77, .long (v6 + s0), .int v8]) (rest := []) ⟨hx, hb, hml, hown, hts⟩ (kX0_nearest l v0 v12_77 (v6 + s0) v8) (va_cwS 4 hts gX0_sumByGreater_X0_nearest rfl rfl rfl (by decide +kernel) ⟨Nat.le_of_ble_eq_true rfl, Nat.le_of_ble_eq_true rfl⟩) rfl hl.1 rfl (Nat.le_of_ble_eq_true rfl) dX0_sumByGreater_99 (Nat.zero_le _) (Nat.zero_le _) ?_
    exact W.lret hx hb hr (fun t ht _ => ⟨rfl, ht⟩) (fun q h => by cases h) dX0_sumByGreater_102
  · rw [if_neg hc86]
    refine lv_lload hx hb dX0_sumByGreater_103 (lv_at hl 5 rfl) ?_
    refine lv_lload hx hb dX0_sumByGreater_105 (lv_at hl 1 rfl) ?_
    refine px_lcmp_ne (tgt := 115) hx hb dX0_sumByGreater_107 dX0_sumByGreater_108 (by decide) (fun hc107 => ?_) (fun hc107 => ?_)
    · rw [if_pos hc107]
      refine lv_lconst (v := 0) hx hb dX0_sumByGreater_111 (by decide) ?_
      refine lv_goto (tgt := 128) hx hb dX0_sumByGreater_112 (by decide) ?_
      exact W.lret hx hb hr (fun t ht _ => ⟨rfl, ht⟩) (fun q h => by cases h) dX0_sumByGreater_128
    · rw [if_neg hc107]
      refine lv_iload_n hx hb dX0_sumByGreater_115 rfl (lv_at hl 2 rfl) ?_
      refine lv_iload hx hb dX0_sumByGreater_116 (lv_at hl 0 rfl) ?_
      refine lv_lload hx hb dX0_sumByGreater_118 (lv_at hl 5 rfl) ?_
      refine lv_lload hx hb dX0_sumByGreater_120 (lv_at hl 1 rfl) ?_
      refine lv_lsub hx hb dX0_sumByGreater_122 ?_
      refine lv_iload hx hb dX0_sumByGreater_123 (lv_at hl 6 rfl) ?_
      refine px_S (As := [.int v0, .int v12_77, .long (v6 - s0), .int v8]) (rest := []) ⟨hx, hb, hml, hown, hts⟩ (kX0_nearest l v0 v12_77 (v6 - s0) v8) (va_cwS 4 hts gX0_sumByGreater_X0_nearest rfl rfl rfl (by decide +kernel) ⟨Nat.le_of_ble_eq_true rfl, Nat.le_of_ble_eq_true rfl⟩) rfl hl.1 rfl (Nat.le_of_ble_eq_true rfl) dX0_sumByGreater_125 (Nat.zero_le _) (Nat.zero_le _) ?_
      exact W.lret hx hb hr (fun t ht _ => ⟨rfl, ht⟩) (fun q h => by cases h) dX0_sumByGreater_128
set_option maxHeartbeats 4000000 in
set_option maxRecDepth 100000 in
theorem wX0_sumByGreater_0 {p : Program} {l : Launch} {e : Env} {s : State} {m : MethodId} {args : Array Value} {below : List Frame} {meth : Method} {c : Code} (C : px_C p s m args meth c cX0_sumByGreater 13 (some .long) RX0 wsX0_sumByGreater) (v0 : Int32) (v1 : Int64) (v3 : Int64) {ls : Array Slot} (hl : lv_has ls 13 [(0, .int v0), (1, .long v1), (3, .long v3)]) : W p l e { frames := 3, cells := 0, slots := 0, locals := 72 } s m args below meth c s.heap [] 0 0 (MQ below (px_Q (.long (fX0_sumByGreater_0 v0 v1 v3))) args s 0 0 (fun _ => False)) (F0 m 0 ls []) := by
  obtain ⟨hx, hb, hml, hown, hts, hr, hlocks⟩ := id C
  rw [fX0_sumByGreater_0]
  refine lv_bipush (v := 61) hx hb dX0_sumByGreater_0 (by decide) ?_
  refine lv_iload_n hx hb dX0_sumByGreater_2 rfl (lv_at hl 0 rfl) ?_
  refine lv_lload_n hx hb dX0_sumByGreater_3 rfl (lv_at hl 1 rfl) ?_
  refine px_S (As := [.int v0, .long v1]) (rest := [.int (61 : Int32)]) ⟨hx, hb, hml, hown, hts⟩ (kX0_magnitude l v0 v1) (va_cwS 2 hts gX0_sumByGreater_X0_magnitude rfl rfl rfl (by decide +kernel) ⟨Nat.le_of_ble_eq_true rfl, Nat.le_of_ble_eq_true rfl⟩) rfl hl.1 rfl (Nat.le_of_ble_eq_true rfl) dX0_sumByGreater_4 (Nat.zero_le _) (Nat.zero_le _) ?_
  refine px_S (As := [.int (61 : Int32), .long (fX0_magnitude v0 v1)]) (rest := []) ⟨hx, hb, hml, hown, hts⟩ (kX0_roomBelow l (61 : Int32) (fX0_magnitude v0 v1) (okX0_roomBelow_all (61 : Int32) (fX0_magnitude v0 v1))) (va_cwS 2 hts gX0_sumByGreater_X0_roomBelow rfl rfl rfl (by decide +kernel) ⟨Nat.le_of_ble_eq_true rfl, Nat.le_of_ble_eq_true rfl⟩) rfl hl.1 rfl (Nat.le_of_ble_eq_true rfl) dX0_sumByGreater_7 (Nat.zero_le _) (Nat.zero_le _) ?_
  refine lv_topi (fun v5_10 ev5_10 => ?_)
  rw [← ev5_10]
  refine lv_istore (lv' := [(5, .int v5_10), (0, .int v0), (1, .long v1), (3, .long v3)]) hx hb dX0_sumByGreater_10 hl (by decide) rfl (fun ls hl => ?_)
  rw [fX0_sumByGreater_12]
  refine lv_iload_n hx hb dX0_sumByGreater_12 rfl (lv_at hl 1 rfl) ?_
  refine lv_lload_n hx hb dX0_sumByGreater_13 rfl (lv_at hl 2 rfl) ?_
  refine px_S (As := [.int v0, .long v1]) (rest := []) ⟨hx, hb, hml, hown, hts⟩ (kX0_magnitude l v0 v1) (va_cwS 2 hts gX0_sumByGreater_X0_magnitude rfl rfl rfl (by decide +kernel) ⟨Nat.le_of_ble_eq_true rfl, Nat.le_of_ble_eq_true rfl⟩) rfl hl.1 rfl (Nat.le_of_ble_eq_true rfl) dX0_sumByGreater_14 (Nat.zero_le _) (Nat.zero_le _) ?_
  refine lv_iload hx hb dX0_sumByGreater_17 (lv_at hl 0 rfl) ?_
  refine px_lshl hx hb dX0_sumByGreater_19 ?_
  refine lv_topl (fun v6_20 ev6_20 => ?_)
  rw [← ev6_20]
  refine lv_lstore (lv' := [(6, .long v6_20), (5, .int v5_10), (0, .int v0), (1, .long v1), (3, .long v3)]) hx hb dX0_sumByGreater_20 hl (by decide) rfl (fun ls hl => ?_)
  rw [fX0_sumByGreater_22]
  refine lv_iload_n hx hb dX0_sumByGreater_22 rfl (lv_at hl 2 rfl) ?_
  refine lv_lload_n hx hb dX0_sumByGreater_23 rfl (lv_at hl 3 rfl) ?_
  refine px_S (As := [.int v0, .long v1]) (rest := []) ⟨hx, hb, hml, hown, hts⟩ (kX0_exponent l v0 v1) (va_cwS 2 hts gX0_sumByGreater_X0_exponent rfl rfl rfl (by decide +kernel) ⟨Nat.le_of_ble_eq_true rfl, Nat.le_of_ble_eq_true rfl⟩) rfl hl.1 rfl (Nat.le_of_ble_eq_true rfl) dX0_sumByGreater_24 (Nat.zero_le _) (Nat.zero_le _) ?_
  refine lv_iload hx hb dX0_sumByGreater_27 (lv_at hl 1 rfl) ?_
  refine lv_isub hx hb dX0_sumByGreater_29 ?_
  refine lv_topi (fun v8_30 ev8_30 => ?_)
  rw [← ev8_30]
  refine lv_istore (lv' := [(8, .int v8_30), (6, .long v6_20), (5, .int v5_10), (0, .int v0), (1, .long v1), (3, .long v3)]) hx hb dX0_sumByGreater_30 hl (by decide) rfl (fun ls hl => ?_)
  rw [fX0_sumByGreater_32]
  refine lv_iload_n hx hb dX0_sumByGreater_32 rfl (lv_at hl 3 rfl) ?_
  refine lv_lload_n hx hb dX0_sumByGreater_33 rfl (lv_at hl 5 rfl) ?_
  refine px_S (As := [.int v0, .long v3]) (rest := []) ⟨hx, hb, hml, hown, hts⟩ (kX0_magnitude l v0 v3) (va_cwS 2 hts gX0_sumByGreater_X0_magnitude rfl rfl rfl (by decide +kernel) ⟨Nat.le_of_ble_eq_true rfl, Nat.le_of_ble_eq_true rfl⟩) rfl hl.1 rfl (Nat.le_of_ble_eq_true rfl) dX0_sumByGreater_34 (Nat.zero_le _) (Nat.zero_le _) ?_
  refine lv_topl (fun v9_37 ev9_37 => ?_)
  rw [← ev9_37]
  refine lv_lstore (lv' := [(9, .long v9_37), (8, .int v8_30), (6, .long v6_20), (5, .int v5_10), (0, .int v0), (1, .long v1), (3, .long v3)]) hx hb dX0_sumByGreater_37 hl (by decide) rfl (fun ls hl => ?_)
  rw [fX0_sumByGreater_39]
  refine lv_iload_n hx hb dX0_sumByGreater_39 rfl (lv_at hl 4 rfl) ?_
  refine lv_lload_n hx hb dX0_sumByGreater_40 rfl (lv_at hl 6 rfl) ?_
  refine px_S (As := [.int v0, .long v3]) (rest := []) ⟨hx, hb, hml, hown, hts⟩ (kX0_exponent l v0 v3) (va_cwS 2 hts gX0_sumByGreater_X0_exponent rfl rfl rfl (by decide +kernel) ⟨Nat.le_of_ble_eq_true rfl, Nat.le_of_ble_eq_true rfl⟩) rfl hl.1 rfl (Nat.le_of_ble_eq_true rfl) dX0_sumByGreater_41 (Nat.zero_le _) (Nat.zero_le _) ?_
  refine lv_iload hx hb dX0_sumByGreater_44 (lv_at hl 1 rfl) ?_
  refine lv_isub hx hb dX0_sumByGreater_46 ?_
  refine lv_topi (fun v11_47 ev11_47 => ?_)
  rw [← ev11_47]
  refine lv_istore (lv' := [(11, .int v11_47), (9, .long v9_37), (8, .int v8_30), (6, .long v6_20), (5, .int v5_10), (0, .int v0), (1, .long v1), (3, .long v3)]) hx hb dX0_sumByGreater_47 hl (by decide) rfl (fun ls hl => ?_)
  rw [fX0_sumByGreater_49]
  refine lv_iload hx hb dX0_sumByGreater_49 (lv_at hl 0 rfl) ?_
  refine px_if_lt (tgt := 62) hx hb dX0_sumByGreater_51 (by decide) (fun hc51 => ?_) (fun hc51 => ?_)
  · rw [if_pos hc51]
    refine lv_lload hx hb dX0_sumByGreater_62 (lv_at hl 1 rfl) ?_
    refine lv_iload hx hb dX0_sumByGreater_64 (lv_at hl 0 rfl) ?_
    refine lv_ineg hx hb dX0_sumByGreater_66 ?_
    refine px_S (As := [.long v9_37, .int (-v11_47)]) (rest := []) ⟨hx, hb, hml, hown, hts⟩ (kX0_movedDown l v9_37 (-v11_47)) (va_cwS 2 hts gX0_sumByGreater_X0_movedDown rfl rfl rfl (by decide +kernel) ⟨Nat.le_of_ble_eq_true rfl, Nat.le_of_ble_eq_true rfl⟩) rfl hl.1 rfl (Nat.le_of_ble_eq_true rfl) dX0_sumByGreater_67 (Nat.zero_le _) (Nat.zero_le _) ?_
    exact wX0_sumByGreater_70 C v0 v1 v3 v6_20 v8_30 (fX0_movedDown v9_37 (-v11_47)) (lv_sub hl [5, 6, 7, 3, 2] rfl)
  · rw [if_neg hc51]
    refine lv_lload hx hb dX0_sumByGreater_54 (lv_at hl 1 rfl) ?_
    refine lv_iload hx hb dX0_sumByGreater_56 (lv_at hl 0 rfl) ?_
    refine px_lshl hx hb dX0_sumByGreater_58 ?_
    refine lv_goto (tgt := 70) hx hb dX0_sumByGreater_59 (by decide) ?_
    exact wX0_sumByGreater_70 C v0 v1 v3 v6_20 v8_30 (jshl v9_37 v11_47) (lv_sub hl [5, 6, 7, 3, 2] rfl)
set_option maxHeartbeats 4000000 in
set_option maxRecDepth 100000 in
theorem kX0_sumByGreater (l : Launch) (v0 : Int32) (v1 : Int64) (v3 : Int64) : px_M l yX0_sumByGreater wsX0_sumByGreater ({ frames := 3, cells := 0, slots := 0, locals := 72 }) [.int v0, .long v1, .long v3] (.long (fX0_sumByGreater v0 v1 v3)) := by
  refine Met.ofW (cc := cX0_sumByGreater) (maxL := 13) (ret := (some .long)) (by decide) rfl ?_
  intro p e s m args below meth c s₁ B hml hv
  cases hv
  have C : px_C p s m _ meth c cX0_sumByGreater 13 (some .long) RX0 wsX0_sumByGreater := ⟨B.exec, B.bytes, hml, findClass_of_methodNamed B.named, atoms_spec (ws := wsX0_sumByGreater) B.pre, B.returns, B.notSynchronized⟩
  have hl := lv_entry ([.int v0, .long v1, .long v3]) (n := 13) (Nat.le_of_ble_eq_true rfl)
  rw [lg_entry_eq]
  generalize (lg_sl ([.int v0, .long v1, .long v3]) ++ List.replicate (13 - (lg_sl ([.int v0, .long v1, .long v3])).length) Slot.unset).toArray = ls at hl ⊢
  have hl : lv_has ls 13 [(0, .int v0), (1, .long v1), (3, .long v3)] := hl
  rw [fX0_sumByGreater]
  exact wX0_sumByGreater_0 C v0 v1 v3 (lv_sub hl [0, 1, 2] rfl)
set_option maxHeartbeats 4000000 in
set_option maxRecDepth 100000 in
theorem wX0_sum_80 {p : Program} {l : Launch} {e : Env} {s : State} {m : MethodId} {args : Array Value} {below : List Frame} {meth : Method} {c : Code} (C : px_C p s m args meth c cX0_sum 6 (some .long) RX0 wsX0_sum) (v0 : Int32) (v1 : Int64) (v3 : Int64) (s0 : Int32) {ls : Array Slot} (hl : lv_has ls 6 [(0, .int v0), (1, .long v1), (3, .long v3)]) : W p l e { frames := 4, cells := 0, slots := 0, locals := 104 } s m args below meth c s.heap [] 0 0 (MQ below (px_Q (.long (fX0_sum_80 v0 v1 v3 s0))) args s 0 0 (fun _ => False)) (F0 m 80 ls [.int s0]) := by
  obtain ⟨hx, hb, hml, hown, hts, hr, hlocks⟩ := id C
  rw [fX0_sum_80]
  refine lv_istore (lv' := [(5, .int s0), (0, .int v0), (1, .long v1), (3, .long v3)]) hx hb dX0_sum_80 hl (by decide) rfl (fun ls hl => ?_)
  refine lv_iload hx hb dX0_sum_82 (lv_at hl 0 rfl) ?_
  refine px_if_eq (tgt := 96) hx hb dX0_sum_84 (by decide) (fun hc84 => ?_) (fun hc84 => ?_)
  · rw [if_pos hc84]
    refine lv_iload_n hx hb dX0_sum_96 rfl (lv_at hl 1 rfl) ?_
    refine lv_lload_n hx hb dX0_sum_97 rfl (lv_at hl 3 rfl) ?_
    refine lv_lload_n hx hb dX0_sum_98 rfl (lv_at hl 2 rfl) ?_
    refine px_S (As := [.int v0, .long v3, .long v1]) (rest := []) ⟨hx, hb, hml, hown, hts⟩ (kX0_sumByGreater l v0 v3 v1) (va_cwS 3 hts gX0_sum_X0_sumByGreater rfl rfl rfl (by decide +kernel) ⟨Nat.le_of_ble_eq_true rfl, Nat.le_of_ble_eq_true rfl⟩) rfl hl.1 rfl (Nat.le_of_ble_eq_true rfl) dX0_sum_99 (Nat.zero_le _) (Nat.zero_le _) ?_
    exact W.lret hx hb hr (fun t ht _ => ⟨rfl, ht⟩) (fun q h => by cases h) dX0_sum_102
  · rw [if_neg hc84]
    refine lv_iload_n hx hb dX0_sum_87 rfl (lv_at hl 1 rfl) ?_
    refine lv_lload_n hx hb dX0_sum_88 rfl (lv_at hl 2 rfl) ?_
    refine lv_lload_n hx hb dX0_sum_89 rfl (lv_at hl 3 rfl) ?_
    refine px_S (As := [.int v0, .long v1, .long v3]) (rest := []) ⟨hx, hb, hml, hown, hts⟩ (kX0_sumByGreater l v0 v1 v3) (va_cwS 3 hts gX0_sum_X0_sumByGreater rfl rfl rfl (by decide +kernel) ⟨Nat.le_of_ble_eq_true rfl, Nat.le_of_ble_eq_true rfl⟩) rfl hl.1 rfl (Nat.le_of_ble_eq_true rfl) dX0_sum_90 (Nat.zero_le _) (Nat.zero_le _) ?_
    refine lv_goto (tgt := 102) hx hb dX0_sum_93 (by decide) ?_
    exact W.lret hx hb hr (fun t ht _ => ⟨rfl, ht⟩) (fun q h => by cases h) dX0_sum_102
set_option maxHeartbeats 4000000 in
set_option maxRecDepth 100000 in
theorem wX0_sum_61 {p : Program} {l : Launch} {e : Env} {s : State} {m : MethodId} {args : Array Value} {below : List Frame} {meth : Method} {c : Code} (C : px_C p s m args meth c cX0_sum 6 (some .long) RX0 wsX0_sum) (v0 : Int32) (v1 : Int64) (v3 : Int64) {ls : Array Slot} (hl : lv_has ls 6 [(0, .int v0), (1, .long v1), (3, .long v3)]) : W p l e { frames := 4, cells := 0, slots := 0, locals := 104 } s m args below meth c s.heap [] 0 0 (MQ below (px_Q (.long (fX0_sum_61 v0 v1 v3))) args s 0 0 (fun _ => False)) (F0 m 61 ls []) := by
  obtain ⟨hx, hb, hml, hown, hts, hr, hlocks⟩ := id C
  rw [fX0_sum_61]
  refine lv_iload_n hx hb dX0_sum_61 rfl (lv_at hl 0 rfl) ?_
  refine lv_lload_n hx hb dX0_sum_62 rfl (lv_at hl 1 rfl) ?_
  refine px_S (As := [.int v0, .long v1]) (rest := []) ⟨hx, hb, hml, hown, hts⟩ (kX0_size l v0 v1) (va_cwS 2 hts gX0_sum_X0_size rfl rfl rfl (by decide +kernel) ⟨Nat.le_of_ble_eq_true rfl, Nat.le_of_ble_eq_true rfl⟩) rfl hl.1 rfl (Nat.le_of_ble_eq_true rfl) dX0_sum_63 (Nat.zero_le _) (Nat.zero_le _) ?_
  refine lv_iload_n hx hb dX0_sum_66 rfl (lv_at hl 0 rfl) ?_
  refine lv_lload_n hx hb dX0_sum_67 rfl (lv_at hl 2 rfl) ?_
  refine px_S (As := [.int v0, .long v3]) (rest := [.long (fX0_size v0 v1)]) ⟨hx, hb, hml, hown, hts⟩ (kX0_size l v0 v3) (va_cwS 2 hts gX0_sum_X0_size rfl rfl rfl (by decide +kernel) ⟨Nat.le_of_ble_eq_true rfl, Nat.le_of_ble_eq_true rfl⟩) rfl hl.1 rfl (Nat.le_of_ble_eq_true rfl) dX0_sum_68 (Nat.zero_le _) (Nat.zero_le _) ?_
  refine px_lcmp_lt (tgt := 79) hx hb dX0_sum_71 dX0_sum_72 (by decide) (fun hc71 => ?_) (fun hc71 => ?_)
  · rw [if_pos hc71]
    refine lv_iconst (v := 0) hx hb dX0_sum_79 (by decide) ?_
    exact wX0_sum_80 C v0 v1 v3 (0 : Int32) (lv_sub hl [0, 1, 2] rfl)
  · rw [if_neg hc71]
    refine lv_iconst (v := 1) hx hb dX0_sum_75 (by decide) ?_
    refine lv_goto (tgt := 80) hx hb dX0_sum_76 (by decide) ?_
    exact wX0_sum_80 C v0 v1 v3 (1 : Int32) (lv_sub hl [0, 1, 2] rfl)
set_option maxHeartbeats 4000000 in
set_option maxRecDepth 100000 in
theorem wX0_sum_0 {p : Program} {l : Launch} {e : Env} {s : State} {m : MethodId} {args : Array Value} {below : List Frame} {meth : Method} {c : Code} (C : px_C p s m args meth c cX0_sum 6 (some .long) RX0 wsX0_sum) (v0 : Int32) (v1 : Int64) (v3 : Int64) {ls : Array Slot} (hl : lv_has ls 6 [(0, .int v0), (1, .long v1), (3, .long v3)]) : W p l e { frames := 4, cells := 0, slots := 0, locals := 104 } s m args below meth c s.heap [] 0 0 (MQ below (px_Q (.long (fX0_sum_0 v0 v1 v3))) args s 0 0 (fun _ => False)) (F0 m 0 ls []) := by
  obtain ⟨hx, hb, hml, hown, hts, hr, hlocks⟩ := id C
  rw [fX0_sum_0]
  refine lv_iload_n hx hb dX0_sum_0 rfl (lv_at hl 0 rfl) ?_
  refine lv_lload_n hx hb dX0_sum_1 rfl (lv_at hl 1 rfl) ?_
  refine px_S (As := [.int v0, .long v1]) (rest := []) ⟨hx, hb, hml, hown, hts⟩ (kX0_isInfinite l v0 v1) (va_cwS 2 hts gX0_sum_X0_isInfinite rfl rfl rfl (by decide +kernel) ⟨Nat.le_of_ble_eq_true rfl, Nat.le_of_ble_eq_true rfl⟩) rfl hl.1 rfl (Nat.le_of_ble_eq_true rfl) dX0_sum_2 (Nat.zero_le _) (Nat.zero_le _) ?_
  refine px_if_eq (tgt := 31) hx hb dX0_sum_5 (by decide) (fun hc5 => ?_) (fun hc5 => ?_)
  · rw [if_pos hc5]
    refine lv_iload_n hx hb dX0_sum_31 rfl (lv_at hl 0 rfl) ?_
    refine lv_lload_n hx hb dX0_sum_32 rfl (lv_at hl 2 rfl) ?_
    refine px_S (As := [.int v0, .long v3]) (rest := []) ⟨hx, hb, hml, hown, hts⟩ (kX0_isInfinite l v0 v3) (va_cwS 2 hts gX0_sum_X0_isInfinite rfl rfl rfl (by decide +kernel) ⟨Nat.le_of_ble_eq_true rfl, Nat.le_of_ble_eq_true rfl⟩) rfl hl.1 rfl (Nat.le_of_ble_eq_true rfl) dX0_sum_33 (Nat.zero_le _) (Nat.zero_le _) ?_
    refine px_if_eq (tgt := 41) hx hb dX0_sum_36 (by decide) (fun hc36 => ?_) (fun hc36 => ?_)
    · rw [if_pos hc36]
      refine lv_iload_n hx hb dX0_sum_41 rfl (lv_at hl 0 rfl) ?_
      refine lv_lload_n hx hb dX0_sum_42 rfl (lv_at hl 1 rfl) ?_
      refine px_S (As := [.int v0, .long v1]) (rest := []) ⟨hx, hb, hml, hown, hts⟩ (kX0_isZero l v0 v1) (va_cwS 2 hts gX0_sum_X0_isZero rfl rfl rfl (by decide +kernel) ⟨Nat.le_of_ble_eq_true rfl, Nat.le_of_ble_eq_true rfl⟩) rfl hl.1 rfl (Nat.le_of_ble_eq_true rfl) dX0_sum_43 (Nat.zero_le _) (Nat.zero_le _) ?_
      refine px_if_eq (tgt := 61) hx hb dX0_sum_46 (by decide) (fun hc46 => ?_) (fun hc46 => ?_)
      · rw [if_pos hc46]
        exact wX0_sum_61 C v0 v1 v3 (lv_sub hl [0, 1, 2] rfl)
      · rw [if_neg hc46]
        refine lv_iload_n hx hb dX0_sum_49 rfl (lv_at hl 0 rfl) ?_
        refine lv_lload_n hx hb dX0_sum_50 rfl (lv_at hl 2 rfl) ?_
        refine px_S (As := [.int v0, .long v3]) (rest := []) ⟨hx, hb, hml, hown, hts⟩ (kX0_isZero l v0 v3) (va_cwS 2 hts gX0_sum_X0_isZero rfl rfl rfl (by decide +kernel) ⟨Nat.le_of_ble_eq_true rfl, Nat.le_of_ble_eq_true rfl⟩) rfl hl.1 rfl (Nat.le_of_ble_eq_true rfl) dX0_sum_51 (Nat.zero_le _) (Nat.zero_le _) ?_
        refine px_if_eq (tgt := 61) hx hb dX0_sum_54 (by decide) (fun hc54 => ?_) (fun hc54 => ?_)
        · rw [if_pos hc54]
          exact wX0_sum_61 C v0 v1 v3 (lv_sub hl [0, 1, 2] rfl)
        · rw [if_neg hc54]
          refine lv_lload_n hx hb dX0_sum_57 rfl (lv_at hl 1 rfl) ?_
          refine lv_lload_n hx hb dX0_sum_58 rfl (lv_at hl 2 rfl) ?_
          refine lv_land hx hb dX0_sum_59 ?_
          exact W.lret hx hb hr (fun t ht _ => ⟨rfl, ht⟩) (fun q h => by cases h) dX0_sum_60
    · rw [if_neg hc36]
      refine lv_lload_n hx hb dX0_sum_39 rfl (lv_at hl 2 rfl) ?_
      exact W.lret hx hb hr (fun t ht _ => ⟨rfl, ht⟩) (fun q h => by cases h) dX0_sum_40
  · rw [if_neg hc5]
    refine lv_iload_n hx hb dX0_sum_8 rfl (lv_at hl 0 rfl) ?_
    refine lv_lload_n hx hb dX0_sum_9 rfl (lv_at hl 2 rfl) ?_
    refine px_S (As := [.int v0, .long v3]) (rest := []) ⟨hx, hb, hml, hown, hts⟩ (kX0_isInfinite l v0 v3) (va_cwS 2 hts gX0_sum_X0_isInfinite rfl rfl rfl (by decide +kernel) ⟨Nat.le_of_ble_eq_true rfl, Nat.le_of_ble_eq_true rfl⟩) rfl hl.1 rfl (Nat.le_of_ble_eq_true rfl) dX0_sum_10 (Nat.zero_le _) (Nat.zero_le _) ?_
    refine px_if_eq (tgt := 29) hx hb dX0_sum_13 (by decide) (fun hc13 => ?_) (fun hc13 => ?_)
    · rw [if_pos hc13]
      refine lv_lload_n hx hb dX0_sum_29 rfl (lv_at hl 1 rfl) ?_
      exact W.lret hx hb hr (fun t ht _ => ⟨rfl, ht⟩) (fun q h => by cases h) dX0_sum_30
    · rw [if_neg hc13]
      refine lv_lload_n hx hb dX0_sum_16 rfl (lv_at hl 1 rfl) ?_
      refine lv_lload_n hx hb dX0_sum_17 rfl (lv_at hl 2 rfl) ?_
      refine px_lcmp_eq (tgt := 29) hx hb dX0_sum_18 dX0_sum_19 (by decide) (fun hc18 => ?_) (fun hc18 => ?_)
      · rw [if_pos hc18]
        refine lv_lload_n hx hb dX0_sum_29 rfl (lv_at hl 1 rfl) ?_
        exact W.lret hx hb hr (fun t ht _ => ⟨rfl, ht⟩) (fun q h => by cases h) dX0_sum_30
      · rw [if_neg hc18]
        refine lv_iload_n hx hb dX0_sum_22 rfl (lv_at hl 0 rfl) ?_
        refine px_S (As := [.int v0]) (rest := []) ⟨hx, hb, hml, hown, hts⟩ (kX0_notANumber l v0) (va_cwS 1 hts gX0_sum_X0_notANumber rfl rfl rfl (by decide +kernel) ⟨Nat.le_of_ble_eq_true rfl, Nat.le_of_ble_eq_true rfl⟩) rfl hl.1 rfl (Nat.le_of_ble_eq_true rfl) dX0_sum_23 (Nat.zero_le _) (Nat.zero_le _) ?_
        refine lv_goto (tgt := 30) hx hb dX0_sum_26 (by decide) ?_
        exact W.lret hx hb hr (fun t ht _ => ⟨rfl, ht⟩) (fun q h => by cases h) dX0_sum_30
set_option maxHeartbeats 4000000 in
set_option maxRecDepth 100000 in
theorem kX0_sum (l : Launch) (v0 : Int32) (v1 : Int64) (v3 : Int64) : px_M l yX0_sum wsX0_sum ({ frames := 4, cells := 0, slots := 0, locals := 104 }) [.int v0, .long v1, .long v3] (.long (fX0_sum v0 v1 v3)) := by
  refine Met.ofW (cc := cX0_sum) (maxL := 6) (ret := (some .long)) (by decide) rfl ?_
  intro p e s m args below meth c s₁ B hml hv
  cases hv
  have C : px_C p s m _ meth c cX0_sum 6 (some .long) RX0 wsX0_sum := ⟨B.exec, B.bytes, hml, findClass_of_methodNamed B.named, atoms_spec (ws := wsX0_sum) B.pre, B.returns, B.notSynchronized⟩
  have hl := lv_entry ([.int v0, .long v1, .long v3]) (n := 6) (Nat.le_of_ble_eq_true rfl)
  rw [lg_entry_eq]
  generalize (lg_sl ([.int v0, .long v1, .long v3]) ++ List.replicate (6 - (lg_sl ([.int v0, .long v1, .long v3])).length) Slot.unset).toArray = ls at hl ⊢
  have hl : lv_has ls 6 [(0, .int v0), (1, .long v1), (3, .long v3)] := hl
  rw [fX0_sum]
  exact wX0_sum_0 C v0 v1 v3 (lv_sub hl [0, 1, 2] rfl)
