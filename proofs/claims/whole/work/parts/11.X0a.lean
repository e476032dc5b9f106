set_option maxHeartbeats 4000000 in
set_option maxRecDepth 100000 in
theorem wX0_fractionBits_0 {p : Program} {l : Launch} {e : Env} {s : State} {m : MethodId} {args : Array Value} {below : List Frame} {meth : Method} {c : Code} (C : px_C p s m args meth c cX0_fractionBits 1 (some .int) RX0 wsX0_fractionBits) (v0 : Int32) {ls : Array Slot} (hl : lv_has ls 1 [(0, .int v0)]) : W p l e { frames := 0, cells := 0, slots := 0, locals := 0 } s m args below meth c s.heap [] 0 0 (MQ below (px_Q (.int (fX0_fractionBits_0 v0))) args s 0 0 (fun _ => False)) (F0 m 0 ls []) := by
  obtain ⟨hx, hb, hml, hown, hts, hr, hlocks⟩ := id C
  rw [fX0_fractionBits_0]
  refine lv_iload_n hx hb dX0_fractionBits_0 rfl (lv_at hl 0 rfl) ?_
  refine lv_bipush (v := 6) hx hb dX0_fractionBits_1 (by decide) ?_
  refine px_icmp_ne (tgt := 11) hx hb dX0_fractionBits_3 (by decide) (fun hc3 => ?_) (fun hc3 => ?_)
  · rw [if_pos hc3]
    refine lv_bipush (v := 23) hx hb dX0_fractionBits_6 (by decide) ?_
    refine lv_goto (tgt := 13) hx hb dX0_fractionBits_8 (by decide) ?_
    exact W.iret hx hb hr (fun t ht _ => ⟨rfl, ht⟩) (fun q h => by cases h) dX0_fractionBits_13
  · rw [if_neg hc3]
    refine lv_bipush (v := 52) hx hb dX0_fractionBits_11 (by decide) ?_
    exact W.iret hx hb hr (fun t ht _ => ⟨rfl, ht⟩) (fun q h => by cases h) dX0_fractionBits_13
set_option maxHeartbeats 4000000 in
set_option maxRecDepth 100000 in
theorem kX0_fractionBits (l : Launch) (v0 : Int32) : px_M l yX0_fractionBits wsX0_fractionBits ({ frames := 0, cells := 0, slots := 0, locals := 0 }) [.int v0] (.int (fX0_fractionBits v0)) := by
  refine Met.ofW (cc := cX0_fractionBits) (maxL := 1) (ret := (some .int)) (by decide) rfl ?_
  intro p e s m args below meth c s₁ B hml hv
  cases hv
  have C : px_C p s m _ meth c cX0_fractionBits 1 (some .int) RX0 wsX0_fractionBits := ⟨B.exec, B.bytes, hml, findClass_of_methodNamed B.named, atoms_spec (ws := wsX0_fractionBits) B.pre, B.returns, B.notSynchronized⟩
  have hl := lv_entry ([.int v0]) (n := 1) (Nat.le_of_ble_eq_true rfl)
  rw [lg_entry_eq]
  generalize (lg_sl ([.int v0]) ++ List.replicate (1 - (lg_sl ([.int v0])).length) Slot.unset).toArray = ls at hl ⊢
  have hl : lv_has ls 1 [(0, .int v0)] := hl
  rw [fX0_fractionBits]
  exact wX0_fractionBits_0 C v0 (lv_sub hl [0] rfl)
set_option maxHeartbeats 4000000 in
set_option maxRecDepth 100000 in
theorem wX0_leastExponent_0 {p : Program} {l : Launch} {e : Env} {s : State} {m : MethodId} {args : Array Value} {below : List Frame} {meth : Method} {c : Code} (C : px_C p s m args meth c cX0_leastExponent 1 (some .int) RX0 wsX0_leastExponent) (v0 : Int32) {ls : Array Slot} (hl : lv_has ls 1 [(0, .int v0)]) : W p l e { frames := 0, cells := 0, slots := 0, locals := 0 } s m args below meth c s.heap [] 0 0 (MQ below (px_Q (.int (fX0_leastExponent_0 v0))) args s 0 0 (fun _ => False)) (F0 m 0 ls []) := by
  obtain ⟨hx, hb, hml, hown, hts, hr, hlocks⟩ := id C
  rw [fX0_leastExponent_0]
  refine lv_iload_n hx hb dX0_leastExponent_0 rfl (lv_at hl 0 rfl) ?_
  refine lv_bipush (v := 6) hx hb dX0_leastExponent_1 (by decide) ?_
  refine px_icmp_ne (tgt := 12) hx hb dX0_leastExponent_3 (by decide) (fun hc3 => ?_) (fun hc3 => ?_)
  · rw [if_pos hc3]
    refine lv_sipush (v := -149) hx hb dX0_leastExponent_6 (by decide) ?_
    refine lv_goto (tgt := 15) hx hb dX0_leastExponent_9 (by decide) ?_
    exact W.iret hx hb hr (fun t ht _ => ⟨rfl, ht⟩) (fun q h => by cases h) dX0_leastExponent_15
  · rw [if_neg hc3]
    refine lv_sipush (v := -1074) hx hb dX0_leastExponent_12 (by decide) ?_
    exact W.iret hx hb hr (fun t ht _ => ⟨rfl, ht⟩) (fun q h => by cases h) dX0_leastExponent_15
set_option maxHeartbeats 4000000 in
set_option maxRecDepth 100000 in
theorem kX0_leastExponent (l : Launch) (v0 : Int32) : px_M l yX0_leastExponent wsX0_leastExponent ({ frames := 0, cells := 0, slots := 0, locals := 0 }) [.int v0] (.int (fX0_leastExponent v0)) := by
  refine Met.ofW (cc := cX0_leastExponent) (maxL := 1) (ret := (some .int)) (by decide) rfl ?_
  intro p e s m args below meth c s₁ B hml hv
  cases hv
  have C : px_C p s m _ meth c cX0_leastExponent 1 (some .int) RX0 wsX0_leastExponent := ⟨B.exec, B.bytes, hml, findClass_of_methodNamed B.named, atoms_spec (ws := wsX0_leastExponent) B.pre, B.returns, B.notSynchronized⟩
  have hl := lv_entry ([.int v0]) (n := 1) (Nat.le_of_ble_eq_true rfl)
  rw [lg_entry_eq]
  generalize (lg_sl ([.int v0]) ++ List.replicate (1 - (lg_sl ([.int v0])).length) Slot.unset).toArray = ls at hl ⊢
  have hl : lv_has ls 1 [(0, .int v0)] := hl
  rw [fX0_leastExponent]
  exact wX0_leastExponent_0 C v0 (lv_sub hl [0] rfl)
set_option maxHeartbeats 4000000 in
set_option maxRecDepth 100000 in
theorem wX0_greatestAbove_0 {p : Program} {l : Launch} {e : Env} {s : State} {m : MethodId} {args : Array Value} {below : List Frame} {meth : Method} {c : Code} (C : px_C p s m args meth c cX0_greatestAbove 1 (some .int) RX0 wsX0_greatestAbove) (v0 : Int32) {ls : Array Slot} (hl : lv_has ls 1 [(0, .int v0)]) : W p l e { frames := 0, cells := 0, slots := 0, locals := 0 } s m args below meth c s.heap [] 0 0 (MQ below (px_Q (.int (fX0_greatestAbove_0 v0))) args s 0 0 (fun _ => False)) (F0 m 0 ls []) := by
  obtain ⟨hx, hb, hml, hown, hts, hr, hlocks⟩ := id C
  rw [fX0_greatestAbove_0]
  refine lv_iload_n hx hb dX0_greatestAbove_0 rfl (lv_at hl 0 rfl) ?_
  refine lv_bipush (v := 6) hx hb dX0_greatestAbove_1 (by decide) ?_
  refine px_icmp_ne (tgt := 12) hx hb dX0_greatestAbove_3 (by decide) (fun hc3 => ?_) (fun hc3 => ?_)
  · rw [if_pos hc3]
    refine lv_sipush (v := 253) hx hb dX0_greatestAbove_6 (by decide) ?_
    refine lv_goto (tgt := 15) hx hb dX0_greatestAbove_9 (by decide) ?_
    exact W.iret hx hb hr (fun t ht _ => ⟨rfl, ht⟩) (fun q h => by cases h) dX0_greatestAbove_15
  · rw [if_neg hc3]
    refine lv_sipush (v := 2045) hx hb dX0_greatestAbove_12 (by decide) ?_
    exact W.iret hx hb hr (fun t ht _ => ⟨rfl, ht⟩) (fun q h => by cases h) dX0_greatestAbove_15
set_option maxHeartbeats 4000000 in
set_option maxRecDepth 100000 in
theorem kX0_greatestAbove (l : Launch) (v0 : Int32) : px_M l yX0_greatestAbove wsX0_greatestAbove ({ frames := 0, cells := 0, slots := 0, locals := 0 }) [.int v0] (.int (fX0_greatestAbove v0)) := by
  refine Met.ofW (cc := cX0_greatestAbove) (maxL := 1) (ret := (some .int)) (by decide) rfl ?_
  intro p e s m args below meth c s₁ B hml hv
  cases hv
  have C : px_C p s m _ meth c cX0_greatestAbove 1 (some .int) RX0 wsX0_greatestAbove := ⟨B.exec, B.bytes, hml, findClass_of_methodNamed B.named, atoms_spec (ws := wsX0_greatestAbove) B.pre, B.returns, B.notSynchronized⟩
  have hl := lv_entry ([.int v0]) (n := 1) (Nat.le_of_ble_eq_true rfl)
  rw [lg_entry_eq]
  generalize (lg_sl ([.int v0]) ++ List.replicate (1 - (lg_sl ([.int v0])).length) Slot.unset).toArray = ls at hl ⊢
  have hl : lv_has ls 1 [(0, .int v0)] := hl
  rw [fX0_greatestAbove]
  exact wX0_greatestAbove_0 C v0 (lv_sub hl [0] rfl)
set_option maxHeartbeats 4000000 in
set_option maxRecDepth 100000 in
theorem wX0_infinity_0 {p : Program} {l : Launch} {e : Env} {s : State} {m : MethodId} {args : Array Value} {below : List Frame} {meth : Method} {c : Code} (C : px_C p s m args meth c cX0_infinity 1 (some .long) RX0 wsX0_infinity) (v0 : Int32) {ls : Array Slot} (hl : lv_has ls 1 [(0, .int v0)]) : W p l e { frames := 0, cells := 0, slots := 0, locals := 0 } s m args below meth c s.heap [] 0 0 (MQ below (px_Q (.long (fX0_infinity_0 v0))) args s 0 0 (fun _ => False)) (F0 m 0 ls []) := by
  obtain ⟨hx, hb, hml, hown, hts, hr, hlocks⟩ := id C
  rw [fX0_infinity_0]
  refine lv_iload_n hx hb dX0_infinity_0 rfl (lv_at hl 0 rfl) ?_
  refine lv_bipush (v := 6) hx hb dX0_infinity_1 (by decide) ?_
  refine px_icmp_ne (tgt := 12) hx hb dX0_infinity_3 (by decide) (fun hc3 => ?_) (fun hc3 => ?_)
  · rw [if_pos hc3]
    refine lv_ldc2 hx hb hown (hts (.constantLong RX0 9 (2139095040)) (by decide +kernel)) dX0_infinity_6 ?_
    refine lv_goto (tgt := 15) hx hb dX0_infinity_9 (by decide) ?_
    exact W.lret hx hb hr (fun t ht _ => ⟨rfl, ht⟩) (fun q h => by cases h) dX0_infinity_15
  · rw [if_neg hc3]
    refine lv_ldc2 hx hb hown (hts (.constantLong RX0 11 (9218868437227405312)) (by decide +kernel)) dX0_infinity_12 ?_
    exact W.lret hx hb hr (fun t ht _ => ⟨rfl, ht⟩) (fun q h => by cases h) dX0_infinity_15
set_option maxHeartbeats 4000000 in
set_option maxRecDepth 100000 in
theorem kX0_infinity (l : Launch) (v0 : Int32) : px_M l yX0_infinity wsX0_infinity ({ frames := 0, cells := 0, slots := 0, locals := 0 }) [.int v0] (.long (fX0_infinity v0)) := by
  refine Met.ofW (cc := cX0_infinity) (maxL := 1) (ret := (some .long)) (by decide) rfl ?_
  intro p e s m args below meth c s₁ B hml hv
  cases hv
  have C : px_C p s m _ meth c cX0_infinity 1 (some .long) RX0 wsX0_infinity := ⟨B.exec, B.bytes, hml, findClass_of_methodNamed B.named, atoms_spec (ws := wsX0_infinity) B.pre, B.returns, B.notSynchronized⟩
  have hl := lv_entry ([.int v0]) (n := 1) (Nat.le_of_ble_eq_true rfl)
  rw [lg_entry_eq]
  generalize (lg_sl ([.int v0]) ++ List.replicate (1 - (lg_sl ([.int v0])).length) Slot.unset).toArray = ls at hl ⊢
  have hl : lv_has ls 1 [(0, .int v0)] := hl
  rw [fX0_infinity]
  exact wX0_infinity_0 C v0 (lv_sub hl [0] rfl)
set_option maxHeartbeats 4000000 in
set_option maxRecDepth 100000 in
theorem wX0_notANumber_0 {p : Program} {l : Launch} {e : Env} {s : State} {m : MethodId} {args : Array Value} {below : List Frame} {meth : Method} {c : Code} (C : px_C p s m args meth c cX0_notANumber 1 (some .long) RX0 wsX0_notANumber) (v0 : Int32) {ls : Array Slot} (hl : lv_has ls 1 [(0, .int v0)]) : W p l e { frames := 1, cells := 0, slots := 0, locals := 20 } s m args below meth c s.heap [] 0 0 (MQ below (px_Q (.long (fX0_notANumber_0 v0))) args s 0 0 (fun _ => False)) (F0 m 0 ls []) := by
  obtain ⟨hx, hb, hml, hown, hts, hr, hlocks⟩ := id C
  rw [fX0_notANumber_0]
  refine lv_iload_n hx hb dX0_notANumber_0 rfl (lv_at hl 0 rfl) ?_
  refine px_S (As := [.int v0]) (rest := []) ⟨hx, hb, hml, hown, hts⟩ (kX0_infinity l v0) (va_cwS 1 hts gX0_notANumber_X0_infinity rfl rfl rfl (by decide +kernel) ⟨Nat.le_of_ble_eq_true rfl, Nat.le_of_ble_eq_true rfl⟩) rfl hl.1 rfl (Nat.le_of_ble_eq_true rfl) dX0_notANumber_1 (Nat.zero_le _) (Nat.zero_le _) ?_
  refine lv_lconst (v := 1) hx hb dX0_notANumber_4 (by decide) ?_
  refine lv_ladd hx hb dX0_notANumber_5 ?_
  exact W.lret hx hb hr (fun t ht _ => ⟨rfl, ht⟩) (fun q h => by cases h) dX0_notANumber_6
set_option maxHeartbeats 4000000 in
set_option maxRecDepth 100000 in
theorem kX0_notANumber (l : Launch) (v0 : Int32) : px_M l yX0_notANumber wsX0_notANumber ({ frames := 1, cells := 0, slots := 0, locals := 20 }) [.int v0] (.long (fX0_notANumber v0)) := by
  refine Met.ofW (cc := cX0_notANumber) (maxL := 1) (ret := (some .long)) (by decide) rfl ?_
  intro p e s m args below meth c s₁ B hml hv
  cases hv
  have C : px_C p s m _ meth c cX0_notANumber 1 (some .long) RX0 wsX0_notANumber := ⟨B.exec, B.bytes, hml, findClass_of_methodNamed B.named, atoms_spec (ws := wsX0_notANumber) B.pre, B.returns, B.notSynchronized⟩
  have hl := lv_entry ([.int v0]) (n := 1) (Nat.le_of_ble_eq_true rfl)
  rw [lg_entry_eq]
  generalize (lg_sl ([.int v0]) ++ List.replicate (1 - (lg_sl ([.int v0])).length) Slot.unset).toArray = ls at hl ⊢
  have hl : lv_has ls 1 [(0, .int v0)] := hl
  rw [fX0_notANumber]
  exact wX0_notANumber_0 C v0 (lv_sub hl [0] rfl)
set_option maxHeartbeats 4000000 in
set_option maxRecDepth 100000 in
theorem wX0_signBit_0 {p : Program} {l : Launch} {e : Env} {s : State} {m : MethodId} {args : Array Value} {below : List Frame} {meth : Method} {c : Code} (C : px_C p s m args meth c cX0_signBit 1 (some .long) RX0 wsX0_signBit) (v0 : Int32) {ls : Array Slot} (hl : lv_has ls 1 [(0, .int v0)]) : W p l e { frames := 0, cells := 0, slots := 0, locals := 0 } s m args below meth c s.heap [] 0 0 (MQ below (px_Q (.long (fX0_signBit_0 v0))) args s 0 0 (fun _ => False)) (F0 m 0 ls []) := by
  obtain ⟨hx, hb, hml, hown, hts, hr, hlocks⟩ := id C
  rw [fX0_signBit_0]
  refine lv_iload_n hx hb dX0_signBit_0 rfl (lv_at hl 0 rfl) ?_
  refine lv_bipush (v := 6) hx hb dX0_signBit_1 (by decide) ?_
  refine px_icmp_ne (tgt := 12) hx hb dX0_signBit_3 (by decide) (fun hc3 => ?_) (fun hc3 => ?_)
  · rw [if_pos hc3]
    refine lv_ldc2 hx hb hown (hts (.constantLong RX0 19 (2147483648)) (by decide +kernel)) dX0_signBit_6 ?_
    refine lv_goto (tgt := 15) hx hb dX0_signBit_9 (by decide) ?_
    exact W.lret hx hb hr (fun t ht _ => ⟨rfl, ht⟩) (fun q h => by cases h) dX0_signBit_15
  · rw [if_neg hc3]
    refine lv_ldc2 hx hb hown (hts (.constantLong RX0 23 (-9223372036854775808)) (by decide +kernel)) dX0_signBit_12 ?_
    exact W.lret hx hb hr (fun t ht _ => ⟨rfl, ht⟩) (fun q h => by cases h) dX0_signBit_15
set_option maxHeartbeats 4000000 in
set_option maxRecDepth 100000 in
theorem kX0_signBit (l : Launch) (v0 : Int32) : px_M l yX0_signBit wsX0_signBit ({ frames := 0, cells := 0, slots := 0, locals := 0 }) [.int v0] (.long (fX0_signBit v0)) := by
  refine Met.ofW (cc := cX0_signBit) (maxL := 1) (ret := (some .long)) (by decide) rfl ?_
  intro p e s m args below meth c s₁ B hml hv
  cases hv
  have C : px_C p s m _ meth c cX0_signBit 1 (some .long) RX0 wsX0_signBit := ⟨B.exec, B.bytes, hml, findClass_of_methodNamed B.named, atoms_spec (ws := wsX0_signBit) B.pre, B.returns, B.notSynchronized⟩
  have hl := lv_entry ([.int v0]) (n := 1) (Nat.le_of_ble_eq_true rfl)
  rw [lg_entry_eq]
  generalize (lg_sl ([.int v0]) ++ List.replicate (1 - (lg_sl ([.int v0])).length) Slot.unset).toArray = ls at hl ⊢
  have hl : lv_has ls 1 [(0, .int v0)] := hl
  rw [fX0_signBit]
  exact wX0_signBit_0 C v0 (lv_sub hl [0] rfl)
set_option maxHeartbeats 4000000 in
set_option maxRecDepth 100000 in
theorem wX0_size_0 {p : Program} {l : Launch} {e : Env} {s : State} {m : MethodId} {args : Array Value} {below : List Frame} {meth : Method} {c : Code} (C : px_C p s m args meth c cX0_size 3 (some .long) RX0 wsX0_size) (v0 : Int32) (v1 : Int64) {ls : Array Slot} (hl : lv_has ls 3 [(0, .int v0), (1, .long v1)]) : W p l e { frames := 1, cells := 0, slots := 0, locals := 20 } s m args below meth c s.heap [] 0 0 (MQ below (px_Q (.long (fX0_size_0 v0 v1))) args s 0 0 (fun _ => False)) (F0 m 0 ls []) := by
  obtain ⟨hx, hb, hml, hown, hts, hr, hlocks⟩ := id C
  rw [fX0_size_0]
  refine lv_lload_n hx hb dX0_size_0 rfl (lv_at hl 1 rfl) ?_
  refine lv_iload_n hx hb dX0_size_1 rfl (lv_at hl 0 rfl) ?_
  refine px_S (As := [.int v0]) (rest := [.long v1]) ⟨hx, hb, hml, hown, hts⟩ (kX0_signBit l v0) (va_cwS 1 hts gX0_size_X0_signBit rfl rfl rfl (by decide +kernel) ⟨Nat.le_of_ble_eq_true rfl, Nat.le_of_ble_eq_true rfl⟩) rfl hl.1 rfl (Nat.le_of_ble_eq_true rfl) dX0_size_2 (Nat.zero_le _) (Nat.zero_le _) ?_
  refine lv_ldc2 hx hb hown (hts (.constantLong RX0 28 (-1)) (by decide +kernel)) dX0_size_5 ?_
  refine lv_lxor hx hb dX0_size_8 ?_
  refine lv_land hx hb dX0_size_9 ?_
  exact W.lret hx hb hr (fun t ht _ => ⟨rfl, ht⟩) (fun q h => by cases h) dX0_size_10
set_option maxHeartbeats 4000000 in
set_option maxRecDepth 100000 in
theorem kX0_size (l : Launch) (v0 : Int32) (v1 : Int64) : px_M l yX0_size wsX0_size ({ frames := 1, cells := 0, slots := 0, locals := 20 }) [.int v0, .long v1] (.long (fX0_size v0 v1)) := by
  refine Met.ofW (cc := cX0_size) (maxL := 3) (ret := (some .long)) (by decide) rfl ?_
  intro p e s m args below meth c s₁ B hml hv
  cases hv
  have C : px_C p s m _ meth c cX0_size 3 (some .long) RX0 wsX0_size := ⟨B.exec, B.bytes, hml, findClass_of_methodNamed B.named, atoms_spec (ws := wsX0_size) B.pre, B.returns, B.notSynchronized⟩
  have hl := lv_entry ([.int v0, .long v1]) (n := 3) (Nat.le_of_ble_eq_true rfl)
  rw [lg_entry_eq]
  generalize (lg_sl ([.int v0, .long v1]) ++ List.replicate (3 - (lg_sl ([.int v0, .long v1])).length) Slot.unset).toArray = ls at hl ⊢
  have hl : lv_has ls 3 [(0, .int v0), (1, .long v1)] := hl
  rw [fX0_size]
  exact wX0_size_0 C v0 v1 (lv_sub hl [0, 1] rfl)
set_option maxHeartbeats 4000000 in
set_option maxRecDepth 100000 in
theorem wX0_isNumber_0 {p : Program} {l : Launch} {e : Env} {s : State} {m : MethodId} {args : Array Value} {below : List Frame} {meth : Method} {c : Code} (C : px_C p s m args meth c cX0_isNumber 5 (some .boolean) RX0 wsX0_isNumber) (v0 : Int32) (v1 : Int64) {ls : Array Slot} (hl : lv_has ls 5 [(0, .int v0), (1, .long v1)]) : W p l e { frames := 2, cells := 0, slots := 0, locals := 42 } s m args below meth c s.heap [] 0 0 (MQ below (px_Q (.int (fX0_isNumber_0 v0 v1))) args s 0 0 (fun _ => False)) (F0 m 0 ls []) := by
  obtain ⟨hx, hb, hml, hown, hts, hr, hlocks⟩ := id C
  rw [fX0_isNumber_0]
  refine lv_iload_n hx hb dX0_isNumber_0 rfl (lv_at hl 0 rfl) ?_
  refine lv_lload_n hx hb dX0_isNumber_1 rfl (lv_at hl 1 rfl) ?_
  refine px_S (As := [.int v0, .long v1]) (rest := []) ⟨hx, hb, hml, hown, hts⟩ (kX0_size l v0 v1) (va_cwS 2 hts gX0_isNumber_X0_size rfl rfl rfl (by decide +kernel) ⟨Nat.le_of_ble_eq_true rfl, Nat.le_of_ble_eq_true rfl⟩) rfl hl.1 rfl (Nat.le_of_ble_eq_true rfl) dX0_isNumber_2 (Nat.zero_le _) (Nat.zero_le _) ?_
  refine lv_topl (fun v3_5 ev3_5 => ?_)
  rw [← ev3_5]
  refine lv_lstore_n (lv' := [(3, .long v3_5), (0, .int v0), (1, .long v1)]) hx hb dX0_isNumber_5 rfl hl (by decide) rfl (fun ls hl => ?_)
  rw [fX0_isNumber_6]
  refine lv_lload_n hx hb dX0_isNumber_6 rfl (lv_at hl 0 rfl) ?_
  refine lv_lconst (v := 0) hx hb dX0_isNumber_7 (by decide) ?_
  refine px_lcmp_lt (tgt := 25) hx hb dX0_isNumber_8 dX0_isNumber_9 (by decide) (fun hc8 => ?_) (fun hc8 => ?_)
  · rw [if_pos hc8]
    refine lv_iconst (v := 0) hx hb dX0_isNumber_25 (by decide) ?_
    exact W.zret hx hb hr (by decide) (fun t ht _ => ⟨rfl, ht⟩) (fun q h => by cases h) dX0_isNumber_26
  · rw [if_neg hc8]
    refine lv_lload_n hx hb dX0_isNumber_12 rfl (lv_at hl 0 rfl) ?_
    refine lv_iload_n hx hb dX0_isNumber_13 rfl (lv_at hl 1 rfl) ?_
    refine px_S (As := [.int v0]) (rest := [.long v3_5]) ⟨hx, hb, hml, hown, hts⟩ (kX0_infinity l v0) (va_cwS 1 hts gX0_isNumber_X0_infinity rfl rfl rfl (by decide +kernel) ⟨Nat.le_of_ble_eq_true rfl, Nat.le_of_ble_eq_true rfl⟩) rfl hl.1 rfl (Nat.le_of_ble_eq_true rfl) dX0_isNumber_14 (Nat.zero_le _) (Nat.zero_le _) ?_
    refine px_lcmp_gt (tgt := 25) hx hb dX0_isNumber_17 dX0_isNumber_18 (by decide) (fun hc17 => ?_) (fun hc17 => ?_)
    · rw [if_pos hc17]
      refine lv_iconst (v := 0) hx hb dX0_isNumber_25 (by decide) ?_
      exact W.zret hx hb hr (by decide) (fun t ht _ => ⟨rfl, ht⟩) (fun q h => by cases h) dX0_isNumber_26
    · rw [if_neg hc17]
      refine lv_iconst (v := 1) hx hb dX0_isNumber_21 (by decide) ?_
      refine lv_goto (tgt := 26) hx hb dX0_isNumber_22 (by decide) ?_
      exact W.zret hx hb hr (by decide) (fun t ht _ => ⟨rfl, ht⟩) (fun q h => by cases h) dX0_isNumber_26
theorem zX0_isNumber_6 (v0 : Int32) (v3 : Int64) : fX0_isNumber_6 v0 v3 = 0 ∨ fX0_isNumber_6 v0 v3 = 1 := by
  unfold fX0_isNumber_6
  (repeat' split) <;> first | exact Or.inl rfl | exact Or.inr rfl
theorem zX0_isNumber_0 (v0 : Int32) (v1 : Int64) : fX0_isNumber_0 v0 v1 = 0 ∨ fX0_isNumber_0 v0 v1 = 1 := by
  unfold fX0_isNumber_0
  (repeat' split) <;> first | exact Or.inl rfl | exact Or.inr rfl | exact zX0_isNumber_6 _ _
theorem zX0_isNumber (v0 : Int32) (v1 : Int64) : fX0_isNumber v0 v1 = 0 ∨ fX0_isNumber v0 v1 = 1 := zX0_isNumber_0 _ _
set_option maxHeartbeats 4000000 in
set_option maxRecDepth 100000 in
theorem kX0_isNumber (l : Launch) (v0 : Int32) (v1 : Int64) : px_M l yX0_isNumber wsX0_isNumber ({ frames := 2, cells := 0, slots := 0, locals := 42 }) [.int v0, .long v1] (.int (fX0_isNumber v0 v1)) := by
  refine Met.ofW (cc := cX0_isNumber) (maxL := 5) (ret := (some .boolean)) (by decide) rfl ?_
  intro p e s m args below meth c s₁ B hml hv
  cases hv
  have C : px_C p s m _ meth c cX0_isNumber 5 (some .boolean) RX0 wsX0_isNumber := ⟨B.exec, B.bytes, hml, findClass_of_methodNamed B.named, atoms_spec (ws := wsX0_isNumber) B.pre, B.returns, B.notSynchronized⟩
  have hl := lv_entry ([.int v0, .long v1]) (n := 5) (Nat.le_of_ble_eq_true rfl)
  rw [lg_entry_eq]
  generalize (lg_sl ([.int v0, .long v1]) ++ List.replicate (5 - (lg_sl ([.int v0, .long v1])).length) Slot.unset).toArray = ls at hl ⊢
  have hl : lv_has ls 5 [(0, .int v0), (1, .long v1)] := hl
  rw [fX0_isNumber]
  exact wX0_isNumber_0 C v0 v1 (lv_sub hl [0, 1] rfl)
set_option maxHeartbeats 4000000 in
set_option maxRecDepth 100000 in
theorem wX0_isNegative_0 {p : Program} {l : Launch} {e : Env} {s : State} {m : MethodId} {args : Array Value} {below : List Frame} {meth : Method} {c : Code} (C : px_C p s m args meth c cX0_isNegative 3 (some .boolean) RX0 wsX0_isNegative) (v0 : Int32) (v1 : Int64) {ls : Array Slot} (hl : lv_has ls 3 [(0, .int v0), (1, .long v1)]) : W p l e { frames := 1, cells := 0, slots := 0, locals := 20 } s m args below meth c s.heap [] 0 0 (MQ below (px_Q (.int (fX0_isNegative_0 v0 v1))) args s 0 0 (fun _ => False)) (F0 m 0 ls []) := by
  obtain ⟨hx, hb, hml, hown, hts, hr, hlocks⟩ := id C
  rw [fX0_isNegative_0]
  refine lv_lload_n hx hb dX0_isNegative_0 rfl (lv_at hl 1 rfl) ?_
  refine lv_iload_n hx hb dX0_isNegative_1 rfl (lv_at hl 0 rfl) ?_
  refine px_S (As := [.int v0]) (rest := [.long v1]) ⟨hx, hb, hml, hown, hts⟩ (kX0_signBit l v0) (va_cwS 1 hts gX0_isNegative_X0_signBit rfl rfl rfl (by decide +kernel) ⟨Nat.le_of_ble_eq_true rfl, Nat.le_of_ble_eq_true rfl⟩) rfl hl.1 rfl (Nat.le_of_ble_eq_true rfl) dX0_isNegative_2 (Nat.zero_le _) (Nat.zero_le _) ?_
  refine lv_land hx hb dX0_isNegative_5 ?_
  refine lv_lconst (v := 0) hx hb dX0_isNegative_6 (by decide) ?_
  refine px_lcmp_eq (tgt := 15) hx hb dX0_isNegative_7 dX0_isNegative_8 (by decide) (fun hc7 => ?_) (fun hc7 => ?_)
  · rw [if_pos hc7]
    refine lv_iconst (v := 0) hx hb dX0_isNegative_15 (by decide) ?_
    exact W.zret hx hb hr (by decide) (fun t ht _ => ⟨rfl, ht⟩) (fun q h => by cases h) dX0_isNegative_16
  · rw [if_neg hc7]
    refine lv_iconst (v := 1) hx hb dX0_isNegative_11 (by decide) ?_
    refine lv_goto (tgt := 16) hx hb dX0_isNegative_12 (by decide) ?_
    exact W.zret hx hb hr (by decide) (fun t ht _ => ⟨rfl, ht⟩) (fun q h => by cases h) dX0_isNegative_16
theorem zX0_isNegative_0 (v0 : Int32) (v1 : Int64) : fX0_isNegative_0 v0 v1 = 0 ∨ fX0_isNegative_0 v0 v1 = 1 := by
  unfold fX0_isNegative_0
  (repeat' split) <;> first | exact Or.inl rfl | exact Or.inr rfl
theorem zX0_isNegative (v0 : Int32) (v1 : Int64) : fX0_isNegative v0 v1 = 0 ∨ fX0_isNegative v0 v1 = 1 := zX0_isNegative_0 _ _
set_option maxHeartbeats 4000000 in
set_option maxRecDepth 100000 in
theorem kX0_isNegative (l : Launch) (v0 : Int32) (v1 : Int64) : px_M l yX0_isNegative wsX0_isNegative ({ frames := 1, cells := 0, slots := 0, locals := 20 }) [.int v0, .long v1] (.int (fX0_isNegative v0 v1)) := by
  refine Met.ofW (cc := cX0_isNegative) (maxL := 3) (ret := (some .boolean)) (by decide) rfl ?_
  intro p e s m args below meth c s₁ B hml hv
  cases hv
  have C : px_C p s m _ meth c cX0_isNegative 3 (some .boolean) RX0 wsX0_isNegative := ⟨B.exec, B.bytes, hml, findClass_of_methodNamed B.named, atoms_spec (ws := wsX0_isNegative) B.pre, B.returns, B.notSynchronized⟩
  have hl := lv_entry ([.int v0, .long v1]) (n := 3) (Nat.le_of_ble_eq_true rfl)
  rw [lg_entry_eq]
  generalize (lg_sl ([.int v0, .long v1]) ++ List.replicate (3 - (lg_sl ([.int v0, .long v1])).length) Slot.unset).toArray = ls at hl ⊢
  have hl : lv_has ls 3 [(0, .int v0), (1, .long v1)] := hl
  rw [fX0_isNegative]
  exact wX0_isNegative_0 C v0 v1 (lv_sub hl [0, 1] rfl)
set_option maxHeartbeats 4000000 in
set_option maxRecDepth 100000 in
theorem wX0_isInfinite_0 {p : Program} {l : Launch} {e : Env} {s : State} {m : MethodId} {args : Array Value} {below : List Frame} {meth : Method} {c : Code} (C : px_C p s m args meth c cX0_isInfinite 3 (some .boolean) RX0 wsX0_isInfinite) (v0 : Int32) (v1 : Int64) {ls : Array Slot} (hl : lv_has ls 3 [(0, .int v0), (1, .long v1)]) : W p l e { frames := 2, cells := 0, slots := 0, locals := 42 } s m args below meth c s.heap [] 0 0 (MQ below (px_Q (.int (fX0_isInfinite_0 v0 v1))) args s 0 0 (fun _ => False)) (F0 m 0 ls []) := by
  obtain ⟨hx, hb, hml, hown, hts, hr, hlocks⟩ := id C
  rw [fX0_isInfinite_0]
  refine lv_iload_n hx hb dX0_isInfinite_0 rfl (lv_at hl 0 rfl) ?_
  refine lv_lload_n hx hb dX0_isInfinite_1 rfl (lv_at hl 1 rfl) ?_
  refine px_S (As := [.int v0, .long v1]) (rest := []) ⟨hx, hb, hml, hown, hts⟩ (kX0_size l v0 v1) (va_cwS 2 hts gX0_isInfinite_X0_size rfl rfl rfl (by decide +kernel) ⟨Nat.le_of_ble_eq_true rfl, Nat.le_of_ble_eq_true rfl⟩) rfl hl.1 rfl (Nat.le_of_ble_eq_true rfl) dX0_isInfinite_2 (Nat.zero_le _) (Nat.zero_le _) ?_
  refine lv_iload_n hx hb dX0_isInfinite_5 rfl (lv_at hl 0 rfl) ?_
  refine px_S (As := [.int v0]) (rest := [.long (fX0_size v0 v1)]) ⟨hx, hb, hml, hown, hts⟩ (kX0_infinity l v0) (va_cwS 1 hts gX0_isInfinite_X0_infinity rfl rfl rfl (by decide +kernel) ⟨Nat.le_of_ble_eq_true rfl, Nat.le_of_ble_eq_true rfl⟩) rfl hl.1 rfl (Nat.le_of_ble_eq_true rfl) dX0_isInfinite_6 (Nat.zero_le _) (Nat.zero_le _) ?_
  refine px_lcmp_ne (tgt := 17) hx hb dX0_isInfinite_9 dX0_isInfinite_10 (by decide) (fun hc9 => ?_) (fun hc9 => ?_)
  · rw [if_pos hc9]
    refine lv_iconst (v := 1) hx hb dX0_isInfinite_13 (by decide) ?_
    refine lv_goto (tgt := 18) hx hb dX0_isInfinite_14 (by decide) ?_
    exact W.zret hx hb hr (by decide) (fun t ht _ => ⟨rfl, ht⟩) (fun q h => by cases h) dX0_isInfinite_18
  · rw [if_neg hc9]
    refine lv_iconst (v := 0) hx hb dX0_isInfinite_17 (by decide) ?_
    exact W.zret hx hb hr (by decide) (fun t ht _ => ⟨rfl, ht⟩) (fun q h => by cases h) dX0_isInfinite_18
theorem zX0_isInfinite_0 (v0 : Int32) (v1 : Int64) : fX0_isInfinite_0 v0 v1 = 0 ∨ fX0_isInfinite_0 v0 v1 = 1 := by
  unfold fX0_isInfinite_0
  (repeat' split) <;> first | exact Or.inl rfl | exact Or.inr rfl
theorem zX0_isInfinite (v0 : Int32) (v1 : Int64) : fX0_isInfinite v0 v1 = 0 ∨ fX0_isInfinite v0 v1 = 1 := zX0_isInfinite_0 _ _
set_option maxHeartbeats 4000000 in
set_option maxRecDepth 100000 in
theorem kX0_isInfinite (l : Launch) (v0 : Int32) (v1 : Int64) : px_M l yX0_isInfinite wsX0_isInfinite ({ frames := 2, cells := 0, slots := 0, locals := 42 }) [.int v0, .long v1] (.int (fX0_isInfinite v0 v1)) := by
  refine Met.ofW (cc := cX0_isInfinite) (maxL := 3) (ret := (some .boolean)) (by decide) rfl ?_
  intro p e s m args below meth c s₁ B hml hv
  cases hv
  have C : px_C p s m _ meth c cX0_isInfinite 3 (some .boolean) RX0 wsX0_isInfinite := ⟨B.exec, B.bytes, hml, findClass_of_methodNamed B.named, atoms_spec (ws := wsX0_isInfinite) B.pre, B.returns, B.notSynchronized⟩
  have hl := lv_entry ([.int v0, .long v1]) (n := 3) (Nat.le_of_ble_eq_true rfl)
  rw [lg_entry_eq]
  generalize (lg_sl ([.int v0, .long v1]) ++ List.replicate (3 - (lg_sl ([.int v0, .long v1])).length) Slot.unset).toArray = ls at hl ⊢
  have hl : lv_has ls 3 [(0, .int v0), (1, .long v1)] := hl
  rw [fX0_isInfinite]
  exact wX0_isInfinite_0 C v0 v1 (lv_sub hl [0, 1] rfl)
set_option maxHeartbeats 4000000 in
set_option maxRecDepth 100000 in
theorem wX0_isZero_0 {p : Program} {l : Launch} {e : Env} {s : State} {m : MethodId} {args : Array Value} {below : List Frame} {meth : Method} {c : Code} (C : px_C p s m args meth c cX0_isZero 3 (some .boolean) RX0 wsX0_isZero) (v0 : Int32) (v1 : Int64) {ls : Array Slot} (hl : lv_has ls 3 [(0, .int v0), (1, .long v1)]) : W p l e { frames := 2, cells := 0, slots := 0, locals := 42 } s m args below meth c s.heap [] 0 0 (MQ below (px_Q (.int (fX0_isZero_0 v0 v1))) args s 0 0 (fun _ => False)) (F0 m 0 ls []) := by
  obtain ⟨hx, hb, hml, hown, hts, hr, hlocks⟩ := id C
  rw [fX0_isZero_0]
  refine lv_iload_n hx hb dX0_isZero_0 rfl (lv_at hl 0 rfl) ?_
  refine lv_lload_n hx hb dX0_isZero_1 rfl (lv_at hl 1 rfl) ?_
  refine px_S (As := [.int v0, .long v1]) (rest := []) ⟨hx, hb, hml, hown, hts⟩ (kX0_size l v0 v1) (va_cwS 2 hts gX0_isZero_X0_size rfl rfl rfl (by decide +kernel) ⟨Nat.le_of_ble_eq_true rfl, Nat.le_of_ble_eq_true rfl⟩) rfl hl.1 rfl (Nat.le_of_ble_eq_true rfl) dX0_isZero_2 (Nat.zero_le _) (Nat.zero_le _) ?_
  refine lv_lconst (v := 0) hx hb dX0_isZero_5 (by decide) ?_
  refine px_lcmp_ne (tgt := 14) hx hb dX0_isZero_6 dX0_isZero_7 (by decide) (fun hc6 => ?_) (fun hc6 => ?_)
  · rw [if_pos hc6]
    refine lv_iconst (v := 1) hx hb dX0_isZero_10 (by decide) ?_
    refine lv_goto (tgt := 15) hx hb dX0_isZero_11 (by decide) ?_
    exact W.zret hx hb hr (by decide) (fun t ht _ => ⟨rfl, ht⟩) (fun q h => by cases h) dX0_isZero_15
  · rw [if_neg hc6]
    refine lv_iconst (v := 0) hx hb dX0_isZero_14 (by decide) ?_
    exact W.zret hx hb hr (by decide) (fun t ht _ => ⟨rfl, ht⟩) (fun q h => by cases h) dX0_isZero_15
theorem zX0_isZero_0 (v0 : Int32) (v1 : Int64) : fX0_isZero_0 v0 v1 = 0 ∨ fX0_isZero_0 v0 v1 = 1 := by
  unfold fX0_isZero_0
  (repeat' split) <;> first | exact Or.inl rfl | exact Or.inr rfl
theorem zX0_isZero (v0 : Int32) (v1 : Int64) : fX0_isZero v0 v1 = 0 ∨ fX0_isZero v0 v1 = 1 := zX0_isZero_0 _ _
set_option maxHeartbeats 4000000 in
set_option maxRecDepth 100000 in
theorem kX0_isZero (l : Launch) (v0 : Int32) (v1 : Int64) : px_M l yX0_isZero wsX0_isZero ({ frames := 2, cells := 0, slots := 0, locals := 42 }) [.int v0, .long v1] (.int (fX0_isZero v0 v1)) := by
  refine Met.ofW (cc := cX0_isZero) (maxL := 3) (ret := (some .boolean)) (by decide) rfl ?_
  intro p e s m args below meth c s₁ B hml hv
  cases hv
  have C : px_C p s m _ meth c cX0_isZero 3 (some .boolean) RX0 wsX0_isZero := ⟨B.exec, B.bytes, hml, findClass_of_methodNamed B.named, atoms_spec (ws := wsX0_isZero) B.pre, B.returns, B.notSynchronized⟩
  have hl := lv_entry ([.int v0, .long v1]) (n := 3) (Nat.le_of_ble_eq_true rfl)
  rw [lg_entry_eq]
  generalize (lg_sl ([.int v0, .long v1]) ++ List.replicate (3 - (lg_sl ([.int v0, .long v1])).length) Slot.unset).toArray = ls at hl ⊢
  have hl : lv_has ls 3 [(0, .int v0), (1, .long v1)] := hl
  rw [fX0_isZero]
  exact wX0_isZero_0 C v0 v1 (lv_sub hl [0, 1] rfl)
set_option maxHeartbeats 4000000 in
set_option maxRecDepth 100000 in
theorem wX0_negated_0 {p : Program} {l : Launch} {e : Env} {s : State} {m : MethodId} {args : Array Value} {below : List Frame} {meth : Method} {c : Code} (C : px_C p s m args meth c cX0_negated 3 (some .long) RX0 wsX0_negated) (v0 : Int32) (v1 : Int64) {ls : Array Slot} (hl : lv_has ls 3 [(0, .int v0), (1, .long v1)]) : W p l e { frames := 1, cells := 0, slots := 0, locals := 20 } s m args below meth c s.heap [] 0 0 (MQ below (px_Q (.long (fX0_negated_0 v0 v1))) args s 0 0 (fun _ => False)) (F0 m 0 ls []) := by
  obtain ⟨hx, hb, hml, hown, hts, hr, hlocks⟩ := id C
  rw [fX0_negated_0]
  refine lv_lload_n hx hb dX0_negated_0 rfl (lv_at hl 1 rfl) ?_
  refine lv_iload_n hx hb dX0_negated_1 rfl (lv_at hl 0 rfl) ?_
  refine px_S (As := [.int v0]) (rest := [.long v1]) ⟨hx, hb, hml, hown, hts⟩ (kX0_signBit l v0) (va_cwS 1 hts gX0_negated_X0_signBit rfl rfl rfl (by decide +kernel) ⟨Nat.le_of_ble_eq_true rfl, Nat.le_of_ble_eq_true rfl⟩) rfl hl.1 rfl (Nat.le_of_ble_eq_true rfl) dX0_negated_2 (Nat.zero_le _) (Nat.zero_le _) ?_
  refine lv_lxor hx hb dX0_negated_5 ?_
  exact W.lret hx hb hr (fun t ht _ => ⟨rfl, ht⟩) (fun q h => by cases h) dX0_negated_6
set_option maxHeartbeats 4000000 in
set_option maxRecDepth 100000 in
theorem kX0_negated (l : Launch) (v0 : Int32) (v1 : Int64) : px_M l yX0_negated wsX0_negated ({ frames := 1, cells := 0, slots := 0, locals := 20 }) [.int v0, .long v1] (.long (fX0_negated v0 v1)) := by
  refine Met.ofW (cc := cX0_negated) (maxL := 3) (ret := (some .long)) (by decide) rfl ?_
  intro p e s m args below meth c s₁ B hml hv
  cases hv
  have C : px_C p s m _ meth c cX0_negated 3 (some .long) RX0 wsX0_negated := ⟨B.exec, B.bytes, hml, findClass_of_methodNamed B.named, atoms_spec (ws := wsX0_negated) B.pre, B.returns, B.notSynchronized⟩
  have hl := lv_entry ([.int v0, .long v1]) (n := 3) (Nat.le_of_ble_eq_true rfl)
  rw [lg_entry_eq]
  generalize (lg_sl ([.int v0, .long v1]) ++ List.replicate (3 - (lg_sl ([.int v0, .long v1])).length) Slot.unset).toArray = ls at hl ⊢
  have hl : lv_has ls 3 [(0, .int v0), (1, .long v1)] := hl
  rw [fX0_negated]
  exact wX0_negated_0 C v0 v1 (lv_sub hl [0, 1] rfl)
set_option maxHeartbeats 4000000 in
set_option maxRecDepth 100000 in
theorem wX0_signed_0 {p : Program} {l : Launch} {e : Env} {s : State} {m : MethodId} {args : Array Value} {below : List Frame} {meth : Method} {c : Code} (C : px_C p s m args meth c cX0_signed 4 (some .long) RX0 wsX0_signed) (v0 : Int32) (v1 : Int32) (v2 : Int64) {ls : Array Slot} (hl : lv_has ls 4 [(0, .int v0), (1, .int v1), (2, .long v2)]) : W p l e { frames := 1, cells := 0, slots := 0, locals := 20 } s m args below meth c s.heap [] 0 0 (MQ below (px_Q (.long (fX0_signed_0 v0 v1 v2))) args s 0 0 (fun _ => False)) (F0 m 0 ls []) := by
  obtain ⟨hx, hb, hml, hown, hts, hr, hlocks⟩ := id C
  rw [fX0_signed_0]
  refine lv_iload_n hx hb dX0_signed_0 rfl (lv_at hl 1 rfl) ?_
  refine px_if_eq (tgt := 13) hx hb dX0_signed_1 (by decide) (fun hc1 => ?_) (fun hc1 => ?_)
  · rw [if_pos hc1]
    refine lv_lload_n hx hb dX0_signed_13 rfl (lv_at hl 2 rfl) ?_
    exact W.lret hx hb hr (fun t ht _ => ⟨rfl, ht⟩) (fun q h => by cases h) dX0_signed_14
  · rw [if_neg hc1]
    refine lv_lload_n hx hb dX0_signed_4 rfl (lv_at hl 2 rfl) ?_
    refine lv_iload_n hx hb dX0_signed_5 rfl (lv_at hl 0 rfl) ?_
    refine px_S (As := [.int v0]) (rest := [.long v2]) ⟨hx, hb, hml, hown, hts⟩ (kX0_signBit l v0) (va_cwS 1 hts gX0_signed_X0_signBit rfl rfl rfl (by decide +kernel) ⟨Nat.le_of_ble_eq_true rfl, Nat.le_of_ble_eq_true rfl⟩) rfl hl.1 rfl (Nat.le_of_ble_eq_true rfl) dX0_signed_6 (Nat.zero_le _) (Nat.zero_le _) ?_
    refine lv_lor hx hb dX0_signed_9 ?_
    refine lv_goto (tgt := 14) hx hb dX0_signed_10 (by decide) ?_
    exact W.lret hx hb hr (fun t ht _ => ⟨rfl, ht⟩) (fun q h => by cases h) dX0_signed_14
set_option maxHeartbeats 4000000 in
set_option maxRecDepth 100000 in
theorem kX0_signed (l : Launch) (v0 : Int32) (v1 : Int32) (v2 : Int64) : px_M l yX0_signed wsX0_signed ({ frames := 1, cells := 0, slots := 0, locals := 20 }) [.int v0, .int v1, .long v2] (.long (fX0_signed v0 v1 v2)) := by
  refine Met.ofW (cc := cX0_signed) (maxL := 4) (ret := (some .long)) (by decide) rfl ?_
  intro p e s m args below meth c s₁ B hml hv
  cases hv
  have C : px_C p s m _ meth c cX0_signed 4 (some .long) RX0 wsX0_signed := ⟨B.exec, B.bytes, hml, findClass_of_methodNamed B.named, atoms_spec (ws := wsX0_signed) B.pre, B.returns, B.notSynchronized⟩
  have hl := lv_entry ([.int v0, .int v1, .long v2]) (n := 4) (Nat.le_of_ble_eq_true rfl)
  rw [lg_entry_eq]
  generalize (lg_sl ([.int v0, .int v1, .long v2]) ++ List.replicate (4 - (lg_sl ([.int v0, .int v1, .long v2])).length) Slot.unset).toArray = ls at hl ⊢
  have hl : lv_has ls 4 [(0, .int v0), (1, .int v1), (2, .long v2)] := hl
  rw [fX0_signed]
  exact wX0_signed_0 C v0 v1 v2 (lv_sub hl [0, 1, 2] rfl)
set_option maxHeartbeats 4000000 in
set_option maxRecDepth 100000 in
theorem wX0_place_0 {p : Program} {l : Launch} {e : Env} {s : State} {m : MethodId} {args : Array Value} {below : List Frame} {meth : Method} {c : Code} (C : px_C p s m args meth c cX0_place 5 (some .long) RX0 wsX0_place) (v0 : Int32) (v1 : Int64) {ls : Array Slot} (hl : lv_has ls 5 [(0, .int v0), (1, .long v1)]) : W p l e { frames := 2, cells := 0, slots := 0, locals := 42 } s m args below meth c s.heap [] 0 0 (MQ below (px_Q (.long (fX0_place_0 v0 v1))) args s 0 0 (fun _ => False)) (F0 m 0 ls []) := by
  obtain ⟨hx, hb, hml, hown, hts, hr, hlocks⟩ := id C
  rw [fX0_place_0]
  refine lv_iload_n hx hb dX0_place_0 rfl (lv_at hl 0 rfl) ?_
  refine lv_lload_n hx hb dX0_place_1 rfl (lv_at hl 1 rfl) ?_
  refine px_S (As := [.int v0, .long v1]) (rest := []) ⟨hx, hb, hml, hown, hts⟩ (kX0_size l v0 v1) (va_cwS 2 hts gX0_place_X0_size rfl rfl rfl (by decide +kernel) ⟨Nat.le_of_ble_eq_true rfl, Nat.le_of_ble_eq_true rfl⟩) rfl hl.1 rfl (Nat.le_of_ble_eq_true rfl) dX0_place_2 (Nat.zero_le _) (Nat.zero_le _) ?_
  refine lv_topl (fun v3_5 ev3_5 => ?_)
  rw [← ev3_5]
  refine lv_lstore_n (lv' := [(3, .long v3_5), (0, .int v0), (1, .long v1)]) hx hb dX0_place_5 rfl hl (by decide) rfl (fun ls hl => ?_)
  rw [fX0_place_6]
  refine lv_iload_n hx hb dX0_place_6 rfl (lv_at hl 1 rfl) ?_
  refine lv_lload_n hx hb dX0_place_7 rfl (lv_at hl 2 rfl) ?_
  refine px_S (As := [.int v0, .long v1]) (rest := []) ⟨hx, hb, hml, hown, hts⟩ (kX0_isNegative l v0 v1) (va_cwS 2 hts gX0_place_X0_isNegative rfl rfl rfl (by decide +kernel) ⟨Nat.le_of_ble_eq_true rfl, Nat.le_of_ble_eq_true rfl⟩) rfl hl.1 rfl (Nat.le_of_ble_eq_true rfl) dX0_place_8 (Nat.zero_le _) (Nat.zero_le _) ?_
  refine px_if_eq (tgt := 19) hx hb dX0_place_11 (by decide) (fun hc11 => ?_) (fun hc11 => ?_)
  · rw [if_pos hc11]
    refine lv_lload_n hx hb dX0_place_19 rfl (lv_at hl 0 rfl) ?_
    exact W.lret hx hb hr (fun t ht _ => ⟨rfl, ht⟩) (fun q h => by cases h) dX0_place_20
  · rw [if_neg hc11]
    refine lv_lload_n hx hb dX0_place_14 rfl (lv_at hl 0 rfl) ?_
    refine lv_lneg hx hb dX0_place_15 ?_
    refine lv_goto (tgt := 20) hx hb dX0_place_16 (by decide) ?_
    exact W.lret hx hb hr (fun t ht _ => ⟨rfl, ht⟩) (fun q h => by cases h) dX0_place_20
set_option maxHeartbeats 4000000 in
set_option maxRecDepth 100000 in
theorem kX0_place (l : Launch) (v0 : Int32) (v1 : Int64) : px_M l yX0_place wsX0_place ({ frames := 2, cells := 0, slots := 0, locals := 42 }) [.int v0, .long v1] (.long (fX0_place v0 v1)) := by
  refine Met.ofW (cc := cX0_place) (maxL := 5) (ret := (some .long)) (by decide) rfl ?_
  intro p e s m args below meth c s₁ B hml hv
  cases hv
  have C : px_C p s m _ meth c cX0_place 5 (some .long) RX0 wsX0_place := ⟨B.exec, B.bytes, hml, findClass_of_methodNamed B.named, atoms_spec (ws := wsX0_place) B.pre, B.returns, B.notSynchronized⟩
  have hl := lv_entry ([.int v0, .long v1]) (n := 5) (Nat.le_of_ble_eq_true rfl)
  rw [lg_entry_eq]
  generalize (lg_sl ([.int v0, .long v1]) ++ List.replicate (5 - (lg_sl ([.int v0, .long v1])).length) Slot.unset).toArray = ls at hl ⊢
  have hl : lv_has ls 5 [(0, .int v0), (1, .long v1)] := hl
  rw [fX0_place]
  exact wX0_place_0 C v0 v1 (lv_sub hl [0, 1] rfl)
set_option maxHeartbeats 4000000 in
set_option maxRecDepth 100000 in
theorem wX0_placeWithZerosApart_0 {p : Program} {l : Launch} {e : Env} {s : State} {m : MethodId} {args : Array Value} {below : List Frame} {meth : Method} {c : Code} (C : px_C p s m args meth c cX0_placeWithZerosApart 5 (some .long) RX0 wsX0_placeWithZerosApart) (v0 : Int32) (v1 : Int64) {ls : Array Slot} (hl : lv_has ls 5 [(0, .int v0), (1, .long v1)]) : W p l e { frames := 2, cells := 0, slots := 0, locals := 42 } s m args below meth c s.heap [] 0 0 (MQ below (px_Q (.long (fX0_placeWithZerosApart_0 v0 v1))) args s 0 0 (fun _ => False)) (F0 m 0 ls []) := by
  obtain ⟨hx, hb, hml, hown, hts, hr, hlocks⟩ := id C
  rw [fX0_placeWithZerosApart_0]
  refine lv_iload_n hx hb dX0_placeWithZerosApart_0 rfl (lv_at hl 0 rfl) ?_
  refine lv_lload_n hx hb dX0_placeWithZerosApart_1 rfl (lv_at hl 1 rfl) ?_
  refine px_S (As := [.int v0, .long v1]) (rest := []) ⟨hx, hb, hml, hown, hts⟩ (kX0_size l v0 v1) (va_cwS 2 hts gX0_placeWithZerosApart_X0_size rfl rfl rfl (by decide +kernel) ⟨Nat.le_of_ble_eq_true rfl, Nat.le_of_ble_eq_true rfl⟩) rfl hl.1 rfl (Nat.le_of_ble_eq_true rfl) dX0_placeWithZerosApart_2 (Nat.zero_le _) (Nat.zero_le _) ?_
  refine lv_topl (fun v3_5 ev3_5 => ?_)
  rw [← ev3_5]
  refine lv_lstore_n (lv' := [(3, .long v3_5), (0, .int v0), (1, .long v1)]) hx hb dX0_placeWithZerosApart_5 rfl hl (by decide) rfl (fun ls hl => ?_)
  rw [fX0_placeWithZerosApart_6]
  refine lv_iload_n hx hb dX0_placeWithZerosApart_6 rfl (lv_at hl 1 rfl) ?_
  refine lv_lload_n hx hb dX0_placeWithZerosApart_7 rfl (lv_at hl 2 rfl) ?_
  refine px_S (As := [.int v0, .long v1]) (rest := []) ⟨hx, hb, hml, hown, hts⟩ (kX0_isNegative l v0 v1) (va_cwS 2 hts gX0_placeWithZerosApart_X0_isNegative rfl rfl rfl (by decide +kernel) ⟨Nat.le_of_ble_eq_true rfl, Nat.le_of_ble_eq_true rfl⟩) rfl hl.1 rfl (Nat.le_of_ble_eq_true rfl) dX0_placeWithZerosApart_8 (Nat.zero_le _) (Nat.zero_le _) ?_
  refine px_if_eq (tgt := 21) hx hb dX0_placeWithZerosApart_11 (by decide) (fun hc11 => ?_) (fun hc11 => ?_)
  · rw [if_pos hc11]
    refine lv_lload_n hx hb dX0_placeWithZerosApart_21 rfl (lv_at hl 0 rfl) ?_
    exact W.lret hx hb hr (fun t ht _ => ⟨rfl, ht⟩) (fun q h => by cases h) dX0_placeWithZerosApart_22
  · rw [if_neg hc11]
    refine lv_lload_n hx hb dX0_placeWithZerosApart_14 rfl (lv_at hl 0 rfl) ?_
    refine lv_lneg hx hb dX0_placeWithZerosApart_15 ?_
    refine lv_lconst (v := 1) hx hb dX0_placeWithZerosApart_16 (by decide) ?_
    refine lv_lsub hx hb dX0_placeWithZerosApart_17 ?_
    refine lv_goto (tgt := 22) hx hb dX0_placeWithZerosApart_18 (by decide) ?_
    exact W.lret hx hb hr (fun t ht _ => ⟨rfl, ht⟩) (fun q h => by cases h) dX0_placeWithZerosApart_22
set_option maxHeartbeats 4000000 in
set_option maxRecDepth 100000 in
theorem kX0_placeWithZerosApart (l : Launch) (v0 : Int32) (v1 : Int64) : px_M l yX0_placeWithZerosApart wsX0_placeWithZerosApart ({ frames := 2, cells := 0, slots := 0, locals := 42 }) [.int v0, .long v1] (.long (fX0_placeWithZerosApart v0 v1)) := by
  refine Met.ofW (cc := cX0_placeWithZerosApart) (maxL := 5) (ret := (some .long)) (by decide) rfl ?_
  intro p e s m args below meth c s₁ B hml hv
  cases hv
  have C : px_C p s m _ meth c cX0_placeWithZerosApart 5 (some .long) RX0 wsX0_placeWithZerosApart := ⟨B.exec, B.bytes, hml, findClass_of_methodNamed B.named, atoms_spec (ws := wsX0_placeWithZerosApart) B.pre, B.returns, B.notSynchronized⟩
  have hl := lv_entry ([.int v0, .long v1]) (n := 5) (Nat.le_of_ble_eq_true rfl)
  rw [lg_entry_eq]
  generalize (lg_sl ([.int v0, .long v1]) ++ List.replicate (5 - (lg_sl ([.int v0, .long v1])).length) Slot.unset).toArray = ls at hl ⊢
  have hl : lv_has ls 5 [(0, .int v0), (1, .long v1)] := hl
  rw [fX0_placeWithZerosApart]
  exact wX0_placeWithZerosApart_0 C v0 v1 (lv_sub hl [0, 1] rfl)
set_option maxHeartbeats 4000000 in
set_option maxRecDepth 100000 in
theorem wX0_magnitude_0 {p : Program} {l : Launch} {e : Env} {s : State} {m : MethodId} {args : Array Value} {below : List Frame} {meth : Method} {c : Code} (C : px_C p s m args meth c cX0_magnitude 7 (some .long) RX0 wsX0_magnitude) (v0 : Int32) (v1 : Int64) {ls : Array Slot} (hl : lv_has ls 7 [(0, .int v0), (1, .long v1)]) : W p l e { frames := 2, cells := 0, slots := 0, locals := 42 } s m args below meth c s.heap [] 0 0 (MQ below (px_Q (.long (fX0_magnitude_0 v0 v1))) args s 0 0 (fun _ => False)) (F0 m 0 ls []) := by
  obtain ⟨hx, hb, hml, hown, hts, hr, hlocks⟩ := id C
  rw [fX0_magnitude_0]
  refine lv_lconst (v := 1) hx hb dX0_magnitude_0 (by decide) ?_
  refine lv_iload_n hx hb dX0_magnitude_1 rfl (lv_at hl 0 rfl) ?_
  refine px_S (As := [.int v0]) (rest := [.long (1 : Int64)]) ⟨hx, hb, hml, hown, hts⟩ (kX0_fractionBits l v0) (va_cwS 1 hts gX0_magnitude_X0_fractionBits rfl rfl rfl (by decide +kernel) ⟨Nat.le_of_ble_eq_true rfl, Nat.le_of_ble_eq_true rfl⟩) rfl hl.1 rfl (Nat.le_of_ble_eq_true rfl) dX0_magnitude_2 (Nat.zero_le _) (Nat.zero_le _) ?_
  refine px_lshl hx hb dX0_magnitude_5 ?_
  refine lv_topl (fun v3_6 ev3_6 => ?_)
  rw [← ev3_6]
  refine lv_lstore_n (lv' := [(3, .long v3_6), (0, .int v0), (1, .long v1)]) hx hb dX0_magnitude_6 rfl hl (by decide) rfl (fun ls hl => ?_)
  rw [fX0_magnitude_7]
  refine lv_lload_n hx hb dX0_magnitude_7 rfl (lv_at hl 2 rfl) ?_
  refine lv_lload_n hx hb dX0_magnitude_8 rfl (lv_at hl 0 rfl) ?_
  refine lv_lconst (v := 1) hx hb dX0_magnitude_9 (by decide) ?_
  refine lv_lsub hx hb dX0_magnitude_10 ?_
  refine lv_land hx hb dX0_magnitude_11 ?_
  refine lv_topl (fun v5_12 ev5_12 => ?_)
  rw [← ev5_12]
  refine lv_lstore (lv' := [(5, .long v5_12), (3, .long v3_6), (0, .int v0), (1, .long v1)]) hx hb dX0_magnitude_12 hl (by decide) rfl (fun ls hl => ?_)
  rw [fX0_magnitude_14]
  refine lv_iload_n hx hb dX0_magnitude_14 rfl (lv_at hl 2 rfl) ?_
  refine lv_lload_n hx hb dX0_magnitude_15 rfl (lv_at hl 3 rfl) ?_
  refine px_S (As := [.int v0, .long v1]) (rest := []) ⟨hx, hb, hml, hown, hts⟩ (kX0_size l v0 v1) (va_cwS 2 hts gX0_magnitude_X0_size rfl rfl rfl (by decide +kernel) ⟨Nat.le_of_ble_eq_true rfl, Nat.le_of_ble_eq_true rfl⟩) rfl hl.1 rfl (Nat.le_of_ble_eq_true rfl) dX0_magnitude_16 (Nat.zero_le _) (Nat.zero_le _) ?_
  refine lv_lload_n hx hb dX0_magnitude_19 rfl (lv_at hl 1 rfl) ?_
  refine px_lcmp_ge (tgt := 29) hx hb dX0_magnitude_20 dX0_magnitude_21 (by decide) (fun hc20 => ?_) (fun hc20 => ?_)
  · rw [if_pos hc20]
    refine lv_lload hx hb dX0_magnitude_24 (lv_at hl 0 rfl) ?_
    refine lv_goto (tgt := 33) hx hb dX0_magnitude_26 (by decide) ?_
    exact W.lret hx hb hr (fun t ht _ => ⟨rfl, ht⟩) (fun q h => by cases h) dX0_magnitude_33
  · rw [if_neg hc20]
    refine lv_lload hx hb dX0_magnitude_29 (lv_at hl 0 rfl) ?_
    refine lv_lload_n hx hb dX0_magnitude_31 rfl (lv_at hl 1 rfl) ?_
    refine lv_ladd hx hb dX0_magnitude_32 ?_
    exact W.lret hx hb hr (fun t ht _ => ⟨rfl, ht⟩) (fun q h => by cases h) dX0_magnitude_33
set_option maxHeartbeats 4000000 in
set_option maxRecDepth 100000 in
theorem kX0_magnitude (l : Launch) (v0 : Int32) (v1 : Int64) : px_M l yX0_magnitude wsX0_magnitude ({ frames := 2, cells := 0, slots := 0, locals := 42 }) [.int v0, .long v1] (.long (fX0_magnitude v0 v1)) := by
  refine Met.ofW (cc := cX0_magnitude) (maxL := 7) (ret := (some .long)) (by decide) rfl ?_
  intro p e s m args below meth c s₁ B hml hv
  cases hv
  have C : px_C p s m _ meth c cX0_magnitude 7 (some .long) RX0 wsX0_magnitude := ⟨B.exec, B.bytes, hml, findClass_of_methodNamed B.named, atoms_spec (ws := wsX0_magnitude) B.pre, B.returns, B.notSynchronized⟩
  have hl := lv_entry ([.int v0, .long v1]) (n := 7) (Nat.le_of_ble_eq_true rfl)
  rw [lg_entry_eq]
  generalize (lg_sl ([.int v0, .long v1]) ++ List.replicate (7 - (lg_sl ([.int v0, .long v1])).length) Slot.unset).toArray = ls at hl ⊢
  have hl : lv_has ls 7 [(0, .int v0), (1, .long v1)] := hl
  rw [fX0_magnitude]
  exact wX0_magnitude_0 C v0 v1 (lv_sub hl [0, 1] rfl)
set_option maxHeartbeats 4000000 in
set_option maxRecDepth 100000 in
theorem wX0_exponent_0 {p : Program} {l : Launch} {e : Env} {s : State} {m : MethodId} {args : Array Value} {below : List Frame} {meth : Method} {c : Code} (C : px_C p s m args meth c cX0_exponent 4 (some .int) RX0 wsX0_exponent) (v0 : Int32) (v1 : Int64) {ls : Array Slot} (hl : lv_has ls 4 [(0, .int v0), (1, .long v1)]) : W p l e { frames := 2, cells := 0, slots := 0, locals := 42 } s m args below meth c s.heap [] 0 0 (MQ below (px_Q (.int (fX0_exponent_0 v0 v1))) args s 0 0 (fun _ => False)) (F0 m 0 ls []) := by
  obtain ⟨hx, hb, hml, hown, hts, hr, hlocks⟩ := id C
  rw [fX0_exponent_0]
  refine lv_iload_n hx hb dX0_exponent_0 rfl (lv_at hl 0 rfl) ?_
  refine lv_lload_n hx hb dX0_exponent_1 rfl (lv_at hl 1 rfl) ?_
  refine px_S (As := [.int v0, .long v1]) (rest := []) ⟨hx, hb, hml, hown, hts⟩ (kX0_size l v0 v1) (va_cwS 2 hts gX0_exponent_X0_size rfl rfl rfl (by decide +kernel) ⟨Nat.le_of_ble_eq_true rfl, Nat.le_of_ble_eq_true rfl⟩) rfl hl.1 rfl (Nat.le_of_ble_eq_true rfl) dX0_exponent_2 (Nat.zero_le _) (Nat.zero_le _) ?_
  refine lv_iload_n hx hb dX0_exponent_5 rfl (lv_at hl 0 rfl) ?_
  refine px_S (As := [.int v0]) (rest := [.long (fX0_size v0 v1)]) ⟨hx, hb, hml, hown, hts⟩ (kX0_fractionBits l v0) (va_cwS 1 hts gX0_exponent_X0_fractionBits rfl rfl rfl (by decide +kernel) ⟨Nat.le_of_ble_eq_true rfl, Nat.le_of_ble_eq_true rfl⟩) rfl hl.1 rfl (Nat.le_of_ble_eq_true rfl) dX0_exponent_6 (Nat.zero_le _) (Nat.zero_le _) ?_
  refine px_lushr hx hb dX0_exponent_9 ?_
  refine px_l2i hx hb dX0_exponent_10 ?_
  refine lv_topi (fun v3_11 ev3_11 => ?_)
  rw [← ev3_11]
  refine lv_istore_n (lv' := [(3, .int v3_11), (0, .int v0), (1, .long v1)]) hx hb dX0_exponent_11 rfl hl (by decide) rfl (fun ls hl => ?_)
  rw [fX0_exponent_12]
  refine lv_iload_n hx hb dX0_exponent_12 rfl (lv_at hl 1 rfl) ?_
  refine px_S (As := [.int v0]) (rest := []) ⟨hx, hb, hml, hown, hts⟩ (kX0_leastExponent l v0) (va_cwS 1 hts gX0_exponent_X0_leastExponent rfl rfl rfl (by decide +kernel) ⟨Nat.le_of_ble_eq_true rfl, Nat.le_of_ble_eq_true rfl⟩) rfl hl.1 rfl (Nat.le_of_ble_eq_true rfl) dX0_exponent_13 (Nat.zero_le _) (Nat.zero_le _) ?_
  refine lv_iload_n hx hb dX0_exponent_16 rfl (lv_at hl 0 rfl) ?_
  refine lv_iconst (v := 1) hx hb dX0_exponent_17 (by decide) ?_
  refine px_mmax hx hb (hml.trans hl.1.symm) hown (hts (.methodLink RX0 45 Lib.Math.max.name) (by decide +kernel)) (hts (.static Lib.Math.max.name) (by decide +kernel)) (hts (.initialized "java/lang/Math") (by decide +kernel)) (hts (.code Lib.Math.max.name Lib.Math.max.code 2 (some .int)) (by decide +kernel)) (Nat.le_of_ble_eq_true rfl) (Nat.le_of_ble_eq_true rfl) (Nat.zero_le _) (Nat.zero_le _) dX0_exponent_18 ?_
  refine lv_iadd hx hb dX0_exponent_21 ?_
  refine lv_iconst (v := 1) hx hb dX0_exponent_22 (by decide) ?_
  refine lv_isub hx hb dX0_exponent_23 ?_
  exact W.iret hx hb hr (fun t ht _ => ⟨rfl, ht⟩) (fun q h => by cases h) dX0_exponent_24
set_option maxHeartbeats 4000000 in
set_option maxRecDepth 100000 in
theorem kX0_exponent (l : Launch) (v0 : Int32) (v1 : Int64) : px_M l yX0_exponent wsX0_exponent ({ frames := 2, cells := 0, slots := 0, locals := 42 }) [.int v0, .long v1] (.int (fX0_exponent v0 v1)) := by
  refine Met.ofW (cc := cX0_exponent) (maxL := 4) (ret := (some .int)) (by decide) rfl ?_
  intro p e s m args below meth c s₁ B hml hv
  cases hv
  have C : px_C p s m _ meth c cX0_exponent 4 (some .int) RX0 wsX0_exponent := ⟨B.exec, B.bytes, hml, findClass_of_methodNamed B.named, atoms_spec (ws := wsX0_exponent) B.pre, B.returns, B.notSynchronized⟩
  have hl := lv_entry ([.int v0, .long v1]) (n := 4) (Nat.le_of_ble_eq_true rfl)
  rw [lg_entry_eq]
  generalize (lg_sl ([.int v0, .long v1]) ++ List.replicate (4 - (lg_sl ([.int v0, .long v1])).length) Slot.unset).toArray = ls at hl ⊢
  have hl : lv_has ls 4 [(0, .int v0), (1, .long v1)] := hl
  rw [fX0_exponent]
  exact wX0_exponent_0 C v0 v1 (lv_sub hl [0, 1] rfl)
set_option maxHeartbeats 4000000 in
set_option maxRecDepth 100000 in
theorem wX0_roomBelow_2 {p : Program} {l : Launch} {e : Env} {s : State} {m : MethodId} {args : Array Value} {below : List Frame} {meth : Method} {c : Code} (C : px_C p s m args meth c cX0_roomBelow 4 (some .int) RX0 wsX0_roomBelow) : ∀ (n : Nat) (v0 : Int32) (v1 : Int64) (v3 : Int32) (hok : okX0_roomBelow_2 n v0 v1 v3) (ls : Array Slot) (hl : lv_has ls 4 [(0, .int v0), (1, .long v1), (3, .int v3)]), W p l e { frames := 0, cells := 0, slots := 0, locals := 0 } s m args below meth c s.heap [] 0 0 (MQ below (px_Q (.int (fX0_roomBelow_2 n v0 v1 v3))) args s 0 0 (fun _ => False)) (F0 m 2 ls []) := by
  obtain ⟨hx, hb, hml, hown, hts, hr, hlocks⟩ := id C
  intro n
  induction n with
  | zero => intro v0 v1 v3 hok; exact hok.elim
  | succ n ih =>
    intro v0 v1 v3 hok ls hl
    rw [fX0_roomBelow_2]
    rw [okX0_roomBelow_2] at hok
    refine lv_iload_n hx hb dX0_roomBelow_2 rfl (lv_at hl 2 rfl) ?_
    refine lv_iload_n hx hb dX0_roomBelow_3 rfl (lv_at hl 0 rfl) ?_
    refine px_icmp_ge (tgt := 23) hx hb dX0_roomBelow_4 (by decide) (fun hc4 => ?_) (fun hc4 => ?_)
    · rw [if_pos hc4]
      have hok := hok.1 hc4
      refine lv_lload_n hx hb dX0_roomBelow_7 rfl (lv_at hl 1 rfl) ?_
      refine lv_iload_n hx hb dX0_roomBelow_8 rfl (lv_at hl 2 rfl) ?_
      refine px_lshl hx hb dX0_roomBelow_9 ?_
      refine lv_lconst (v := 1) hx hb dX0_roomBelow_10 (by decide) ?_
      refine lv_iload_n hx hb dX0_roomBelow_11 rfl (lv_at hl 0 rfl) ?_
      refine px_lshl hx hb dX0_roomBelow_12 ?_
      refine px_lcmp_ge (tgt := 23) hx hb dX0_roomBelow_13 dX0_roomBelow_14 (by decide) (fun hc13 => ?_) (fun hc13 => ?_)
      · rw [if_pos hc13]
        have hok := hok.1 hc13
        refine lv_iinc (v := (v3 + (1 : Int32))) (lv' := [(3, .int (v3 + (1 : Int32))), (0, .int v0), (1, .long v1)]) hx hb dX0_roomBelow_17 hl (k := 2) rfl (congrArg (HAdd.hAdd v3) (by decide : Int32.ofInt (1) = (1 : Int32))) (by decide) rfl (fun ls hl => ?_)
        refine lv_goto (tgt := 2) hx hb dX0_roomBelow_20 (by decide) ?_
        exact ih v0 v1 (v3 + (1 : Int32)) hok _ (lv_sub hl [1, 2, 0] rfl)
      · rw [if_neg hc13]
        have hok := hok.2 hc13
        refine lv_iload_n hx hb dX0_roomBelow_23 rfl (lv_at hl 2 rfl) ?_
        exact W.iret hx hb hr (fun t ht _ => ⟨rfl, ht⟩) (fun q h => by cases h) dX0_roomBelow_24
    · rw [if_neg hc4]
      have hok := hok.2 hc4
      refine lv_iload_n hx hb dX0_roomBelow_23 rfl (lv_at hl 2 rfl) ?_
      exact W.iret hx hb hr (fun t ht _ => ⟨rfl, ht⟩) (fun q h => by cases h) dX0_roomBelow_24
set_option maxHeartbeats 4000000 in
set_option maxRecDepth 100000 in
theorem wX0_roomBelow_0 {p : Program} {l : Launch} {e : Env} {s : State} {m : MethodId} {args : Array Value} {below : List Frame} {meth : Method} {c : Code} (C : px_C p s m args meth c cX0_roomBelow 4 (some .int) RX0 wsX0_roomBelow) (v0 : Int32) (v1 : Int64) (hok : okX0_roomBelow_0 v0 v1) {ls : Array Slot} (hl : lv_has ls 4 [(0, .int v0), (1, .long v1)]) : W p l e { frames := 0, cells := 0, slots := 0, locals := 0 } s m args below meth c s.heap [] 0 0 (MQ below (px_Q (.int (fX0_roomBelow_0 v0 v1))) args s 0 0 (fun _ => False)) (F0 m 0 ls []) := by
  obtain ⟨hx, hb, hml, hown, hts, hr, hlocks⟩ := id C
  rw [fX0_roomBelow_0]
  rw [okX0_roomBelow_0] at hok
  refine lv_iconst (v := 0) hx hb dX0_roomBelow_0 (by decide) ?_
  refine lv_istore_n (lv' := [(3, .int (0 : Int32)), (0, .int v0), (1, .long v1)]) hx hb dX0_roomBelow_1 rfl hl (by decide) rfl (fun ls hl => ?_)
  exact wX0_roomBelow_2 C _ v0 v1 (0 : Int32) hok _ (lv_sub hl [1, 2, 0] rfl)
set_option maxHeartbeats 4000000 in
set_option maxRecDepth 100000 in
theorem kX0_roomBelow (l : Launch) (v0 : Int32) (v1 : Int64) (hok : okX0_roomBelow v0 v1) : px_M l yX0_roomBelow wsX0_roomBelow ({ frames := 0, cells := 0, slots := 0, locals := 0 }) [.int v0, .long v1] (.int (fX0_roomBelow v0 v1)) := by
  refine Met.ofW (cc := cX0_roomBelow) (maxL := 4) (ret := (some .int)) (by decide) rfl ?_
  intro p e s m args below meth c s₁ B hml hv
  cases hv
  have C : px_C p s m _ meth c cX0_roomBelow 4 (some .int) RX0 wsX0_roomBelow := ⟨B.exec, B.bytes, hml, findClass_of_methodNamed B.named, atoms_spec (ws := wsX0_roomBelow) B.pre, B.returns, B.notSynchronized⟩
  have hl := lv_entry ([.int v0, .long v1]) (n := 4) (Nat.le_of_ble_eq_true rfl)
  rw [lg_entry_eq]
  generalize (lg_sl ([.int v0, .long v1]) ++ List.replicate (4 - (lg_sl ([.int v0, .long v1])).length) Slot.unset).toArray = ls at hl ⊢
  have hl : lv_has ls 4 [(0, .int v0), (1, .long v1)] := hl
  rw [fX0_roomBelow]
  rw [okX0_roomBelow] at hok
  exact wX0_roomBelow_0 C v0 v1 hok (lv_sub hl [0, 1] rfl)
set_option maxHeartbeats 4000000 in
set_option maxRecDepth 100000 in
theorem wX0_movedDown_0 {p : Program} {l : Launch} {e : Env} {s : State} {m : MethodId} {args : Array Value} {below : List Frame} {meth : Method} {c : Code} (C : px_C p s m args meth c cX0_movedDown 5 (some .long) RX0 wsX0_movedDown) (v0 : Int64) (v2 : Int32) {ls : Array Slot} (hl : lv_has ls 5 [(0, .long v0), (2, .int v2)]) : W p l e { frames := 0, cells := 0, slots := 0, locals := 0 } s m args below meth c s.heap [] 0 0 (MQ below (px_Q (.long (fX0_movedDown_0 v0 v2))) args s 0 0 (fun _ => False)) (F0 m 0 ls []) := by
  obtain ⟨hx, hb, hml, hown, hts, hr, hlocks⟩ := id C
  rw [fX0_movedDown_0]
  refine lv_iload_n hx hb dX0_movedDown_0 rfl (lv_at hl 1 rfl) ?_
  refine lv_bipush (v := 63) hx hb dX0_movedDown_1 (by decide) ?_
  refine px_icmp_le (tgt := 18) hx hb dX0_movedDown_3 (by decide) (fun hc3 => ?_) (fun hc3 => ?_)
  · rw [if_pos hc3]
    refine lv_lload_n hx hb dX0_movedDown_6 rfl (lv_at hl 0 rfl) ?_
    refine lv_lconst (v := 0) hx hb dX0_movedDown_7 (by decide) ?_
    refine px_lcmp_ne (tgt := 16) hx hb dX0_movedDown_8 dX0_movedDown_9 (by decide) (fun hc8 => ?_) (fun hc8 => ?_)
    · rw [if_pos hc8]
      refine lv_lconst (v := 0) hx hb dX0_movedDown_12 (by decide) ?_
      refine lv_goto (tgt := 17) hx hb dX0_movedDown_13 (by decide) ?_
      exact W.lret hx hb hr (fun t ht _ => ⟨rfl, ht⟩) (fun q h => by cases h) dX0_movedDown_17
    · rw [if_neg hc8]
      refine lv_lconst (v := 1) hx hb dX0_movedDown_16 (by decide) ?_
      exact W.lret hx hb hr (fun t ht _ => ⟨rfl, ht⟩) (fun q h => by cases h) dX0_movedDown_17
  · rw [if_neg hc3]
    refine lv_lload_n hx hb dX0_movedDown_18 rfl (lv_at hl 0 rfl) ?_
    refine lv_iload_n hx hb dX0_movedDown_19 rfl (lv_at hl 1 rfl) ?_
    refine px_lushr hx hb dX0_movedDown_20 ?_
    refine lv_topl (fun v3_21 ev3_21 => ?_)
    rw [← ev3_21]
    refine lv_lstore_n (lv' := [(3, .long v3_21), (0, .long v0), (2, .int v2)]) hx hb dX0_movedDown_21 rfl hl (by decide) rfl (fun ls hl => ?_)
    rw [fX0_movedDown_22]
    refine lv_lload_n hx hb dX0_movedDown_22 rfl (lv_at hl 0 rfl) ?_
    refine lv_iload_n hx hb dX0_movedDown_23 rfl (lv_at hl 2 rfl) ?_
    refine px_lshl hx hb dX0_movedDown_24 ?_
    refine lv_lload_n hx hb dX0_movedDown_25 rfl (lv_at hl 1 rfl) ?_
    refine px_lcmp_ne (tgt := 34) hx hb dX0_movedDown_26 dX0_movedDown_27 (by decide) (fun hc26 => ?_) (fun hc26 => ?_)
    · rw [if_pos hc26]
      refine lv_lload_n hx hb dX0_movedDown_30 rfl (lv_at hl 0 rfl) ?_
      refine lv_goto (tgt := 37) hx hb dX0_movedDown_31 (by decide) ?_
      exact W.lret hx hb hr (fun t ht _ => ⟨rfl, ht⟩) (fun q h => by cases h) dX0_movedDown_37
    · rw [if_neg hc26]
      refine lv_lload_n hx hb dX0_movedDown_34 rfl (lv_at hl 0 rfl) ?_
      refine lv_lconst (v := 1) hx hb dX0_movedDown_35 (by decide) ?_
      refine lv_lor hx hb dX0_movedDown_36 ?_
      exact W.lret hx hb hr (fun t ht _ => ⟨rfl, ht⟩) (fun q h => by cases h) dX0_movedDown_37
set_option maxHeartbeats 4000000 in
set_option maxRecDepth 100000 in
theorem kX0_movedDown (l : Launch) (v0 : Int64) (v2 : Int32) : px_M l yX0_movedDown wsX0_movedDown ({ frames := 0, cells := 0, slots := 0, locals := 0 }) [.long v0, .int v2] (.long (fX0_movedDown v0 v2)) := by
  refine Met.ofW (cc := cX0_movedDown) (maxL := 5) (ret := (some .long)) (by decide) rfl ?_
  intro p e s m args below meth c s₁ B hml hv
  cases hv
  have C : px_C p s m _ meth c cX0_movedDown 5 (some .long) RX0 wsX0_movedDown := ⟨B.exec, B.bytes, hml, findClass_of_methodNamed B.named, atoms_spec (ws := wsX0_movedDown) B.pre, B.returns, B.notSynchronized⟩
  have hl := lv_entry ([.long v0, .int v2]) (n := 5) (Nat.le_of_ble_eq_true rfl)
  rw [lg_entry_eq]
  generalize (lg_sl ([.long v0, .int v2]) ++ List.replicate (5 - (lg_sl ([.long v0, .int v2])).length) Slot.unset).toArray = ls at hl ⊢
  have hl : lv_has ls 5 [(0, .long v0), (2, .int v2)] := hl
  rw [fX0_movedDown]
  exact wX0_movedDown_0 C v0 v2 (lv_sub hl [0, 1] rfl)
