set_option maxHeartbeats 4000000 in
set_option maxRecDepth 100000 in
theorem wX2_isNone_0 {p : Program} {l : Launch} {e : Env} {s : State} {m : MethodId} {args : Array Value} {below : List Frame} {meth : Method} {c : Code} (C : px_C p s m args meth c cX2_isNone 2 (some .boolean) RX2 wsX2_isNone) (v0 : Int64) {ls : Array Slot} (hl : lv_has ls 2 [(0, .long v0)]) : W p l e { frames := 0, cells := 0, slots := 0, locals := 0 } s m args below meth c s.heap [] 0 0 (MQ below (px_Q (.int (fX2_isNone_0 v0))) args s 0 0 (fun _ => False)) (F0 m 0 ls []) := by
  obtain ⟨hx, hb, hml, hown, hts, hr, hlocks⟩ := id C
  rw [fX2_isNone_0]
  refine lv_lload_n hx hb dX2_isNone_0 rfl (lv_at hl 0 rfl) ?_
  refine lv_ldc2 hx hb hown (hts (.constantLong RX2 9 (9223372036854775807)) (by decide +kernel)) dX2_isNone_1 ?_
  refine lv_land hx hb dX2_isNone_4 ?_
  refine lv_ldc2 hx hb hown (hts (.constantLong RX2 13 (9218868437227405312)) (by decide +kernel)) dX2_isNone_5 ?_
  refine px_lcmp_le (tgt := 16) hx hb dX2_isNone_8 dX2_isNone_9 (by decide) (fun hc8 => ?_) (fun hc8 => ?_)
  · rw [if_pos hc8]
    refine lv_iconst (v := 1) hx hb dX2_isNone_12 (by decide) ?_
    refine lv_goto (tgt := 17) hx hb dX2_isNone_13 (by decide) ?_
    exact W.zret hx hb hr (by decide) (fun t ht _ => ⟨rfl, ht⟩) (fun q h => by cases h) dX2_isNone_17
  · rw [if_neg hc8]
    refine lv_iconst (v := 0) hx hb dX2_isNone_16 (by decide) ?_
    exact W.zret hx hb hr (by decide) (fun t ht _ => ⟨rfl, ht⟩) (fun q h => by cases h) dX2_isNone_17
theorem zX2_isNone_0 (v0 : Int64) : fX2_isNone_0 v0 = 0 ∨ fX2_isNone_0 v0 = 1 := by
  unfold fX2_isNone_0
  (repeat' split) <;> first | exact Or.inl rfl | exact Or.inr rfl
theorem zX2_isNone (v0 : Int64) : fX2_isNone v0 = 0 ∨ fX2_isNone v0 = 1 := zX2_isNone_0 _
set_option maxHeartbeats 4000000 in
set_option maxRecDepth 100000 in
theorem kX2_isNone (l : Launch) (v0 : Int64) : px_M l yX2_isNone wsX2_isNone ({ frames := 0, cells := 0, slots := 0, locals := 0 }) [.long v0] (.int (fX2_isNone v0)) := by
  refine Met.ofW (cc := cX2_isNone) (maxL := 2) (ret := (some .boolean)) (by decide) rfl ?_
  intro p e s m args below meth c s₁ B hml hv
  cases hv
  have C : px_C p s m _ meth c cX2_isNone 2 (some .boolean) RX2 wsX2_isNone := ⟨B.exec, B.bytes, hml, findClass_of_methodNamed B.named, atoms_spec (ws := wsX2_isNone) B.pre, B.returns, B.notSynchronized⟩
  have hl := lv_entry ([.long v0]) (n := 2) (Nat.le_of_ble_eq_true rfl)
  rw [lg_entry_eq]
  generalize (lg_sl ([.long v0]) ++ List.replicate (2 - (lg_sl ([.long v0])).length) Slot.unset).toArray = ls at hl ⊢
  have hl : lv_has ls 2 [(0, .long v0)] := hl
  rw [fX2_isNone]
  exact wX2_isNone_0 C v0 (lv_sub hl [0] rfl)
set_option maxHeartbeats 4000000 in
set_option maxRecDepth 100000 in
theorem wX2_isInfinite_0 {p : Program} {l : Launch} {e : Env} {s : State} {m : MethodId} {args : Array Value} {below : List Frame} {meth : Method} {c : Code} (C : px_C p s m args meth c cX2_isInfinite 2 (some .boolean) RX2 wsX2_isInfinite) (v0 : Int64) {ls : Array Slot} (hl : lv_has ls 2 [(0, .long v0)]) : W p l e { frames := 0, cells := 0, slots := 0, locals := 0 } s m args below meth c s.heap [] 0 0 (MQ below (px_Q (.int (fX2_isInfinite_0 v0))) args s 0 0 (fun _ => False)) (F0 m 0 ls []) := by
  obtain ⟨hx, hb, hml, hown, hts, hr, hlocks⟩ := id C
  rw [fX2_isInfinite_0]
  refine lv_lload_n hx hb dX2_isInfinite_0 rfl (lv_at hl 0 rfl) ?_
  refine lv_ldc2 hx hb hown (hts (.constantLong RX2 9 (9223372036854775807)) (by decide +kernel)) dX2_isInfinite_1 ?_
  refine lv_land hx hb dX2_isInfinite_4 ?_
  refine lv_ldc2 hx hb hown (hts (.constantLong RX2 13 (9218868437227405312)) (by decide +kernel)) dX2_isInfinite_5 ?_
  refine px_lcmp_ne (tgt := 16) hx hb dX2_isInfinite_8 dX2_isInfinite_9 (by decide) (fun hc8 => ?_) (fun hc8 => ?_)
  · rw [if_pos hc8]
    refine lv_iconst (v := 1) hx hb dX2_isInfinite_12 (by decide) ?_
    refine lv_goto (tgt := 17) hx hb dX2_isInfinite_13 (by decide) ?_
    exact W.zret hx hb hr (by decide) (fun t ht _ => ⟨rfl, ht⟩) (fun q h => by cases h) dX2_isInfinite_17
  · rw [if_neg hc8]
    refine lv_iconst (v := 0) hx hb dX2_isInfinite_16 (by decide) ?_
    exact W.zret hx hb hr (by decide) (fun t ht _ => ⟨rfl, ht⟩) (fun q h => by cases h) dX2_isInfinite_17
theorem zX2_isInfinite_0 (v0 : Int64) : fX2_isInfinite_0 v0 = 0 ∨ fX2_isInfinite_0 v0 = 1 := by
  unfold fX2_isInfinite_0
  (repeat' split) <;> first | exact Or.inl rfl | exact Or.inr rfl
theorem zX2_isInfinite (v0 : Int64) : fX2_isInfinite v0 = 0 ∨ fX2_isInfinite v0 = 1 := zX2_isInfinite_0 _
set_option maxHeartbeats 4000000 in
set_option maxRecDepth 100000 in
theorem kX2_isInfinite (l : Launch) (v0 : Int64) : px_M l yX2_isInfinite wsX2_isInfinite ({ frames := 0, cells := 0, slots := 0, locals := 0 }) [.long v0] (.int (fX2_isInfinite v0)) := by
  refine Met.ofW (cc := cX2_isInfinite) (maxL := 2) (ret := (some .boolean)) (by decide) rfl ?_
  intro p e s m args below meth c s₁ B hml hv
  cases hv
  have C : px_C p s m _ meth c cX2_isInfinite 2 (some .boolean) RX2 wsX2_isInfinite := ⟨B.exec, B.bytes, hml, findClass_of_methodNamed B.named, atoms_spec (ws := wsX2_isInfinite) B.pre, B.returns, B.notSynchronized⟩
  have hl := lv_entry ([.long v0]) (n := 2) (Nat.le_of_ble_eq_true rfl)
  rw [lg_entry_eq]
  generalize (lg_sl ([.long v0]) ++ List.replicate (2 - (lg_sl ([.long v0])).length) Slot.unset).toArray = ls at hl ⊢
  have hl : lv_has ls 2 [(0, .long v0)] := hl
  rw [fX2_isInfinite]
  exact wX2_isInfinite_0 C v0 (lv_sub hl [0] rfl)
set_option maxHeartbeats 4000000 in
set_option maxRecDepth 100000 in
theorem wX2_isZero_0 {p : Program} {l : Launch} {e : Env} {s : State} {m : MethodId} {args : Array Value} {below : List Frame} {meth : Method} {c : Code} (C : px_C p s m args meth c cX2_isZero 2 (some .boolean) RX2 wsX2_isZero) (v0 : Int64) {ls : Array Slot} (hl : lv_has ls 2 [(0, .long v0)]) : W p l e { frames := 0, cells := 0, slots := 0, locals := 0 } s m args below meth c s.heap [] 0 0 (MQ below (px_Q (.int (fX2_isZero_0 v0))) args s 0 0 (fun _ => False)) (F0 m 0 ls []) := by
  obtain ⟨hx, hb, hml, hown, hts, hr, hlocks⟩ := id C
  rw [fX2_isZero_0]
  refine lv_lload_n hx hb dX2_isZero_0 rfl (lv_at hl 0 rfl) ?_
  refine lv_ldc2 hx hb hown (hts (.constantLong RX2 9 (9223372036854775807)) (by decide +kernel)) dX2_isZero_1 ?_
  refine lv_land hx hb dX2_isZero_4 ?_
  refine lv_lconst (v := 0) hx hb dX2_isZero_5 (by decide) ?_
  refine px_lcmp_ne (tgt := 14) hx hb dX2_isZero_6 dX2_isZero_7 (by decide) (fun hc6 => ?_) (fun hc6 => ?_)
  · rw [if_pos hc6]
    refine lv_iconst (v := 1) hx hb dX2_isZero_10 (by decide) ?_
    refine lv_goto (tgt := 15) hx hb dX2_isZero_11 (by decide) ?_
    exact W.zret hx hb hr (by decide) (fun t ht _ => ⟨rfl, ht⟩) (fun q h => by cases h) dX2_isZero_15
  · rw [if_neg hc6]
    refine lv_iconst (v := 0) hx hb dX2_isZero_14 (by decide) ?_
    exact W.zret hx hb hr (by decide) (fun t ht _ => ⟨rfl, ht⟩) (fun q h => by cases h) dX2_isZero_15
theorem zX2_isZero_0 (v0 : Int64) : fX2_isZero_0 v0 = 0 ∨ fX2_isZero_0 v0 = 1 := by
  unfold fX2_isZero_0
  (repeat' split) <;> first | exact Or.inl rfl | exact Or.inr rfl
theorem zX2_isZero (v0 : Int64) : fX2_isZero v0 = 0 ∨ fX2_isZero v0 = 1 := zX2_isZero_0 _
set_option maxHeartbeats 4000000 in
set_option maxRecDepth 100000 in
theorem kX2_isZero (l : Launch) (v0 : Int64) : px_M l yX2_isZero wsX2_isZero ({ frames := 0, cells := 0, slots := 0, locals := 0 }) [.long v0] (.int (fX2_isZero v0)) := by
  refine Met.ofW (cc := cX2_isZero) (maxL := 2) (ret := (some .boolean)) (by decide) rfl ?_
  intro p e s m args below meth c s₁ B hml hv
  cases hv
  have C : px_C p s m _ meth c cX2_isZero 2 (some .boolean) RX2 wsX2_isZero := ⟨B.exec, B.bytes, hml, findClass_of_methodNamed B.named, atoms_spec (ws := wsX2_isZero) B.pre, B.returns, B.notSynchronized⟩
  have hl := lv_entry ([.long v0]) (n := 2) (Nat.le_of_ble_eq_true rfl)
  rw [lg_entry_eq]
  generalize (lg_sl ([.long v0]) ++ List.replicate (2 - (lg_sl ([.long v0])).length) Slot.unset).toArray = ls at hl ⊢
  have hl : lv_has ls 2 [(0, .long v0)] := hl
  rw [fX2_isZero]
  exact wX2_isZero_0 C v0 (lv_sub hl [0] rfl)
set_option maxHeartbeats 4000000 in
set_option maxRecDepth 100000 in
theorem wX2_negative_0 {p : Program} {l : Launch} {e : Env} {s : State} {m : MethodId} {args : Array Value} {below : List Frame} {meth : Method} {c : Code} (C : px_C p s m args meth c cX2_negative 2 (some .long) RX2 wsX2_negative) (v0 : Int64) {ls : Array Slot} (hl : lv_has ls 2 [(0, .long v0)]) : W p l e { frames := 0, cells := 0, slots := 0, locals := 0 } s m args below meth c s.heap [] 0 0 (MQ below (px_Q (.long (fX2_negative_0 v0))) args s 0 0 (fun _ => False)) (F0 m 0 ls []) := by
  obtain ⟨hx, hb, hml, hown, hts, hr, hlocks⟩ := id C
  rw [fX2_negative_0]
  refine lv_lload_n hx hb dX2_negative_0 rfl (lv_at hl 0 rfl) ?_
  refine lv_ldc2 hx hb hown (hts (.constantLong RX2 15 (-9223372036854775808)) (by decide +kernel)) dX2_negative_1 ?_
  refine lv_lxor hx hb dX2_negative_4 ?_
  exact W.lret hx hb hr (fun t ht _ => ⟨rfl, ht⟩) (fun q h => by cases h) dX2_negative_5
set_option maxHeartbeats 4000000 in
set_option maxRecDepth 100000 in
theorem kX2_negative (l : Launch) (v0 : Int64) : px_M l yX2_negative wsX2_negative ({ frames := 0, cells := 0, slots := 0, locals := 0 }) [.long v0] (.long (fX2_negative v0)) := by
  refine Met.ofW (cc := cX2_negative) (maxL := 2) (ret := (some .long)) (by decide) rfl ?_
  intro p e s m args below meth c s₁ B hml hv
  cases hv
  have C : px_C p s m _ meth c cX2_negative 2 (some .long) RX2 wsX2_negative := ⟨B.exec, B.bytes, hml, findClass_of_methodNamed B.named, atoms_spec (ws := wsX2_negative) B.pre, B.returns, B.notSynchronized⟩
  have hl := lv_entry ([.long v0]) (n := 2) (Nat.le_of_ble_eq_true rfl)
  rw [lg_entry_eq]
  generalize (lg_sl ([.long v0]) ++ List.replicate (2 - (lg_sl ([.long v0])).length) Slot.unset).toArray = ls at hl ⊢
  have hl : lv_has ls 2 [(0, .long v0)] := hl
  rw [fX2_negative]
  exact wX2_negative_0 C v0 (lv_sub hl [0] rfl)
set_option maxHeartbeats 4000000 in
set_option maxRecDepth 100000 in
theorem wX2_exponent_31 {p : Program} {l : Launch} {e : Env} {s : State} {m : MethodId} {args : Array Value} {below : List Frame} {meth : Method} {c : Code} (C : px_C p s m args meth c cX2_exponent 6 (some .int) RX2 wsX2_exponent) : ∀ (n : Nat) (v3 : Int32) (v4 : Int64) (hok : okX2_exponent_31 n v3 v4) (ls : Array Slot) (hl : lv_has ls 6 [(3, .int v3), (4, .long v4)]), W p l e { frames := 0, cells := 0, slots := 0, locals := 0 } s m args below meth c s.heap [] 0 0 (MQ below (px_Q (.int (fX2_exponent_31 n v3 v4))) args s 0 0 (fun _ => False)) (F0 m 31 ls []) := by
  obtain ⟨hx, hb, hml, hown, hts, hr, hlocks⟩ := id C
  intro n
  induction n with
  | zero => intro v3 v4 hok; exact hok.elim
  | succ n ih =>
    intro v3 v4 hok ls hl
    rw [fX2_exponent_31]
    rw [okX2_exponent_31] at hok
    refine lv_lload hx hb dX2_exponent_31 (lv_at hl 1 rfl) ?_
    refine lv_ldc2 hx hb hown (hts (.constantLong RX2 21 (4503599627370496)) (by decide +kernel)) dX2_exponent_33 ?_
    refine px_lcmp_ge (tgt := 52) hx hb dX2_exponent_36 dX2_exponent_37 (by decide) (fun hc36 => ?_) (fun hc36 => ?_)
    · rw [if_pos hc36]
      have hok := hok.1 hc36
      refine lv_iinc (v := (v3 + (-1 : Int32))) (lv' := [(3, .int (v3 + (-1 : Int32))), (4, .long v4)]) hx hb dX2_exponent_40 hl (k := 0) rfl (congrArg (HAdd.hAdd v3) (by decide : Int32.ofInt (-1) = (-1 : Int32))) (by decide) rfl (fun ls hl => ?_)
      refine lv_lload hx hb dX2_exponent_43 (lv_at hl 1 rfl) ?_
      refine lv_iconst (v := 1) hx hb dX2_exponent_45 (by decide) ?_
      refine px_lshl hx hb dX2_exponent_46 ?_
      refine lv_lstore (lv' := [(4, .long (jshl v4 (1 : Int32))), (3, .int (v3 + (-1 : Int32)))]) hx hb dX2_exponent_47 hl (by decide) rfl (fun ls hl => ?_)
      refine lv_goto (tgt := 31) hx hb dX2_exponent_49 (by decide) ?_
      exact ih (v3 + (-1 : Int32)) (jshl v4 (1 : Int32)) hok _ (lv_sub hl [1, 0] rfl)
    · rw [if_neg hc36]
      have hok := hok.2 hc36
      refine lv_iload_n hx hb dX2_exponent_52 rfl (lv_at hl 0 rfl) ?_
      exact W.iret hx hb hr (fun t ht _ => ⟨rfl, ht⟩) (fun q h => by cases h) dX2_exponent_53
set_option maxHeartbeats 4000000 in
set_option maxRecDepth 100000 in
theorem wX2_exponent_0 {p : Program} {l : Launch} {e : Env} {s : State} {m : MethodId} {args : Array Value} {below : List Frame} {meth : Method} {c : Code} (C : px_C p s m args meth c cX2_exponent 6 (some .int) RX2 wsX2_exponent) (v0 : Int64) (hok : okX2_exponent_0 v0) {ls : Array Slot} (hl : lv_has ls 6 [(0, .long v0)]) : W p l e { frames := 0, cells := 0, slots := 0, locals := 0 } s m args below meth c s.heap [] 0 0 (MQ below (px_Q (.int (fX2_exponent_0 v0))) args s 0 0 (fun _ => False)) (F0 m 0 ls []) := by
  obtain ⟨hx, hb, hml, hown, hts, hr, hlocks⟩ := id C
  rw [fX2_exponent_0]
  rw [okX2_exponent_0] at hok
  refine lv_lload_n hx hb dX2_exponent_0 rfl (lv_at hl 0 rfl) ?_
  refine lv_bipush (v := 52) hx hb dX2_exponent_1 (by decide) ?_
  refine px_lshr hx hb dX2_exponent_3 ?_
  refine lv_ldc2 hx hb hown (hts (.constantLong RX2 17 (2047)) (by decide +kernel)) dX2_exponent_4 ?_
  refine lv_land hx hb dX2_exponent_7 ?_
  refine px_l2i hx hb dX2_exponent_8 ?_
  refine lv_topi (fun v2_9 ev2_9 => ?_)
  rw [← ev2_9]
  rw [← ev2_9] at hok
  refine lv_istore_n (lv' := [(2, .int v2_9), (0, .long v0)]) hx hb dX2_exponent_9 rfl hl (by decide) rfl (fun ls hl => ?_)
  rw [fX2_exponent_10]
  rw [okX2_exponent_10] at hok
  refine lv_iload_n hx hb dX2_exponent_10 rfl (lv_at hl 0 rfl) ?_
  refine px_if_le (tgt := 20) hx hb dX2_exponent_11 (by decide) (fun hc11 => ?_) (fun hc11 => ?_)
  · rw [if_pos hc11]
    have hok := hok.1 hc11
    refine lv_iload_n hx hb dX2_exponent_14 rfl (lv_at hl 0 rfl) ?_
    refine lv_sipush (v := 1075) hx hb dX2_exponent_15 (by decide) ?_
    refine lv_isub hx hb dX2_exponent_18 ?_
    exact W.iret hx hb hr (fun t ht _ => ⟨rfl, ht⟩) (fun q h => by cases h) dX2_exponent_19
  · rw [if_neg hc11]
    have hok := hok.2 hc11
    refine lv_sipush (v := -1074) hx hb dX2_exponent_20 (by decide) ?_
    refine lv_istore_n (lv' := [(3, .int (-1074 : Int32)), (2, .int v2_9), (0, .long v0)]) hx hb dX2_exponent_23 rfl hl (by decide) rfl (fun ls hl => ?_)
    refine lv_lload_n hx hb dX2_exponent_24 rfl (lv_at hl 2 rfl) ?_
    refine lv_ldc2 hx hb hown (hts (.constantLong RX2 19 (4503599627370495)) (by decide +kernel)) dX2_exponent_25 ?_
    refine lv_land hx hb dX2_exponent_28 ?_
    refine lv_lstore (lv' := [(4, .long (v0 &&& (4503599627370495 : Int64))), (3, .int (-1074 : Int32)), (2, .int v2_9), (0, .long v0)]) hx hb dX2_exponent_29 hl (by decide) rfl (fun ls hl => ?_)
    exact wX2_exponent_31 C _ (-1074 : Int32) (v0 &&& (4503599627370495 : Int64)) hok _ (lv_sub hl [1, 0] rfl)
set_option maxHeartbeats 4000000 in
set_option maxRecDepth 100000 in
theorem kX2_exponent (l : Launch) (v0 : Int64) (hok : okX2_exponent v0) : px_M l yX2_exponent wsX2_exponent ({ frames := 0, cells := 0, slots := 0, locals := 0 }) [.long v0] (.int (fX2_exponent v0)) := by
  refine Met.ofW (cc := cX2_exponent) (maxL := 6) (ret := (some .int)) (by decide) rfl ?_
  intro p e s m args below meth c s₁ B hml hv
  cases hv
  have C : px_C p s m _ meth c cX2_exponent 6 (some .int) RX2 wsX2_exponent := ⟨B.exec, B.bytes, hml, findClass_of_methodNamed B.named, atoms_spec (ws := wsX2_exponent) B.pre, B.returns, B.notSynchronized⟩
  have hl := lv_entry ([.long v0]) (n := 6) (Nat.le_of_ble_eq_true rfl)
  rw [lg_entry_eq]
  generalize (lg_sl ([.long v0]) ++ List.replicate (6 - (lg_sl ([.long v0])).length) Slot.unset).toArray = ls at hl ⊢
  have hl : lv_has ls 6 [(0, .long v0)] := hl
  rw [fX2_exponent]
  rw [okX2_exponent] at hok
  exact wX2_exponent_0 C v0 hok (lv_sub hl [0] rfl)
set_option maxHeartbeats 4000000 in
set_option maxRecDepth 100000 in
theorem wX2_significand_25 {p : Program} {l : Launch} {e : Env} {s : State} {m : MethodId} {args : Array Value} {below : List Frame} {meth : Method} {c : Code} (C : px_C p s m args meth c cX2_significand 4 (some .long) RX2 wsX2_significand) : ∀ (n : Nat) (v2 : Int64) (hok : okX2_significand_25 n v2) (ls : Array Slot) (hl : lv_has ls 4 [(2, .long v2)]), W p l e { frames := 0, cells := 0, slots := 0, locals := 0 } s m args below meth c s.heap [] 0 0 (MQ below (px_Q (.long (fX2_significand_25 n v2))) args s 0 0 (fun _ => False)) (F0 m 25 ls []) := by
  obtain ⟨hx, hb, hml, hown, hts, hr, hlocks⟩ := id C
  intro n
  induction n with
  | zero => intro v2 hok; exact hok.elim
  | succ n ih =>
    intro v2 hok ls hl
    rw [fX2_significand_25]
    rw [okX2_significand_25] at hok
    refine lv_lload_n hx hb dX2_significand_25 rfl (lv_at hl 0 rfl) ?_
    refine lv_ldc2 hx hb hown (hts (.constantLong RX2 21 (4503599627370496)) (by decide +kernel)) dX2_significand_26 ?_
    refine px_lcmp_ge (tgt := 40) hx hb dX2_significand_29 dX2_significand_30 (by decide) (fun hc29 => ?_) (fun hc29 => ?_)
    · rw [if_pos hc29]
      have hok := hok.1 hc29
      refine lv_lload_n hx hb dX2_significand_33 rfl (lv_at hl 0 rfl) ?_
      refine lv_iconst (v := 1) hx hb dX2_significand_34 (by decide) ?_
      refine px_lshl hx hb dX2_significand_35 ?_
      refine lv_lstore_n (lv' := [(2, .long (jshl v2 (1 : Int32)))]) hx hb dX2_significand_36 rfl hl (by decide) rfl (fun ls hl => ?_)
      refine lv_goto (tgt := 25) hx hb dX2_significand_37 (by decide) ?_
      exact ih (jshl v2 (1 : Int32)) hok _ (lv_sub hl [0] rfl)
    · rw [if_neg hc29]
      have hok := hok.2 hc29
      refine lv_lload_n hx hb dX2_significand_40 rfl (lv_at hl 0 rfl) ?_
      exact W.lret hx hb hr (fun t ht _ => ⟨rfl, ht⟩) (fun q h => by cases h) dX2_significand_41
set_option maxHeartbeats 4000000 in
set_option maxRecDepth 100000 in
theorem wX2_significand_0 {p : Program} {l : Launch} {e : Env} {s : State} {m : MethodId} {args : Array Value} {below : List Frame} {meth : Method} {c : Code} (C : px_C p s m args meth c cX2_significand 4 (some .long) RX2 wsX2_significand) (v0 : Int64) (hok : okX2_significand_0 v0) {ls : Array Slot} (hl : lv_has ls 4 [(0, .long v0)]) : W p l e { frames := 0, cells := 0, slots := 0, locals := 0 } s m args below meth c s.heap [] 0 0 (MQ below (px_Q (.long (fX2_significand_0 v0))) args s 0 0 (fun _ => False)) (F0 m 0 ls []) := by
  obtain ⟨hx, hb, hml, hown, hts, hr, hlocks⟩ := id C
  rw [fX2_significand_0]
  rw [okX2_significand_0] at hok
  refine lv_lload_n hx hb dX2_significand_0 rfl (lv_at hl 0 rfl) ?_
  refine lv_ldc2 hx hb hown (hts (.constantLong RX2 19 (4503599627370495)) (by decide +kernel)) dX2_significand_1 ?_
  refine lv_land hx hb dX2_significand_4 ?_
  refine lv_topl (fun v2_5 ev2_5 => ?_)
  rw [← ev2_5]
  rw [← ev2_5] at hok
  refine lv_lstore_n (lv' := [(2, .long v2_5), (0, .long v0)]) hx hb dX2_significand_5 rfl hl (by decide) rfl (fun ls hl => ?_)
  rw [fX2_significand_6]
  rw [okX2_significand_6] at hok
  refine lv_lload_n hx hb dX2_significand_6 rfl (lv_at hl 1 rfl) ?_
  refine lv_bipush (v := 52) hx hb dX2_significand_7 (by decide) ?_
  refine px_lshr hx hb dX2_significand_9 ?_
  refine lv_ldc2 hx hb hown (hts (.constantLong RX2 17 (2047)) (by decide +kernel)) dX2_significand_10 ?_
  refine lv_land hx hb dX2_significand_13 ?_
  refine lv_lconst (v := 0) hx hb dX2_significand_14 (by decide) ?_
  refine px_lcmp_le (tgt := 25) hx hb dX2_significand_15 dX2_significand_16 (by decide) (fun hc15 => ?_) (fun hc15 => ?_)
  · rw [if_pos hc15]
    have hok := hok.1 hc15
    refine lv_lload_n hx hb dX2_significand_19 rfl (lv_at hl 0 rfl) ?_
    refine lv_ldc2 hx hb hown (hts (.constantLong RX2 21 (4503599627370496)) (by decide +kernel)) dX2_significand_20 ?_
    refine lv_lor hx hb dX2_significand_23 ?_
    exact W.lret hx hb hr (fun t ht _ => ⟨rfl, ht⟩) (fun q h => by cases h) dX2_significand_24
  · rw [if_neg hc15]
    have hok := hok.2 hc15
    exact wX2_significand_25 C _ v2_5 hok _ (lv_sub hl [0] rfl)
set_option maxHeartbeats 4000000 in
set_option maxRecDepth 100000 in
theorem kX2_significand (l : Launch) (v0 : Int64) (hok : okX2_significand v0) : px_M l yX2_significand wsX2_significand ({ frames := 0, cells := 0, slots := 0, locals := 0 }) [.long v0] (.long (fX2_significand v0)) := by
  refine Met.ofW (cc := cX2_significand) (maxL := 4) (ret := (some .long)) (by decide) rfl ?_
  intro p e s m args below meth c s₁ B hml hv
  cases hv
  have C : px_C p s m _ meth c cX2_significand 4 (some .long) RX2 wsX2_significand := ⟨B.exec, B.bytes, hml, findClass_of_methodNamed B.named, atoms_spec (ws := wsX2_significand) B.pre, B.returns, B.notSynchronized⟩
  have hl := lv_entry ([.long v0]) (n := 4) (Nat.le_of_ble_eq_true rfl)
  rw [lg_entry_eq]
  generalize (lg_sl ([.long v0]) ++ List.replicate (4 - (lg_sl ([.long v0])).length) Slot.unset).toArray = ls at hl ⊢
  have hl : lv_has ls 4 [(0, .long v0)] := hl
  rw [fX2_significand]
  rw [okX2_significand] at hok
  exact wX2_significand_0 C v0 hok (lv_sub hl [0] rfl)
set_option maxHeartbeats 4000000 in
set_option maxRecDepth 100000 in
theorem wX2_rounded_152 {p : Program} {l : Launch} {e : Env} {s : State} {m : MethodId} {args : Array Value} {below : List Frame} {meth : Method} {c : Code} (C : px_C p s m args meth c cX2_rounded 18 (some .long) RX2 wsX2_rounded) (v4 : Int32) (v9 : Int32) (v12 : Int64) {ls : Array Slot} (hl : lv_has ls 18 [(4, .int v4), (9, .int v9), (12, .long v12)]) : W p l e { frames := 0, cells := 0, slots := 0, locals := 0 } s m args below meth c s.heap [] 0 0 (MQ below (px_Q (.long (fX2_rounded_152 v4 v9 v12))) args s 0 0 (fun _ => False)) (F0 m 152 ls []) := by
  obtain ⟨hx, hb, hml, hown, hts, hr, hlocks⟩ := id C
  rw [fX2_rounded_152]
  refine lv_iload hx hb dX2_rounded_152 (lv_at hl 1 rfl) ?_
  refine px_if_gt (tgt := 162) hx hb dX2_rounded_154 (by decide) (fun hc154 => ?_) (fun hc154 => ?_)
  · rw [if_pos hc154]
    refine lv_iload hx hb dX2_rounded_162 (lv_at hl 1 rfl) ?_
    refine lv_iconst (v := 1) hx hb dX2_rounded_164 (by decide) ?_
    refine lv_isub hx hb dX2_rounded_165 ?_
    refine px_i2l hx hb dX2_rounded_166 ?_
    refine lv_iload hx hb dX2_rounded_167 (lv_at hl 0 rfl) ?_
    refine lv_iconst (v := 1) hx hb dX2_rounded_169 (by decide) ?_
    refine lv_isub hx hb dX2_rounded_170 ?_
    refine px_lshl hx hb dX2_rounded_171 ?_
    refine lv_lload hx hb dX2_rounded_172 (lv_at hl 2 rfl) ?_
    refine lv_ladd hx hb dX2_rounded_174 ?_
    exact W.lret hx hb hr (fun t ht _ => ⟨rfl, ht⟩) (fun q h => by cases h) dX2_rounded_175
  · rw [if_neg hc154]
    refine lv_lload hx hb dX2_rounded_157 (lv_at hl 2 rfl) ?_
    refine lv_goto (tgt := 175) hx hb dX2_rounded_159 (by decide) ?_
    exact W.lret hx hb hr (fun t ht _ => ⟨rfl, ht⟩) (fun q h => by cases h) dX2_rounded_175
set_option maxHeartbeats 4000000 in
set_option maxRecDepth 100000 in
theorem wX2_rounded_146 {p : Program} {l : Launch} {e : Env} {s : State} {m : MethodId} {args : Array Value} {below : List Frame} {meth : Method} {c : Code} (C : px_C p s m args meth c cX2_rounded 18 (some .long) RX2 wsX2_rounded) (v4 : Int32) (v9 : Int32) (v12 : Int64) {ls : Array Slot} (hl : lv_has ls 18 [(4, .int v4), (9, .int v9), (12, .long v12)]) : W p l e { frames := 0, cells := 0, slots := 0, locals := 0 } s m args below meth c s.heap [] 0 0 (MQ below (px_Q (.long (fX2_rounded_146 v4 v9 v12))) args s 0 0 (fun _ => False)) (F0 m 146 ls []) := by
  obtain ⟨hx, hb, hml, hown, hts, hr, hlocks⟩ := id C
  rw [fX2_rounded_146]
  refine lv_lload hx hb dX2_rounded_146 (lv_at hl 2 rfl) ?_
  refine lv_lconst (v := 1) hx hb dX2_rounded_148 (by decide) ?_
  refine lv_ladd hx hb dX2_rounded_149 ?_
  refine lv_lstore (lv' := [(12, .long (v12 + (1 : Int64))), (4, .int v4), (9, .int v9)]) hx hb dX2_rounded_150 hl (by decide) rfl (fun ls hl => ?_)
  exact wX2_rounded_152 C v4 v9 (v12 + (1 : Int64)) (lv_sub hl [1, 2, 0] rfl)
set_option maxHeartbeats 4000000 in
set_option maxRecDepth 100000 in
theorem wX2_rounded_82 {p : Program} {l : Launch} {e : Env} {s : State} {m : MethodId} {args : Array Value} {below : List Frame} {meth : Method} {c : Code} (C : px_C p s m args meth c cX2_rounded 18 (some .long) RX2 wsX2_rounded) (v3 : Int32) (v4 : Int32) (v6 : Int64) (v9 : Int32) (v11 : Int32) {ls : Array Slot} (hl : lv_has ls 18 [(3, .int v3), (4, .int v4), (6, .long v6), (9, .int v9), (11, .int v11)]) : W p l e { frames := 0, cells := 0, slots := 0, locals := 0 } s m args below meth c s.heap [] 0 0 (MQ below (px_Q (.long (fX2_rounded_82 v3 v4 v6 v9 v11))) args s 0 0 (fun _ => False)) (F0 m 82 ls []) := by
  obtain ⟨hx, hb, hml, hown, hts, hr, hlocks⟩ := id C
  rw [fX2_rounded_82]
  refine lv_iload hx hb dX2_rounded_82 (lv_at hl 4 rfl) ?_
  refine lv_bipush (v := 62) hx hb dX2_rounded_84 (by decide) ?_
  refine px_icmp_le (tgt := 91) hx hb dX2_rounded_86 (by decide) (fun hc86 => ?_) (fun hc86 => ?_)
  · rw [if_pos hc86]
    refine lv_lconst (v := 0) hx hb dX2_rounded_89 (by decide) ?_
    exact W.lret hx hb hr (fun t ht _ => ⟨rfl, ht⟩) (fun q h => by cases h) dX2_rounded_90
  · rw [if_neg hc86]
    refine lv_lload hx hb dX2_rounded_91 (lv_at hl 2 rfl) ?_
    refine lv_iload hx hb dX2_rounded_93 (lv_at hl 4 rfl) ?_
    refine px_lushr hx hb dX2_rounded_95 ?_
    refine lv_topl (fun v12_96 ev12_96 => ?_)
    rw [← ev12_96]
    refine lv_lstore (lv' := [(12, .long v12_96), (3, .int v3), (4, .int v4), (6, .long v6), (9, .int v9), (11, .int v11)]) hx hb dX2_rounded_96 hl (by decide) rfl (fun ls hl => ?_)
    rw [fX2_rounded_98]
    refine lv_lload hx hb dX2_rounded_98 (lv_at hl 3 rfl) ?_
    refine lv_lconst (v := 1) hx hb dX2_rounded_100 (by decide) ?_
    refine lv_iload hx hb dX2_rounded_101 (lv_at hl 5 rfl) ?_
    refine px_lshl hx hb dX2_rounded_103 ?_
    refine lv_lconst (v := 1) hx hb dX2_rounded_104 (by decide) ?_
    refine lv_lsub hx hb dX2_rounded_105 ?_
    refine lv_land hx hb dX2_rounded_106 ?_
    refine lv_topl (fun v14_107 ev14_107 => ?_)
    rw [← ev14_107]
    refine lv_lstore (lv' := [(14, .long v14_107), (12, .long v12_96), (3, .int v3), (4, .int v4), (6, .long v6), (9, .int v9), (11, .int v11)]) hx hb dX2_rounded_107 hl (by decide) rfl (fun ls hl => ?_)
    rw [fX2_rounded_109]
    refine lv_lconst (v := 1) hx hb dX2_rounded_109 (by decide) ?_
    refine lv_iload hx hb dX2_rounded_110 (lv_at hl 6 rfl) ?_
    refine lv_iconst (v := 1) hx hb dX2_rounded_112 (by decide) ?_
    refine lv_isub hx hb dX2_rounded_113 ?_
    refine px_lshl hx hb dX2_rounded_114 ?_
    refine lv_topl (fun v16_115 ev16_115 => ?_)
    rw [← ev16_115]
    refine lv_lstore (lv' := [(16, .long v16_115), (14, .long v14_107), (12, .long v12_96), (3, .int v3), (4, .int v4), (6, .long v6), (9, .int v9), (11, .int v11)]) hx hb dX2_rounded_115 hl (by decide) rfl (fun ls hl => ?_)
    rw [fX2_rounded_117]
    refine lv_lload hx hb dX2_rounded_117 (lv_at hl 1 rfl) ?_
    refine lv_lload hx hb dX2_rounded_119 (lv_at hl 0 rfl) ?_
    refine px_lcmp_gt (tgt := 146) hx hb dX2_rounded_121 dX2_rounded_122 (by decide) (fun hc121 => ?_) (fun hc121 => ?_)
    · rw [if_pos hc121]
      exact wX2_rounded_146 C v4 v9 v12_96 (lv_sub hl [4, 6, 2] rfl)
    · rw [if_neg hc121]
      refine lv_lload hx hb dX2_rounded_125 (lv_at hl 1 rfl) ?_
      refine lv_lload hx hb dX2_rounded_127 (lv_at hl 0 rfl) ?_
      refine px_lcmp_ne (tgt := 152) hx hb dX2_rounded_129 dX2_rounded_130 (by decide) (fun hc129 => ?_) (fun hc129 => ?_)
      · rw [if_pos hc129]
        refine lv_iload_n hx hb dX2_rounded_133 rfl (lv_at hl 3 rfl) ?_
        refine px_if_ne (tgt := 146) hx hb dX2_rounded_134 (by decide) (fun hc134 => ?_) (fun hc134 => ?_)
        · rw [if_pos hc134]
          refine lv_lload hx hb dX2_rounded_137 (lv_at hl 2 rfl) ?_
          refine lv_lconst (v := 1) hx hb dX2_rounded_139 (by decide) ?_
          refine lv_land hx hb dX2_rounded_140 ?_
          refine lv_lconst (v := 1) hx hb dX2_rounded_141 (by decide) ?_
          refine px_lcmp_ne (tgt := 152) hx hb dX2_rounded_142 dX2_rounded_143 (by decide) (fun hc142 => ?_) (fun hc142 => ?_)
          · rw [if_pos hc142]
            exact wX2_rounded_146 C v4 v9 v12_96 (lv_sub hl [4, 6, 2] rfl)
          · rw [if_neg hc142]
            exact wX2_rounded_152 C v4 v9 v12_96 (lv_sub hl [4, 6, 2] rfl)
        · rw [if_neg hc134]
          exact wX2_rounded_146 C v4 v9 v12_96 (lv_sub hl [4, 6, 2] rfl)
      · rw [if_neg hc129]
        exact wX2_rounded_152 C v4 v9 v12_96 (lv_sub hl [4, 6, 2] rfl)
set_option maxHeartbeats 4000000 in
set_option maxRecDepth 100000 in
theorem wX2_rounded_27 {p : Program} {l : Launch} {e : Env} {s : State} {m : MethodId} {args : Array Value} {below : List Frame} {meth : Method} {c : Code} (C : px_C p s m args meth c cX2_rounded 18 (some .long) RX2 wsX2_rounded) (v3 : Int32) (v4 : Int32) (v5 : Int32) (v6 : Int64) (v8 : Int32) {ls : Array Slot} (hl : lv_has ls 18 [(3, .int v3), (4, .int v4), (5, .int v5), (6, .long v6), (8, .int v8)]) : W p l e { frames := 0, cells := 0, slots := 0, locals := 0 } s m args below meth c s.heap [] 0 0 (MQ below (px_Q (.long (fX2_rounded_27 v3 v4 v5 v6 v8))) args s 0 0 (fun _ => False)) (F0 m 27 ls []) := by
  obtain ⟨hx, hb, hml, hown, hts, hr, hlocks⟩ := id C
  rw [fX2_rounded_27]
  refine lv_iload hx hb dX2_rounded_27 (lv_at hl 4 rfl) ?_
  refine lv_bipush (v := 61) hx hb dX2_rounded_29 (by decide) ?_
  refine lv_iadd hx hb dX2_rounded_31 ?_
  refine lv_iload hx hb dX2_rounded_32 (lv_at hl 2 rfl) ?_
  refine lv_iadd hx hb dX2_rounded_34 ?_
  refine lv_topi (fun v9_35 ev9_35 => ?_)
  rw [← ev9_35]
  refine lv_istore (lv' := [(9, .int v9_35), (3, .int v3), (4, .int v4), (5, .int v5), (6, .long v6), (8, .int v8)]) hx hb dX2_rounded_35 hl (by decide) rfl (fun ls hl => ?_)
  rw [fX2_rounded_37]
  refine lv_iconst (v := 2) hx hb dX2_rounded_37 (by decide) ?_
  refine lv_iload hx hb dX2_rounded_38 (lv_at hl 3 rfl) ?_
  refine lv_imul hx hb dX2_rounded_40 ?_
  refine lv_iconst (v := 1) hx hb dX2_rounded_41 (by decide) ?_
  refine lv_iadd hx hb dX2_rounded_42 ?_
  refine lv_topi (fun v10_43 ev10_43 => ?_)
  rw [← ev10_43]
  refine lv_istore (lv' := [(10, .int v10_43), (9, .int v9_35), (3, .int v3), (4, .int v4), (5, .int v5), (6, .long v6), (8, .int v8)]) hx hb dX2_rounded_43 hl (by decide) rfl (fun ls hl => ?_)
  rw [fX2_rounded_45]
  refine lv_iload hx hb dX2_rounded_45 (lv_at hl 1 rfl) ?_
  refine lv_iload hx hb dX2_rounded_47 (lv_at hl 0 rfl) ?_
  refine px_icmp_lt (tgt := 61) hx hb dX2_rounded_49 (by decide) (fun hc49 => ?_) (fun hc49 => ?_)
  · rw [if_pos hc49]
    refine lv_bipush (v := 62) hx hb dX2_rounded_61 (by decide) ?_
    refine lv_iload hx hb dX2_rounded_63 (lv_at hl 3 rfl) ?_
    refine lv_isub hx hb dX2_rounded_65 ?_
    refine lv_topi (fun v11_66 ev11_66 => ?_)
    rw [← ev11_66]
    refine lv_istore (lv' := [(11, .int v11_66), (10, .int v10_43), (9, .int v9_35), (3, .int v3), (4, .int v4), (5, .int v5), (6, .long v6), (8, .int v8)]) hx hb dX2_rounded_66 hl (by decide) rfl (fun ls hl => ?_)
    rw [fX2_rounded_68]
    refine lv_iload hx hb dX2_rounded_68 (lv_at hl 2 rfl) ?_
    refine px_if_gt (tgt := 82) hx hb dX2_rounded_70 (by decide) (fun hc70 => ?_) (fun hc70 => ?_)
    · rw [if_pos hc70]
      exact wX2_rounded_82 C v3 v4 v6 v9_35 v11_66 (lv_sub hl [3, 4, 6, 2, 0] rfl)
    · rw [if_neg hc70]
      refine lv_iload hx hb dX2_rounded_73 (lv_at hl 0 rfl) ?_
      refine lv_iconst (v := 1) hx hb dX2_rounded_75 (by decide) ?_
      refine lv_iadd hx hb dX2_rounded_76 ?_
      refine lv_iload hx hb dX2_rounded_77 (lv_at hl 2 rfl) ?_
      refine lv_isub hx hb dX2_rounded_79 ?_
      refine lv_istore (lv' := [(11, .int ((v11_66 + (1 : Int32)) - v9_35)), (10, .int v10_43), (9, .int v9_35), (3, .int v3), (4, .int v4), (5, .int v5), (6, .long v6), (8, .int v8)]) hx hb dX2_rounded_80 hl (by decide) rfl (fun ls hl => ?_)
      exact wX2_rounded_82 C v3 v4 v6 v9_35 ((v11_66 + (1 : Int32)) - v9_35) (lv_sub hl [3, 4, 6, 2, 0] rfl)
  · rw [if_neg hc49]
    refine lv_iload hx hb dX2_rounded_52 (lv_at hl 0 rfl) ?_
    refine px_i2l hx hb dX2_rounded_54 ?_
    refine lv_iload hx hb dX2_rounded_55 (lv_at hl 3 rfl) ?_
    refine lv_iconst (v := 1) hx hb dX2_rounded_57 (by decide) ?_
    refine lv_isub hx hb dX2_rounded_58 ?_
    refine px_lshl hx hb dX2_rounded_59 ?_
    exact W.lret hx hb hr (fun t ht _ => ⟨rfl, ht⟩) (fun q h => by cases h) dX2_rounded_60
set_option maxHeartbeats 4000000 in
set_option maxRecDepth 100000 in
theorem wX2_rounded_6 {p : Program} {l : Launch} {e : Env} {s : State} {m : MethodId} {args : Array Value} {below : List Frame} {meth : Method} {c : Code} (C : px_C p s m args meth c cX2_rounded 18 (some .long) RX2 wsX2_rounded) : ∀ (n : Nat) (v3 : Int32) (v4 : Int32) (v5 : Int32) (v6 : Int64) (v8 : Int32) (hok : okX2_rounded_6 n v3 v4 v5 v6 v8) (ls : Array Slot) (hl : lv_has ls 18 [(3, .int v3), (4, .int v4), (5, .int v5), (6, .long v6), (8, .int v8)]), W p l e { frames := 0, cells := 0, slots := 0, locals := 0 } s m args below meth c s.heap [] 0 0 (MQ below (px_Q (.long (fX2_rounded_6 n v3 v4 v5 v6 v8))) args s 0 0 (fun _ => False)) (F0 m 6 ls []) := by
  obtain ⟨hx, hb, hml, hown, hts, hr, hlocks⟩ := id C
  intro n
  induction n with
  | zero => intro v3 v4 v5 v6 v8 hok; exact hok.elim
  | succ n ih =>
    intro v3 v4 v5 v6 v8 hok ls hl
    rw [fX2_rounded_6]
    rw [okX2_rounded_6] at hok
    refine lv_lload hx hb dX2_rounded_6 (lv_at hl 3 rfl) ?_
    refine lv_ldc2 hx hb hown (hts (.constantLong RX2 23 (2305843009213693952)) (by decide +kernel)) dX2_rounded_8 ?_
    refine px_lcmp_ge (tgt := 27) hx hb dX2_rounded_11 dX2_rounded_12 (by decide) (fun hc11 => ?_) (fun hc11 => ?_)
    · rw [if_pos hc11]
      have hok := hok.1 hc11
      refine lv_lload hx hb dX2_rounded_15 (lv_at hl 3 rfl) ?_
      refine lv_iconst (v := 1) hx hb dX2_rounded_17 (by decide) ?_
      refine px_lshl hx hb dX2_rounded_18 ?_
      refine lv_lstore (lv' := [(6, .long (jshl v6 (1 : Int32))), (3, .int v3), (4, .int v4), (5, .int v5), (8, .int v8)]) hx hb dX2_rounded_19 hl (by decide) rfl (fun ls hl => ?_)
      refine lv_iinc (v := (v8 + (-1 : Int32))) (lv' := [(8, .int (v8 + (-1 : Int32))), (6, .long (jshl v6 (1 : Int32))), (3, .int v3), (4, .int v4), (5, .int v5)]) hx hb dX2_rounded_21 hl (k := 4) rfl (congrArg (HAdd.hAdd v8) (by decide : Int32.ofInt (-1) = (-1 : Int32))) (by decide) rfl (fun ls hl => ?_)
      refine lv_goto (tgt := 6) hx hb dX2_rounded_24 (by decide) ?_
      exact ih v3 v4 v5 (jshl v6 (1 : Int32)) (v8 + (-1 : Int32)) hok _ (lv_sub hl [2, 3, 4, 1, 0] rfl)
    · rw [if_neg hc11]
      have hok := hok.2 hc11
      exact wX2_rounded_27 C v3 v4 v5 v6 v8 (lv_sub hl [0, 1, 2, 3, 4] rfl)
set_option maxHeartbeats 4000000 in
set_option maxRecDepth 100000 in
theorem wX2_rounded_0 {p : Program} {l : Launch} {e : Env} {s : State} {m : MethodId} {args : Array Value} {below : List Frame} {meth : Method} {c : Code} (C : px_C p s m args meth c cX2_rounded 18 (some .long) RX2 wsX2_rounded) (v0 : Int64) (v2 : Int32) (v3 : Int32) (v4 : Int32) (v5 : Int32) (hok : okX2_rounded_0 v0 v2 v3 v4 v5) {ls : Array Slot} (hl : lv_has ls 18 [(0, .long v0), (2, .int v2), (3, .int v3), (4, .int v4), (5, .int v5)]) : W p l e { frames := 0, cells := 0, slots := 0, locals := 0 } s m args below meth c s.heap [] 0 0 (MQ below (px_Q (.long (fX2_rounded_0 v0 v2 v3 v4 v5))) args s 0 0 (fun _ => False)) (F0 m 0 ls []) := by
  obtain ⟨hx, hb, hml, hown, hts, hr, hlocks⟩ := id C
  rw [fX2_rounded_0]
  rw [okX2_rounded_0] at hok
  refine lv_lload_n hx hb dX2_rounded_0 rfl (lv_at hl 0 rfl) ?_
  refine lv_lstore (lv' := [(6, .long v0), (0, .long v0), (2, .int v2), (3, .int v3), (4, .int v4), (5, .int v5)]) hx hb dX2_rounded_1 hl (by decide) rfl (fun ls hl => ?_)
  refine lv_iload_n hx hb dX2_rounded_3 rfl (lv_at hl 2 rfl) ?_
  refine lv_istore (lv' := [(8, .int v2), (6, .long v0), (0, .long v0), (2, .int v2), (3, .int v3), (4, .int v4), (5, .int v5)]) hx hb dX2_rounded_4 hl (by decide) rfl (fun ls hl => ?_)
  exact wX2_rounded_6 C _ v3 v4 v5 v0 v2 hok _ (lv_sub hl [4, 5, 6, 1, 0] rfl)
set_option maxHeartbeats 4000000 in
set_option maxRecDepth 100000 in
theorem kX2_rounded (l : Launch) (v0 : Int64) (v2 : Int32) (v3 : Int32) (v4 : Int32) (v5 : Int32) (hok : okX2_rounded v0 v2 v3 v4 v5) : px_M l yX2_rounded wsX2_rounded ({ frames := 0, cells := 0, slots := 0, locals := 0 }) [.long v0, .int v2, .int v3, .int v4, .int v5] (.long (fX2_rounded v0 v2 v3 v4 v5)) := by
  refine Met.ofW (cc := cX2_rounded) (maxL := 18) (ret := (some .long)) (by decide) rfl ?_
  intro p e s m args below meth c s₁ B hml hv
  cases hv
  have C : px_C p s m _ meth c cX2_rounded 18 (some .long) RX2 wsX2_rounded := ⟨B.exec, B.bytes, hml, findClass_of_methodNamed B.named, atoms_spec (ws := wsX2_rounded) B.pre, B.returns, B.notSynchronized⟩
  have hl := lv_entry ([.long v0, .int v2, .int v3, .int v4, .int v5]) (n := 18) (Nat.le_of_ble_eq_true rfl)
  rw [lg_entry_eq]
  generalize (lg_sl ([.long v0, .int v2, .int v3, .int v4, .int v5]) ++ List.replicate (18 - (lg_sl ([.long v0, .int v2, .int v3, .int v4, .int v5])).length) Slot.unset).toArray = ls at hl ⊢
  have hl : lv_has ls 18 [(0, .long v0), (2, .int v2), (3, .int v3), (4, .int v4), (5, .int v5)] := hl
  rw [fX2_rounded]
  rw [okX2_rounded] at hok
  exact wX2_rounded_0 C v0 v2 v3 v4 v5 hok (lv_sub hl [0, 1, 2, 3, 4] rfl)
set_option maxHeartbeats 4000000 in
set_option maxRecDepth 100000 in
theorem wX2_made_0 {p : Program} {l : Launch} {e : Env} {s : State} {m : MethodId} {args : Array Value} {below : List Frame} {meth : Method} {c : Code} (C : px_C p s m args meth c cX2_made 7 (some .long) RX2 wsX2_made) (v0 : Int32) (v1 : Int64) (v3 : Int32) (v4 : Int32) (hok : okX2_made_0 v0 v1 v3 v4) {ls : Array Slot} (hl : lv_has ls 7 [(0, .int v0), (1, .long v1), (3, .int v3), (4, .int v4)]) : W p l e { frames := 1, cells := 0, slots := 0, locals := 37 } s m args below meth c s.heap [] 0 0 (MQ below (px_Q (.long (fX2_made_0 v0 v1 v3 v4))) args s 0 0 (fun _ => False)) (F0 m 0 ls []) := by
  obtain ⟨hx, hb, hml, hown, hts, hr, hlocks⟩ := id C
  rw [fX2_made_0]
  rw [okX2_made_0] at hok
  refine lv_lload_n hx hb dX2_made_0 rfl (lv_at hl 1 rfl) ?_
  refine lv_iload_n hx hb dX2_made_1 rfl (lv_at hl 2 rfl) ?_
  refine lv_iload hx hb dX2_made_2 (lv_at hl 3 rfl) ?_
  refine lv_bipush (v := 53) hx hb dX2_made_4 (by decide) ?_
  refine lv_sipush (v := 1023) hx hb dX2_made_6 (by decide) ?_
  obtain ⟨hk, hok⟩ := hok
  refine px_S (As := [.long v1, .int v3, .int v4, .int (53 : Int32), .int (1023 : Int32)]) (rest := []) ⟨hx, hb, hml, hown, hts⟩ (kX2_rounded l v1 v3 v4 (53 : Int32) (1023 : Int32) hk) (va_cwS 5 hts gX2_made_X2_rounded rfl rfl rfl (by decide +kernel) ⟨Nat.le_of_ble_eq_true rfl, Nat.le_of_ble_eq_true rfl⟩) rfl hl.1 rfl (Nat.le_of_ble_eq_true rfl) dX2_made_9 (Nat.zero_le _) (Nat.zero_le _) ?_
  refine lv_topl (fun v5_12 ev5_12 => ?_)
  rw [← ev5_12]
  refine lv_lstore (lv' := [(5, .long v5_12), (0, .int v0), (1, .long v1), (3, .int v3), (4, .int v4)]) hx hb dX2_made_12 hl (by decide) rfl (fun ls hl => ?_)
  rw [fX2_made_14]
  refine lv_iload_n hx hb dX2_made_14 rfl (lv_at hl 1 rfl) ?_
  refine px_if_eq (tgt := 27) hx hb dX2_made_15 (by decide) (fun hc15 => ?_) (fun hc15 => ?_)
  · rw [if_pos hc15]
    refine lv_lload hx hb dX2_made_27 (lv_at hl 0 rfl) ?_
    exact W.lret hx hb hr (fun t ht _ => ⟨rfl, ht⟩) (fun q h => by cases h) dX2_made_29
  · rw [if_neg hc15]
    refine lv_lload hx hb dX2_made_18 (lv_at hl 0 rfl) ?_
    refine lv_ldc2 hx hb hown (hts (.constantLong RX2 15 (-9223372036854775808)) (by decide +kernel)) dX2_made_20 ?_
    refine lv_lor hx hb dX2_made_23 ?_
    refine lv_goto (tgt := 29) hx hb dX2_made_24 (by decide) ?_
    exact W.lret hx hb hr (fun t ht _ => ⟨rfl, ht⟩) (fun q h => by cases h) dX2_made_29
set_option maxHeartbeats 4000000 in
set_option maxRecDepth 100000 in
theorem kX2_made (l : Launch) (v0 : Int32) (v1 : Int64) (v3 : Int32) (v4 : Int32) (hok : okX2_made v0 v1 v3 v4) : px_M l yX2_made wsX2_made ({ frames := 1, cells := 0, slots := 0, locals := 37 }) [.int v0, .long v1, .int v3, .int v4] (.long (fX2_made v0 v1 v3 v4)) := by
  refine Met.ofW (cc := cX2_made) (maxL := 7) (ret := (some .long)) (by decide) rfl ?_
  intro p e s m args below meth c s₁ B hml hv
  cases hv
  have C : px_C p s m _ meth c cX2_made 7 (some .long) RX2 wsX2_made := ⟨B.exec, B.bytes, hml, findClass_of_methodNamed B.named, atoms_spec (ws := wsX2_made) B.pre, B.returns, B.notSynchronized⟩
  have hl := lv_entry ([.int v0, .long v1, .int v3, .int v4]) (n := 7) (Nat.le_of_ble_eq_true rfl)
  rw [lg_entry_eq]
  generalize (lg_sl ([.int v0, .long v1, .int v3, .int v4]) ++ List.replicate (7 - (lg_sl ([.int v0, .long v1, .int v3, .int v4])).length) Slot.unset).toArray = ls at hl ⊢
  have hl : lv_has ls 7 [(0, .int v0), (1, .long v1), (3, .int v3), (4, .int v4)] := hl
  rw [fX2_made]
  rw [okX2_made] at hok
  exact wX2_made_0 C v0 v1 v3 v4 hok (lv_sub hl [0, 1, 2, 3] rfl)
set_option maxHeartbeats 4000000 in
set_option maxRecDepth 100000 in
theorem wX2_add_14 {p : Program} {l : Launch} {e : Env} {s : State} {m : MethodId} {args : Array Value} {below : List Frame} {meth : Method} {c : Code} (C : px_C p s m args meth c cX2_add 20 (some .long) RX2 wsX2_add) (v0 : Int64) (v2 : Int64) {ls : Array Slot} (hl : lv_has ls 20 [(0, .long v0), (2, .long v2)]) : W p l e { frames := 2, cells := 0, slots := 0, locals := 63 } s m args below meth c s.heap [] 0 0 (MQ below (px_Q (.long (fX2_add_14 v0 v2))) args s 0 0 (fun _ => False)) (F0 m 14 ls []) := by
  obtain ⟨hx, hb, hml, hown, hts, hr, hlocks⟩ := id C
  rw [fX2_add_14]
  refine lv_lload_n hx hb dX2_add_14 rfl (lv_at hl 0 rfl) ?_
  refine px_S (As := [.long v0]) (rest := []) ⟨hx, hb, hml, hown, hts⟩ (kX2_isZero l v0) (va_cwS 1 hts gX2_add_X2_isZero rfl rfl rfl (by decide +kernel) ⟨Nat.le_of_ble_eq_true rfl, Nat.le_of_ble_eq_true rfl⟩) rfl hl.1 rfl (Nat.le_of_ble_eq_true rfl) dX2_add_15 (Nat.zero_le _) (Nat.zero_le _) ?_
  refine px_if_eq (tgt := 34) hx hb dX2_add_18 (by decide) (fun hc18 => ?_) (fun hc18 => ?_)
  · rw [if_pos hc18]
    refine lv_lload_n hx hb dX2_add_34 rfl (lv_at hl 0 rfl) ?_
    exact W.lret hx hb hr (fun t ht _ => ⟨rfl, ht⟩) (fun q h => by cases h) dX2_add_35
  · rw [if_neg hc18]
    refine lv_lload_n hx hb dX2_add_21 rfl (lv_at hl 1 rfl) ?_
    refine px_S (As := [.long v2]) (rest := []) ⟨hx, hb, hml, hown, hts⟩ (kX2_isZero l v2) (va_cwS 1 hts gX2_add_X2_isZero rfl rfl rfl (by decide +kernel) ⟨Nat.le_of_ble_eq_true rfl, Nat.le_of_ble_eq_true rfl⟩) rfl hl.1 rfl (Nat.le_of_ble_eq_true rfl) dX2_add_22 (Nat.zero_le _) (Nat.zero_le _) ?_
    refine px_if_eq (tgt := 34) hx hb dX2_add_25 (by decide) (fun hc25 => ?_) (fun hc25 => ?_)
    · rw [if_pos hc25]
      refine lv_lload_n hx hb dX2_add_34 rfl (lv_at hl 0 rfl) ?_
      exact W.lret hx hb hr (fun t ht _ => ⟨rfl, ht⟩) (fun q h => by cases h) dX2_add_35
    · rw [if_neg hc25]
      refine lv_lload_n hx hb dX2_add_28 rfl (lv_at hl 0 rfl) ?_
      refine lv_lload_n hx hb dX2_add_29 rfl (lv_at hl 1 rfl) ?_
      refine lv_land hx hb dX2_add_30 ?_
      refine lv_goto (tgt := 35) hx hb dX2_add_31 (by decide) ?_
      exact W.lret hx hb hr (fun t ht _ => ⟨rfl, ht⟩) (fun q h => by cases h) dX2_add_35
set_option maxHeartbeats 4000000 in
set_option maxRecDepth 100000 in
theorem wX2_add_242 {p : Program} {l : Launch} {e : Env} {s : State} {m : MethodId} {args : Array Value} {below : List Frame} {meth : Method} {c : Code} (C : px_C p s m args meth c cX2_add 20 (some .long) RX2 wsX2_add) (v9 : Int32) (v11 : Int64) (v15 : Int64) (v17 : Int32) (s0 : Int32) (hok : okX2_add_242 v9 v11 v15 v17 s0) {ls : Array Slot} (hl : lv_has ls 20 [(9, .int v9), (11, .long v11), (15, .long v15), (17, .int v17)]) : W p l e { frames := 2, cells := 0, slots := 0, locals := 63 } s m args below meth c s.heap [] 0 0 (MQ below (px_Q (.long (fX2_add_242 v9 v11 v15 v17 s0))) args s 0 0 (fun _ => False)) (F0 m 242 ls [.int s0]) := by
  obtain ⟨hx, hb, hml, hown, hts, hr, hlocks⟩ := id C
  rw [fX2_add_242]
  rw [okX2_add_242] at hok
  refine lv_lload hx hb dX2_add_242 (lv_at hl 1 rfl) ?_
  refine lv_lload hx hb dX2_add_244 (lv_at hl 2 rfl) ?_
  refine lv_ladd hx hb dX2_add_246 ?_
  refine lv_iload hx hb dX2_add_247 (lv_at hl 0 rfl) ?_
  refine lv_iload hx hb dX2_add_249 (lv_at hl 3 rfl) ?_
  obtain ⟨hk, hok⟩ := hok
  refine px_S (As := [.int s0, .long (v11 + v15), .int v9, .int v17]) (rest := []) ⟨hx, hb, hml, hown, hts⟩ (kX2_made l s0 (v11 + v15) v9 v17 hk) (va_cwS 4 hts gX2_add_X2_made rfl rfl rfl (by decide +kernel) ⟨Nat.le_of_ble_eq_true rfl, Nat.le_of_ble_eq_true rfl⟩) rfl hl.1 rfl (Nat.le_of_ble_eq_true rfl) dX2_add_251 (Nat.zero_le _) (Nat.zero_le _) ?_
  exact W.lret hx hb hr (fun t ht _ => ⟨rfl, ht⟩) (fun q h => by cases h) dX2_add_254
set_option maxHeartbeats 4000000 in
set_option maxRecDepth 100000 in
theorem wX2_add_302 {p : Program} {l : Launch} {e : Env} {s : State} {m : MethodId} {args : Array Value} {below : List Frame} {meth : Method} {c : Code} (C : px_C p s m args meth c cX2_add 20 (some .long) RX2 wsX2_add) (v9 : Int32) (v17 : Int32) (v18 : Int64) (s0 : Int32) (hok : okX2_add_302 v9 v17 v18 s0) {ls : Array Slot} (hl : lv_has ls 20 [(9, .int v9), (17, .int v17), (18, .long v18)]) : W p l e { frames := 2, cells := 0, slots := 0, locals := 63 } s m args below meth c s.heap [] 0 0 (MQ below (px_Q (.long (fX2_add_302 v9 v17 v18 s0))) args s 0 0 (fun _ => False)) (F0 m 302 ls [.int s0]) := by
  obtain ⟨hx, hb, hml, hown, hts, hr, hlocks⟩ := id C
  rw [fX2_add_302]
  rw [okX2_add_302] at hok
  refine lv_lload hx hb dX2_add_302 (lv_at hl 2 rfl) ?_
  refine lv_iload hx hb dX2_add_304 (lv_at hl 0 rfl) ?_
  refine lv_iload hx hb dX2_add_306 (lv_at hl 1 rfl) ?_
  obtain ⟨hk, hok⟩ := hok
  refine px_S (As := [.int s0, .long v18, .int v9, .int v17]) (rest := []) ⟨hx, hb, hml, hown, hts⟩ (kX2_made l s0 v18 v9 v17 hk) (va_cwS 4 hts gX2_add_X2_made rfl rfl rfl (by decide +kernel) ⟨Nat.le_of_ble_eq_true rfl, Nat.le_of_ble_eq_true rfl⟩) rfl hl.1 rfl (Nat.le_of_ble_eq_true rfl) dX2_add_308 (Nat.zero_le _) (Nat.zero_le _) ?_
  exact W.lret hx hb hr (fun t ht _ => ⟨rfl, ht⟩) (fun q h => by cases h) dX2_add_311
set_option maxHeartbeats 4000000 in
set_option maxRecDepth 100000 in
theorem wX2_add_290 {p : Program} {l : Launch} {e : Env} {s : State} {m : MethodId} {args : Array Value} {below : List Frame} {meth : Method} {c : Code} (C : px_C p s m args meth c cX2_add 20 (some .long) RX2 wsX2_add) (v5 : Int64) (v9 : Int32) (v17 : Int32) (v18 : Int64) (hok : okX2_add_290 v5 v9 v17 v18) {ls : Array Slot} (hl : lv_has ls 20 [(5, .long v5), (9, .int v9), (17, .int v17), (18, .long v18)]) : W p l e { frames := 2, cells := 0, slots := 0, locals := 63 } s m args below meth c s.heap [] 0 0 (MQ below (px_Q (.long (fX2_add_290 v5 v9 v17 v18))) args s 0 0 (fun _ => False)) (F0 m 290 ls []) := by
  obtain ⟨hx, hb, hml, hown, hts, hr, hlocks⟩ := id C
  rw [fX2_add_290]
  rw [okX2_add_290] at hok
  refine lv_lload hx hb dX2_add_290 (lv_at hl 0 rfl) ?_
  refine lv_lconst (v := 0) hx hb dX2_add_292 (by decide) ?_
  refine px_lcmp_ge (tgt := 301) hx hb dX2_add_293 dX2_add_294 (by decide) (fun hc293 => ?_) (fun hc293 => ?_)
  · rw [if_pos hc293]
    have hok := hok.1 hc293
    refine lv_iconst (v := 1) hx hb dX2_add_297 (by decide) ?_
    refine lv_goto (tgt := 302) hx hb dX2_add_298 (by decide) ?_
    exact wX2_add_302 C v9 v17 v18 (1 : Int32) hok (lv_sub hl [1, 2, 3] rfl)
  · rw [if_neg hc293]
    have hok := hok.2 hc293
    refine lv_iconst (v := 0) hx hb dX2_add_301 (by decide) ?_
    exact wX2_add_302 C v9 v17 v18 (0 : Int32) hok (lv_sub hl [1, 2, 3] rfl)
set_option maxHeartbeats 4000000 in
set_option maxRecDepth 100000 in
theorem wX2_add_270 {p : Program} {l : Launch} {e : Env} {s : State} {m : MethodId} {args : Array Value} {below : List Frame} {meth : Method} {c : Code} (C : px_C p s m args meth c cX2_add 20 (some .long) RX2 wsX2_add) (v5 : Int64) (v9 : Int32) (v17 : Int32) (s0 : Int64) (s1 : Int32) (hok : okX2_add_270 v5 v9 v17 s0 s1) {ls : Array Slot} (hl : lv_has ls 20 [(5, .long v5), (9, .int v9), (17, .int v17)]) : W p l e { frames := 2, cells := 0, slots := 0, locals := 63 } s m args below meth c s.heap [] 0 0 (MQ below (px_Q (.long (fX2_add_270 v5 v9 v17 s0 s1))) args s 0 0 (fun _ => False)) (F0 m 270 ls [.int s1, .long s0]) := by
  obtain ⟨hx, hb, hml, hown, hts, hr, hlocks⟩ := id C
  rw [fX2_add_270]
  rw [okX2_add_270] at hok
  refine px_i2l hx hb dX2_add_270 ?_
  refine lv_lsub hx hb dX2_add_271 ?_
  refine lv_topl (fun v18_272 ev18_272 => ?_)
  rw [← ev18_272]
  rw [← ev18_272] at hok
  refine lv_lstore (lv' := [(18, .long v18_272), (5, .long v5), (9, .int v9), (17, .int v17)]) hx hb dX2_add_272 hl (by decide) rfl (fun ls hl => ?_)
  rw [fX2_add_274]
  rw [okX2_add_274] at hok
  refine lv_lload hx hb dX2_add_274 (lv_at hl 0 rfl) ?_
  refine lv_lconst (v := 0) hx hb dX2_add_276 (by decide) ?_
  refine px_lcmp_ne (tgt := 290) hx hb dX2_add_277 dX2_add_278 (by decide) (fun hc277 => ?_) (fun hc277 => ?_)
  · rw [if_pos hc277]
    have hok := hok.1 hc277
    refine lv_iload hx hb dX2_add_281 (lv_at hl 3 rfl) ?_
    refine px_if_ne (tgt := 290) hx hb dX2_add_283 (by decide) (fun hc283 => ?_) (fun hc283 => ?_)
    · rw [if_pos hc283]
      have hok := hok.1 hc283
      refine lv_lconst (v := 0) hx hb dX2_add_286 (by decide) ?_
      refine lv_goto (tgt := 311) hx hb dX2_add_287 (by decide) ?_
      exact W.lret hx hb hr (fun t ht _ => ⟨rfl, ht⟩) (fun q h => by cases h) dX2_add_311
    · rw [if_neg hc283]
      have hok := hok.2 hc283
      exact wX2_add_290 C v5 v9 v17 v18_272 hok (lv_sub hl [1, 2, 3, 0] rfl)
  · rw [if_neg hc277]
    have hok := hok.2 hc277
    exact wX2_add_290 C v5 v9 v17 v18_272 hok (lv_sub hl [1, 2, 3, 0] rfl)
set_option maxHeartbeats 4000000 in
set_option maxRecDepth 100000 in
theorem wX2_add_227 {p : Program} {l : Launch} {e : Env} {s : State} {m : MethodId} {args : Array Value} {below : List Frame} {meth : Method} {c : Code} (C : px_C p s m args meth c cX2_add 20 (some .long) RX2 wsX2_add) (v5 : Int64) (v9 : Int32) (v11 : Int64) (v15 : Int64) (v17 : Int32) (s0 : Int32) (s1 : Int32) (hok : okX2_add_227 v5 v9 v11 v15 v17 s0 s1) {ls : Array Slot} (hl : lv_has ls 20 [(5, .long v5), (9, .int v9), (11, .long v11), (15, .long v15), (17, .int v17)]) : W p l e { frames := 2, cells := 0, slots := 0, locals := 63 } s m args below meth c s.heap [] 0 0 (MQ below (px_Q (.long (fX2_add_227 v5 v9 v11 v15 v17 s0 s1))) args s 0 0 (fun _ => False)) (F0 m 227 ls [.int s1, .int s0]) := by
  obtain ⟨hx, hb, hml, hown, hts, hr, hlocks⟩ := id C
  rw [fX2_add_227]
  rw [okX2_add_227] at hok
  refine px_icmp_ne (tgt := 255) hx hb dX2_add_227 (by decide) (fun hc227 => ?_) (fun hc227 => ?_)
  · rw [if_pos hc227]
    have hok := hok.1 hc227
    refine lv_lload hx hb dX2_add_230 (lv_at hl 0 rfl) ?_
    refine lv_lconst (v := 0) hx hb dX2_add_232 (by decide) ?_
    refine px_lcmp_ge (tgt := 241) hx hb dX2_add_233 dX2_add_234 (by decide) (fun hc233 => ?_) (fun hc233 => ?_)
    · rw [if_pos hc233]
      have hok := hok.1 hc233
      refine lv_iconst (v := 1) hx hb dX2_add_237 (by decide) ?_
      refine lv_goto (tgt := 242) hx hb dX2_add_238 (by decide) ?_
      exact wX2_add_242 C v9 v11 v15 v17 (1 : Int32) hok (lv_sub hl [1, 2, 3, 4] rfl)
    · rw [if_neg hc233]
      have hok := hok.2 hc233
      refine lv_iconst (v := 0) hx hb dX2_add_241 (by decide) ?_
      exact wX2_add_242 C v9 v11 v15 v17 (0 : Int32) hok (lv_sub hl [1, 2, 3, 4] rfl)
  · rw [if_neg hc227]
    have hok := hok.2 hc227
    refine lv_lload hx hb dX2_add_255 (lv_at hl 2 rfl) ?_
    refine lv_lload hx hb dX2_add_257 (lv_at hl 3 rfl) ?_
    refine lv_lsub hx hb dX2_add_259 ?_
    refine lv_iload hx hb dX2_add_260 (lv_at hl 4 rfl) ?_
    refine px_if_eq (tgt := 269) hx hb dX2_add_262 (by decide) (fun hc262 => ?_) (fun hc262 => ?_)
    · rw [if_pos hc262]
      have hok := hok.1 hc262
      refine lv_iconst (v := 0) hx hb dX2_add_269 (by decide) ?_
      exact wX2_add_270 C v5 v9 v17 (v11 - v15) (0 : Int32) hok (lv_sub hl [0, 1, 4] rfl)
    · rw [if_neg hc262]
      have hok := hok.2 hc262
      refine lv_iconst (v := 1) hx hb dX2_add_265 (by decide) ?_
      refine lv_goto (tgt := 270) hx hb dX2_add_266 (by decide) ?_
      exact wX2_add_270 C v5 v9 v17 (v11 - v15) (1 : Int32) hok (lv_sub hl [0, 1, 4] rfl)
set_option maxHeartbeats 4000000 in
set_option maxRecDepth 100000 in
theorem wX2_add_215 {p : Program} {l : Launch} {e : Env} {s : State} {m : MethodId} {args : Array Value} {below : List Frame} {meth : Method} {c : Code} (C : px_C p s m args meth c cX2_add 20 (some .long) RX2 wsX2_add) (v5 : Int64) (v7 : Int64) (v9 : Int32) (v11 : Int64) (v15 : Int64) (v17 : Int32) (s0 : Int32) (hok : okX2_add_215 v5 v7 v9 v11 v15 v17 s0) {ls : Array Slot} (hl : lv_has ls 20 [(5, .long v5), (7, .long v7), (9, .int v9), (11, .long v11), (15, .long v15), (17, .int v17)]) : W p l e { frames := 2, cells := 0, slots := 0, locals := 63 } s m args below meth c s.heap [] 0 0 (MQ below (px_Q (.long (fX2_add_215 v5 v7 v9 v11 v15 v17 s0))) args s 0 0 (fun _ => False)) (F0 m 215 ls [.int s0]) := by
  obtain ⟨hx, hb, hml, hown, hts, hr, hlocks⟩ := id C
  rw [fX2_add_215]
  rw [okX2_add_215] at hok
  refine lv_lload hx hb dX2_add_215 (lv_at hl 1 rfl) ?_
  refine lv_lconst (v := 0) hx hb dX2_add_217 (by decide) ?_
  refine px_lcmp_ge (tgt := 226) hx hb dX2_add_218 dX2_add_219 (by decide) (fun hc218 => ?_) (fun hc218 => ?_)
  · rw [if_pos hc218]
    have hok := hok.1 hc218
    refine lv_iconst (v := 1) hx hb dX2_add_222 (by decide) ?_
    refine lv_goto (tgt := 227) hx hb dX2_add_223 (by decide) ?_
    exact wX2_add_227 C v5 v9 v11 v15 v17 s0 (1 : Int32) hok (lv_sub hl [0, 2, 3, 4, 5] rfl)
  · rw [if_neg hc218]
    have hok := hok.2 hc218
    refine lv_iconst (v := 0) hx hb dX2_add_226 (by decide) ?_
    exact wX2_add_227 C v5 v9 v11 v15 v17 s0 (0 : Int32) hok (lv_sub hl [0, 2, 3, 4, 5] rfl)
set_option maxHeartbeats 4000000 in
set_option maxRecDepth 100000 in
theorem wX2_add_201 {p : Program} {l : Launch} {e : Env} {s : State} {m : MethodId} {args : Array Value} {below : List Frame} {meth : Method} {c : Code} (C : px_C p s m args meth c cX2_add 20 (some .long) RX2 wsX2_add) (v5 : Int64) (v7 : Int64) (v9 : Int32) (v11 : Int64) (v15 : Int64) (s0 : Int32) (hok : okX2_add_201 v5 v7 v9 v11 v15 s0) {ls : Array Slot} (hl : lv_has ls 20 [(5, .long v5), (7, .long v7), (9, .int v9), (11, .long v11), (15, .long v15)]) : W p l e { frames := 2, cells := 0, slots := 0, locals := 63 } s m args below meth c s.heap [] 0 0 (MQ below (px_Q (.long (fX2_add_201 v5 v7 v9 v11 v15 s0))) args s 0 0 (fun _ => False)) (F0 m 201 ls [.int s0]) := by
  obtain ⟨hx, hb, hml, hown, hts, hr, hlocks⟩ := id C
  rw [fX2_add_201]
  rw [okX2_add_201] at hok
  refine lv_istore (lv' := [(17, .int s0), (5, .long v5), (7, .long v7), (9, .int v9), (11, .long v11), (15, .long v15)]) hx hb dX2_add_201 hl (by decide) rfl (fun ls hl => ?_)
  refine lv_lload hx hb dX2_add_203 (lv_at hl 1 rfl) ?_
  refine lv_lconst (v := 0) hx hb dX2_add_205 (by decide) ?_
  refine px_lcmp_ge (tgt := 214) hx hb dX2_add_206 dX2_add_207 (by decide) (fun hc206 => ?_) (fun hc206 => ?_)
  · rw [if_pos hc206]
    have hok := hok.1 hc206
    refine lv_iconst (v := 1) hx hb dX2_add_210 (by decide) ?_
    refine lv_goto (tgt := 215) hx hb dX2_add_211 (by decide) ?_
    exact wX2_add_215 C v5 v7 v9 v11 v15 s0 (1 : Int32) hok (lv_sub hl [1, 2, 3, 4, 5, 0] rfl)
  · rw [if_neg hc206]
    have hok := hok.2 hc206
    refine lv_iconst (v := 0) hx hb dX2_add_214 (by decide) ?_
    exact wX2_add_215 C v5 v7 v9 v11 v15 s0 (0 : Int32) hok (lv_sub hl [1, 2, 3, 4, 5, 0] rfl)
set_option maxHeartbeats 4000000 in
set_option maxRecDepth 100000 in
theorem wX2_add_196 {p : Program} {l : Launch} {e : Env} {s : State} {m : MethodId} {args : Array Value} {below : List Frame} {meth : Method} {c : Code} (C : px_C p s m args meth c cX2_add 20 (some .long) RX2 wsX2_add) (v5 : Int64) (v7 : Int64) (v9 : Int32) (v11 : Int64) (v15 : Int64) (hok : okX2_add_196 v5 v7 v9 v11 v15) {ls : Array Slot} (hl : lv_has ls 20 [(5, .long v5), (7, .long v7), (9, .int v9), (11, .long v11), (15, .long v15)]) : W p l e { frames := 2, cells := 0, slots := 0, locals := 63 } s m args below meth c s.heap [] 0 0 (MQ below (px_Q (.long (fX2_add_196 v5 v7 v9 v11 v15))) args s 0 0 (fun _ => False)) (F0 m 196 ls []) := by
  obtain ⟨hx, hb, hml, hown, hts, hr, hlocks⟩ := id C
  rw [fX2_add_196]
  rw [okX2_add_196] at hok
  refine lv_iconst (v := 1) hx hb dX2_add_196 (by decide) ?_
  refine lv_goto (tgt := 201) hx hb dX2_add_197 (by decide) ?_
  exact wX2_add_201 C v5 v7 v9 v11 v15 (1 : Int32) hok (lv_sub hl [0, 1, 2, 3, 4] rfl)
set_option maxHeartbeats 4000000 in
set_option maxRecDepth 100000 in
theorem wX2_add_176 {p : Program} {l : Launch} {e : Env} {s : State} {m : MethodId} {args : Array Value} {below : List Frame} {meth : Method} {c : Code} (C : px_C p s m args meth c cX2_add 20 (some .long) RX2 wsX2_add) (v5 : Int64) (v7 : Int64) (v9 : Int32) (v10 : Int32) (v11 : Int64) (v13 : Int64) (s0 : Int64) (hok : okX2_add_176 v5 v7 v9 v10 v11 v13 s0) {ls : Array Slot} (hl : lv_has ls 20 [(5, .long v5), (7, .long v7), (9, .int v9), (10, .int v10), (11, .long v11), (13, .long v13)]) : W p l e { frames := 2, cells := 0, slots := 0, locals := 63 } s m args below meth c s.heap [] 0 0 (MQ below (px_Q (.long (fX2_add_176 v5 v7 v9 v10 v11 v13 s0))) args s 0 0 (fun _ => False)) (F0 m 176 ls [.long s0]) := by
  obtain ⟨hx, hb, hml, hown, hts, hr, hlocks⟩ := id C
  rw [fX2_add_176]
  rw [okX2_add_176] at hok
  refine lv_lstore (lv' := [(15, .long s0), (5, .long v5), (7, .long v7), (9, .int v9), (10, .int v10), (11, .long v11), (13, .long v13)]) hx hb dX2_add_176 hl (by decide) rfl (fun ls hl => ?_)
  refine lv_iload hx hb dX2_add_178 (lv_at hl 4 rfl) ?_
  refine lv_bipush (v := 62) hx hb dX2_add_180 (by decide) ?_
  refine px_icmp_gt (tgt := 196) hx hb dX2_add_182 (by decide) (fun hc182 => ?_) (fun hc182 => ?_)
  · rw [if_pos hc182]
    have hok := hok.1 hc182
    exact wX2_add_196 C v5 v7 v9 v11 s0 hok (lv_sub hl [1, 2, 3, 5, 0] rfl)
  · rw [if_neg hc182]
    have hok := hok.2 hc182
    refine lv_lload hx hb dX2_add_185 (lv_at hl 0 rfl) ?_
    refine lv_iload hx hb dX2_add_187 (lv_at hl 4 rfl) ?_
    refine px_lshl hx hb dX2_add_189 ?_
    refine lv_lload hx hb dX2_add_190 (lv_at hl 6 rfl) ?_
    refine px_lcmp_eq (tgt := 200) hx hb dX2_add_192 dX2_add_193 (by decide) (fun hc192 => ?_) (fun hc192 => ?_)
    · rw [if_pos hc192]
      have hok := hok.1 hc192
      refine lv_iconst (v := 0) hx hb dX2_add_200 (by decide) ?_
      exact wX2_add_201 C v5 v7 v9 v11 s0 (0 : Int32) hok (lv_sub hl [1, 2, 3, 5, 0] rfl)
    · rw [if_neg hc192]
      have hok := hok.2 hc192
      exact wX2_add_196 C v5 v7 v9 v11 s0 hok (lv_sub hl [1, 2, 3, 5, 0] rfl)
set_option maxHeartbeats 4000000 in
set_option maxRecDepth 100000 in
theorem wX2_add_115 {p : Program} {l : Launch} {e : Env} {s : State} {m : MethodId} {args : Array Value} {below : List Frame} {meth : Method} {c : Code} (C : px_C p s m args meth c cX2_add 20 (some .long) RX2 wsX2_add) (v5 : Int64) (s0 : Int64) (hok : okX2_add_115 v5 s0) {ls : Array Slot} (hl : lv_has ls 20 [(5, .long v5)]) : W p l e { frames := 2, cells := 0, slots := 0, locals := 63 } s m args below meth c s.heap [] 0 0 (MQ below (px_Q (.long (fX2_add_115 v5 s0))) args s 0 0 (fun _ => False)) (F0 m 115 ls [.long s0]) := by
  obtain ⟨hx, hb, hml, hown, hts, hr, hlocks⟩ := id C
  rw [fX2_add_115]
  rw [okX2_add_115] at hok
  refine lv_lstore (lv' := [(7, .long s0), (5, .long v5)]) hx hb dX2_add_115 hl (by decide) rfl (fun ls hl => ?_)
  refine lv_lload hx hb dX2_add_117 (lv_at hl 1 rfl) ?_
  obtain ⟨hk, hok⟩ := hok
  refine px_S (As := [.long v5]) (rest := []) ⟨hx, hb, hml, hown, hts⟩ (kX2_exponent l v5 hk) (va_cwS 1 hts gX2_add_X2_exponent rfl rfl rfl (by decide +kernel) ⟨Nat.le_of_ble_eq_true rfl, Nat.le_of_ble_eq_true rfl⟩) rfl hl.1 rfl (Nat.le_of_ble_eq_true rfl) dX2_add_119 (Nat.zero_le _) (Nat.zero_le _) ?_
  refine lv_bipush (v := 8) hx hb dX2_add_122 (by decide) ?_
  refine lv_isub hx hb dX2_add_124 ?_
  refine lv_topi (fun v9_125 ev9_125 => ?_)
  rw [← ev9_125]
  rw [← ev9_125] at hok
  refine lv_istore (lv' := [(9, .int v9_125), (7, .long s0), (5, .long v5)]) hx hb dX2_add_125 hl (by decide) rfl (fun ls hl => ?_)
  rw [fX2_add_127]
  rw [okX2_add_127] at hok
  refine lv_lload hx hb dX2_add_127 (lv_at hl 2 rfl) ?_
  obtain ⟨hk, hok⟩ := hok
  refine px_S (As := [.long v5]) (rest := []) ⟨hx, hb, hml, hown, hts⟩ (kX2_exponent l v5 hk) (va_cwS 1 hts gX2_add_X2_exponent rfl rfl rfl (by decide +kernel) ⟨Nat.le_of_ble_eq_true rfl, Nat.le_of_ble_eq_true rfl⟩) rfl hl.1 rfl (Nat.le_of_ble_eq_true rfl) dX2_add_129 (Nat.zero_le _) (Nat.zero_le _) ?_
  refine lv_lload hx hb dX2_add_132 (lv_at hl 1 rfl) ?_
  obtain ⟨hk, hok⟩ := hok
  refine px_S (As := [.long s0]) (rest := [.int (fX2_exponent v5)]) ⟨hx, hb, hml, hown, hts⟩ (kX2_exponent l s0 hk) (va_cwS 1 hts gX2_add_X2_exponent rfl rfl rfl (by decide +kernel) ⟨Nat.le_of_ble_eq_true rfl, Nat.le_of_ble_eq_true rfl⟩) rfl hl.1 rfl (Nat.le_of_ble_eq_true rfl) dX2_add_134 (Nat.zero_le _) (Nat.zero_le _) ?_
  refine lv_isub hx hb dX2_add_137 ?_
  refine lv_topi (fun v10_138 ev10_138 => ?_)
  rw [← ev10_138]
  rw [← ev10_138] at hok
  refine lv_istore (lv' := [(10, .int v10_138), (9, .int v9_125), (7, .long s0), (5, .long v5)]) hx hb dX2_add_138 hl (by decide) rfl (fun ls hl => ?_)
  rw [fX2_add_140]
  rw [okX2_add_140] at hok
  refine lv_lload hx hb dX2_add_140 (lv_at hl 3 rfl) ?_
  obtain ⟨hk, hok⟩ := hok
  refine px_S (As := [.long v5]) (rest := []) ⟨hx, hb, hml, hown, hts⟩ (kX2_significand l v5 hk) (va_cwS 1 hts gX2_add_X2_significand rfl rfl rfl (by decide +kernel) ⟨Nat.le_of_ble_eq_true rfl, Nat.le_of_ble_eq_true rfl⟩) rfl hl.1 rfl (Nat.le_of_ble_eq_true rfl) dX2_add_142 (Nat.zero_le _) (Nat.zero_le _) ?_
  refine lv_bipush (v := 8) hx hb dX2_add_145 (by decide) ?_
  refine px_lshl hx hb dX2_add_147 ?_
  refine lv_topl (fun v11_148 ev11_148 => ?_)
  rw [← ev11_148]
  rw [← ev11_148] at hok
  refine lv_lstore (lv' := [(11, .long v11_148), (10, .int v10_138), (9, .int v9_125), (7, .long s0), (5, .long v5)]) hx hb dX2_add_148 hl (by decide) rfl (fun ls hl => ?_)
  rw [fX2_add_150]
  rw [okX2_add_150] at hok
  refine lv_lload hx hb dX2_add_150 (lv_at hl 3 rfl) ?_
  obtain ⟨hk, hok⟩ := hok
  refine px_S (As := [.long s0]) (rest := []) ⟨hx, hb, hml, hown, hts⟩ (kX2_significand l s0 hk) (va_cwS 1 hts gX2_add_X2_significand rfl rfl rfl (by decide +kernel) ⟨Nat.le_of_ble_eq_true rfl, Nat.le_of_ble_eq_true rfl⟩) rfl hl.1 rfl (Nat.le_of_ble_eq_true rfl) dX2_add_152 (Nat.zero_le _) (Nat.zero_le _) ?_
  refine lv_bipush (v := 8) hx hb dX2_add_155 (by decide) ?_
  refine px_lshl hx hb dX2_add_157 ?_
  refine lv_topl (fun v13_158 ev13_158 => ?_)
  rw [← ev13_158]
  rw [← ev13_158] at hok
  refine lv_lstore (lv' := [(13, .long v13_158), (11, .long v11_148), (10, .int v10_138), (9, .int v9_125), (7, .long s0), (5, .long v5)]) hx hb dX2_add_158 hl (by decide) rfl (fun ls hl => ?_)
  rw [fX2_add_160]
  rw [okX2_add_160] at hok
  refine lv_iload hx hb dX2_add_160 (lv_at hl 2 rfl) ?_
  refine lv_bipush (v := 62) hx hb dX2_add_162 (by decide) ?_
  refine px_icmp_le (tgt := 171) hx hb dX2_add_164 (by decide) (fun hc164 => ?_) (fun hc164 => ?_)
  · rw [if_pos hc164]
    have hok := hok.1 hc164
    refine lv_lconst (v := 0) hx hb dX2_add_167 (by decide) ?_
    refine lv_goto (tgt := 176) hx hb dX2_add_168 (by decide) ?_
    exact wX2_add_176 C v5 s0 v9_125 v10_138 v11_148 v13_158 (0 : Int64) hok (lv_sub hl [5, 4, 3, 2, 1, 0] rfl)
  · rw [if_neg hc164]
    have hok := hok.2 hc164
    refine lv_lload hx hb dX2_add_171 (lv_at hl 0 rfl) ?_
    refine lv_iload hx hb dX2_add_173 (lv_at hl 2 rfl) ?_
    refine px_lushr hx hb dX2_add_175 ?_
    exact wX2_add_176 C v5 s0 v9_125 v10_138 v11_148 v13_158 (jushr v13_158 v10_138) hok (lv_sub hl [5, 4, 3, 2, 1, 0] rfl)
set_option maxHeartbeats 4000000 in
set_option maxRecDepth 100000 in
theorem wX2_add_103 {p : Program} {l : Launch} {e : Env} {s : State} {m : MethodId} {args : Array Value} {below : List Frame} {meth : Method} {c : Code} (C : px_C p s m args meth c cX2_add 20 (some .long) RX2 wsX2_add) (v0 : Int64) (v2 : Int64) (v4 : Int32) (s0 : Int64) (hok : okX2_add_103 v0 v2 v4 s0) {ls : Array Slot} (hl : lv_has ls 20 [(0, .long v0), (2, .long v2), (4, .int v4)]) : W p l e { frames := 2, cells := 0, slots := 0, locals := 63 } s m args below meth c s.heap [] 0 0 (MQ below (px_Q (.long (fX2_add_103 v0 v2 v4 s0))) args s 0 0 (fun _ => False)) (F0 m 103 ls [.long s0]) := by
  obtain ⟨hx, hb, hml, hown, hts, hr, hlocks⟩ := id C
  rw [fX2_add_103]
  rw [okX2_add_103] at hok
  refine lv_lstore (lv' := [(5, .long s0), (0, .long v0), (2, .long v2), (4, .int v4)]) hx hb dX2_add_103 hl (by decide) rfl (fun ls hl => ?_)
  refine lv_iload hx hb dX2_add_105 (lv_at hl 3 rfl) ?_
  refine px_if_eq (tgt := 114) hx hb dX2_add_107 (by decide) (fun hc107 => ?_) (fun hc107 => ?_)
  · rw [if_pos hc107]
    have hok := hok.1 hc107
    refine lv_lload_n hx hb dX2_add_114 rfl (lv_at hl 1 rfl) ?_
    exact wX2_add_115 C s0 v0 hok (lv_sub hl [0] rfl)
  · rw [if_neg hc107]
    have hok := hok.2 hc107
    refine lv_lload_n hx hb dX2_add_110 rfl (lv_at hl 2 rfl) ?_
    refine lv_goto (tgt := 115) hx hb dX2_add_111 (by decide) ?_
    exact wX2_add_115 C s0 v2 hok (lv_sub hl [0] rfl)
set_option maxHeartbeats 4000000 in
set_option maxRecDepth 100000 in
theorem wX2_add_91 {p : Program} {l : Launch} {e : Env} {s : State} {m : MethodId} {args : Array Value} {below : List Frame} {meth : Method} {c : Code} (C : px_C p s m args meth c cX2_add 20 (some .long) RX2 wsX2_add) (v0 : Int64) (v2 : Int64) (s0 : Int32) (hok : okX2_add_91 v0 v2 s0) {ls : Array Slot} (hl : lv_has ls 20 [(0, .long v0), (2, .long v2)]) : W p l e { frames := 2, cells := 0, slots := 0, locals := 63 } s m args below meth c s.heap [] 0 0 (MQ below (px_Q (.long (fX2_add_91 v0 v2 s0))) args s 0 0 (fun _ => False)) (F0 m 91 ls [.int s0]) := by
  obtain ⟨hx, hb, hml, hown, hts, hr, hlocks⟩ := id C
  rw [fX2_add_91]
  rw [okX2_add_91] at hok
  refine lv_istore (lv' := [(4, .int s0), (0, .long v0), (2, .long v2)]) hx hb dX2_add_91 hl (by decide) rfl (fun ls hl => ?_)
  refine lv_iload hx hb dX2_add_93 (lv_at hl 0 rfl) ?_
  refine px_if_eq (tgt := 102) hx hb dX2_add_95 (by decide) (fun hc95 => ?_) (fun hc95 => ?_)
  · rw [if_pos hc95]
    have hok := hok.1 hc95
    refine lv_lload_n hx hb dX2_add_102 rfl (lv_at hl 2 rfl) ?_
    exact wX2_add_103 C v0 v2 s0 v2 hok (lv_sub hl [1, 2, 0] rfl)
  · rw [if_neg hc95]
    have hok := hok.2 hc95
    refine lv_lload_n hx hb dX2_add_98 rfl (lv_at hl 1 rfl) ?_
    refine lv_goto (tgt := 103) hx hb dX2_add_99 (by decide) ?_
    exact wX2_add_103 C v0 v2 s0 v0 hok (lv_sub hl [1, 2, 0] rfl)
set_option maxHeartbeats 4000000 in
set_option maxRecDepth 100000 in
theorem wX2_add_86 {p : Program} {l : Launch} {e : Env} {s : State} {m : MethodId} {args : Array Value} {below : List Frame} {meth : Method} {c : Code} (C : px_C p s m args meth c cX2_add 20 (some .long) RX2 wsX2_add) (v0 : Int64) (v2 : Int64) (hok : okX2_add_86 v0 v2) {ls : Array Slot} (hl : lv_has ls 20 [(0, .long v0), (2, .long v2)]) : W p l e { frames := 2, cells := 0, slots := 0, locals := 63 } s m args below meth c s.heap [] 0 0 (MQ below (px_Q (.long (fX2_add_86 v0 v2))) args s 0 0 (fun _ => False)) (F0 m 86 ls []) := by
  obtain ⟨hx, hb, hml, hown, hts, hr, hlocks⟩ := id C
  rw [fX2_add_86]
  rw [okX2_add_86] at hok
  refine lv_iconst (v := 1) hx hb dX2_add_86 (by decide) ?_
  refine lv_goto (tgt := 91) hx hb dX2_add_87 (by decide) ?_
  exact wX2_add_91 C v0 v2 (1 : Int32) hok (lv_sub hl [0, 1] rfl)
set_option maxHeartbeats 4000000 in
set_option maxRecDepth 100000 in
theorem wX2_add_90 {p : Program} {l : Launch} {e : Env} {s : State} {m : MethodId} {args : Array Value} {below : List Frame} {meth : Method} {c : Code} (C : px_C p s m args meth c cX2_add 20 (some .long) RX2 wsX2_add) (v0 : Int64) (v2 : Int64) (hok : okX2_add_90 v0 v2) {ls : Array Slot} (hl : lv_has ls 20 [(0, .long v0), (2, .long v2)]) : W p l e { frames := 2, cells := 0, slots := 0, locals := 63 } s m args below meth c s.heap [] 0 0 (MQ below (px_Q (.long (fX2_add_90 v0 v2))) args s 0 0 (fun _ => False)) (F0 m 90 ls []) := by
  obtain ⟨hx, hb, hml, hown, hts, hr, hlocks⟩ := id C
  rw [fX2_add_90]
  rw [okX2_add_90] at hok
  refine lv_iconst (v := 0) hx hb dX2_add_90 (by decide) ?_
  exact wX2_add_91 C v0 v2 (0 : Int32) hok (lv_sub hl [0, 1] rfl)
set_option maxHeartbeats 4000000 in
set_option maxRecDepth 100000 in
theorem wX2_add_0 {p : Program} {l : Launch} {e : Env} {s : State} {m : MethodId} {args : Array Value} {below : List Frame} {meth : Method} {c : Code} (C : px_C p s m args meth c cX2_add 20 (some .long) RX2 wsX2_add) (v0 : Int64) (v2 : Int64) (hok : okX2_add_0 v0 v2) {ls : Array Slot} (hl : lv_has ls 20 [(0, .long v0), (2, .long v2)]) : W p l e { frames := 2, cells := 0, slots := 0, locals := 63 } s m args below meth c s.heap [] 0 0 (MQ below (px_Q (.long (fX2_add_0 v0 v2))) args s 0 0 (fun _ => False)) (F0 m 0 ls []) := by
  obtain ⟨hx, hb, hml, hown, hts, hr, hlocks⟩ := id C
  rw [fX2_add_0]
  rw [okX2_add_0] at hok
  refine lv_lload_n hx hb dX2_add_0 rfl (lv_at hl 0 rfl) ?_
  refine px_S (As := [.long v0]) (rest := []) ⟨hx, hb, hml, hown, hts⟩ (kX2_isInfinite l v0) (va_cwS 1 hts gX2_add_X2_isInfinite rfl rfl rfl (by decide +kernel) ⟨Nat.le_of_ble_eq_true rfl, Nat.le_of_ble_eq_true rfl⟩) rfl hl.1 rfl (Nat.le_of_ble_eq_true rfl) dX2_add_1 (Nat.zero_le _) (Nat.zero_le _) ?_
  refine px_if_ne (tgt := 14) hx hb dX2_add_4 (by decide) (fun hc4 => ?_) (fun hc4 => ?_)
  · rw [if_pos hc4]
    have hok := hok.1 hc4
    refine lv_lload_n hx hb dX2_add_7 rfl (lv_at hl 1 rfl) ?_
    refine px_S (As := [.long v2]) (rest := []) ⟨hx, hb, hml, hown, hts⟩ (kX2_isZero l v2) (va_cwS 1 hts gX2_add_X2_isZero rfl rfl rfl (by decide +kernel) ⟨Nat.le_of_ble_eq_true rfl, Nat.le_of_ble_eq_true rfl⟩) rfl hl.1 rfl (Nat.le_of_ble_eq_true rfl) dX2_add_8 (Nat.zero_le _) (Nat.zero_le _) ?_
    refine px_if_eq (tgt := 36) hx hb dX2_add_11 (by decide) (fun hc11 => ?_) (fun hc11 => ?_)
    · rw [if_pos hc11]
      have hok := hok.1 hc11
      refine lv_lload_n hx hb dX2_add_36 rfl (lv_at hl 1 rfl) ?_
      refine px_S (As := [.long v2]) (rest := []) ⟨hx, hb, hml, hown, hts⟩ (kX2_isInfinite l v2) (va_cwS 1 hts gX2_add_X2_isInfinite rfl rfl rfl (by decide +kernel) ⟨Nat.le_of_ble_eq_true rfl, Nat.le_of_ble_eq_true rfl⟩) rfl hl.1 rfl (Nat.le_of_ble_eq_true rfl) dX2_add_37 (Nat.zero_le _) (Nat.zero_le _) ?_
      refine px_if_ne (tgt := 50) hx hb dX2_add_40 (by decide) (fun hc40 => ?_) (fun hc40 => ?_)
      · rw [if_pos hc40]
        have hok := hok.1 hc40
        refine lv_lload_n hx hb dX2_add_43 rfl (lv_at hl 0 rfl) ?_
        refine px_S (As := [.long v0]) (rest := []) ⟨hx, hb, hml, hown, hts⟩ (kX2_isZero l v0) (va_cwS 1 hts gX2_add_X2_isZero rfl rfl rfl (by decide +kernel) ⟨Nat.le_of_ble_eq_true rfl, Nat.le_of_ble_eq_true rfl⟩) rfl hl.1 rfl (Nat.le_of_ble_eq_true rfl) dX2_add_44 (Nat.zero_le _) (Nat.zero_le _) ?_
        refine px_if_eq (tgt := 52) hx hb dX2_add_47 (by decide) (fun hc47 => ?_) (fun hc47 => ?_)
        · rw [if_pos hc47]
          have hok := hok.1 hc47
          refine lv_lload_n hx hb dX2_add_52 rfl (lv_at hl 0 rfl) ?_
          obtain ⟨hk, hok⟩ := hok
          refine px_S (As := [.long v0]) (rest := []) ⟨hx, hb, hml, hown, hts⟩ (kX2_exponent l v0 hk) (va_cwS 1 hts gX2_add_X2_exponent rfl rfl rfl (by decide +kernel) ⟨Nat.le_of_ble_eq_true rfl, Nat.le_of_ble_eq_true rfl⟩) rfl hl.1 rfl (Nat.le_of_ble_eq_true rfl) dX2_add_53 (Nat.zero_le _) (Nat.zero_le _) ?_
          refine lv_lload_n hx hb dX2_add_56 rfl (lv_at hl 1 rfl) ?_
          obtain ⟨hk, hok⟩ := hok
          refine px_S (As := [.long v2]) (rest := [.int (fX2_exponent v0)]) ⟨hx, hb, hml, hown, hts⟩ (kX2_exponent l v2 hk) (va_cwS 1 hts gX2_add_X2_exponent rfl rfl rfl (by decide +kernel) ⟨Nat.le_of_ble_eq_true rfl, Nat.le_of_ble_eq_true rfl⟩) rfl hl.1 rfl (Nat.le_of_ble_eq_true rfl) dX2_add_57 (Nat.zero_le _) (Nat.zero_le _) ?_
          refine px_icmp_gt (tgt := 86) hx hb dX2_add_60 (by decide) (fun hc60 => ?_) (fun hc60 => ?_)
          · rw [if_pos hc60]
            have hok := hok.1 hc60
            exact wX2_add_86 C v0 v2 hok (lv_sub hl [0, 1] rfl)
          · rw [if_neg hc60]
            have hok := hok.2 hc60
            refine lv_lload_n hx hb dX2_add_63 rfl (lv_at hl 0 rfl) ?_
            obtain ⟨hk, hok⟩ := hok
            refine px_S (As := [.long v0]) (rest := []) ⟨hx, hb, hml, hown, hts⟩ (kX2_exponent l v0 hk) (va_cwS 1 hts gX2_add_X2_exponent rfl rfl rfl (by decide +kernel) ⟨Nat.le_of_ble_eq_true rfl, Nat.le_of_ble_eq_true rfl⟩) rfl hl.1 rfl (Nat.le_of_ble_eq_true rfl) dX2_add_64 (Nat.zero_le _) (Nat.zero_le _) ?_
            refine lv_lload_n hx hb dX2_add_67 rfl (lv_at hl 1 rfl) ?_
            obtain ⟨hk, hok⟩ := hok
            refine px_S (As := [.long v2]) (rest := [.int (fX2_exponent v0)]) ⟨hx, hb, hml, hown, hts⟩ (kX2_exponent l v2 hk) (va_cwS 1 hts gX2_add_X2_exponent rfl rfl rfl (by decide +kernel) ⟨Nat.le_of_ble_eq_true rfl, Nat.le_of_ble_eq_true rfl⟩) rfl hl.1 rfl (Nat.le_of_ble_eq_true rfl) dX2_add_68 (Nat.zero_le _) (Nat.zero_le _) ?_
            refine px_icmp_ne (tgt := 90) hx hb dX2_add_71 (by decide) (fun hc71 => ?_) (fun hc71 => ?_)
            · rw [if_pos hc71]
              have hok := hok.1 hc71
              refine lv_lload_n hx hb dX2_add_74 rfl (lv_at hl 0 rfl) ?_
              obtain ⟨hk, hok⟩ := hok
              refine px_S (As := [.long v0]) (rest := []) ⟨hx, hb, hml, hown, hts⟩ (kX2_significand l v0 hk) (va_cwS 1 hts gX2_add_X2_significand rfl rfl rfl (by decide +kernel) ⟨Nat.le_of_ble_eq_true rfl, Nat.le_of_ble_eq_true rfl⟩) rfl hl.1 rfl (Nat.le_of_ble_eq_true rfl) dX2_add_75 (Nat.zero_le _) (Nat.zero_le _) ?_
              refine lv_lload_n hx hb dX2_add_78 rfl (lv_at hl 1 rfl) ?_
              obtain ⟨hk, hok⟩ := hok
              refine px_S (As := [.long v2]) (rest := [.long (fX2_significand v0)]) ⟨hx, hb, hml, hown, hts⟩ (kX2_significand l v2 hk) (va_cwS 1 hts gX2_add_X2_significand rfl rfl rfl (by decide +kernel) ⟨Nat.le_of_ble_eq_true rfl, Nat.le_of_ble_eq_true rfl⟩) rfl hl.1 rfl (Nat.le_of_ble_eq_true rfl) dX2_add_79 (Nat.zero_le _) (Nat.zero_le _) ?_
              refine px_lcmp_lt (tgt := 90) hx hb dX2_add_82 dX2_add_83 (by decide) (fun hc82 => ?_) (fun hc82 => ?_)
              · rw [if_pos hc82]
                have hok := hok.1 hc82
                exact wX2_add_90 C v0 v2 hok (lv_sub hl [0, 1] rfl)
              · rw [if_neg hc82]
                have hok := hok.2 hc82
                exact wX2_add_86 C v0 v2 hok (lv_sub hl [0, 1] rfl)
            · rw [if_neg hc71]
              have hok := hok.2 hc71
              exact wX2_add_90 C v0 v2 hok (lv_sub hl [0, 1] rfl)
        · rw [if_neg hc47]
          have hok := hok.2 hc47
          refine lv_lload_n hx hb dX2_add_50 rfl (lv_at hl 1 rfl) ?_
          exact W.lret hx hb hr (fun t ht _ => ⟨rfl, ht⟩) (fun q h => by cases h) dX2_add_51
      · rw [if_neg hc40]
        have hok := hok.2 hc40
        refine lv_lload_n hx hb dX2_add_50 rfl (lv_at hl 1 rfl) ?_
        exact W.lret hx hb hr (fun t ht _ => ⟨rfl, ht⟩) (fun q h => by cases h) dX2_add_51
    · rw [if_neg hc11]
      have hok := hok.2 hc11
      exact wX2_add_14 C v0 v2 (lv_sub hl [0, 1] rfl)
  · rw [if_neg hc4]
    have hok := hok.2 hc4
    exact wX2_add_14 C v0 v2 (lv_sub hl [0, 1] rfl)
set_option maxHeartbeats 4000000 in
set_option maxRecDepth 100000 in
theorem kX2_add (l : Launch) (v0 : Int64) (v2 : Int64) (hok : okX2_add v0 v2) : px_M l yX2_add wsX2_add ({ frames := 2, cells := 0, slots := 0, locals := 63 }) [.long v0, .long v2] (.long (fX2_add v0 v2)) := by
  refine Met.ofW (cc := cX2_add) (maxL := 20) (ret := (some .long)) (by decide) rfl ?_
  intro p e s m args below meth c s₁ B hml hv
  cases hv
  have C : px_C p s m _ meth c cX2_add 20 (some .long) RX2 wsX2_add := ⟨B.exec, B.bytes, hml, findClass_of_methodNamed B.named, atoms_spec (ws := wsX2_add) B.pre, B.returns, B.notSynchronized⟩
  have hl := lv_entry ([.long v0, .long v2]) (n := 20) (Nat.le_of_ble_eq_true rfl)
  rw [lg_entry_eq]
  generalize (lg_sl ([.long v0, .long v2]) ++ List.replicate (20 - (lg_sl ([.long v0, .long v2])).length) Slot.unset).toArray = ls at hl ⊢
  have hl : lv_has ls 20 [(0, .long v0), (2, .long v2)] := hl
  rw [fX2_add]
  rw [okX2_add] at hok
  exact wX2_add_0 C v0 v2 hok (lv_sub hl [0, 1] rfl)
