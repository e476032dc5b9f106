set_option maxHeartbeats 4000000 in
set_option maxRecDepth 100000 in
theorem wX1_narrowed_0 {p : Program} {l : Launch} {e : Env} {s : State} {m : MethodId} {args : Array Value} {below : List Frame} {meth : Method} {c : Code} (C : px_C p s m args meth c cX1_narrowed 3 (some .long) RX1 wsX1_narrowed) (v0 : Int32) (v1 : Int64) {ls : Array Slot} (hl : lv_has ls 3 [(0, .int v0), (1, .long v1)]) : W p l e { frames := 0, cells := 0, slots := 0, locals := 0 } s m args below meth c s.heap [] 0 0 (MQ below (px_Q (.long (fX1_narrowed_0 v0 v1))) args s 0 0 (fun _ => False)) (F0 m 0 ls []) := by
  obtain ⟨hx, hb, hml, hown, hts, hr, hlocks⟩ := id C
  rw [fX1_narrowed_0]
  refine lv_iload_n hx hb dX1_narrowed_0 rfl (lv_at hl 0 rfl) ?_
  by_cases hs1_0 : v0 = (1 : Int32)
  · rw [if_pos hs1_0]
    refine lv_tableIn (tgt := 32) (off := 31) hx hb dX1_narrowed_1 (by rw [hs1_0]; decide) (by rw [hs1_0]; decide) (by rw [hs1_0]; decide +kernel) (by decide) ?_
    refine lv_lload_n hx hb dX1_narrowed_32 rfl (lv_at hl 1 rfl) ?_
    refine px_l2i hx hb dX1_narrowed_33 ?_
    refine px_i2b hx hb dX1_narrowed_34 ?_
    refine px_i2l hx hb dX1_narrowed_35 ?_
    exact W.lret hx hb hr (fun t ht _ => ⟨rfl, ht⟩) (fun q h => by cases h) dX1_narrowed_36
  · rw [if_neg hs1_0]
    by_cases hs1_1 : v0 = (2 : Int32)
    · rw [if_pos hs1_1]
      refine lv_tableIn (tgt := 37) (off := 36) hx hb dX1_narrowed_1 (by rw [hs1_1]; decide) (by rw [hs1_1]; decide) (by rw [hs1_1]; decide +kernel) (by decide) ?_
      refine lv_lload_n hx hb dX1_narrowed_37 rfl (lv_at hl 1 rfl) ?_
      refine px_l2i hx hb dX1_narrowed_38 ?_
      refine px_i2s hx hb dX1_narrowed_39 ?_
      refine px_i2l hx hb dX1_narrowed_40 ?_
      exact W.lret hx hb hr (fun t ht _ => ⟨rfl, ht⟩) (fun q h => by cases h) dX1_narrowed_41
    · rw [if_neg hs1_1]
      by_cases hs1_2 : v0 = (3 : Int32)
      · rw [if_pos hs1_2]
        refine lv_tableIn (tgt := 42) (off := 41) hx hb dX1_narrowed_1 (by rw [hs1_2]; decide) (by rw [hs1_2]; decide) (by rw [hs1_2]; decide +kernel) (by decide) ?_
        refine lv_lload_n hx hb dX1_narrowed_42 rfl (lv_at hl 1 rfl) ?_
        refine px_l2i hx hb dX1_narrowed_43 ?_
        refine px_i2c hx hb dX1_narrowed_44 ?_
        refine px_i2l hx hb dX1_narrowed_45 ?_
        exact W.lret hx hb hr (fun t ht _ => ⟨rfl, ht⟩) (fun q h => by cases h) dX1_narrowed_46
      · rw [if_neg hs1_2]
        by_cases hs1_3 : v0 = (4 : Int32)
        · rw [if_pos hs1_3]
          refine lv_tableIn (tgt := 47) (off := 46) hx hb dX1_narrowed_1 (by rw [hs1_3]; decide) (by rw [hs1_3]; decide) (by rw [hs1_3]; decide +kernel) (by decide) ?_
          refine lv_lload_n hx hb dX1_narrowed_47 rfl (lv_at hl 1 rfl) ?_
          refine px_l2i hx hb dX1_narrowed_48 ?_
          refine px_i2l hx hb dX1_narrowed_49 ?_
          exact W.lret hx hb hr (fun t ht _ => ⟨rfl, ht⟩) (fun q h => by cases h) dX1_narrowed_50
        · rw [if_neg hs1_3]
          refine lv_tableOut (tgt := 51) hx hb dX1_narrowed_1 (by have q0 := lv_neT (a := 1) hs1_0 (by decide); have q1 := lv_neT (a := 2) hs1_1 (by decide); have q2 := lv_neT (a := 3) hs1_2 (by decide); have q3 := lv_neT (a := 4) hs1_3 (by decide); omega) (by decide) ?_
          refine lv_lload_n hx hb dX1_narrowed_51 rfl (lv_at hl 1 rfl) ?_
          exact W.lret hx hb hr (fun t ht _ => ⟨rfl, ht⟩) (fun q h => by cases h) dX1_narrowed_52
set_option maxHeartbeats 4000000 in
set_option maxRecDepth 100000 in
theorem kX1_narrowed (l : Launch) (v0 : Int32) (v1 : Int64) : px_M l yX1_narrowed wsX1_narrowed ({ frames := 0, cells := 0, slots := 0, locals := 0 }) [.int v0, .long v1] (.long (fX1_narrowed v0 v1)) := by
  refine Met.ofW (cc := cX1_narrowed) (maxL := 3) (ret := (some .long)) (by decide) rfl ?_
  intro p e s m args below meth c s₁ B hml hv
  cases hv
  have C : px_C p s m _ meth c cX1_narrowed 3 (some .long) RX1 wsX1_narrowed := ⟨B.exec, B.bytes, hml, findClass_of_methodNamed B.named, atoms_spec (ws := wsX1_narrowed) B.pre, B.returns, B.notSynchronized⟩
  have hl := lv_entry ([.int v0, .long v1]) (n := 3) (Nat.le_of_ble_eq_true rfl)
  rw [lg_entry_eq]
  generalize (lg_sl ([.int v0, .long v1]) ++ List.replicate (3 - (lg_sl ([.int v0, .long v1])).length) Slot.unset).toArray = ls at hl ⊢
  have hl : lv_has ls 3 [(0, .int v0), (1, .long v1)] := hl
  rw [fX1_narrowed]
  exact wX1_narrowed_0 C v0 v1 (lv_sub hl [0, 1] rfl)
set_option maxHeartbeats 4000000 in
set_option maxRecDepth 100000 in
theorem wX1_isValue_66 {p : Program} {l : Launch} {e : Env} {s : State} {m : MethodId} {args : Array Value} {below : List Frame} {meth : Method} {c : Code} (C : px_C p s m args meth c cX1_isValue 3 (some .boolean) RX1 wsX1_isValue) (v0 : Int32) (v1 : Int64) {ls : Array Slot} (hl : lv_has ls 3 [(0, .int v0), (1, .long v1)]) : W p l e { frames := 3, cells := 0, slots := 0, locals := 66 } s m args below meth c s.heap [] 0 0 (MQ below (px_Q (.int (fX1_isValue_66 v0 v1))) args s 0 0 (fun _ => False)) (F0 m 66 ls []) := by
  obtain ⟨hx, hb, hml, hown, hts, hr, hlocks⟩ := id C
  rw [fX1_isValue_66]
  refine lv_iload_n hx hb dX1_isValue_66 rfl (lv_at hl 0 rfl) ?_
  refine lv_lload_n hx hb dX1_isValue_67 rfl (lv_at hl 1 rfl) ?_
  refine px_S (As := [.int v0, .long v1]) (rest := []) ⟨hx, hb, hml, hown, hts⟩ (kX1_narrowed l v0 v1) (va_cwS 2 hts gX1_isValue_X1_narrowed rfl rfl rfl (by decide +kernel) ⟨Nat.le_of_ble_eq_true rfl, Nat.le_of_ble_eq_true rfl⟩) rfl hl.1 rfl (Nat.le_of_ble_eq_true rfl) dX1_isValue_68 (Nat.zero_le _) (Nat.zero_le _) ?_
  refine lv_lload_n hx hb dX1_isValue_71 rfl (lv_at hl 1 rfl) ?_
  refine px_lcmp_ne (tgt := 80) hx hb dX1_isValue_72 dX1_isValue_73 (by decide) (fun hc72 => ?_) (fun hc72 => ?_)
  · rw [if_pos hc72]
    refine lv_iconst (v := 1) hx hb dX1_isValue_76 (by decide) ?_
    refine lv_goto (tgt := 81) hx hb dX1_isValue_77 (by decide) ?_
    exact W.zret hx hb hr (by decide) (fun t ht _ => ⟨rfl, ht⟩) (fun q h => by cases h) dX1_isValue_81
  · rw [if_neg hc72]
    refine lv_iconst (v := 0) hx hb dX1_isValue_80 (by decide) ?_
    exact W.zret hx hb hr (by decide) (fun t ht _ => ⟨rfl, ht⟩) (fun q h => by cases h) dX1_isValue_81
set_option maxHeartbeats 4000000 in
set_option maxRecDepth 100000 in
theorem wX1_isValue_82 {p : Program} {l : Launch} {e : Env} {s : State} {m : MethodId} {args : Array Value} {below : List Frame} {meth : Method} {c : Code} (C : px_C p s m args meth c cX1_isValue 3 (some .boolean) RX1 wsX1_isValue) (v0 : Int32) (v1 : Int64) {ls : Array Slot} (hl : lv_has ls 3 [(0, .int v0), (1, .long v1)]) : W p l e { frames := 3, cells := 0, slots := 0, locals := 66 } s m args below meth c s.heap [] 0 0 (MQ below (px_Q (.int (fX1_isValue_82 v0 v1))) args s 0 0 (fun _ => False)) (F0 m 82 ls []) := by
  obtain ⟨hx, hb, hml, hown, hts, hr, hlocks⟩ := id C
  rw [fX1_isValue_82]
  refine lv_iload_n hx hb dX1_isValue_82 rfl (lv_at hl 0 rfl) ?_
  refine lv_lload_n hx hb dX1_isValue_83 rfl (lv_at hl 1 rfl) ?_
  refine px_S (As := [.int v0, .long v1]) (rest := []) ⟨hx, hb, hml, hown, hts⟩ (kX0_isNumber l v0 v1) (va_cwS 2 hts gX1_isValue_X0_isNumber rfl rfl rfl (by decide +kernel) ⟨Nat.le_of_ble_eq_true rfl, Nat.le_of_ble_eq_true rfl⟩) rfl hl.1 rfl (Nat.le_of_ble_eq_true rfl) dX1_isValue_84 (Nat.zero_le _) (Nat.zero_le _) ?_
  exact W.zret hx hb hr (px_z (zX0_isNumber _ _)) (fun t ht _ => ⟨rfl, ht⟩) (fun q h => by cases h) dX1_isValue_87
set_option maxHeartbeats 4000000 in
set_option maxRecDepth 100000 in
theorem wX1_isValue_0 {p : Program} {l : Launch} {e : Env} {s : State} {m : MethodId} {args : Array Value} {below : List Frame} {meth : Method} {c : Code} (C : px_C p s m args meth c cX1_isValue 3 (some .boolean) RX1 wsX1_isValue) (v0 : Int32) (v1 : Int64) {ls : Array Slot} (hl : lv_has ls 3 [(0, .int v0), (1, .long v1)]) : W p l e { frames := 3, cells := 0, slots := 0, locals := 66 } s m args below meth c s.heap [] 0 0 (MQ below (px_Q (.int (fX1_isValue_0 v0 v1))) args s 0 0 (fun _ => False)) (F0 m 0 ls []) := by
  obtain ⟨hx, hb, hml, hown, hts, hr, hlocks⟩ := id C
  rw [fX1_isValue_0]
  refine lv_iload_n hx hb dX1_isValue_0 rfl (lv_at hl 0 rfl) ?_
  by_cases hs1_0 : v0 = (0 : Int32)
  · rw [if_pos hs1_0]
    refine lv_tableIn (tgt := 48) (off := 47) hx hb dX1_isValue_1 (by rw [hs1_0]; decide) (by rw [hs1_0]; decide) (by rw [hs1_0]; decide +kernel) (by decide) ?_
    refine lv_lload_n hx hb dX1_isValue_48 rfl (lv_at hl 1 rfl) ?_
    refine lv_lconst (v := 0) hx hb dX1_isValue_49 (by decide) ?_
    refine px_lcmp_eq (tgt := 60) hx hb dX1_isValue_50 dX1_isValue_51 (by decide) (fun hc50 => ?_) (fun hc50 => ?_)
    · rw [if_pos hc50]
      refine lv_iconst (v := 1) hx hb dX1_isValue_60 (by decide) ?_
      refine lv_goto (tgt := 65) hx hb dX1_isValue_61 (by decide) ?_
      exact W.zret hx hb hr (by decide) (fun t ht _ => ⟨rfl, ht⟩) (fun q h => by cases h) dX1_isValue_65
    · rw [if_neg hc50]
      refine lv_lload_n hx hb dX1_isValue_54 rfl (lv_at hl 1 rfl) ?_
      refine lv_lconst (v := 1) hx hb dX1_isValue_55 (by decide) ?_
      refine px_lcmp_ne (tgt := 64) hx hb dX1_isValue_56 dX1_isValue_57 (by decide) (fun hc56 => ?_) (fun hc56 => ?_)
      · rw [if_pos hc56]
        refine lv_iconst (v := 1) hx hb dX1_isValue_60 (by decide) ?_
        refine lv_goto (tgt := 65) hx hb dX1_isValue_61 (by decide) ?_
        exact W.zret hx hb hr (by decide) (fun t ht _ => ⟨rfl, ht⟩) (fun q h => by cases h) dX1_isValue_65
      · rw [if_neg hc56]
        refine lv_iconst (v := 0) hx hb dX1_isValue_64 (by decide) ?_
        exact W.zret hx hb hr (by decide) (fun t ht _ => ⟨rfl, ht⟩) (fun q h => by cases h) dX1_isValue_65
  · rw [if_neg hs1_0]
    by_cases hs1_1 : v0 = (1 : Int32)
    · rw [if_pos hs1_1]
      refine lv_tableIn (tgt := 66) (off := 65) hx hb dX1_isValue_1 (by rw [hs1_1]; decide) (by rw [hs1_1]; decide) (by rw [hs1_1]; decide +kernel) (by decide) ?_
      exact wX1_isValue_66 C v0 v1 (lv_sub hl [0, 1] rfl)
    · rw [if_neg hs1_1]
      by_cases hs1_2 : v0 = (2 : Int32)
      · rw [if_pos hs1_2]
        refine lv_tableIn (tgt := 66) (off := 65) hx hb dX1_isValue_1 (by rw [hs1_2]; decide) (by rw [hs1_2]; decide) (by rw [hs1_2]; decide +kernel) (by decide) ?_
        exact wX1_isValue_66 C v0 v1 (lv_sub hl [0, 1] rfl)
      · rw [if_neg hs1_2]
        by_cases hs1_3 : v0 = (3 : Int32)
        · rw [if_pos hs1_3]
          refine lv_tableIn (tgt := 66) (off := 65) hx hb dX1_isValue_1 (by rw [hs1_3]; decide) (by rw [hs1_3]; decide) (by rw [hs1_3]; decide +kernel) (by decide) ?_
          exact wX1_isValue_66 C v0 v1 (lv_sub hl [0, 1] rfl)
        · rw [if_neg hs1_3]
          by_cases hs1_4 : v0 = (4 : Int32)
          · rw [if_pos hs1_4]
            refine lv_tableIn (tgt := 66) (off := 65) hx hb dX1_isValue_1 (by rw [hs1_4]; decide) (by rw [hs1_4]; decide) (by rw [hs1_4]; decide +kernel) (by decide) ?_
            exact wX1_isValue_66 C v0 v1 (lv_sub hl [0, 1] rfl)
          · rw [if_neg hs1_4]
            by_cases hs1_5 : v0 = (5 : Int32)
            · rw [if_pos hs1_5]
              refine lv_tableIn (tgt := 66) (off := 65) hx hb dX1_isValue_1 (by rw [hs1_5]; decide) (by rw [hs1_5]; decide) (by rw [hs1_5]; decide +kernel) (by decide) ?_
              exact wX1_isValue_66 C v0 v1 (lv_sub hl [0, 1] rfl)
            · rw [if_neg hs1_5]
              by_cases hs1_6 : v0 = (6 : Int32)
              · rw [if_pos hs1_6]
                refine lv_tableIn (tgt := 82) (off := 81) hx hb dX1_isValue_1 (by rw [hs1_6]; decide) (by rw [hs1_6]; decide) (by rw [hs1_6]; decide +kernel) (by decide) ?_
                exact wX1_isValue_82 C v0 v1 (lv_sub hl [0, 1] rfl)
              · rw [if_neg hs1_6]
                by_cases hs1_7 : v0 = (7 : Int32)
                · rw [if_pos hs1_7]
                  refine lv_tableIn (tgt := 82) (off := 81) hx hb dX1_isValue_1 (by rw [hs1_7]; decide) (by rw [hs1_7]; decide) (by rw [hs1_7]; decide +kernel) (by decide) ?_
                  exact wX1_isValue_82 C v0 v1 (lv_sub hl [0, 1] rfl)
                · rw [if_neg hs1_7]
                  refine lv_tableOut (tgt := 88) hx hb dX1_isValue_1 (by have q0 := lv_neT (a := 0) hs1_0 (by decide); have q1 := lv_neT (a := 1) hs1_1 (by decide); have q2 := lv_neT (a := 2) hs1_2 (by decide); have q3 := lv_neT (a := 3) hs1_3 (by decide); have q4 := lv_neT (a := 4) hs1_4 (by decide); have q5 := lv_neT (a := 5) hs1_5 (by decide); have q6 := lv_neT (a := 6) hs1_6 (by decide); have q7 := lv_neT (a := 7) hs1_7 (by decide); omega) (by decide) ?_
                  refine lv_iconst (v := 0) hx hb dX1_isValue_88 (by decide) ?_
                  exact W.zret hx hb hr (by decide) (fun t ht _ => ⟨rfl, ht⟩) (fun q h => by cases h) dX1_isValue_89
theorem zX1_isValue_66 (v0 : Int32) (v1 : Int64) : fX1_isValue_66 v0 v1 = 0 ∨ fX1_isValue_66 v0 v1 = 1 := by
  unfold fX1_isValue_66
  (repeat' split) <;> first | exact Or.inl rfl | exact Or.inr rfl
theorem zX1_isValue_82 (v0 : Int32) (v1 : Int64) : fX1_isValue_82 v0 v1 = 0 ∨ fX1_isValue_82 v0 v1 = 1 := by
  unfold fX1_isValue_82
  (repeat' split) <;> first | exact Or.inl rfl | exact Or.inr rfl | exact zX0_isNumber _ _
theorem zX1_isValue_0 (v0 : Int32) (v1 : Int64) : fX1_isValue_0 v0 v1 = 0 ∨ fX1_isValue_0 v0 v1 = 1 := by
  unfold fX1_isValue_0
  (repeat' split) <;> first | exact Or.inl rfl | exact Or.inr rfl | exact zX1_isValue_66 _ _ | exact zX1_isValue_82 _ _
theorem zX1_isValue (v0 : Int32) (v1 : Int64) : fX1_isValue v0 v1 = 0 ∨ fX1_isValue v0 v1 = 1 := zX1_isValue_0 _ _
set_option maxHeartbeats 4000000 in
set_option maxRecDepth 100000 in
theorem kX1_isValue (l : Launch) (v0 : Int32) (v1 : Int64) : px_M l yX1_isValue wsX1_isValue ({ frames := 3, cells := 0, slots := 0, locals := 66 }) [.int v0, .long v1] (.int (fX1_isValue v0 v1)) := by
  refine Met.ofW (cc := cX1_isValue) (maxL := 3) (ret := (some .boolean)) (by decide) rfl ?_
  intro p e s m args below meth c s₁ B hml hv
  cases hv
  have C : px_C p s m _ meth c cX1_isValue 3 (some .boolean) RX1 wsX1_isValue := ⟨B.exec, B.bytes, hml, findClass_of_methodNamed B.named, atoms_spec (ws := wsX1_isValue) B.pre, B.returns, B.notSynchronized⟩
  have hl := lv_entry ([.int v0, .long v1]) (n := 3) (Nat.le_of_ble_eq_true rfl)
  rw [lg_entry_eq]
  generalize (lg_sl ([.int v0, .long v1]) ++ List.replicate (3 - (lg_sl ([.int v0, .long v1])).length) Slot.unset).toArray = ls at hl ⊢
  have hl : lv_has ls 3 [(0, .int v0), (1, .long v1)] := hl
  rw [fX1_isValue]
  exact wX1_isValue_0 C v0 v1 (lv_sub hl [0, 1] rfl)
set_option maxHeartbeats 4000000 in
set_option maxRecDepth 100000 in
theorem wX1_isNumberKind_0 {p : Program} {l : Launch} {e : Env} {s : State} {m : MethodId} {args : Array Value} {below : List Frame} {meth : Method} {c : Code} (C : px_C p s m args meth c cX1_isNumberKind 1 (some .boolean) RX1 wsX1_isNumberKind) (v0 : Int32) {ls : Array Slot} (hl : lv_has ls 1 [(0, .int v0)]) : W p l e { frames := 0, cells := 0, slots := 0, locals := 0 } s m args below meth c s.heap [] 0 0 (MQ below (px_Q (.int (fX1_isNumberKind_0 v0))) args s 0 0 (fun _ => False)) (F0 m 0 ls []) := by
  obtain ⟨hx, hb, hml, hown, hts, hr, hlocks⟩ := id C
  rw [fX1_isNumberKind_0]
  refine lv_iload_n hx hb dX1_isNumberKind_0 rfl (lv_at hl 0 rfl) ?_
  refine lv_iconst (v := 1) hx hb dX1_isNumberKind_1 (by decide) ?_
  refine px_icmp_lt (tgt := 15) hx hb dX1_isNumberKind_2 (by decide) (fun hc2 => ?_) (fun hc2 => ?_)
  · rw [if_pos hc2]
    refine lv_iconst (v := 0) hx hb dX1_isNumberKind_15 (by decide) ?_
    exact W.zret hx hb hr (by decide) (fun t ht _ => ⟨rfl, ht⟩) (fun q h => by cases h) dX1_isNumberKind_16
  · rw [if_neg hc2]
    refine lv_iload_n hx hb dX1_isNumberKind_5 rfl (lv_at hl 0 rfl) ?_
    refine lv_bipush (v := 7) hx hb dX1_isNumberKind_6 (by decide) ?_
    refine px_icmp_gt (tgt := 15) hx hb dX1_isNumberKind_8 (by decide) (fun hc8 => ?_) (fun hc8 => ?_)
    · rw [if_pos hc8]
      refine lv_iconst (v := 0) hx hb dX1_isNumberKind_15 (by decide) ?_
      exact W.zret hx hb hr (by decide) (fun t ht _ => ⟨rfl, ht⟩) (fun q h => by cases h) dX1_isNumberKind_16
    · rw [if_neg hc8]
      refine lv_iconst (v := 1) hx hb dX1_isNumberKind_11 (by decide) ?_
      refine lv_goto (tgt := 16) hx hb dX1_isNumberKind_12 (by decide) ?_
      exact W.zret hx hb hr (by decide) (fun t ht _ => ⟨rfl, ht⟩) (fun q h => by cases h) dX1_isNumberKind_16
theorem zX1_isNumberKind_0 (v0 : Int32) : fX1_isNumberKind_0 v0 = 0 ∨ fX1_isNumberKind_0 v0 = 1 := by
  unfold fX1_isNumberKind_0
  (repeat' split) <;> first | exact Or.inl rfl | exact Or.inr rfl
theorem zX1_isNumberKind (v0 : Int32) : fX1_isNumberKind v0 = 0 ∨ fX1_isNumberKind v0 = 1 := zX1_isNumberKind_0 _
set_option maxHeartbeats 4000000 in
set_option maxRecDepth 100000 in
theorem kX1_isNumberKind (l : Launch) (v0 : Int32) : px_M l yX1_isNumberKind wsX1_isNumberKind ({ frames := 0, cells := 0, slots := 0, locals := 0 }) [.int v0] (.int (fX1_isNumberKind v0)) := by
  refine Met.ofW (cc := cX1_isNumberKind) (maxL := 1) (ret := (some .boolean)) (by decide) rfl ?_
  intro p e s m args below meth c s₁ B hml hv
  cases hv
  have C : px_C p s m _ meth c cX1_isNumberKind 1 (some .boolean) RX1 wsX1_isNumberKind := ⟨B.exec, B.bytes, hml, findClass_of_methodNamed B.named, atoms_spec (ws := wsX1_isNumberKind) B.pre, B.returns, B.notSynchronized⟩
  have hl := lv_entry ([.int v0]) (n := 1) (Nat.le_of_ble_eq_true rfl)
  rw [lg_entry_eq]
  generalize (lg_sl ([.int v0]) ++ List.replicate (1 - (lg_sl ([.int v0])).length) Slot.unset).toArray = ls at hl ⊢
  have hl : lv_has ls 1 [(0, .int v0)] := hl
  rw [fX1_isNumberKind]
  exact wX1_isNumberKind_0 C v0 (lv_sub hl [0] rfl)
set_option maxHeartbeats 4000000 in
set_option maxRecDepth 100000 in
theorem wX1_cutToInt_0 {p : Program} {l : Launch} {e : Env} {s : State} {m : MethodId} {args : Array Value} {below : List Frame} {meth : Method} {c : Code} (C : px_C p s m args meth c cX1_cutToInt 2 (some .long) RX1 wsX1_cutToInt) (v0 : Int64) {ls : Array Slot} (hl : lv_has ls 2 [(0, .long v0)]) : W p l e { frames := 1, cells := 0, slots := 0, locals := 17 } s m args below meth c s.heap [] 0 0 (MQ below (px_Q (.long (fX1_cutToInt_0 v0))) args s 0 0 (fun _ => False)) (F0 m 0 ls []) := by
  obtain ⟨hx, hb, hml, hown, hts, hr, hlocks⟩ := id C
  rw [fX1_cutToInt_0]
  refine lv_ldc2 hx hb hown (hts (.constantLong RX1 94 (-2147483648)) (by decide +kernel)) dX1_cutToInt_0 ?_
  refine lv_ldc2 hx hb hown (hts (.constantLong RX1 96 (2147483647)) (by decide +kernel)) dX1_cutToInt_3 ?_
  refine lv_lload_n hx hb dX1_cutToInt_6 rfl (lv_at hl 0 rfl) ?_
  refine px_mminl hx hb (hml.trans hl.1.symm) hown (hts (.methodLink RX1 98 Lib.MathLoose.min_long.x) (by decide +kernel)) (hts (.static Lib.MathLoose.min_long.x) (by decide +kernel)) (hts (.initialized "java/lang/Math") (by decide +kernel)) (hts (.code Lib.MathLoose.min_long.x Lib.MathLoose.min_long.code 4 (some .long)) (by decide +kernel)) (Nat.le_of_ble_eq_true rfl) (Nat.le_of_ble_eq_true rfl) (Nat.zero_le _) (Nat.zero_le _) dX1_cutToInt_7 ?_
  refine px_mmaxl hx hb (hml.trans hl.1.symm) hown (hts (.methodLink RX1 102 Lib.MathLoose.max_long.x) (by decide +kernel)) (hts (.static Lib.MathLoose.max_long.x) (by decide +kernel)) (hts (.initialized "java/lang/Math") (by decide +kernel)) (hts (.code Lib.MathLoose.max_long.x Lib.MathLoose.max_long.code 4 (some .long)) (by decide +kernel)) (Nat.le_of_ble_eq_true rfl) (Nat.le_of_ble_eq_true rfl) (Nat.zero_le _) (Nat.zero_le _) dX1_cutToInt_10 ?_
  exact W.lret hx hb hr (fun t ht _ => ⟨rfl, ht⟩) (fun q h => by cases h) dX1_cutToInt_13
set_option maxHeartbeats 4000000 in
set_option maxRecDepth 100000 in
theorem kX1_cutToInt (l : Launch) (v0 : Int64) : px_M l yX1_cutToInt wsX1_cutToInt ({ frames := 1, cells := 0, slots := 0, locals := 17 }) [.long v0] (.long (fX1_cutToInt v0)) := by
  refine Met.ofW (cc := cX1_cutToInt) (maxL := 2) (ret := (some .long)) (by decide) rfl ?_
  intro p e s m args below meth c s₁ B hml hv
  cases hv
  have C : px_C p s m _ meth c cX1_cutToInt 2 (some .long) RX1 wsX1_cutToInt := ⟨B.exec, B.bytes, hml, findClass_of_methodNamed B.named, atoms_spec (ws := wsX1_cutToInt) B.pre, B.returns, B.notSynchronized⟩
  have hl := lv_entry ([.long v0]) (n := 2) (Nat.le_of_ble_eq_true rfl)
  rw [lg_entry_eq]
  generalize (lg_sl ([.long v0]) ++ List.replicate (2 - (lg_sl ([.long v0])).length) Slot.unset).toArray = ls at hl ⊢
  have hl : lv_has ls 2 [(0, .long v0)] := hl
  rw [fX1_cutToInt]
  exact wX1_cutToInt_0 C v0 (lv_sub hl [0] rfl)
set_option maxHeartbeats 4000000 in
set_option maxRecDepth 100000 in
theorem wX1_converted_0 {p : Program} {l : Launch} {e : Env} {s : State} {m : MethodId} {args : Array Value} {below : List Frame} {meth : Method} {c : Code} (C : px_C p s m args meth c cX1_converted 6 (some .long) RX1 wsX1_converted) (v0 : Int32) (v1 : Int32) (v2 : Int64) {ls : Array Slot} (hl : lv_has ls 6 [(0, .int v0), (1, .int v1), (2, .long v2)]) : W p l e { frames := 4, cells := 0, slots := 0, locals := 96 } s m args below meth c s.heap [] 0 0 (MQ below (px_Q (.long (fX1_converted_0 v0 v1 v2))) args s 0 0 (fun _ => False)) (F0 m 0 ls []) := by
  obtain ⟨hx, hb, hml, hown, hts, hr, hlocks⟩ := id C
  rw [fX1_converted_0]
  refine lv_iload_n hx hb dX1_converted_0 rfl (lv_at hl 0 rfl) ?_
  refine lv_iload_n hx hb dX1_converted_1 rfl (lv_at hl 1 rfl) ?_
  refine px_icmp_ne (tgt := 7) hx hb dX1_converted_2 (by decide) (fun hc2 => ?_) (fun hc2 => ?_)
  · rw [if_pos hc2]
    refine lv_lload_n hx hb dX1_converted_5 rfl (lv_at hl 2 rfl) ?_
    exact W.lret hx hb hr (fun t ht _ => ⟨rfl, ht⟩) (fun q h => by cases h) dX1_converted_6
  · rw [if_neg hc2]
    refine lv_iload_n hx hb dX1_converted_7 rfl (lv_at hl 1 rfl) ?_
    refine lv_bipush (v := 6) hx hb dX1_converted_8 (by decide) ?_
    refine px_icmp_lt (tgt := 34) hx hb dX1_converted_10 (by decide) (fun hc10 => ?_) (fun hc10 => ?_)
    · rw [if_pos hc10]
      refine lv_iload_n hx hb dX1_converted_34 rfl (lv_at hl 0 rfl) ?_
      refine lv_bipush (v := 6) hx hb dX1_converted_35 (by decide) ?_
      refine px_icmp_ge (tgt := 46) hx hb dX1_converted_37 (by decide) (fun hc37 => ?_) (fun hc37 => ?_)
      · rw [if_pos hc37]
        refine lv_iload_n hx hb dX1_converted_40 rfl (lv_at hl 1 rfl) ?_
        refine lv_lload_n hx hb dX1_converted_41 rfl (lv_at hl 2 rfl) ?_
        refine px_S (As := [.int v1, .long v2]) (rest := []) ⟨hx, hb, hml, hown, hts⟩ (kX1_narrowed l v1 v2) (va_cwS 2 hts gX1_converted_X1_narrowed rfl rfl rfl (by decide +kernel) ⟨Nat.le_of_ble_eq_true rfl, Nat.le_of_ble_eq_true rfl⟩) rfl hl.1 rfl (Nat.le_of_ble_eq_true rfl) dX1_converted_42 (Nat.zero_le _) (Nat.zero_le _) ?_
        exact W.lret hx hb hr (fun t ht _ => ⟨rfl, ht⟩) (fun q h => by cases h) dX1_converted_45
      · rw [if_neg hc37]
        refine lv_iload_n hx hb dX1_converted_46 rfl (lv_at hl 0 rfl) ?_
        refine lv_lload_n hx hb dX1_converted_47 rfl (lv_at hl 2 rfl) ?_
        refine px_S (As := [.int v0, .long v2]) (rest := []) ⟨hx, hb, hml, hown, hts⟩ (kX0_wholePart l v0 v2) (va_cwS 2 hts gX1_converted_X0_wholePart rfl rfl rfl (by decide +kernel) ⟨Nat.le_of_ble_eq_true rfl, Nat.le_of_ble_eq_true rfl⟩) rfl hl.1 rfl (Nat.le_of_ble_eq_true rfl) dX1_converted_48 (Nat.zero_le _) (Nat.zero_le _) ?_
        refine lv_topl (fun v4_51 ev4_51 => ?_)
        rw [← ev4_51]
        refine lv_lstore (lv' := [(4, .long v4_51), (0, .int v0), (1, .int v1), (2, .long v2)]) hx hb dX1_converted_51 hl (by decide) rfl (fun ls hl => ?_)
        rw [fX1_converted_53]
        refine lv_iload_n hx hb dX1_converted_53 rfl (lv_at hl 2 rfl) ?_
        refine lv_iconst (v := 5) hx hb dX1_converted_54 (by decide) ?_
        refine px_icmp_ne (tgt := 63) hx hb dX1_converted_55 (by decide) (fun hc55 => ?_) (fun hc55 => ?_)
        · rw [if_pos hc55]
          refine lv_lload hx hb dX1_converted_58 (lv_at hl 0 rfl) ?_
          refine lv_goto (tgt := 72) hx hb dX1_converted_60 (by decide) ?_
          exact W.lret hx hb hr (fun t ht _ => ⟨rfl, ht⟩) (fun q h => by cases h) dX1_converted_72
        · rw [if_neg hc55]
          refine lv_iload_n hx hb dX1_converted_63 rfl (lv_at hl 2 rfl) ?_
          refine lv_lload hx hb dX1_converted_64 (lv_at hl 0 rfl) ?_
          refine px_S (As := [.long v4_51]) (rest := [.int v1]) ⟨hx, hb, hml, hown, hts⟩ (kX1_cutToInt l v4_51) (va_cwS 1 hts gX1_converted_X1_cutToInt rfl rfl rfl (by decide +kernel) ⟨Nat.le_of_ble_eq_true rfl, Nat.le_of_ble_eq_true rfl⟩) rfl hl.1 rfl (Nat.le_of_ble_eq_true rfl) dX1_converted_66 (Nat.zero_le _) (Nat.zero_le _) ?_
          refine px_S (As := [.int v1, .long (fX1_cutToInt v4_51)]) (rest := []) ⟨hx, hb, hml, hown, hts⟩ (kX1_narrowed l v1 (fX1_cutToInt v4_51)) (va_cwS 2 hts gX1_converted_X1_narrowed rfl rfl rfl (by decide +kernel) ⟨Nat.le_of_ble_eq_true rfl, Nat.le_of_ble_eq_true rfl⟩) rfl hl.1 rfl (Nat.le_of_ble_eq_true rfl) dX1_converted_69 (Nat.zero_le _) (Nat.zero_le _) ?_
          exact W.lret hx hb hr (fun t ht _ => ⟨rfl, ht⟩) (fun q h => by cases h) dX1_converted_72
    · rw [if_neg hc10]
      refine lv_iload_n hx hb dX1_converted_13 rfl (lv_at hl 0 rfl) ?_
      refine lv_bipush (v := 6) hx hb dX1_converted_14 (by decide) ?_
      refine px_icmp_lt (tgt := 28) hx hb dX1_converted_16 (by decide) (fun hc16 => ?_) (fun hc16 => ?_)
      · rw [if_pos hc16]
        refine lv_iload_n hx hb dX1_converted_28 rfl (lv_at hl 1 rfl) ?_
        refine lv_lload_n hx hb dX1_converted_29 rfl (lv_at hl 2 rfl) ?_
        refine px_S (As := [.int v1, .long v2]) (rest := []) ⟨hx, hb, hml, hown, hts⟩ (kX0_ofWhole l v1 v2) (va_cwS 2 hts gX1_converted_X0_ofWhole rfl rfl rfl (by decide +kernel) ⟨Nat.le_of_ble_eq_true rfl, Nat.le_of_ble_eq_true rfl⟩) rfl hl.1 rfl (Nat.le_of_ble_eq_true rfl) dX1_converted_30 (Nat.zero_le _) (Nat.zero_le _) ?_
        exact W.lret hx hb hr (fun t ht _ => ⟨rfl, ht⟩) (fun q h => by cases h) dX1_converted_33
      · rw [if_neg hc16]
        refine lv_iload_n hx hb dX1_converted_19 rfl (lv_at hl 1 rfl) ?_
        refine lv_iload_n hx hb dX1_converted_20 rfl (lv_at hl 0 rfl) ?_
        refine lv_lload_n hx hb dX1_converted_21 rfl (lv_at hl 2 rfl) ?_
        refine px_S (As := [.int v1, .int v0, .long v2]) (rest := []) ⟨hx, hb, hml, hown, hts⟩ (kX0_ofReal l v1 v0 v2) (va_cwS 3 hts gX1_converted_X0_ofReal rfl rfl rfl (by decide +kernel) ⟨Nat.le_of_ble_eq_true rfl, Nat.le_of_ble_eq_true rfl⟩) rfl hl.1 rfl (Nat.le_of_ble_eq_true rfl) dX1_converted_22 (Nat.zero_le _) (Nat.zero_le _) ?_
        refine lv_goto (tgt := 33) hx hb dX1_converted_25 (by decide) ?_
        exact W.lret hx hb hr (fun t ht _ => ⟨rfl, ht⟩) (fun q h => by cases h) dX1_converted_33
set_option maxHeartbeats 4000000 in
set_option maxRecDepth 100000 in
theorem kX1_converted (l : Launch) (v0 : Int32) (v1 : Int32) (v2 : Int64) : px_M l yX1_converted wsX1_converted ({ frames := 4, cells := 0, slots := 0, locals := 96 }) [.int v0, .int v1, .long v2] (.long (fX1_converted v0 v1 v2)) := by
  refine Met.ofW (cc := cX1_converted) (maxL := 6) (ret := (some .long)) (by decide) rfl ?_
  intro p e s m args below meth c s₁ B hml hv
  cases hv
  have C : px_C p s m _ meth c cX1_converted 6 (some .long) RX1 wsX1_converted := ⟨B.exec, B.bytes, hml, findClass_of_methodNamed B.named, atoms_spec (ws := wsX1_converted) B.pre, B.returns, B.notSynchronized⟩
  have hl := lv_entry ([.int v0, .int v1, .long v2]) (n := 6) (Nat.le_of_ble_eq_true rfl)
  rw [lg_entry_eq]
  generalize (lg_sl ([.int v0, .int v1, .long v2]) ++ List.replicate (6 - (lg_sl ([.int v0, .int v1, .long v2])).length) Slot.unset).toArray = ls at hl ⊢
  have hl : lv_has ls 6 [(0, .int v0), (1, .int v1), (2, .long v2)] := hl
  rw [fX1_converted]
  exact wX1_converted_0 C v0 v1 v2 (lv_sub hl [0, 1, 2] rfl)
set_option maxHeartbeats 4000000 in
set_option maxRecDepth 100000 in
theorem wX1_areNumbers_0 {p : Program} {l : Launch} {e : Env} {s : State} {m : MethodId} {args : Array Value} {below : List Frame} {meth : Method} {c : Code} (C : px_C p s m args meth c cX1_areNumbers 6 (some .boolean) RX1 wsX1_areNumbers) (v0 : Int32) (v1 : Int64) (v3 : Int32) (v4 : Int64) {ls : Array Slot} (hl : lv_has ls 6 [(0, .int v0), (1, .long v1), (3, .int v3), (4, .long v4)]) : W p l e { frames := 4, cells := 0, slots := 0, locals := 88 } s m args below meth c s.heap [] 0 0 (MQ below (px_Q (.int (fX1_areNumbers_0 v0 v1 v3 v4))) args s 0 0 (fun _ => False)) (F0 m 0 ls []) := by
  obtain ⟨hx, hb, hml, hown, hts, hr, hlocks⟩ := id C
  rw [fX1_areNumbers_0]
  refine lv_iload_n hx hb dX1_areNumbers_0 rfl (lv_at hl 0 rfl) ?_
  refine px_S (As := [.int v0]) (rest := []) ⟨hx, hb, hml, hown, hts⟩ (kX1_isNumberKind l v0) (va_cwS 1 hts gX1_areNumbers_X1_isNumberKind rfl rfl rfl (by decide +kernel) ⟨Nat.le_of_ble_eq_true rfl, Nat.le_of_ble_eq_true rfl⟩) rfl hl.1 rfl (Nat.le_of_ble_eq_true rfl) dX1_areNumbers_1 (Nat.zero_le _) (Nat.zero_le _) ?_
  refine px_if_eq (tgt := 35) hx hb dX1_areNumbers_4 (by decide) (fun hc4 => ?_) (fun hc4 => ?_)
  · rw [if_pos hc4]
    refine lv_iconst (v := 0) hx hb dX1_areNumbers_35 (by decide) ?_
    exact W.zret hx hb hr (by decide) (fun t ht _ => ⟨rfl, ht⟩) (fun q h => by cases h) dX1_areNumbers_36
  · rw [if_neg hc4]
    refine lv_iload_n hx hb dX1_areNumbers_7 rfl (lv_at hl 2 rfl) ?_
    refine px_S (As := [.int v3]) (rest := []) ⟨hx, hb, hml, hown, hts⟩ (kX1_isNumberKind l v3) (va_cwS 1 hts gX1_areNumbers_X1_isNumberKind rfl rfl rfl (by decide +kernel) ⟨Nat.le_of_ble_eq_true rfl, Nat.le_of_ble_eq_true rfl⟩) rfl hl.1 rfl (Nat.le_of_ble_eq_true rfl) dX1_areNumbers_8 (Nat.zero_le _) (Nat.zero_le _) ?_
    refine px_if_eq (tgt := 35) hx hb dX1_areNumbers_11 (by decide) (fun hc11 => ?_) (fun hc11 => ?_)
    · rw [if_pos hc11]
      refine lv_iconst (v := 0) hx hb dX1_areNumbers_35 (by decide) ?_
      exact W.zret hx hb hr (by decide) (fun t ht _ => ⟨rfl, ht⟩) (fun q h => by cases h) dX1_areNumbers_36
    · rw [if_neg hc11]
      refine lv_iload_n hx hb dX1_areNumbers_14 rfl (lv_at hl 0 rfl) ?_
      refine lv_lload_n hx hb dX1_areNumbers_15 rfl (lv_at hl 1 rfl) ?_
      refine px_S (As := [.int v0, .long v1]) (rest := []) ⟨hx, hb, hml, hown, hts⟩ (kX1_isValue l v0 v1) (va_cwS 2 hts gX1_areNumbers_X1_isValue rfl rfl rfl (by decide +kernel) ⟨Nat.le_of_ble_eq_true rfl, Nat.le_of_ble_eq_true rfl⟩) rfl hl.1 rfl (Nat.le_of_ble_eq_true rfl) dX1_areNumbers_16 (Nat.zero_le _) (Nat.zero_le _) ?_
      refine px_if_eq (tgt := 35) hx hb dX1_areNumbers_19 (by decide) (fun hc19 => ?_) (fun hc19 => ?_)
      · rw [if_pos hc19]
        refine lv_iconst (v := 0) hx hb dX1_areNumbers_35 (by decide) ?_
        exact W.zret hx hb hr (by decide) (fun t ht _ => ⟨rfl, ht⟩) (fun q h => by cases h) dX1_areNumbers_36
      · rw [if_neg hc19]
        refine lv_iload_n hx hb dX1_areNumbers_22 rfl (lv_at hl 2 rfl) ?_
        refine lv_lload hx hb dX1_areNumbers_23 (lv_at hl 3 rfl) ?_
        refine px_S (As := [.int v3, .long v4]) (rest := []) ⟨hx, hb, hml, hown, hts⟩ (kX1_isValue l v3 v4) (va_cwS 2 hts gX1_areNumbers_X1_isValue rfl rfl rfl (by decide +kernel) ⟨Nat.le_of_ble_eq_true rfl, Nat.le_of_ble_eq_true rfl⟩) rfl hl.1 rfl (Nat.le_of_ble_eq_true rfl) dX1_areNumbers_25 (Nat.zero_le _) (Nat.zero_le _) ?_
        refine px_if_eq (tgt := 35) hx hb dX1_areNumbers_28 (by decide) (fun hc28 => ?_) (fun hc28 => ?_)
        · rw [if_pos hc28]
          refine lv_iconst (v := 0) hx hb dX1_areNumbers_35 (by decide) ?_
          exact W.zret hx hb hr (by decide) (fun t ht _ => ⟨rfl, ht⟩) (fun q h => by cases h) dX1_areNumbers_36
        · rw [if_neg hc28]
          refine lv_iconst (v := 1) hx hb dX1_areNumbers_31 (by decide) ?_
          refine lv_goto (tgt := 36) hx hb dX1_areNumbers_32 (by decide) ?_
          exact W.zret hx hb hr (by decide) (fun t ht _ => ⟨rfl, ht⟩) (fun q h => by cases h) dX1_areNumbers_36
theorem zX1_areNumbers_0 (v0 : Int32) (v1 : Int64) (v3 : Int32) (v4 : Int64) : fX1_areNumbers_0 v0 v1 v3 v4 = 0 ∨ fX1_areNumbers_0 v0 v1 v3 v4 = 1 := by
  unfold fX1_areNumbers_0
  (repeat' split) <;> first | exact Or.inl rfl | exact Or.inr rfl | exact zX1_isNumberKind _ | exact zX1_isValue _ _
theorem zX1_areNumbers (v0 : Int32) (v1 : Int64) (v3 : Int32) (v4 : Int64) : fX1_areNumbers v0 v1 v3 v4 = 0 ∨ fX1_areNumbers v0 v1 v3 v4 = 1 := zX1_areNumbers_0 _ _ _ _
set_option maxHeartbeats 4000000 in
set_option maxRecDepth 100000 in
theorem kX1_areNumbers (l : Launch) (v0 : Int32) (v1 : Int64) (v3 : Int32) (v4 : Int64) : px_M l yX1_areNumbers wsX1_areNumbers ({ frames := 4, cells := 0, slots := 0, locals := 88 }) [.int v0, .long v1, .int v3, .long v4] (.int (fX1_areNumbers v0 v1 v3 v4)) := by
  refine Met.ofW (cc := cX1_areNumbers) (maxL := 6) (ret := (some .boolean)) (by decide) rfl ?_
  intro p e s m args below meth c s₁ B hml hv
  cases hv
  have C : px_C p s m _ meth c cX1_areNumbers 6 (some .boolean) RX1 wsX1_areNumbers := ⟨B.exec, B.bytes, hml, findClass_of_methodNamed B.named, atoms_spec (ws := wsX1_areNumbers) B.pre, B.returns, B.notSynchronized⟩
  have hl := lv_entry ([.int v0, .long v1, .int v3, .long v4]) (n := 6) (Nat.le_of_ble_eq_true rfl)
  rw [lg_entry_eq]
  generalize (lg_sl ([.int v0, .long v1, .int v3, .long v4]) ++ List.replicate (6 - (lg_sl ([.int v0, .long v1, .int v3, .long v4])).length) Slot.unset).toArray = ls at hl ⊢
  have hl : lv_has ls 6 [(0, .int v0), (1, .long v1), (3, .int v3), (4, .long v4)] := hl
  rw [fX1_areNumbers]
  exact wX1_areNumbers_0 C v0 v1 v3 v4 (lv_sub hl [0, 1, 2, 3] rfl)
set_option maxHeartbeats 4000000 in
set_option maxRecDepth 100000 in
theorem wX1_workKind_0 {p : Program} {l : Launch} {e : Env} {s : State} {m : MethodId} {args : Array Value} {below : List Frame} {meth : Method} {c : Code} (C : px_C p s m args meth c cX1_workKind 2 (some .int) RX1 wsX1_workKind) (v0 : Int32) (v1 : Int32) {ls : Array Slot} (hl : lv_has ls 2 [(0, .int v0), (1, .int v1)]) : W p l e { frames := 1, cells := 0, slots := 0, locals := 14 } s m args below meth c s.heap [] 0 0 (MQ below (px_Q (.int (fX1_workKind_0 v0 v1))) args s 0 0 (fun _ => False)) (F0 m 0 ls []) := by
  obtain ⟨hx, hb, hml, hown, hts, hr, hlocks⟩ := id C
  rw [fX1_workKind_0]
  refine lv_iconst (v := 4) hx hb dX1_workKind_0 (by decide) ?_
  refine lv_iload_n hx hb dX1_workKind_1 rfl (lv_at hl 0 rfl) ?_
  refine lv_iload_n hx hb dX1_workKind_2 rfl (lv_at hl 1 rfl) ?_
  refine px_mmax hx hb (hml.trans hl.1.symm) hown (hts (.methodLink RX1 74 Lib.Math.max.name) (by decide +kernel)) (hts (.static Lib.Math.max.name) (by decide +kernel)) (hts (.initialized "java/lang/Math") (by decide +kernel)) (hts (.code Lib.Math.max.name Lib.Math.max.code 2 (some .int)) (by decide +kernel)) (Nat.le_of_ble_eq_true rfl) (Nat.le_of_ble_eq_true rfl) (Nat.zero_le _) (Nat.zero_le _) dX1_workKind_3 ?_
  refine px_mmax hx hb (hml.trans hl.1.symm) hown (hts (.methodLink RX1 74 Lib.Math.max.name) (by decide +kernel)) (hts (.static Lib.Math.max.name) (by decide +kernel)) (hts (.initialized "java/lang/Math") (by decide +kernel)) (hts (.code Lib.Math.max.name Lib.Math.max.code 2 (some .int)) (by decide +kernel)) (Nat.le_of_ble_eq_true rfl) (Nat.le_of_ble_eq_true rfl) (Nat.zero_le _) (Nat.zero_le _) dX1_workKind_6 ?_
  exact W.iret hx hb hr (fun t ht _ => ⟨rfl, ht⟩) (fun q h => by cases h) dX1_workKind_9
set_option maxHeartbeats 4000000 in
set_option maxRecDepth 100000 in
theorem kX1_workKind (l : Launch) (v0 : Int32) (v1 : Int32) : px_M l yX1_workKind wsX1_workKind ({ frames := 1, cells := 0, slots := 0, locals := 14 }) [.int v0, .int v1] (.int (fX1_workKind v0 v1)) := by
  refine Met.ofW (cc := cX1_workKind) (maxL := 2) (ret := (some .int)) (by decide) rfl ?_
  intro p e s m args below meth c s₁ B hml hv
  cases hv
  have C : px_C p s m _ meth c cX1_workKind 2 (some .int) RX1 wsX1_workKind := ⟨B.exec, B.bytes, hml, findClass_of_methodNamed B.named, atoms_spec (ws := wsX1_workKind) B.pre, B.returns, B.notSynchronized⟩
  have hl := lv_entry ([.int v0, .int v1]) (n := 2) (Nat.le_of_ble_eq_true rfl)
  rw [lg_entry_eq]
  generalize (lg_sl ([.int v0, .int v1]) ++ List.replicate (2 - (lg_sl ([.int v0, .int v1])).length) Slot.unset).toArray = ls at hl ⊢
  have hl : lv_has ls 2 [(0, .int v0), (1, .int v1)] := hl
  rw [fX1_workKind]
  exact wX1_workKind_0 C v0 v1 (lv_sub hl [0, 1] rfl)
set_option maxHeartbeats 4000000 in
set_option maxRecDepth 100000 in
theorem wX1_shiftedLong_0 {p : Program} {l : Launch} {e : Env} {s : State} {m : MethodId} {args : Array Value} {below : List Frame} {meth : Method} {c : Code} (C : px_C p s m args meth c cX1_shiftedLong 4 (some .long) RX1 wsX1_shiftedLong) (v0 : Int32) (v1 : Int64) (v3 : Int32) {ls : Array Slot} (hl : lv_has ls 4 [(0, .int v0), (1, .long v1), (3, .int v3)]) : W p l e { frames := 0, cells := 0, slots := 0, locals := 0 } s m args below meth c s.heap [] 0 0 (MQ below (px_Q (.long (fX1_shiftedLong_0 v0 v1 v3))) args s 0 0 (fun _ => False)) (F0 m 0 ls []) := by
  obtain ⟨hx, hb, hml, hown, hts, hr, hlocks⟩ := id C
  rw [fX1_shiftedLong_0]
  refine lv_iload_n hx hb dX1_shiftedLong_0 rfl (lv_at hl 0 rfl) ?_
  by_cases hs1_0 : v0 = (6 : Int32)
  · rw [if_pos hs1_0]
    refine lv_lookup (tgt := 28) (off := 27) hx hb dX1_shiftedLong_1 (by decide) (by rw [hs1_0]; decide +kernel) (by decide) ?_
    refine lv_lload_n hx hb dX1_shiftedLong_28 rfl (lv_at hl 1 rfl) ?_
    refine lv_iload_n hx hb dX1_shiftedLong_29 rfl (lv_at hl 2 rfl) ?_
    refine px_lshl hx hb dX1_shiftedLong_30 ?_
    exact W.lret hx hb hr (fun t ht _ => ⟨rfl, ht⟩) (fun q h => by cases h) dX1_shiftedLong_31
  · rw [if_neg hs1_0]
    by_cases hs1_1 : v0 = (7 : Int32)
    · rw [if_pos hs1_1]
      refine lv_lookup (tgt := 32) (off := 31) hx hb dX1_shiftedLong_1 (by decide) (by rw [hs1_1]; decide +kernel) (by decide) ?_
      refine lv_lload_n hx hb dX1_shiftedLong_32 rfl (lv_at hl 1 rfl) ?_
      refine lv_iload_n hx hb dX1_shiftedLong_33 rfl (lv_at hl 2 rfl) ?_
      refine px_lshr hx hb dX1_shiftedLong_34 ?_
      exact W.lret hx hb hr (fun t ht _ => ⟨rfl, ht⟩) (fun q h => by cases h) dX1_shiftedLong_35
    · rw [if_neg hs1_1]
      refine lv_lookup (tgt := 36) (off := 35) hx hb dX1_shiftedLong_1 (by decide) (by show Op.lookupswitch.offset [(6, 27), (7, 31)] 35 _ = _; rw [lv_osw hs1_0 (by decide), lv_osw hs1_1 (by decide)]; rfl) (by decide) ?_
      refine lv_lload_n hx hb dX1_shiftedLong_36 rfl (lv_at hl 1 rfl) ?_
      refine lv_iload_n hx hb dX1_shiftedLong_37 rfl (lv_at hl 2 rfl) ?_
      refine px_lushr hx hb dX1_shiftedLong_38 ?_
      exact W.lret hx hb hr (fun t ht _ => ⟨rfl, ht⟩) (fun q h => by cases h) dX1_shiftedLong_39
set_option maxHeartbeats 4000000 in
set_option maxRecDepth 100000 in
theorem kX1_shiftedLong (l : Launch) (v0 : Int32) (v1 : Int64) (v3 : Int32) : px_M l yX1_shiftedLong wsX1_shiftedLong ({ frames := 0, cells := 0, slots := 0, locals := 0 }) [.int v0, .long v1, .int v3] (.long (fX1_shiftedLong v0 v1 v3)) := by
  refine Met.ofW (cc := cX1_shiftedLong) (maxL := 4) (ret := (some .long)) (by decide) rfl ?_
  intro p e s m args below meth c s₁ B hml hv
  cases hv
  have C : px_C p s m _ meth c cX1_shiftedLong 4 (some .long) RX1 wsX1_shiftedLong := ⟨B.exec, B.bytes, hml, findClass_of_methodNamed B.named, atoms_spec (ws := wsX1_shiftedLong) B.pre, B.returns, B.notSynchronized⟩
  have hl := lv_entry ([.int v0, .long v1, .int v3]) (n := 4) (Nat.le_of_ble_eq_true rfl)
  rw [lg_entry_eq]
  generalize (lg_sl ([.int v0, .long v1, .int v3]) ++ List.replicate (4 - (lg_sl ([.int v0, .long v1, .int v3])).length) Slot.unset).toArray = ls at hl ⊢
  have hl : lv_has ls 4 [(0, .int v0), (1, .long v1), (3, .int v3)] := hl
  rw [fX1_shiftedLong]
  exact wX1_shiftedLong_0 C v0 v1 v3 (lv_sub hl [0, 1, 2] rfl)
set_option maxHeartbeats 4000000 in
set_option maxRecDepth 100000 in
theorem wX1_shiftedInt_0 {p : Program} {l : Launch} {e : Env} {s : State} {m : MethodId} {args : Array Value} {below : List Frame} {meth : Method} {c : Code} (C : px_C p s m args meth c cX1_shiftedInt 3 (some .long) RX1 wsX1_shiftedInt) (v0 : Int32) (v1 : Int32) (v2 : Int32) {ls : Array Slot} (hl : lv_has ls 3 [(0, .int v0), (1, .int v1), (2, .int v2)]) : W p l e { frames := 0, cells := 0, slots := 0, locals := 0 } s m args below meth c s.heap [] 0 0 (MQ below (px_Q (.long (fX1_shiftedInt_0 v0 v1 v2))) args s 0 0 (fun _ => False)) (F0 m 0 ls []) := by
  obtain ⟨hx, hb, hml, hown, hts, hr, hlocks⟩ := id C
  rw [fX1_shiftedInt_0]
  refine lv_iload_n hx hb dX1_shiftedInt_0 rfl (lv_at hl 0 rfl) ?_
  by_cases hs1_0 : v0 = (6 : Int32)
  · rw [if_pos hs1_0]
    refine lv_lookup (tgt := 28) (off := 27) hx hb dX1_shiftedInt_1 (by decide) (by rw [hs1_0]; decide +kernel) (by decide) ?_
    refine lv_iload_n hx hb dX1_shiftedInt_28 rfl (lv_at hl 1 rfl) ?_
    refine lv_iload_n hx hb dX1_shiftedInt_29 rfl (lv_at hl 2 rfl) ?_
    refine px_ishl hx hb dX1_shiftedInt_30 ?_
    refine px_i2l hx hb dX1_shiftedInt_31 ?_
    exact W.lret hx hb hr (fun t ht _ => ⟨rfl, ht⟩) (fun q h => by cases h) dX1_shiftedInt_32
  · rw [if_neg hs1_0]
    by_cases hs1_1 : v0 = (7 : Int32)
    · rw [if_pos hs1_1]
      refine lv_lookup (tgt := 33) (off := 32) hx hb dX1_shiftedInt_1 (by decide) (by rw [hs1_1]; decide +kernel) (by decide) ?_
      refine lv_iload_n hx hb dX1_shiftedInt_33 rfl (lv_at hl 1 rfl) ?_
      refine lv_iload_n hx hb dX1_shiftedInt_34 rfl (lv_at hl 2 rfl) ?_
      refine px_ishr hx hb dX1_shiftedInt_35 ?_
      refine px_i2l hx hb dX1_shiftedInt_36 ?_
      exact W.lret hx hb hr (fun t ht _ => ⟨rfl, ht⟩) (fun q h => by cases h) dX1_shiftedInt_37
    · rw [if_neg hs1_1]
      refine lv_lookup (tgt := 38) (off := 37) hx hb dX1_shiftedInt_1 (by decide) (by show Op.lookupswitch.offset [(6, 27), (7, 32)] 37 _ = _; rw [lv_osw hs1_0 (by decide), lv_osw hs1_1 (by decide)]; rfl) (by decide) ?_
      refine lv_iload_n hx hb dX1_shiftedInt_38 rfl (lv_at hl 1 rfl) ?_
      refine lv_iload_n hx hb dX1_shiftedInt_39 rfl (lv_at hl 2 rfl) ?_
      refine px_iushr hx hb dX1_shiftedInt_40 ?_
      refine px_i2l hx hb dX1_shiftedInt_41 ?_
      exact W.lret hx hb hr (fun t ht _ => ⟨rfl, ht⟩) (fun q h => by cases h) dX1_shiftedInt_42
set_option maxHeartbeats 4000000 in
set_option maxRecDepth 100000 in
theorem kX1_shiftedInt (l : Launch) (v0 : Int32) (v1 : Int32) (v2 : Int32) : px_M l yX1_shiftedInt wsX1_shiftedInt ({ frames := 0, cells := 0, slots := 0, locals := 0 }) [.int v0, .int v1, .int v2] (.long (fX1_shiftedInt v0 v1 v2)) := by
  refine Met.ofW (cc := cX1_shiftedInt) (maxL := 3) (ret := (some .long)) (by decide) rfl ?_
  intro p e s m args below meth c s₁ B hml hv
  cases hv
  have C : px_C p s m _ meth c cX1_shiftedInt 3 (some .long) RX1 wsX1_shiftedInt := ⟨B.exec, B.bytes, hml, findClass_of_methodNamed B.named, atoms_spec (ws := wsX1_shiftedInt) B.pre, B.returns, B.notSynchronized⟩
  have hl := lv_entry ([.int v0, .int v1, .int v2]) (n := 3) (Nat.le_of_ble_eq_true rfl)
  rw [lg_entry_eq]
  generalize (lg_sl ([.int v0, .int v1, .int v2]) ++ List.replicate (3 - (lg_sl ([.int v0, .int v1, .int v2])).length) Slot.unset).toArray = ls at hl ⊢
  have hl : lv_has ls 3 [(0, .int v0), (1, .int v1), (2, .int v2)] := hl
  rw [fX1_shiftedInt]
  exact wX1_shiftedInt_0 C v0 v1 v2 (lv_sub hl [0, 1, 2] rfl)
set_option maxHeartbeats 4000000 in
set_option maxRecDepth 100000 in
theorem wX1_sideOf_0 {p : Program} {l : Launch} {e : Env} {s : State} {m : MethodId} {args : Array Value} {below : List Frame} {meth : Method} {c : Code} (C : px_C p s m args meth c cX1_sideOf 4 (some .int) RX1 wsX1_sideOf) (v0 : Int64) (v2 : Int64) {ls : Array Slot} (hl : lv_has ls 4 [(0, .long v0), (2, .long v2)]) : W p l e { frames := 0, cells := 0, slots := 0, locals := 0 } s m args below meth c s.heap [] 0 0 (MQ below (px_Q (.int (fX1_sideOf_0 v0 v2))) args s 0 0 (fun _ => False)) (F0 m 0 ls []) := by
  obtain ⟨hx, hb, hml, hown, hts, hr, hlocks⟩ := id C
  rw [fX1_sideOf_0]
  refine lv_lload_n hx hb dX1_sideOf_0 rfl (lv_at hl 0 rfl) ?_
  refine lv_lload_n hx hb dX1_sideOf_1 rfl (lv_at hl 1 rfl) ?_
  refine px_lcmp_ne (tgt := 8) hx hb dX1_sideOf_2 dX1_sideOf_3 (by decide) (fun hc2 => ?_) (fun hc2 => ?_)
  · rw [if_pos hc2]
    refine lv_iconst (v := 0) hx hb dX1_sideOf_6 (by decide) ?_
    exact W.iret hx hb hr (fun t ht _ => ⟨rfl, ht⟩) (fun q h => by cases h) dX1_sideOf_7
  · rw [if_neg hc2]
    refine lv_lload_n hx hb dX1_sideOf_8 rfl (lv_at hl 0 rfl) ?_
    refine lv_lload_n hx hb dX1_sideOf_9 rfl (lv_at hl 1 rfl) ?_
    refine px_lcmp_ge (tgt := 18) hx hb dX1_sideOf_10 dX1_sideOf_11 (by decide) (fun hc10 => ?_) (fun hc10 => ?_)
    · rw [if_pos hc10]
      refine lv_iconst (v := -1) hx hb dX1_sideOf_14 (by decide) ?_
      refine lv_goto (tgt := 19) hx hb dX1_sideOf_15 (by decide) ?_
      exact W.iret hx hb hr (fun t ht _ => ⟨rfl, ht⟩) (fun q h => by cases h) dX1_sideOf_19
    · rw [if_neg hc10]
      refine lv_iconst (v := 1) hx hb dX1_sideOf_18 (by decide) ?_
      exact W.iret hx hb hr (fun t ht _ => ⟨rfl, ht⟩) (fun q h => by cases h) dX1_sideOf_19
set_option maxHeartbeats 4000000 in
set_option maxRecDepth 100000 in
theorem kX1_sideOf (l : Launch) (v0 : Int64) (v2 : Int64) : px_M l yX1_sideOf wsX1_sideOf ({ frames := 0, cells := 0, slots := 0, locals := 0 }) [.long v0, .long v2] (.int (fX1_sideOf v0 v2)) := by
  refine Met.ofW (cc := cX1_sideOf) (maxL := 4) (ret := (some .int)) (by decide) rfl ?_
  intro p e s m args below meth c s₁ B hml hv
  cases hv
  have C : px_C p s m _ meth c cX1_sideOf 4 (some .int) RX1 wsX1_sideOf := ⟨B.exec, B.bytes, hml, findClass_of_methodNamed B.named, atoms_spec (ws := wsX1_sideOf) B.pre, B.returns, B.notSynchronized⟩
  have hl := lv_entry ([.long v0, .long v2]) (n := 4) (Nat.le_of_ble_eq_true rfl)
  rw [lg_entry_eq]
  generalize (lg_sl ([.long v0, .long v2]) ++ List.replicate (4 - (lg_sl ([.long v0, .long v2])).length) Slot.unset).toArray = ls at hl ⊢
  have hl : lv_has ls 4 [(0, .long v0), (2, .long v2)] := hl
  rw [fX1_sideOf]
  exact wX1_sideOf_0 C v0 v2 (lv_sub hl [0, 1] rfl)
