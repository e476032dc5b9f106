set_option maxHeartbeats 4000000 in
set_option maxRecDepth 100000 in
theorem wX0_topOfProduct_0 {p : Program} {l : Launch} {e : Env} {s : State} {m : MethodId} {args : Array Value} {below : List Frame} {meth : Method} {c : Code} (C : px_C p s m args meth c cX0_topOfProduct 22 (some .long) RX0 wsX0_topOfProduct) (v0 : Int64) (v2 : Int64) {ls : Array Slot} (hl : lv_has ls 22 [(0, .long v0), (2, .long v2)]) : W p l e { frames := 1, cells := 0, slots := 0, locals := 24 } s m args below meth c s.heap [] 0 0 (MQ below (px_Q (.long (fX0_topOfProduct_0 v0 v2))) args s 0 0 (fun _ => False)) (F0 m 0 ls []) := by
  obtain ⟨hx, hb, hml, hown, hts, hr, hlocks⟩ := id C
  rw [fX0_topOfProduct_0]
  refine lv_ldc2 hx hb hown (hts (.constantLong RX0 104 (134217727)) (by decide +kernel)) dX0_topOfProduct_0 ?_
  refine lv_lstore (lv' := [(4, .long (134217727 : Int64)), (0, .long v0), (2, .long v2)]) hx hb dX0_topOfProduct_3 hl (by decide) rfl (fun ls hl => ?_)
  refine lv_lload_n hx hb dX0_topOfProduct_5 rfl (lv_at hl 1 rfl) ?_
  refine lv_bipush (v := 27) hx hb dX0_topOfProduct_6 (by decide) ?_
  refine px_lushr hx hb dX0_topOfProduct_8 ?_
  refine lv_topl (fun v6_9 ev6_9 => ?_)
  rw [← ev6_9]
  refine lv_lstore (lv' := [(6, .long v6_9), (4, .long (134217727 : Int64)), (0, .long v0), (2, .long v2)]) hx hb dX0_topOfProduct_9 hl (by decide) rfl (fun ls hl => ?_)
  rw [fX0_topOfProduct_11]
  refine lv_lload_n hx hb dX0_topOfProduct_11 rfl (lv_at hl 2 rfl) ?_
  refine lv_lload hx hb dX0_topOfProduct_12 (lv_at hl 1 rfl) ?_
  refine lv_land hx hb dX0_topOfProduct_14 ?_
  refine lv_topl (fun v8_15 ev8_15 => ?_)
  rw [← ev8_15]
  refine lv_lstore (lv' := [(8, .long v8_15), (6, .long v6_9), (4, .long (134217727 : Int64)), (0, .long v0), (2, .long v2)]) hx hb dX0_topOfProduct_15 hl (by decide) rfl (fun ls hl => ?_)
  rw [fX0_topOfProduct_17]
  refine lv_lload_n hx hb dX0_topOfProduct_17 rfl (lv_at hl 4 rfl) ?_
  refine lv_bipush (v := 27) hx hb dX0_topOfProduct_18 (by decide) ?_
  refine px_lushr hx hb dX0_topOfProduct_20 ?_
  refine lv_topl (fun v10_21 ev10_21 => ?_)
  rw [← ev10_21]
  refine lv_lstore (lv' := [(10, .long v10_21), (8, .long v8_15), (6, .long v6_9), (4, .long (134217727 : Int64)), (0, .long v0), (2, .long v2)]) hx hb dX0_topOfProduct_21 hl (by decide) rfl (fun ls hl => ?_)
  rw [fX0_topOfProduct_23]
  refine lv_lload_n hx hb dX0_topOfProduct_23 rfl (lv_at hl 5 rfl) ?_
  refine lv_lload hx hb dX0_topOfProduct_24 (lv_at hl 3 rfl) ?_
  refine lv_land hx hb dX0_topOfProduct_26 ?_
  refine lv_topl (fun v12_27 ev12_27 => ?_)
  rw [← ev12_27]
  refine lv_lstore (lv' := [(12, .long v12_27), (10, .long v10_21), (8, .long v8_15), (6, .long v6_9), (4, .long (134217727 : Int64)), (0, .long v0), (2, .long v2)]) hx hb dX0_topOfProduct_27 hl (by decide) rfl (fun ls hl => ?_)
  rw [fX0_topOfProduct_29]
  refine lv_lload hx hb dX0_topOfProduct_29 (lv_at hl 2 rfl) ?_
  refine lv_lload hx hb dX0_topOfProduct_31 (lv_at hl 0 rfl) ?_
  refine lv_lmul hx hb dX0_topOfProduct_33 ?_
  refine lv_topl (fun v14_34 ev14_34 => ?_)
  rw [← ev14_34]
  refine lv_lstore (lv' := [(14, .long v14_34), (12, .long v12_27), (10, .long v10_21), (8, .long v8_15), (6, .long v6_9), (4, .long (134217727 : Int64)), (0, .long v0), (2, .long v2)]) hx hb dX0_topOfProduct_34 hl (by decide) rfl (fun ls hl => ?_)
  rw [fX0_topOfProduct_36]
  refine lv_lload hx hb dX0_topOfProduct_36 (lv_at hl 4 rfl) ?_
  refine lv_lload hx hb dX0_topOfProduct_38 (lv_at hl 1 rfl) ?_
  refine lv_lmul hx hb dX0_topOfProduct_40 ?_
  refine lv_lload hx hb dX0_topOfProduct_41 (lv_at hl 3 rfl) ?_
  refine lv_lload hx hb dX0_topOfProduct_43 (lv_at hl 2 rfl) ?_
  refine lv_lmul hx hb dX0_topOfProduct_45 ?_
  refine lv_ladd hx hb dX0_topOfProduct_46 ?_
  refine lv_lload hx hb dX0_topOfProduct_47 (lv_at hl 0 rfl) ?_
  refine lv_bipush (v := 27) hx hb dX0_topOfProduct_49 (by decide) ?_
  refine px_lushr hx hb dX0_topOfProduct_51 ?_
  refine lv_ladd hx hb dX0_topOfProduct_52 ?_
  refine lv_topl (fun v16_53 ev16_53 => ?_)
  rw [← ev16_53]
  refine lv_lstore (lv' := [(16, .long v16_53), (14, .long v14_34), (12, .long v12_27), (10, .long v10_21), (8, .long v8_15), (6, .long v6_9), (4, .long (134217727 : Int64)), (0, .long v0), (2, .long v2)]) hx hb dX0_topOfProduct_53 hl (by decide) rfl (fun ls hl => ?_)
  rw [fX0_topOfProduct_55]
  refine lv_lload hx hb dX0_topOfProduct_55 (lv_at hl 5 rfl) ?_
  refine lv_lload hx hb dX0_topOfProduct_57 (lv_at hl 3 rfl) ?_
  refine lv_lmul hx hb dX0_topOfProduct_59 ?_
  refine lv_lload hx hb dX0_topOfProduct_60 (lv_at hl 0 rfl) ?_
  refine lv_bipush (v := 27) hx hb dX0_topOfProduct_62 (by decide) ?_
  refine px_lushr hx hb dX0_topOfProduct_64 ?_
  refine lv_ladd hx hb dX0_topOfProduct_65 ?_
  refine lv_topl (fun v18_66 ev18_66 => ?_)
  rw [← ev18_66]
  refine lv_lstore (lv' := [(18, .long v18_66), (16, .long v16_53), (14, .long v14_34), (12, .long v12_27), (10, .long v10_21), (8, .long v8_15), (6, .long v6_9), (4, .long (134217727 : Int64)), (0, .long v0), (2, .long v2)]) hx hb dX0_topOfProduct_66 hl (by decide) rfl (fun ls hl => ?_)
  rw [fX0_topOfProduct_68]
  refine lv_lload hx hb dX0_topOfProduct_68 (lv_at hl 1 rfl) ?_
  refine lv_lload hx hb dX0_topOfProduct_70 (lv_at hl 7 rfl) ?_
  refine lv_land hx hb dX0_topOfProduct_72 ?_
  refine lv_bipush (v := 27) hx hb dX0_topOfProduct_73 (by decide) ?_
  refine px_lshl hx hb dX0_topOfProduct_75 ?_
  refine lv_lload hx hb dX0_topOfProduct_76 (lv_at hl 2 rfl) ?_
  refine lv_lload hx hb dX0_topOfProduct_78 (lv_at hl 7 rfl) ?_
  refine lv_land hx hb dX0_topOfProduct_80 ?_
  refine lv_lor hx hb dX0_topOfProduct_81 ?_
  refine lv_topl (fun v20_82 ev20_82 => ?_)
  rw [← ev20_82]
  refine lv_lstore (lv' := [(20, .long v20_82), (18, .long v18_66), (16, .long v16_53), (14, .long v14_34), (12, .long v12_27), (10, .long v10_21), (8, .long v8_15), (6, .long v6_9), (4, .long (134217727 : Int64)), (0, .long v0), (2, .long v2)]) hx hb dX0_topOfProduct_82 hl (by decide) rfl (fun ls hl => ?_)
  rw [fX0_topOfProduct_84]
  refine lv_lload hx hb dX0_topOfProduct_84 (lv_at hl 1 rfl) ?_
  refine lv_bipush (v := 10) hx hb dX0_topOfProduct_86 (by decide) ?_
  refine px_lshl hx hb dX0_topOfProduct_88 ?_
  refine lv_lload hx hb dX0_topOfProduct_89 (lv_at hl 0 rfl) ?_
  refine lv_bipush (v := 44) hx hb dX0_topOfProduct_91 (by decide) ?_
  refine px_S (As := [.long v20_82, .int (44 : Int32)]) (rest := [.long (jshl v18_66 (10 : Int32))]) ⟨hx, hb, hml, hown, hts⟩ (kX0_movedDown l v20_82 (44 : Int32)) (va_cwS 2 hts gX0_topOfProduct_X0_movedDown rfl rfl rfl (by decide +kernel) ⟨Nat.le_of_ble_eq_true rfl, Nat.le_of_ble_eq_true rfl⟩) rfl hl.1 rfl (Nat.le_of_ble_eq_true rfl) dX0_topOfProduct_93 (Nat.zero_le _) (Nat.zero_le _) ?_
  refine lv_lor hx hb dX0_topOfProduct_96 ?_
  exact W.lret hx hb hr (fun t ht _ => ⟨rfl, ht⟩) (fun q h => by cases h) dX0_topOfProduct_97
set_option maxHeartbeats 4000000 in
set_option maxRecDepth 100000 in
theorem kX0_topOfProduct (l : Launch) (v0 : Int64) (v2 : Int64) : px_M l yX0_topOfProduct wsX0_topOfProduct ({ frames := 1, cells := 0, slots := 0, locals := 24 }) [.long v0, .long v2] (.long (fX0_topOfProduct v0 v2)) := by
  refine Met.ofW (cc := cX0_topOfProduct) (maxL := 22) (ret := (some .long)) (by decide) rfl ?_
  intro p e s m args below meth c s₁ B hml hv
  cases hv
  have C : px_C p s m _ meth c cX0_topOfProduct 22 (some .long) RX0 wsX0_topOfProduct := ⟨B.exec, B.bytes, hml, findClass_of_methodNamed B.named, atoms_spec (ws := wsX0_topOfProduct) B.pre, B.returns, B.notSynchronized⟩
  have hl := lv_entry ([.long v0, .long v2]) (n := 22) (Nat.le_of_ble_eq_true rfl)
  rw [lg_entry_eq]
  generalize (lg_sl ([.long v0, .long v2]) ++ List.replicate (22 - (lg_sl ([.long v0, .long v2])).length) Slot.unset).toArray = ls at hl ⊢
  have hl : lv_has ls 22 [(0, .long v0), (2, .long v2)] := hl
  rw [fX0_topOfProduct]
  exact wX0_topOfProduct_0 C v0 v2 (lv_sub hl [0, 1] rfl)
set_option maxHeartbeats 4000000 in
set_option maxRecDepth 100000 in
theorem wX0_product_57 {p : Program} {l : Launch} {e : Env} {s : State} {m : MethodId} {args : Array Value} {below : List Frame} {meth : Method} {c : Code} (C : px_C p s m args meth c cX0_product 11 (some .long) RX0 wsX0_product) (v0 : Int32) (v5 : Int32) (s0 : Int32) {ls : Array Slot} (hl : lv_has ls 11 [(0, .int v0), (5, .int v5)]) : W p l e { frames := 3, cells := 0, slots := 0, locals := 72 } s m args below meth c s.heap [] 0 0 (MQ below (px_Q (.long (fX0_product_57 v0 v5 s0))) args s 0 0 (fun _ => False)) (F0 m 57 ls [.int s0]) := by
  obtain ⟨hx, hb, hml, hown, hts, hr, hlocks⟩ := id C
  rw [fX0_product_57]
  refine lv_istore (lv' := [(6, .int s0), (0, .int v0), (5, .int v5)]) hx hb dX0_product_57 hl (by decide) rfl (fun ls hl => ?_)
  refine lv_iload hx hb dX0_product_59 (lv_at hl 0 rfl) ?_
  refine px_if_eq (tgt := 71) hx hb dX0_product_61 (by decide) (fun hc61 => ?_) (fun hc61 => ?_)
  · rw [if_pos hc61]
    refine lv_iload_n hx hb dX0_product_71 rfl (lv_at hl 1 rfl) ?_
    refine lv_iload hx hb dX0_product_72 (lv_at hl 2 rfl) ?_
    refine lv_iload_n hx hb dX0_product_74 rfl (lv_at hl 1 rfl) ?_
    refine px_S (As := [.int v0]) (rest := [.int v5, .int v0]) ⟨hx, hb, hml, hown, hts⟩ (kX0_infinity l v0) (va_cwS 1 hts gX0_product_X0_infinity rfl rfl rfl (by decide +kernel) ⟨Nat.le_of_ble_eq_true rfl, Nat.le_of_ble_eq_true rfl⟩) rfl hl.1 rfl (Nat.le_of_ble_eq_true rfl) dX0_product_75 (Nat.zero_le _) (Nat.zero_le _) ?_
    refine px_S (As := [.int v0, .int v5, .long (fX0_infinity v0)]) (rest := []) ⟨hx, hb, hml, hown, hts⟩ (kX0_signed l v0 v5 (fX0_infinity v0)) (va_cwS 3 hts gX0_product_X0_signed rfl rfl rfl (by decide +kernel) ⟨Nat.le_of_ble_eq_true rfl, Nat.le_of_ble_eq_true rfl⟩) rfl hl.1 rfl (Nat.le_of_ble_eq_true rfl) dX0_product_78 (Nat.zero_le _) (Nat.zero_le _) ?_
    exact W.lret hx hb hr (fun t ht _ => ⟨rfl, ht⟩) (fun q h => by cases h) dX0_product_81
  · rw [if_neg hc61]
    refine lv_iload_n hx hb dX0_product_64 rfl (lv_at hl 1 rfl) ?_
    refine px_S (As := [.int v0]) (rest := []) ⟨hx, hb, hml, hown, hts⟩ (kX0_notANumber l v0) (va_cwS 1 hts gX0_product_X0_notANumber rfl rfl rfl (by decide +kernel) ⟨Nat.le_of_ble_eq_true rfl, Nat.le_of_ble_eq_true rfl⟩) rfl hl.1 rfl (Nat.le_of_ble_eq_true rfl) dX0_product_65 (Nat.zero_le _) (Nat.zero_le _) ?_
    refine lv_goto (tgt := 81) hx hb dX0_product_68 (by decide) ?_
    exact W.lret hx hb hr (fun t ht _ => ⟨rfl, ht⟩) (fun q h => by cases h) dX0_product_81
set_option maxHeartbeats 4000000 in
set_option maxRecDepth 100000 in
theorem wX0_product_52 {p : Program} {l : Launch} {e : Env} {s : State} {m : MethodId} {args : Array Value} {below : List Frame} {meth : Method} {c : Code} (C : px_C p s m args meth c cX0_product 11 (some .long) RX0 wsX0_product) (v0 : Int32) (v5 : Int32) {ls : Array Slot} (hl : lv_has ls 11 [(0, .int v0), (5, .int v5)]) : W p l e { frames := 3, cells := 0, slots := 0, locals := 72 } s m args below meth c s.heap [] 0 0 (MQ below (px_Q (.long (fX0_product_52 v0 v5))) args s 0 0 (fun _ => False)) (F0 m 52 ls []) := by
  obtain ⟨hx, hb, hml, hown, hts, hr, hlocks⟩ := id C
  rw [fX0_product_52]
  refine lv_iconst (v := 1) hx hb dX0_product_52 (by decide) ?_
  refine lv_goto (tgt := 57) hx hb dX0_product_53 (by decide) ?_
  exact wX0_product_57 C v0 v5 (1 : Int32) (lv_sub hl [0, 1] rfl)
set_option maxHeartbeats 4000000 in
set_option maxRecDepth 100000 in
theorem wX0_product_36 {p : Program} {l : Launch} {e : Env} {s : State} {m : MethodId} {args : Array Value} {below : List Frame} {meth : Method} {c : Code} (C : px_C p s m args meth c cX0_product 11 (some .long) RX0 wsX0_product) (v0 : Int32) (v1 : Int64) (v3 : Int64) (v5 : Int32) {ls : Array Slot} (hl : lv_has ls 11 [(0, .int v0), (1, .long v1), (3, .long v3), (5, .int v5)]) : W p l e { frames := 3, cells := 0, slots := 0, locals := 72 } s m args below meth c s.heap [] 0 0 (MQ below (px_Q (.long (fX0_product_36 v0 v1 v3 v5))) args s 0 0 (fun _ => False)) (F0 m 36 ls []) := by
  obtain ⟨hx, hb, hml, hown, hts, hr, hlocks⟩ := id C
  rw [fX0_product_36]
  refine lv_iload_n hx hb dX0_product_36 rfl (lv_at hl 0 rfl) ?_
  refine lv_lload_n hx hb dX0_product_37 rfl (lv_at hl 1 rfl) ?_
  refine px_S (As := [.int v0, .long v1]) (rest := []) ⟨hx, hb, hml, hown, hts⟩ (kX0_isZero l v0 v1) (va_cwS 2 hts gX0_product_X0_isZero rfl rfl rfl (by decide +kernel) ⟨Nat.le_of_ble_eq_true rfl, Nat.le_of_ble_eq_true rfl⟩) rfl hl.1 rfl (Nat.le_of_ble_eq_true rfl) dX0_product_38 (Nat.zero_le _) (Nat.zero_le _) ?_
  refine px_if_ne (tgt := 52) hx hb dX0_product_41 (by decide) (fun hc41 => ?_) (fun hc41 => ?_)
  · rw [if_pos hc41]
    refine lv_iload_n hx hb dX0_product_44 rfl (lv_at hl 0 rfl) ?_
    refine lv_lload_n hx hb dX0_product_45 rfl (lv_at hl 2 rfl) ?_
    refine px_S (As := [.int v0, .long v3]) (rest := []) ⟨hx, hb, hml, hown, hts⟩ (kX0_isZero l v0 v3) (va_cwS 2 hts gX0_product_X0_isZero rfl rfl rfl (by decide +kernel) ⟨Nat.le_of_ble_eq_true rfl, Nat.le_of_ble_eq_true rfl⟩) rfl hl.1 rfl (Nat.le_of_ble_eq_true rfl) dX0_product_46 (Nat.zero_le _) (Nat.zero_le _) ?_
    refine px_if_eq (tgt := 56) hx hb dX0_product_49 (by decide) (fun hc49 => ?_) (fun hc49 => ?_)
    · rw [if_pos hc49]
      refine lv_iconst (v := 0) hx hb dX0_product_56 (by decide) ?_
      exact wX0_product_57 C v0 v5 (0 : Int32) (lv_sub hl [0, 3] rfl)
    · rw [if_neg hc49]
      exact wX0_product_52 C v0 v5 (lv_sub hl [0, 3] rfl)
  · rw [if_neg hc41]
    exact wX0_product_52 C v0 v5 (lv_sub hl [0, 3] rfl)
set_option maxHeartbeats 4000000 in
set_option maxRecDepth 100000 in
theorem wX0_product_18 {p : Program} {l : Launch} {e : Env} {s : State} {m : MethodId} {args : Array Value} {below : List Frame} {meth : Method} {c : Code} (C : px_C p s m args meth c cX0_product 11 (some .long) RX0 wsX0_product) (v0 : Int32) (v1 : Int64) (v3 : Int64) (s0 : Int32) {ls : Array Slot} (hl : lv_has ls 11 [(0, .int v0), (1, .long v1), (3, .long v3)]) : W p l e { frames := 3, cells := 0, slots := 0, locals := 72 } s m args below meth c s.heap [] 0 0 (MQ below (px_Q (.long (fX0_product_18 v0 v1 v3 s0))) args s 0 0 (fun _ => False)) (F0 m 18 ls [.int s0]) := by
  obtain ⟨hx, hb, hml, hown, hts, hr, hlocks⟩ := id C
  rw [fX0_product_18]
  refine lv_istore (lv' := [(5, .int s0), (0, .int v0), (1, .long v1), (3, .long v3)]) hx hb dX0_product_18 hl (by decide) rfl (fun ls hl => ?_)
  refine lv_iload_n hx hb dX0_product_20 rfl (lv_at hl 1 rfl) ?_
  refine lv_lload_n hx hb dX0_product_21 rfl (lv_at hl 2 rfl) ?_
  refine px_S (As := [.int v0, .long v1]) (rest := []) ⟨hx, hb, hml, hown, hts⟩ (kX0_isInfinite l v0 v1) (va_cwS 2 hts gX0_product_X0_isInfinite rfl rfl rfl (by decide +kernel) ⟨Nat.le_of_ble_eq_true rfl, Nat.le_of_ble_eq_true rfl⟩) rfl hl.1 rfl (Nat.le_of_ble_eq_true rfl) dX0_product_22 (Nat.zero_le _) (Nat.zero_le _) ?_
  refine px_if_ne (tgt := 36) hx hb dX0_product_25 (by decide) (fun hc25 => ?_) (fun hc25 => ?_)
  · rw [if_pos hc25]
    refine lv_iload_n hx hb dX0_product_28 rfl (lv_at hl 1 rfl) ?_
    refine lv_lload_n hx hb dX0_product_29 rfl (lv_at hl 3 rfl) ?_
    refine px_S (As := [.int v0, .long v3]) (rest := []) ⟨hx, hb, hml, hown, hts⟩ (kX0_isInfinite l v0 v3) (va_cwS 2 hts gX0_product_X0_isInfinite rfl rfl rfl (by decide +kernel) ⟨Nat.le_of_ble_eq_true rfl, Nat.le_of_ble_eq_true rfl⟩) rfl hl.1 rfl (Nat.le_of_ble_eq_true rfl) dX0_product_30 (Nat.zero_le _) (Nat.zero_le _) ?_
    refine px_if_eq (tgt := 82) hx hb dX0_product_33 (by decide) (fun hc33 => ?_) (fun hc33 => ?_)
    · rw [if_pos hc33]
      refine lv_bipush (v := 52) hx hb dX0_product_82 (by decide) ?_
      refine lv_iload_n hx hb dX0_product_84 rfl (lv_at hl 1 rfl) ?_
      refine lv_lload_n hx hb dX0_product_85 rfl (lv_at hl 2 rfl) ?_
      refine px_S (As := [.int v0, .long v1]) (rest := [.int (52 : Int32)]) ⟨hx, hb, hml, hown, hts⟩ (kX0_magnitude l v0 v1) (va_cwS 2 hts gX0_product_X0_magnitude rfl rfl rfl (by decide +kernel) ⟨Nat.le_of_ble_eq_true rfl, Nat.le_of_ble_eq_true rfl⟩) rfl hl.1 rfl (Nat.le_of_ble_eq_true rfl) dX0_product_86 (Nat.zero_le _) (Nat.zero_le _) ?_
      refine px_S (As := [.int (52 : Int32), .long (fX0_magnitude v0 v1)]) (rest := []) ⟨hx, hb, hml, hown, hts⟩ (kX0_roomBelow l (52 : Int32) (fX0_magnitude v0 v1) (okX0_roomBelow_all (52 : Int32) (fX0_magnitude v0 v1))) (va_cwS 2 hts gX0_product_X0_roomBelow rfl rfl rfl (by decide +kernel) ⟨Nat.le_of_ble_eq_true rfl, Nat.le_of_ble_eq_true rfl⟩) rfl hl.1 rfl (Nat.le_of_ble_eq_true rfl) dX0_product_89 (Nat.zero_le _) (Nat.zero_le _) ?_
      refine lv_topi (fun v6_92 ev6_92 => ?_)
      rw [← ev6_92]
      refine lv_istore (lv' := [(6, .int v6_92), (5, .int s0), (0, .int v0), (1, .long v1), (3, .long v3)]) hx hb dX0_product_92 hl (by decide) rfl (fun ls hl => ?_)
      rw [fX0_product_94]
      refine lv_bipush (v := 52) hx hb dX0_product_94 (by decide) ?_
      refine lv_iload_n hx hb dX0_product_96 rfl (lv_at hl 2 rfl) ?_
      refine lv_lload_n hx hb dX0_product_97 rfl (lv_at hl 4 rfl) ?_
      refine px_S (As := [.int v0, .long v3]) (rest := [.int (52 : Int32)]) ⟨hx, hb, hml, hown, hts⟩ (kX0_magnitude l v0 v3) (va_cwS 2 hts gX0_product_X0_magnitude rfl rfl rfl (by decide +kernel) ⟨Nat.le_of_ble_eq_true rfl, Nat.le_of_ble_eq_true rfl⟩) rfl hl.1 rfl (Nat.le_of_ble_eq_true rfl) dX0_product_98 (Nat.zero_le _) (Nat.zero_le _) ?_
      refine px_S (As := [.int (52 : Int32), .long (fX0_magnitude v0 v3)]) (rest := []) ⟨hx, hb, hml, hown, hts⟩ (kX0_roomBelow l (52 : Int32) (fX0_magnitude v0 v3) (okX0_roomBelow_all (52 : Int32) (fX0_magnitude v0 v3))) (va_cwS 2 hts gX0_product_X0_roomBelow rfl rfl rfl (by decide +kernel) ⟨Nat.le_of_ble_eq_true rfl, Nat.le_of_ble_eq_true rfl⟩) rfl hl.1 rfl (Nat.le_of_ble_eq_true rfl) dX0_product_101 (Nat.zero_le _) (Nat.zero_le _) ?_
      refine lv_topi (fun v7_104 ev7_104 => ?_)
      rw [← ev7_104]
      refine lv_istore (lv' := [(7, .int v7_104), (6, .int v6_92), (5, .int s0), (0, .int v0), (1, .long v1), (3, .long v3)]) hx hb dX0_product_104 hl (by decide) rfl (fun ls hl => ?_)
      rw [fX0_product_106]
      refine lv_iload_n hx hb dX0_product_106 rfl (lv_at hl 3 rfl) ?_
      refine lv_lload_n hx hb dX0_product_107 rfl (lv_at hl 4 rfl) ?_
      refine px_S (As := [.int v0, .long v1]) (rest := []) ⟨hx, hb, hml, hown, hts⟩ (kX0_magnitude l v0 v1) (va_cwS 2 hts gX0_product_X0_magnitude rfl rfl rfl (by decide +kernel) ⟨Nat.le_of_ble_eq_true rfl, Nat.le_of_ble_eq_true rfl⟩) rfl hl.1 rfl (Nat.le_of_ble_eq_true rfl) dX0_product_108 (Nat.zero_le _) (Nat.zero_le _) ?_
      refine lv_iload hx hb dX0_product_111 (lv_at hl 1 rfl) ?_
      refine px_lshl hx hb dX0_product_113 ?_
      refine lv_iload_n hx hb dX0_product_114 rfl (lv_at hl 3 rfl) ?_
      refine lv_lload_n hx hb dX0_product_115 rfl (lv_at hl 5 rfl) ?_
      refine px_S (As := [.int v0, .long v3]) (rest := [.long (jshl (fX0_magnitude v0 v1) v6_92)]) ⟨hx, hb, hml, hown, hts⟩ (kX0_magnitude l v0 v3) (va_cwS 2 hts gX0_product_X0_magnitude rfl rfl rfl (by decide +kernel) ⟨Nat.le_of_ble_eq_true rfl, Nat.le_of_ble_eq_true rfl⟩) rfl hl.1 rfl (Nat.le_of_ble_eq_true rfl) dX0_product_116 (Nat.zero_le _) (Nat.zero_le _) ?_
      refine lv_iload hx hb dX0_product_119 (lv_at hl 0 rfl) ?_
      refine px_lshl hx hb dX0_product_121 ?_
      refine px_S (As := [.long (jshl (fX0_magnitude v0 v1) v6_92), .long (jshl (fX0_magnitude v0 v3) v7_104)]) (rest := []) ⟨hx, hb, hml, hown, hts⟩ (kX0_topOfProduct l (jshl (fX0_magnitude v0 v1) v6_92) (jshl (fX0_magnitude v0 v3) v7_104)) (va_cwS 2 hts gX0_product_X0_topOfProduct rfl rfl rfl (by decide +kernel) ⟨Nat.le_of_ble_eq_true rfl, Nat.le_of_ble_eq_true rfl⟩) rfl hl.1 rfl (Nat.le_of_ble_eq_true rfl) dX0_product_122 (Nat.zero_le _) (Nat.zero_le _) ?_
      refine lv_topl (fun v8_125 ev8_125 => ?_)
      rw [← ev8_125]
      refine lv_lstore (lv' := [(8, .long v8_125), (7, .int v7_104), (6, .int v6_92), (5, .int s0), (0, .int v0), (1, .long v1), (3, .long v3)]) hx hb dX0_product_125 hl (by decide) rfl (fun ls hl => ?_)
      rw [fX0_product_127]
      refine lv_iload_n hx hb dX0_product_127 rfl (lv_at hl 4 rfl) ?_
      refine lv_lload_n hx hb dX0_product_128 rfl (lv_at hl 5 rfl) ?_
      refine px_S (As := [.int v0, .long v1]) (rest := []) ⟨hx, hb, hml, hown, hts⟩ (kX0_exponent l v0 v1) (va_cwS 2 hts gX0_product_X0_exponent rfl rfl rfl (by decide +kernel) ⟨Nat.le_of_ble_eq_true rfl, Nat.le_of_ble_eq_true rfl⟩) rfl hl.1 rfl (Nat.le_of_ble_eq_true rfl) dX0_product_129 (Nat.zero_le _) (Nat.zero_le _) ?_
      refine lv_iload hx hb dX0_product_132 (lv_at hl 2 rfl) ?_
      refine lv_isub hx hb dX0_product_134 ?_
      refine lv_iload_n hx hb dX0_product_135 rfl (lv_at hl 4 rfl) ?_
      refine lv_lload_n hx hb dX0_product_136 rfl (lv_at hl 6 rfl) ?_
      refine px_S (As := [.int v0, .long v3]) (rest := [.int ((fX0_exponent v0 v1) - v6_92)]) ⟨hx, hb, hml, hown, hts⟩ (kX0_exponent l v0 v3) (va_cwS 2 hts gX0_product_X0_exponent rfl rfl rfl (by decide +kernel) ⟨Nat.le_of_ble_eq_true rfl, Nat.le_of_ble_eq_true rfl⟩) rfl hl.1 rfl (Nat.le_of_ble_eq_true rfl) dX0_product_137 (Nat.zero_le _) (Nat.zero_le _) ?_
      refine lv_iadd hx hb dX0_product_140 ?_
      refine lv_iload hx hb dX0_product_141 (lv_at hl 1 rfl) ?_
      refine lv_isub hx hb dX0_product_143 ?_
      refine lv_topi (fun v10_144 ev10_144 => ?_)
      rw [← ev10_144]
      refine lv_istore (lv' := [(10, .int v10_144), (8, .long v8_125), (7, .int v7_104), (6, .int v6_92), (5, .int s0), (0, .int v0), (1, .long v1), (3, .long v3)]) hx hb dX0_product_144 hl (by decide) rfl (fun ls hl => ?_)
      rw [fX0_product_146]
      refine lv_iload_n hx hb dX0_product_146 rfl (lv_at hl 5 rfl) ?_
      refine lv_iload hx hb dX0_product_147 (lv_at hl 4 rfl) ?_
      refine lv_lload hx hb dX0_product_149 (lv_at hl 1 rfl) ?_
      refine lv_iload hx hb dX0_product_151 (lv_at hl 0 rfl) ?_
      refine lv_bipush (v := 54) hx hb dX0_product_153 (by decide) ?_
      refine lv_iadd hx hb dX0_product_155 ?_
      refine lv_bipush (v := 10) hx hb dX0_product_156 (by decide) ?_
      refine lv_isub hx hb dX0_product_158 ?_
      refine px_S (As := [.int v0, .int s0, .long v8_125, .int ((v10_144 + (54 : Int32)) - (10 : Int32))]) (rest := []) ⟨hx, hb, hml, hown, hts⟩ (kX0_nearest l v0 s0 v8_125 ((v10_144 + (54 : Int32)) - (10 : Int32))) (va_cwS 4 hts gX0_product_X0_nearest rfl rfl rfl (by decide +kernel) ⟨Nat.le_of_ble_eq_true rfl, Nat.le_of_ble_eq_true rfl⟩) rfl hl.1 rfl (Nat.le_of_ble_eq_true rfl) dX0_product_159 (Nat.zero_le _) (Nat.zero_le _) ?_
      exact W.lret hx hb hr (fun t ht _ => ⟨rfl, ht⟩) (fun q h => by cases h) dX0_product_162
    · rw [if_neg hc33]
      exact wX0_product_36 C v0 v1 v3 s0 (lv_sub hl [1, 2, 3, 0] rfl)
  · rw [if_neg hc25]
    exact wX0_product_36 C v0 v1 v3 s0 (lv_sub hl [1, 2, 3, 0] rfl)
set_option maxHeartbeats 4000000 in
set_option maxRecDepth 100000 in
theorem wX0_product_0 {p : Program} {l : Launch} {e : Env} {s : State} {m : MethodId} {args : Array Value} {below : List Frame} {meth : Method} {c : Code} (C : px_C p s m args meth c cX0_product 11 (some .long) RX0 wsX0_product) (v0 : Int32) (v1 : Int64) (v3 : Int64) {ls : Array Slot} (hl : lv_has ls 11 [(0, .int v0), (1, .long v1), (3, .long v3)]) : W p l e { frames := 3, cells := 0, slots := 0, locals := 72 } s m args below meth c s.heap [] 0 0 (MQ below (px_Q (.long (fX0_product_0 v0 v1 v3))) args s 0 0 (fun _ => False)) (F0 m 0 ls []) := by
  obtain ⟨hx, hb, hml, hown, hts, hr, hlocks⟩ := id C
  rw [fX0_product_0]
  refine lv_iload_n hx hb dX0_product_0 rfl (lv_at hl 0 rfl) ?_
  refine lv_lload_n hx hb dX0_product_1 rfl (lv_at hl 1 rfl) ?_
  refine px_S (As := [.int v0, .long v1]) (rest := []) ⟨hx, hb, hml, hown, hts⟩ (kX0_isNegative l v0 v1) (va_cwS 2 hts gX0_product_X0_isNegative rfl rfl rfl (by decide +kernel) ⟨Nat.le_of_ble_eq_true rfl, Nat.le_of_ble_eq_true rfl⟩) rfl hl.1 rfl (Nat.le_of_ble_eq_true rfl) dX0_product_2 (Nat.zero_le _) (Nat.zero_le _) ?_
  refine lv_iload_n hx hb dX0_product_5 rfl (lv_at hl 0 rfl) ?_
  refine lv_lload_n hx hb dX0_product_6 rfl (lv_at hl 2 rfl) ?_
  refine px_S (As := [.int v0, .long v3]) (rest := [.int (fX0_isNegative v0 v1)]) ⟨hx, hb, hml, hown, hts⟩ (kX0_isNegative l v0 v3) (va_cwS 2 hts gX0_product_X0_isNegative rfl rfl rfl (by decide +kernel) ⟨Nat.le_of_ble_eq_true rfl, Nat.le_of_ble_eq_true rfl⟩) rfl hl.1 rfl (Nat.le_of_ble_eq_true rfl) dX0_product_7 (Nat.zero_le _) (Nat.zero_le _) ?_
  refine px_icmp_eq (tgt := 17) hx hb dX0_product_10 (by decide) (fun hc10 => ?_) (fun hc10 => ?_)
  · rw [if_pos hc10]
    refine lv_iconst (v := 0) hx hb dX0_product_17 (by decide) ?_
    exact wX0_product_18 C v0 v1 v3 (0 : Int32) (lv_sub hl [0, 1, 2] rfl)
  · rw [if_neg hc10]
    refine lv_iconst (v := 1) hx hb dX0_product_13 (by decide) ?_
    refine lv_goto (tgt := 18) hx hb dX0_product_14 (by decide) ?_
    exact wX0_product_18 C v0 v1 v3 (1 : Int32) (lv_sub hl [0, 1, 2] rfl)
set_option maxHeartbeats 4000000 in
set_option maxRecDepth 100000 in
theorem kX0_product (l : Launch) (v0 : Int32) (v1 : Int64) (v3 : Int64) : px_M l yX0_product wsX0_product ({ frames := 3, cells := 0, slots := 0, locals := 72 }) [.int v0, .long v1, .long v3] (.long (fX0_product v0 v1 v3)) := by
  refine Met.ofW (cc := cX0_product) (maxL := 11) (ret := (some .long)) (by decide) rfl ?_
  intro p e s m args below meth c s₁ B hml hv
  cases hv
  have C : px_C p s m _ meth c cX0_product 11 (some .long) RX0 wsX0_product := ⟨B.exec, B.bytes, hml, findClass_of_methodNamed B.named, atoms_spec (ws := wsX0_product) B.pre, B.returns, B.notSynchronized⟩
  have hl := lv_entry ([.int v0, .long v1, .long v3]) (n := 11) (Nat.le_of_ble_eq_true rfl)
  rw [lg_entry_eq]
  generalize (lg_sl ([.int v0, .long v1, .long v3]) ++ List.replicate (11 - (lg_sl ([.int v0, .long v1, .long v3])).length) Slot.unset).toArray = ls at hl ⊢
  have hl : lv_has ls 11 [(0, .int v0), (1, .long v1), (3, .long v3)] := hl
  rw [fX0_product]
  exact wX0_product_0 C v0 v1 v3 (lv_sub hl [0, 1, 2] rfl)
set_option maxHeartbeats 4000000 in
set_option maxRecDepth 100000 in
theorem wX0_topOfQuotient_59 {p : Program} {l : Launch} {e : Env} {s : State} {m : MethodId} {args : Array Value} {below : List Frame} {meth : Method} {c : Code} (C : px_C p s m args meth c cX0_topOfQuotient 9 (some .long) RX0 wsX0_topOfQuotient) (v4 : Int64) (v6 : Int64) {ls : Array Slot} (hl : lv_has ls 9 [(4, .long v4), (6, .long v6)]) : W p l e { frames := 0, cells := 0, slots := 0, locals := 0 } s m args below meth c s.heap [] 0 0 (MQ below (px_Q (.long (fX0_topOfQuotient_59 v4 v6))) args s 0 0 (fun _ => False)) (F0 m 59 ls []) := by
  obtain ⟨hx, hb, hml, hown, hts, hr, hlocks⟩ := id C
  rw [fX0_topOfQuotient_59]
  refine lv_lload hx hb dX0_topOfQuotient_59 (lv_at hl 1 rfl) ?_
  refine lv_lconst (v := 0) hx hb dX0_topOfQuotient_61 (by decide) ?_
  refine px_lcmp_ne (tgt := 71) hx hb dX0_topOfQuotient_62 dX0_topOfQuotient_63 (by decide) (fun hc62 => ?_) (fun hc62 => ?_)
  · rw [if_pos hc62]
    refine lv_lload hx hb dX0_topOfQuotient_66 (lv_at hl 0 rfl) ?_
    refine lv_goto (tgt := 75) hx hb dX0_topOfQuotient_68 (by decide) ?_
    exact W.lret hx hb hr (fun t ht _ => ⟨rfl, ht⟩) (fun q h => by cases h) dX0_topOfQuotient_75
  · rw [if_neg hc62]
    refine lv_lload hx hb dX0_topOfQuotient_71 (lv_at hl 0 rfl) ?_
    refine lv_lconst (v := 1) hx hb dX0_topOfQuotient_73 (by decide) ?_
    refine lv_lor hx hb dX0_topOfQuotient_74 ?_
    exact W.lret hx hb hr (fun t ht _ => ⟨rfl, ht⟩) (fun q h => by cases h) dX0_topOfQuotient_75
set_option maxHeartbeats 4000000 in
set_option maxRecDepth 100000 in
theorem wX0_topOfQuotient_21 {p : Program} {l : Launch} {e : Env} {s : State} {m : MethodId} {args : Array Value} {below : List Frame} {meth : Method} {c : Code} (C : px_C p s m args meth c cX0_topOfQuotient 9 (some .long) RX0 wsX0_topOfQuotient) : ∀ (n : Nat) (v2 : Int64) (v4 : Int64) (v6 : Int64) (v8 : Int32) (hok : okX0_topOfQuotient_21 n v2 v4 v6 v8) (ls : Array Slot) (hl : lv_has ls 9 [(2, .long v2), (4, .long v4), (6, .long v6), (8, .int v8)]), W p l e { frames := 0, cells := 0, slots := 0, locals := 0 } s m args below meth c s.heap [] 0 0 (MQ below (px_Q (.long (fX0_topOfQuotient_21 n v2 v4 v6 v8))) args s 0 0 (fun _ => False)) (F0 m 21 ls []) := by
  obtain ⟨hx, hb, hml, hown, hts, hr, hlocks⟩ := id C
  intro n
  induction n with
  | zero => intro v2 v4 v6 v8 hok; exact hok.elim
  | succ n ih =>
    intro v2 v4 v6 v8 hok ls hl
    rw [fX0_topOfQuotient_21]
    rw [okX0_topOfQuotient_21] at hok
    refine lv_iload hx hb dX0_topOfQuotient_21 (lv_at hl 3 rfl) ?_
    refine lv_bipush (v := 6) hx hb dX0_topOfQuotient_23 (by decide) ?_
    refine px_icmp_ge (tgt := 59) hx hb dX0_topOfQuotient_25 (by decide) (fun hc25 => ?_) (fun hc25 => ?_)
    · rw [if_pos hc25]
      have hok := hok.1 hc25
      refine lv_lload hx hb dX0_topOfQuotient_28 (lv_at hl 2 rfl) ?_
      refine lv_bipush (v := 10) hx hb dX0_topOfQuotient_30 (by decide) ?_
      refine px_lshl hx hb dX0_topOfQuotient_32 ?_
      refine lv_lstore (lv' := [(6, .long (jshl v6 (10 : Int32))), (2, .long v2), (4, .long v4), (8, .int v8)]) hx hb dX0_topOfQuotient_33 hl (by decide) rfl (fun ls hl => ?_)
      refine lv_lload hx hb dX0_topOfQuotient_35 (lv_at hl 2 rfl) ?_
      refine lv_bipush (v := 10) hx hb dX0_topOfQuotient_37 (by decide) ?_
      refine px_lshl hx hb dX0_topOfQuotient_39 ?_
      refine lv_lload hx hb dX0_topOfQuotient_40 (lv_at hl 0 rfl) ?_
      refine lv_lload_n hx hb dX0_topOfQuotient_42 rfl (lv_at hl 1 rfl) ?_
      obtain ⟨hne, hok⟩ := hok
      refine lv_ldiv hx hb dX0_topOfQuotient_43 hne ?_
      refine lv_ladd hx hb dX0_topOfQuotient_44 ?_
      refine lv_lstore (lv' := [(4, .long ((jshl v4 (10 : Int32)) + ((jshl v6 (10 : Int32)) / v2))), (6, .long (jshl v6 (10 : Int32))), (2, .long v2), (8, .int v8)]) hx hb dX0_topOfQuotient_45 hl (by decide) rfl (fun ls hl => ?_)
      refine lv_lload hx hb dX0_topOfQuotient_47 (lv_at hl 1 rfl) ?_
      refine lv_lload_n hx hb dX0_topOfQuotient_49 rfl (lv_at hl 2 rfl) ?_
      obtain ⟨hne, hok⟩ := hok
      refine px_lrem hx hb dX0_topOfQuotient_50 hne ?_
      refine lv_lstore (lv' := [(6, .long (jrem (jshl v6 (10 : Int32)) v2)), (4, .long ((jshl v4 (10 : Int32)) + ((jshl v6 (10 : Int32)) / v2))), (2, .long v2), (8, .int v8)]) hx hb dX0_topOfQuotient_51 hl (by decide) rfl (fun ls hl => ?_)
      refine lv_iinc (v := (v8 + (1 : Int32))) (lv' := [(8, .int (v8 + (1 : Int32))), (6, .long (jrem (jshl v6 (10 : Int32)) v2)), (4, .long ((jshl v4 (10 : Int32)) + ((jshl v6 (10 : Int32)) / v2))), (2, .long v2)]) hx hb dX0_topOfQuotient_53 hl (k := 3) rfl (congrArg (HAdd.hAdd v8) (by decide : Int32.ofInt (1) = (1 : Int32))) (by decide) rfl (fun ls hl => ?_)
      refine lv_goto (tgt := 21) hx hb dX0_topOfQuotient_56 (by decide) ?_
      exact ih v2 ((jshl v4 (10 : Int32)) + ((jshl v6 (10 : Int32)) / v2)) (jrem (jshl v6 (10 : Int32)) v2) (v8 + (1 : Int32)) hok _ (lv_sub hl [3, 2, 1, 0] rfl)
    · rw [if_neg hc25]
      have hok := hok.2 hc25
      exact wX0_topOfQuotient_59 C v4 v6 (lv_sub hl [1, 2] rfl)
set_option maxHeartbeats 4000000 in
set_option maxRecDepth 100000 in
theorem wX0_topOfQuotient_0 {p : Program} {l : Launch} {e : Env} {s : State} {m : MethodId} {args : Array Value} {below : List Frame} {meth : Method} {c : Code} (C : px_C p s m args meth c cX0_topOfQuotient 9 (some .long) RX0 wsX0_topOfQuotient) (v0 : Int64) (v2 : Int64) (hok : okX0_topOfQuotient_0 v0 v2) {ls : Array Slot} (hl : lv_has ls 9 [(0, .long v0), (2, .long v2)]) : W p l e { frames := 0, cells := 0, slots := 0, locals := 0 } s m args below meth c s.heap [] 0 0 (MQ below (px_Q (.long (fX0_topOfQuotient_0 v0 v2))) args s 0 0 (fun _ => False)) (F0 m 0 ls []) := by
  obtain ⟨hx, hb, hml, hown, hts, hr, hlocks⟩ := id C
  rw [fX0_topOfQuotient_0]
  rw [okX0_topOfQuotient_0] at hok
  refine lv_lload_n hx hb dX0_topOfQuotient_0 rfl (lv_at hl 1 rfl) ?_
  refine lv_lconst (v := 0) hx hb dX0_topOfQuotient_1 (by decide) ?_
  refine px_lcmp_ne (tgt := 8) hx hb dX0_topOfQuotient_2 dX0_topOfQuotient_3 (by decide) (fun hc2 => ?_) (fun hc2 => ?_)
  · rw [if_pos hc2]
    have hok := hok.1 hc2
    refine lv_lconst (v := 0) hx hb dX0_topOfQuotient_6 (by decide) ?_
    exact W.lret hx hb hr (fun t ht _ => ⟨rfl, ht⟩) (fun q h => by cases h) dX0_topOfQuotient_7
  · rw [if_neg hc2]
    have hok := hok.2 hc2
    refine lv_lload_n hx hb dX0_topOfQuotient_8 rfl (lv_at hl 0 rfl) ?_
    refine lv_lload_n hx hb dX0_topOfQuotient_9 rfl (lv_at hl 1 rfl) ?_
    obtain ⟨hne, hok⟩ := hok
    refine lv_ldiv hx hb dX0_topOfQuotient_10 hne ?_
    refine lv_topl (fun v4_11 ev4_11 => ?_)
    rw [← ev4_11]
    rw [← ev4_11] at hok
    refine lv_lstore (lv' := [(4, .long v4_11), (0, .long v0), (2, .long v2)]) hx hb dX0_topOfQuotient_11 hl (by decide) rfl (fun ls hl => ?_)
    rw [fX0_topOfQuotient_13]
    rw [okX0_topOfQuotient_13] at hok
    refine lv_lload_n hx hb dX0_topOfQuotient_13 rfl (lv_at hl 1 rfl) ?_
    refine lv_lload_n hx hb dX0_topOfQuotient_14 rfl (lv_at hl 2 rfl) ?_
    obtain ⟨hne, hok⟩ := hok
    refine px_lrem hx hb dX0_topOfQuotient_15 hne ?_
    refine lv_topl (fun v6_16 ev6_16 => ?_)
    rw [← ev6_16]
    rw [← ev6_16] at hok
    refine lv_lstore (lv' := [(6, .long v6_16), (4, .long v4_11), (0, .long v0), (2, .long v2)]) hx hb dX0_topOfQuotient_16 hl (by decide) rfl (fun ls hl => ?_)
    rw [fX0_topOfQuotient_18]
    rw [okX0_topOfQuotient_18] at hok
    refine lv_iconst (v := 0) hx hb dX0_topOfQuotient_18 (by decide) ?_
    refine lv_istore (lv' := [(8, .int (0 : Int32)), (6, .long v6_16), (4, .long v4_11), (0, .long v0), (2, .long v2)]) hx hb dX0_topOfQuotient_19 hl (by decide) rfl (fun ls hl => ?_)
    exact wX0_topOfQuotient_21 C _ v2 v4_11 v6_16 (0 : Int32) hok _ (lv_sub hl [4, 2, 1, 0] rfl)
set_option maxHeartbeats 4000000 in
set_option maxRecDepth 100000 in
theorem kX0_topOfQuotient (l : Launch) (v0 : Int64) (v2 : Int64) (hok : okX0_topOfQuotient v0 v2) : px_M l yX0_topOfQuotient wsX0_topOfQuotient ({ frames := 0, cells := 0, slots := 0, locals := 0 }) [.long v0, .long v2] (.long (fX0_topOfQuotient v0 v2)) := by
  refine Met.ofW (cc := cX0_topOfQuotient) (maxL := 9) (ret := (some .long)) (by decide) rfl ?_
  intro p e s m args below meth c s₁ B hml hv
  cases hv
  have C : px_C p s m _ meth c cX0_topOfQuotient 9 (some .long) RX0 wsX0_topOfQuotient := ⟨B.exec, B.bytes, hml, findClass_of_methodNamed B.named, atoms_spec (ws := wsX0_topOfQuotient) B.pre, B.returns, B.notSynchronized⟩
  have hl := lv_entry ([.long v0, .long v2]) (n := 9) (Nat.le_of_ble_eq_true rfl)
  rw [lg_entry_eq]
  generalize (lg_sl ([.long v0, .long v2]) ++ List.replicate (9 - (lg_sl ([.long v0, .long v2])).length) Slot.unset).toArray = ls at hl ⊢
  have hl : lv_has ls 9 [(0, .long v0), (2, .long v2)] := hl
  rw [fX0_topOfQuotient]
  rw [okX0_topOfQuotient] at hok
  exact wX0_topOfQuotient_0 C v0 v2 hok (lv_sub hl [0, 1] rfl)
set_option maxHeartbeats 4000000 in
set_option maxRecDepth 100000 in
theorem wX0_quotient_44 {p : Program} {l : Launch} {e : Env} {s : State} {m : MethodId} {args : Array Value} {below : List Frame} {meth : Method} {c : Code} (C : px_C p s m args meth c cX0_quotient 14 (some .long) RX0 wsX0_quotient) (v0 : Int32) {ls : Array Slot} (hl : lv_has ls 14 [(0, .int v0)]) : W p l e { frames := 3, cells := 0, slots := 0, locals := 72 } s m args below meth c s.heap [] 0 0 (MQ below (px_Q (.long (fX0_quotient_44 v0))) args s 0 0 (fun _ => False)) (F0 m 44 ls []) := by
  obtain ⟨hx, hb, hml, hown, hts, hr, hlocks⟩ := id C
  rw [fX0_quotient_44]
  refine lv_iload_n hx hb dX0_quotient_44 rfl (lv_at hl 0 rfl) ?_
  refine px_S (As := [.int v0]) (rest := []) ⟨hx, hb, hml, hown, hts⟩ (kX0_notANumber l v0) (va_cwS 1 hts gX0_quotient_X0_notANumber rfl rfl rfl (by decide +kernel) ⟨Nat.le_of_ble_eq_true rfl, Nat.le_of_ble_eq_true rfl⟩) rfl hl.1 rfl (Nat.le_of_ble_eq_true rfl) dX0_quotient_45 (Nat.zero_le _) (Nat.zero_le _) ?_
  exact W.lret hx hb hr (fun t ht _ => ⟨rfl, ht⟩) (fun q h => by cases h) dX0_quotient_48
set_option maxHeartbeats 4000000 in
set_option maxRecDepth 100000 in
theorem wX0_quotient_85 {p : Program} {l : Launch} {e : Env} {s : State} {m : MethodId} {args : Array Value} {below : List Frame} {meth : Method} {c : Code} (C : px_C p s m args meth c cX0_quotient 14 (some .long) RX0 wsX0_quotient) (v0 : Int32) (v6 : Int32) {ls : Array Slot} (hl : lv_has ls 14 [(0, .int v0), (6, .int v6)]) : W p l e { frames := 3, cells := 0, slots := 0, locals := 72 } s m args below meth c s.heap [] 0 0 (MQ below (px_Q (.long (fX0_quotient_85 v0 v6))) args s 0 0 (fun _ => False)) (F0 m 85 ls []) := by
  obtain ⟨hx, hb, hml, hown, hts, hr, hlocks⟩ := id C
  rw [fX0_quotient_85]
  refine lv_iload_n hx hb dX0_quotient_85 rfl (lv_at hl 0 rfl) ?_
  refine lv_iload hx hb dX0_quotient_86 (lv_at hl 1 rfl) ?_
  refine lv_iload_n hx hb dX0_quotient_88 rfl (lv_at hl 0 rfl) ?_
  refine px_S (As := [.int v0]) (rest := [.int v6, .int v0]) ⟨hx, hb, hml, hown, hts⟩ (kX0_infinity l v0) (va_cwS 1 hts gX0_quotient_X0_infinity rfl rfl rfl (by decide +kernel) ⟨Nat.le_of_ble_eq_true rfl, Nat.le_of_ble_eq_true rfl⟩) rfl hl.1 rfl (Nat.le_of_ble_eq_true rfl) dX0_quotient_89 (Nat.zero_le _) (Nat.zero_le _) ?_
  refine px_S (As := [.int v0, .int v6, .long (fX0_infinity v0)]) (rest := []) ⟨hx, hb, hml, hown, hts⟩ (kX0_signed l v0 v6 (fX0_infinity v0)) (va_cwS 3 hts gX0_quotient_X0_signed rfl rfl rfl (by decide +kernel) ⟨Nat.le_of_ble_eq_true rfl, Nat.le_of_ble_eq_true rfl⟩) rfl hl.1 rfl (Nat.le_of_ble_eq_true rfl) dX0_quotient_92 (Nat.zero_le _) (Nat.zero_le _) ?_
  exact W.lret hx hb hr (fun t ht _ => ⟨rfl, ht⟩) (fun q h => by cases h) dX0_quotient_95
set_option maxHeartbeats 4000000 in
set_option maxRecDepth 100000 in
theorem wX0_quotient_67 {p : Program} {l : Launch} {e : Env} {s : State} {m : MethodId} {args : Array Value} {below : List Frame} {meth : Method} {c : Code} (C : px_C p s m args meth c cX0_quotient 14 (some .long) RX0 wsX0_quotient) (v0 : Int32) (v1 : Int64) (v3 : Int64) (s0 : Int32) {ls : Array Slot} (hl : lv_has ls 14 [(0, .int v0), (1, .long v1), (3, .long v3)]) : W p l e { frames := 3, cells := 0, slots := 0, locals := 72 } s m args below meth c s.heap [] 0 0 (MQ below (px_Q (.long (fX0_quotient_67 v0 v1 v3 s0))) args s 0 0 (fun _ => False)) (F0 m 67 ls [.int s0]) := by
  obtain ⟨hx, hb, hml, hown, hts, hr, hlocks⟩ := id C
  rw [fX0_quotient_67]
  refine lv_istore (lv' := [(6, .int s0), (0, .int v0), (1, .long v1), (3, .long v3)]) hx hb dX0_quotient_67 hl (by decide) rfl (fun ls hl => ?_)
  refine lv_iload_n hx hb dX0_quotient_69 rfl (lv_at hl 1 rfl) ?_
  refine lv_lload_n hx hb dX0_quotient_70 rfl (lv_at hl 2 rfl) ?_
  refine px_S (As := [.int v0, .long v1]) (rest := []) ⟨hx, hb, hml, hown, hts⟩ (kX0_isInfinite l v0 v1) (va_cwS 2 hts gX0_quotient_X0_isInfinite rfl rfl rfl (by decide +kernel) ⟨Nat.le_of_ble_eq_true rfl, Nat.le_of_ble_eq_true rfl⟩) rfl hl.1 rfl (Nat.le_of_ble_eq_true rfl) dX0_quotient_71 (Nat.zero_le _) (Nat.zero_le _) ?_
  refine px_if_ne (tgt := 85) hx hb dX0_quotient_74 (by decide) (fun hc74 => ?_) (fun hc74 => ?_)
  · rw [if_pos hc74]
    refine lv_iload_n hx hb dX0_quotient_77 rfl (lv_at hl 1 rfl) ?_
    refine lv_lload_n hx hb dX0_quotient_78 rfl (lv_at hl 3 rfl) ?_
    refine px_S (As := [.int v0, .long v3]) (rest := []) ⟨hx, hb, hml, hown, hts⟩ (kX0_isZero l v0 v3) (va_cwS 2 hts gX0_quotient_X0_isZero rfl rfl rfl (by decide +kernel) ⟨Nat.le_of_ble_eq_true rfl, Nat.le_of_ble_eq_true rfl⟩) rfl hl.1 rfl (Nat.le_of_ble_eq_true rfl) dX0_quotient_79 (Nat.zero_le _) (Nat.zero_le _) ?_
    refine px_if_eq (tgt := 96) hx hb dX0_quotient_82 (by decide) (fun hc82 => ?_) (fun hc82 => ?_)
    · rw [if_pos hc82]
      refine lv_iload_n hx hb dX0_quotient_96 rfl (lv_at hl 1 rfl) ?_
      refine lv_lload_n hx hb dX0_quotient_97 rfl (lv_at hl 3 rfl) ?_
      refine px_S (As := [.int v0, .long v3]) (rest := []) ⟨hx, hb, hml, hown, hts⟩ (kX0_isInfinite l v0 v3) (va_cwS 2 hts gX0_quotient_X0_isInfinite rfl rfl rfl (by decide +kernel) ⟨Nat.le_of_ble_eq_true rfl, Nat.le_of_ble_eq_true rfl⟩) rfl hl.1 rfl (Nat.le_of_ble_eq_true rfl) dX0_quotient_98 (Nat.zero_le _) (Nat.zero_le _) ?_
      refine px_if_eq (tgt := 112) hx hb dX0_quotient_101 (by decide) (fun hc101 => ?_) (fun hc101 => ?_)
      · rw [if_pos hc101]
        refine lv_bipush (v := 52) hx hb dX0_quotient_112 (by decide) ?_
        refine lv_iload_n hx hb dX0_quotient_114 rfl (lv_at hl 1 rfl) ?_
        refine lv_lload_n hx hb dX0_quotient_115 rfl (lv_at hl 2 rfl) ?_
        refine px_S (As := [.int v0, .long v1]) (rest := [.int (52 : Int32)]) ⟨hx, hb, hml, hown, hts⟩ (kX0_magnitude l v0 v1) (va_cwS 2 hts gX0_quotient_X0_magnitude rfl rfl rfl (by decide +kernel) ⟨Nat.le_of_ble_eq_true rfl, Nat.le_of_ble_eq_true rfl⟩) rfl hl.1 rfl (Nat.le_of_ble_eq_true rfl) dX0_quotient_116 (Nat.zero_le _) (Nat.zero_le _) ?_
        refine px_S (As := [.int (52 : Int32), .long (fX0_magnitude v0 v1)]) (rest := []) ⟨hx, hb, hml, hown, hts⟩ (kX0_roomBelow l (52 : Int32) (fX0_magnitude v0 v1) (okX0_roomBelow_all (52 : Int32) (fX0_magnitude v0 v1))) (va_cwS 2 hts gX0_quotient_X0_roomBelow rfl rfl rfl (by decide +kernel) ⟨Nat.le_of_ble_eq_true rfl, Nat.le_of_ble_eq_true rfl⟩) rfl hl.1 rfl (Nat.le_of_ble_eq_true rfl) dX0_quotient_119 (Nat.zero_le _) (Nat.zero_le _) ?_
        refine lv_topi (fun v7_122 ev7_122 => ?_)
        rw [← ev7_122]
        refine lv_istore (lv' := [(7, .int v7_122), (6, .int s0), (0, .int v0), (1, .long v1), (3, .long v3)]) hx hb dX0_quotient_122 hl (by decide) rfl (fun ls hl => ?_)
        rw [fX0_quotient_124]
        refine lv_bipush (v := 52) hx hb dX0_quotient_124 (by decide) ?_
        refine lv_iload_n hx hb dX0_quotient_126 rfl (lv_at hl 2 rfl) ?_
        refine lv_lload_n hx hb dX0_quotient_127 rfl (lv_at hl 4 rfl) ?_
        refine px_S (As := [.int v0, .long v3]) (rest := [.int (52 : Int32)]) ⟨hx, hb, hml, hown, hts⟩ (kX0_magnitude l v0 v3) (va_cwS 2 hts gX0_quotient_X0_magnitude rfl rfl rfl (by decide +kernel) ⟨Nat.le_of_ble_eq_true rfl, Nat.le_of_ble_eq_true rfl⟩) rfl hl.1 rfl (Nat.le_of_ble_eq_true rfl) dX0_quotient_128 (Nat.zero_le _) (Nat.zero_le _) ?_
        refine px_S (As := [.int (52 : Int32), .long (fX0_magnitude v0 v3)]) (rest := []) ⟨hx, hb, hml, hown, hts⟩ (kX0_roomBelow l (52 : Int32) (fX0_magnitude v0 v3) (okX0_roomBelow_all (52 : Int32) (fX0_magnitude v0 v3))) (va_cwS 2 hts gX0_quotient_X0_roomBelow rfl rfl rfl (by decide +kernel) ⟨Nat.le_of_ble_eq_true rfl, Nat.le_of_ble_eq_true rfl⟩) rfl hl.1 rfl (Nat.le_of_ble_eq_true rfl) dX0_quotient_131 (Nat.zero_le _) (Nat.zero_le _) ?_
        refine lv_topi (fun v8_134 ev8_134 => ?_)
        rw [← ev8_134]
        refine lv_istore (lv' := [(8, .int v8_134), (7, .int v7_122), (6, .int s0), (0, .int v0), (1, .long v1), (3, .long v3)]) hx hb dX0_quotient_134 hl (by decide) rfl (fun ls hl => ?_)
        rw [fX0_quotient_136]
        refine lv_iload_n hx hb dX0_quotient_136 rfl (lv_at hl 3 rfl) ?_
        refine lv_lload_n hx hb dX0_quotient_137 rfl (lv_at hl 5 rfl) ?_
        refine px_S (As := [.int v0, .long v3]) (rest := []) ⟨hx, hb, hml, hown, hts⟩ (kX0_magnitude l v0 v3) (va_cwS 2 hts gX0_quotient_X0_magnitude rfl rfl rfl (by decide +kernel) ⟨Nat.le_of_ble_eq_true rfl, Nat.le_of_ble_eq_true rfl⟩) rfl hl.1 rfl (Nat.le_of_ble_eq_true rfl) dX0_quotient_138 (Nat.zero_le _) (Nat.zero_le _) ?_
        refine lv_iload hx hb dX0_quotient_141 (lv_at hl 0 rfl) ?_
        refine px_lshl hx hb dX0_quotient_143 ?_
        refine lv_topl (fun v9_144 ev9_144 => ?_)
        rw [← ev9_144]
        refine lv_lstore (lv' := [(9, .long v9_144), (8, .int v8_134), (7, .int v7_122), (6, .int s0), (0, .int v0), (1, .long v1), (3, .long v3)]) hx hb dX0_quotient_144 hl (by decide) rfl (fun ls hl => ?_)
        rw [fX0_quotient_146]
        refine lv_iload_n hx hb dX0_quotient_146 rfl (lv_at hl 4 rfl) ?_
        refine lv_lload_n hx hb dX0_quotient_147 rfl (lv_at hl 5 rfl) ?_
        refine px_S (As := [.int v0, .long v1]) (rest := []) ⟨hx, hb, hml, hown, hts⟩ (kX0_magnitude l v0 v1) (va_cwS 2 hts gX0_quotient_X0_magnitude rfl rfl rfl (by decide +kernel) ⟨Nat.le_of_ble_eq_true rfl, Nat.le_of_ble_eq_true rfl⟩) rfl hl.1 rfl (Nat.le_of_ble_eq_true rfl) dX0_quotient_148 (Nat.zero_le _) (Nat.zero_le _) ?_
        refine lv_iload hx hb dX0_quotient_151 (lv_at hl 2 rfl) ?_
        refine px_lshl hx hb dX0_quotient_153 ?_
        refine lv_lload hx hb dX0_quotient_154 (lv_at hl 0 rfl) ?_
        refine px_S (As := [.long (jshl (fX0_magnitude v0 v1) v7_122), .long v9_144]) (rest := []) ⟨hx, hb, hml, hown, hts⟩ (kX0_topOfQuotient l (jshl (fX0_magnitude v0 v1) v7_122) v9_144 (okX0_topOfQuotient_all (jshl (fX0_magnitude v0 v1) v7_122) v9_144)) (va_cwS 2 hts gX0_quotient_X0_topOfQuotient rfl rfl rfl (by decide +kernel) ⟨Nat.le_of_ble_eq_true rfl, Nat.le_of_ble_eq_true rfl⟩) rfl hl.1 rfl (Nat.le_of_ble_eq_true rfl) dX0_quotient_156 (Nat.zero_le _) (Nat.zero_le _) ?_
        refine lv_topl (fun v11_159 ev11_159 => ?_)
        rw [← ev11_159]
        refine lv_lstore (lv' := [(11, .long v11_159), (9, .long v9_144), (8, .int v8_134), (7, .int v7_122), (6, .int s0), (0, .int v0), (1, .long v1), (3, .long v3)]) hx hb dX0_quotient_159 hl (by decide) rfl (fun ls hl => ?_)
        rw [fX0_quotient_161]
        refine lv_iload_n hx hb dX0_quotient_161 rfl (lv_at hl 5 rfl) ?_
        refine lv_lload_n hx hb dX0_quotient_162 rfl (lv_at hl 6 rfl) ?_
        refine px_S (As := [.int v0, .long v1]) (rest := []) ⟨hx, hb, hml, hown, hts⟩ (kX0_exponent l v0 v1) (va_cwS 2 hts gX0_quotient_X0_exponent rfl rfl rfl (by decide +kernel) ⟨Nat.le_of_ble_eq_true rfl, Nat.le_of_ble_eq_true rfl⟩) rfl hl.1 rfl (Nat.le_of_ble_eq_true rfl) dX0_quotient_163 (Nat.zero_le _) (Nat.zero_le _) ?_
        refine lv_iload hx hb dX0_quotient_166 (lv_at hl 3 rfl) ?_
        refine lv_isub hx hb dX0_quotient_168 ?_
        refine lv_iload_n hx hb dX0_quotient_169 rfl (lv_at hl 5 rfl) ?_
        refine lv_lload_n hx hb dX0_quotient_170 rfl (lv_at hl 7 rfl) ?_
        refine px_S (As := [.int v0, .long v3]) (rest := [.int ((fX0_exponent v0 v1) - v7_122)]) ⟨hx, hb, hml, hown, hts⟩ (kX0_exponent l v0 v3) (va_cwS 2 hts gX0_quotient_X0_exponent rfl rfl rfl (by decide +kernel) ⟨Nat.le_of_ble_eq_true rfl, Nat.le_of_ble_eq_true rfl⟩) rfl hl.1 rfl (Nat.le_of_ble_eq_true rfl) dX0_quotient_171 (Nat.zero_le _) (Nat.zero_le _) ?_
        refine lv_isub hx hb dX0_quotient_174 ?_
        refine lv_iload hx hb dX0_quotient_175 (lv_at hl 2 rfl) ?_
        refine lv_iadd hx hb dX0_quotient_177 ?_
        refine lv_topi (fun v13_178 ev13_178 => ?_)
        rw [← ev13_178]
        refine lv_istore (lv' := [(13, .int v13_178), (11, .long v11_159), (9, .long v9_144), (8, .int v8_134), (7, .int v7_122), (6, .int s0), (0, .int v0), (1, .long v1), (3, .long v3)]) hx hb dX0_quotient_178 hl (by decide) rfl (fun ls hl => ?_)
        rw [fX0_quotient_180]
        refine lv_iload_n hx hb dX0_quotient_180 rfl (lv_at hl 6 rfl) ?_
        refine lv_iload hx hb dX0_quotient_181 (lv_at hl 5 rfl) ?_
        refine lv_lload hx hb dX0_quotient_183 (lv_at hl 1 rfl) ?_
        refine lv_iload hx hb dX0_quotient_185 (lv_at hl 0 rfl) ?_
        refine lv_bipush (v := 60) hx hb dX0_quotient_187 (by decide) ?_
        refine lv_isub hx hb dX0_quotient_189 ?_
        refine px_S (As := [.int v0, .int s0, .long v11_159, .int (v13_178 - (60 : Int32))]) (rest := []) ⟨hx, hb, hml, hown, hts⟩ (kX0_nearest l v0 s0 v11_159 (v13_178 - (60 : Int32))) (va_cwS 4 hts gX0_quotient_X0_nearest rfl rfl rfl (by decide +kernel) ⟨Nat.le_of_ble_eq_true rfl, Nat.le_of_ble_eq_true rfl⟩) rfl hl.1 rfl (Nat.le_of_ble_eq_true rfl) dX0_quotient_190 (Nat.zero_le _) (Nat.zero_le _) ?_
        exact W.lret hx hb hr (fun t ht _ => ⟨rfl, ht⟩) (fun q h => by cases h) dX0_quotient_193
      · rw [if_neg hc101]
        refine lv_iload_n hx hb dX0_quotient_104 rfl (lv_at hl 1 rfl) ?_
        refine lv_iload hx hb dX0_quotient_105 (lv_at hl 0 rfl) ?_
        refine lv_lconst (v := 0) hx hb dX0_quotient_107 (by decide) ?_
        refine px_S (As := [.int v0, .int s0, .long (0 : Int64)]) (rest := []) ⟨hx, hb, hml, hown, hts⟩ (kX0_signed l v0 s0 (0 : Int64)) (va_cwS 3 hts gX0_quotient_X0_signed rfl rfl rfl (by decide +kernel) ⟨Nat.le_of_ble_eq_true rfl, Nat.le_of_ble_eq_true rfl⟩) rfl hl.1 rfl (Nat.le_of_ble_eq_true rfl) dX0_quotient_108 (Nat.zero_le _) (Nat.zero_le _) ?_
        exact W.lret hx hb hr (fun t ht _ => ⟨rfl, ht⟩) (fun q h => by cases h) dX0_quotient_111
    · rw [if_neg hc82]
      exact wX0_quotient_85 C v0 s0 (lv_sub hl [1, 0] rfl)
  · rw [if_neg hc74]
    exact wX0_quotient_85 C v0 s0 (lv_sub hl [1, 0] rfl)
set_option maxHeartbeats 4000000 in
set_option maxRecDepth 100000 in
theorem wX0_quotient_49 {p : Program} {l : Launch} {e : Env} {s : State} {m : MethodId} {args : Array Value} {below : List Frame} {meth : Method} {c : Code} (C : px_C p s m args meth c cX0_quotient 14 (some .long) RX0 wsX0_quotient) (v0 : Int32) (v1 : Int64) (v3 : Int64) {ls : Array Slot} (hl : lv_has ls 14 [(0, .int v0), (1, .long v1), (3, .long v3)]) : W p l e { frames := 3, cells := 0, slots := 0, locals := 72 } s m args below meth c s.heap [] 0 0 (MQ below (px_Q (.long (fX0_quotient_49 v0 v1 v3))) args s 0 0 (fun _ => False)) (F0 m 49 ls []) := by
  obtain ⟨hx, hb, hml, hown, hts, hr, hlocks⟩ := id C
  rw [fX0_quotient_49]
  refine lv_iload_n hx hb dX0_quotient_49 rfl (lv_at hl 0 rfl) ?_
  refine lv_lload_n hx hb dX0_quotient_50 rfl (lv_at hl 1 rfl) ?_
  refine px_S (As := [.int v0, .long v1]) (rest := []) ⟨hx, hb, hml, hown, hts⟩ (kX0_isNegative l v0 v1) (va_cwS 2 hts gX0_quotient_X0_isNegative rfl rfl rfl (by decide +kernel) ⟨Nat.le_of_ble_eq_true rfl, Nat.le_of_ble_eq_true rfl⟩) rfl hl.1 rfl (Nat.le_of_ble_eq_true rfl) dX0_quotient_51 (Nat.zero_le _) (Nat.zero_le _) ?_
  refine lv_iload_n hx hb dX0_quotient_54 rfl (lv_at hl 0 rfl) ?_
  refine lv_lload_n hx hb dX0_quotient_55 rfl (lv_at hl 2 rfl) ?_
  refine px_S (As := [.int v0, .long v3]) (rest := [.int (fX0_isNegative v0 v1)]) ⟨hx, hb, hml, hown, hts⟩ (kX0_isNegative l v0 v3) (va_cwS 2 hts gX0_quotient_X0_isNegative rfl rfl rfl (by decide +kernel) ⟨Nat.le_of_ble_eq_true rfl, Nat.le_of_ble_eq_true rfl⟩) rfl hl.1 rfl (Nat.le_of_ble_eq_true rfl) dX0_quotient_56 (Nat.zero_le _) (Nat.zero_le _) ?_
  refine px_icmp_eq (tgt := 66) hx hb dX0_quotient_59 (by decide) (fun hc59 => ?_) (fun hc59 => ?_)
  · rw [if_pos hc59]
    refine lv_iconst (v := 0) hx hb dX0_quotient_66 (by decide) ?_
    exact wX0_quotient_67 C v0 v1 v3 (0 : Int32) (lv_sub hl [0, 1, 2] rfl)
  · rw [if_neg hc59]
    refine lv_iconst (v := 1) hx hb dX0_quotient_62 (by decide) ?_
    refine lv_goto (tgt := 67) hx hb dX0_quotient_63 (by decide) ?_
    exact wX0_quotient_67 C v0 v1 v3 (1 : Int32) (lv_sub hl [0, 1, 2] rfl)
set_option maxHeartbeats 4000000 in
set_option maxRecDepth 100000 in
theorem wX0_quotient_21 {p : Program} {l : Launch} {e : Env} {s : State} {m : MethodId} {args : Array Value} {below : List Frame} {meth : Method} {c : Code} (C : px_C p s m args meth c cX0_quotient 14 (some .long) RX0 wsX0_quotient) (v0 : Int32) (v1 : Int64) (v3 : Int64) (s0 : Int32) {ls : Array Slot} (hl : lv_has ls 14 [(0, .int v0), (1, .long v1), (3, .long v3)]) : W p l e { frames := 3, cells := 0, slots := 0, locals := 72 } s m args below meth c s.heap [] 0 0 (MQ below (px_Q (.long (fX0_quotient_21 v0 v1 v3 s0))) args s 0 0 (fun _ => False)) (F0 m 21 ls [.int s0]) := by
  obtain ⟨hx, hb, hml, hown, hts, hr, hlocks⟩ := id C
  rw [fX0_quotient_21]
  refine lv_istore (lv' := [(5, .int s0), (0, .int v0), (1, .long v1), (3, .long v3)]) hx hb dX0_quotient_21 hl (by decide) rfl (fun ls hl => ?_)
  refine lv_iload hx hb dX0_quotient_23 (lv_at hl 0 rfl) ?_
  refine px_if_ne (tgt := 44) hx hb dX0_quotient_25 (by decide) (fun hc25 => ?_) (fun hc25 => ?_)
  · rw [if_pos hc25]
    refine lv_iload_n hx hb dX0_quotient_28 rfl (lv_at hl 1 rfl) ?_
    refine lv_lload_n hx hb dX0_quotient_29 rfl (lv_at hl 2 rfl) ?_
    refine px_S (As := [.int v0, .long v1]) (rest := []) ⟨hx, hb, hml, hown, hts⟩ (kX0_isZero l v0 v1) (va_cwS 2 hts gX0_quotient_X0_isZero rfl rfl rfl (by decide +kernel) ⟨Nat.le_of_ble_eq_true rfl, Nat.le_of_ble_eq_true rfl⟩) rfl hl.1 rfl (Nat.le_of_ble_eq_true rfl) dX0_quotient_30 (Nat.zero_le _) (Nat.zero_le _) ?_
    refine px_if_eq (tgt := 49) hx hb dX0_quotient_33 (by decide) (fun hc33 => ?_) (fun hc33 => ?_)
    · rw [if_pos hc33]
      exact wX0_quotient_49 C v0 v1 v3 (lv_sub hl [1, 2, 3] rfl)
    · rw [if_neg hc33]
      refine lv_iload_n hx hb dX0_quotient_36 rfl (lv_at hl 1 rfl) ?_
      refine lv_lload_n hx hb dX0_quotient_37 rfl (lv_at hl 3 rfl) ?_
      refine px_S (As := [.int v0, .long v3]) (rest := []) ⟨hx, hb, hml, hown, hts⟩ (kX0_isZero l v0 v3) (va_cwS 2 hts gX0_quotient_X0_isZero rfl rfl rfl (by decide +kernel) ⟨Nat.le_of_ble_eq_true rfl, Nat.le_of_ble_eq_true rfl⟩) rfl hl.1 rfl (Nat.le_of_ble_eq_true rfl) dX0_quotient_38 (Nat.zero_le _) (Nat.zero_le _) ?_
      refine px_if_eq (tgt := 49) hx hb dX0_quotient_41 (by decide) (fun hc41 => ?_) (fun hc41 => ?_)
      · rw [if_pos hc41]
        exact wX0_quotient_49 C v0 v1 v3 (lv_sub hl [1, 2, 3] rfl)
      · rw [if_neg hc41]
        exact wX0_quotient_44 C v0 (lv_sub hl [1] rfl)
  · rw [if_neg hc25]
    exact wX0_quotient_44 C v0 (lv_sub hl [1] rfl)
set_option maxHeartbeats 4000000 in
set_option maxRecDepth 100000 in
theorem wX0_quotient_20 {p : Program} {l : Launch} {e : Env} {s : State} {m : MethodId} {args : Array Value} {below : List Frame} {meth : Method} {c : Code} (C : px_C p s m args meth c cX0_quotient 14 (some .long) RX0 wsX0_quotient) (v0 : Int32) (v1 : Int64) (v3 : Int64) {ls : Array Slot} (hl : lv_has ls 14 [(0, .int v0), (1, .long v1), (3, .long v3)]) : W p l e { frames := 3, cells := 0, slots := 0, locals := 72 } s m args below meth c s.heap [] 0 0 (MQ below (px_Q (.long (fX0_quotient_20 v0 v1 v3))) args s 0 0 (fun _ => False)) (F0 m 20 ls []) := by
  obtain ⟨hx, hb, hml, hown, hts, hr, hlocks⟩ := id C
  rw [fX0_quotient_20]
  refine lv_iconst (v := 0) hx hb dX0_quotient_20 (by decide) ?_
  exact wX0_quotient_21 C v0 v1 v3 (0 : Int32) (lv_sub hl [0, 1, 2] rfl)
set_option maxHeartbeats 4000000 in
set_option maxRecDepth 100000 in
theorem wX0_quotient_0 {p : Program} {l : Launch} {e : Env} {s : State} {m : MethodId} {args : Array Value} {below : List Frame} {meth : Method} {c : Code} (C : px_C p s m args meth c cX0_quotient 14 (some .long) RX0 wsX0_quotient) (v0 : Int32) (v1 : Int64) (v3 : Int64) {ls : Array Slot} (hl : lv_has ls 14 [(0, .int v0), (1, .long v1), (3, .long v3)]) : W p l e { frames := 3, cells := 0, slots := 0, locals := 72 } s m args below meth c s.heap [] 0 0 (MQ below (px_Q (.long (fX0_quotient_0 v0 v1 v3))) args s 0 0 (fun _ => False)) (F0 m 0 ls []) := by
  obtain ⟨hx, hb, hml, hown, hts, hr, hlocks⟩ := id C
  rw [fX0_quotient_0]
  refine lv_iload_n hx hb dX0_quotient_0 rfl (lv_at hl 0 rfl) ?_
  refine lv_lload_n hx hb dX0_quotient_1 rfl (lv_at hl 1 rfl) ?_
  refine px_S (As := [.int v0, .long v1]) (rest := []) ⟨hx, hb, hml, hown, hts⟩ (kX0_isInfinite l v0 v1) (va_cwS 2 hts gX0_quotient_X0_isInfinite rfl rfl rfl (by decide +kernel) ⟨Nat.le_of_ble_eq_true rfl, Nat.le_of_ble_eq_true rfl⟩) rfl hl.1 rfl (Nat.le_of_ble_eq_true rfl) dX0_quotient_2 (Nat.zero_le _) (Nat.zero_le _) ?_
  refine px_if_eq (tgt := 20) hx hb dX0_quotient_5 (by decide) (fun hc5 => ?_) (fun hc5 => ?_)
  · rw [if_pos hc5]
    exact wX0_quotient_20 C v0 v1 v3 (lv_sub hl [0, 1, 2] rfl)
  · rw [if_neg hc5]
    refine lv_iload_n hx hb dX0_quotient_8 rfl (lv_at hl 0 rfl) ?_
    refine lv_lload_n hx hb dX0_quotient_9 rfl (lv_at hl 2 rfl) ?_
    refine px_S (As := [.int v0, .long v3]) (rest := []) ⟨hx, hb, hml, hown, hts⟩ (kX0_isInfinite l v0 v3) (va_cwS 2 hts gX0_quotient_X0_isInfinite rfl rfl rfl (by decide +kernel) ⟨Nat.le_of_ble_eq_true rfl, Nat.le_of_ble_eq_true rfl⟩) rfl hl.1 rfl (Nat.le_of_ble_eq_true rfl) dX0_quotient_10 (Nat.zero_le _) (Nat.zero_le _) ?_
    refine px_if_eq (tgt := 20) hx hb dX0_quotient_13 (by decide) (fun hc13 => ?_) (fun hc13 => ?_)
    · rw [if_pos hc13]
      exact wX0_quotient_20 C v0 v1 v3 (lv_sub hl [0, 1, 2] rfl)
    · rw [if_neg hc13]
      refine lv_iconst (v := 1) hx hb dX0_quotient_16 (by decide) ?_
      refine lv_goto (tgt := 21) hx hb dX0_quotient_17 (by decide) ?_
      exact wX0_quotient_21 C v0 v1 v3 (1 : Int32) (lv_sub hl [0, 1, 2] rfl)
set_option maxHeartbeats 4000000 in
set_option maxRecDepth 100000 in
theorem kX0_quotient (l : Launch) (v0 : Int32) (v1 : Int64) (v3 : Int64) : px_M l yX0_quotient wsX0_quotient ({ frames := 3, cells := 0, slots := 0, locals := 72 }) [.int v0, .long v1, .long v3] (.long (fX0_quotient v0 v1 v3)) := by
  refine Met.ofW (cc := cX0_quotient) (maxL := 14) (ret := (some .long)) (by decide) rfl ?_
  intro p e s m args below meth c s₁ B hml hv
  cases hv
  have C : px_C p s m _ meth c cX0_quotient 14 (some .long) RX0 wsX0_quotient := ⟨B.exec, B.bytes, hml, findClass_of_methodNamed B.named, atoms_spec (ws := wsX0_quotient) B.pre, B.returns, B.notSynchronized⟩
  have hl := lv_entry ([.int v0, .long v1, .long v3]) (n := 14) (Nat.le_of_ble_eq_true rfl)
  rw [lg_entry_eq]
  generalize (lg_sl ([.int v0, .long v1, .long v3]) ++ List.replicate (14 - (lg_sl ([.int v0, .long v1, .long v3])).length) Slot.unset).toArray = ls at hl ⊢
  have hl : lv_has ls 14 [(0, .int v0), (1, .long v1), (3, .long v3)] := hl
  rw [fX0_quotient]
  exact wX0_quotient_0 C v0 v1 v3 (lv_sub hl [0, 1, 2] rfl)
set_option maxHeartbeats 4000000 in
set_option maxRecDepth 100000 in
theorem wX0_restAbove_16 {p : Program} {l : Launch} {e : Env} {s : State} {m : MethodId} {args : Array Value} {below : List Frame} {meth : Method} {c : Code} (C : px_C p s m args meth c cX0_restAbove 8 (some .long) RX0 wsX0_restAbove) : ∀ (n : Nat) (v3 : Int64) (v5 : Int64) (v7 : Int32) (hok : okX0_restAbove_16 n v3 v5 v7) (ls : Array Slot) (hl : lv_has ls 8 [(3, .long v3), (5, .long v5), (7, .int v7)]), W p l e { frames := 1, cells := 0, slots := 0, locals := 15 } s m args below meth c s.heap [] 0 0 (MQ below (px_Q (.long (fX0_restAbove_16 n v3 v5 v7))) args s 0 0 (fun _ => False)) (F0 m 16 ls []) := by
  obtain ⟨hx, hb, hml, hown, hts, hr, hlocks⟩ := id C
  intro n
  induction n with
  | zero => intro v3 v5 v7 hok; exact hok.elim
  | succ n ih =>
    intro v3 v5 v7 hok ls hl
    rw [fX0_restAbove_16]
    rw [okX0_restAbove_16] at hok
    refine lv_iload hx hb dX0_restAbove_16 (lv_at hl 2 rfl) ?_
    refine px_if_le (tgt := 41) hx hb dX0_restAbove_18 (by decide) (fun hc18 => ?_) (fun hc18 => ?_)
    · rw [if_pos hc18]
      have hok := hok.1 hc18
      refine lv_lload hx hb dX0_restAbove_21 (lv_at hl 1 rfl) ?_
      refine lv_iload hx hb dX0_restAbove_23 (lv_at hl 2 rfl) ?_
      refine lv_bipush (v := 10) hx hb dX0_restAbove_25 (by decide) ?_
      refine px_mmin hx hb (hml.trans hl.1.symm) hown (hts (.methodLink RX0 113 Lib.Math.min.name) (by decide +kernel)) (hts (.static Lib.Math.min.name) (by decide +kernel)) (hts (.initialized "java/lang/Math") (by decide +kernel)) (hts (.code Lib.Math.min.name Lib.Math.min.code 2 (some .int)) (by decide +kernel)) (Nat.le_of_ble_eq_true rfl) (Nat.le_of_ble_eq_true rfl) (Nat.zero_le _) (Nat.zero_le _) dX0_restAbove_27 ?_
      refine px_lshl hx hb dX0_restAbove_30 ?_
      refine lv_lload_n hx hb dX0_restAbove_31 rfl (lv_at hl 0 rfl) ?_
      obtain ⟨hne, hok⟩ := hok
      refine px_lrem hx hb dX0_restAbove_32 hne ?_
      refine lv_lstore (lv' := [(5, .long (jrem (jshl v5 (imin v7 (10 : Int32))) v3)), (3, .long v3), (7, .int v7)]) hx hb dX0_restAbove_33 hl (by decide) rfl (fun ls hl => ?_)
      refine lv_iinc (v := (v7 + (-10 : Int32))) (lv' := [(7, .int (v7 + (-10 : Int32))), (5, .long (jrem (jshl v5 (imin v7 (10 : Int32))) v3)), (3, .long v3)]) hx hb dX0_restAbove_35 hl (k := 2) rfl (congrArg (HAdd.hAdd v7) (by decide : Int32.ofInt (-10) = (-10 : Int32))) (by decide) rfl (fun ls hl => ?_)
      refine lv_goto (tgt := 16) hx hb dX0_restAbove_38 (by decide) ?_
      exact ih v3 (jrem (jshl v5 (imin v7 (10 : Int32))) v3) (v7 + (-10 : Int32)) hok _ (lv_sub hl [2, 1, 0] rfl)
    · rw [if_neg hc18]
      have hok := hok.2 hc18
      refine lv_lload hx hb dX0_restAbove_41 (lv_at hl 1 rfl) ?_
      exact W.lret hx hb hr (fun t ht _ => ⟨rfl, ht⟩) (fun q h => by cases h) dX0_restAbove_43
set_option maxHeartbeats 4000000 in
set_option maxRecDepth 100000 in
theorem wX0_restAbove_0 {p : Program} {l : Launch} {e : Env} {s : State} {m : MethodId} {args : Array Value} {below : List Frame} {meth : Method} {c : Code} (C : px_C p s m args meth c cX0_restAbove 8 (some .long) RX0 wsX0_restAbove) (v0 : Int64) (v2 : Int32) (v3 : Int64) (hok : okX0_restAbove_0 v0 v2 v3) {ls : Array Slot} (hl : lv_has ls 8 [(0, .long v0), (2, .int v2), (3, .long v3)]) : W p l e { frames := 1, cells := 0, slots := 0, locals := 15 } s m args below meth c s.heap [] 0 0 (MQ below (px_Q (.long (fX0_restAbove_0 v0 v2 v3))) args s 0 0 (fun _ => False)) (F0 m 0 ls []) := by
  obtain ⟨hx, hb, hml, hown, hts, hr, hlocks⟩ := id C
  rw [fX0_restAbove_0]
  rw [okX0_restAbove_0] at hok
  refine lv_lload_n hx hb dX0_restAbove_0 rfl (lv_at hl 2 rfl) ?_
  refine lv_lconst (v := 0) hx hb dX0_restAbove_1 (by decide) ?_
  refine px_lcmp_ne (tgt := 8) hx hb dX0_restAbove_2 dX0_restAbove_3 (by decide) (fun hc2 => ?_) (fun hc2 => ?_)
  · rw [if_pos hc2]
    have hok := hok.1 hc2
    refine lv_lconst (v := 0) hx hb dX0_restAbove_6 (by decide) ?_
    exact W.lret hx hb hr (fun t ht _ => ⟨rfl, ht⟩) (fun q h => by cases h) dX0_restAbove_7
  · rw [if_neg hc2]
    have hok := hok.2 hc2
    refine lv_lload_n hx hb dX0_restAbove_8 rfl (lv_at hl 0 rfl) ?_
    refine lv_lload_n hx hb dX0_restAbove_9 rfl (lv_at hl 2 rfl) ?_
    obtain ⟨hne, hok⟩ := hok
    refine px_lrem hx hb dX0_restAbove_10 hne ?_
    refine lv_topl (fun v5_11 ev5_11 => ?_)
    rw [← ev5_11]
    rw [← ev5_11] at hok
    refine lv_lstore (lv' := [(5, .long v5_11), (0, .long v0), (2, .int v2), (3, .long v3)]) hx hb dX0_restAbove_11 hl (by decide) rfl (fun ls hl => ?_)
    rw [fX0_restAbove_13]
    rw [okX0_restAbove_13] at hok
    refine lv_iload_n hx hb dX0_restAbove_13 rfl (lv_at hl 2 rfl) ?_
    refine lv_istore (lv' := [(7, .int v2), (5, .long v5_11), (0, .long v0), (2, .int v2), (3, .long v3)]) hx hb dX0_restAbove_14 hl (by decide) rfl (fun ls hl => ?_)
    exact wX0_restAbove_16 C _ v3 v5_11 v2 hok _ (lv_sub hl [4, 1, 0] rfl)
set_option maxHeartbeats 4000000 in
set_option maxRecDepth 100000 in
theorem kX0_restAbove (l : Launch) (v0 : Int64) (v2 : Int32) (v3 : Int64) (hok : okX0_restAbove v0 v2 v3) : px_M l yX0_restAbove wsX0_restAbove ({ frames := 1, cells := 0, slots := 0, locals := 15 }) [.long v0, .int v2, .long v3] (.long (fX0_restAbove v0 v2 v3)) := by
  refine Met.ofW (cc := cX0_restAbove) (maxL := 8) (ret := (some .long)) (by decide) rfl ?_
  intro p e s m args below meth c s₁ B hml hv
  cases hv
  have C : px_C p s m _ meth c cX0_restAbove 8 (some .long) RX0 wsX0_restAbove := ⟨B.exec, B.bytes, hml, findClass_of_methodNamed B.named, atoms_spec (ws := wsX0_restAbove) B.pre, B.returns, B.notSynchronized⟩
  have hl := lv_entry ([.long v0, .int v2, .long v3]) (n := 8) (Nat.le_of_ble_eq_true rfl)
  rw [lg_entry_eq]
  generalize (lg_sl ([.long v0, .int v2, .long v3]) ++ List.replicate (8 - (lg_sl ([.long v0, .int v2, .long v3])).length) Slot.unset).toArray = ls at hl ⊢
  have hl : lv_has ls 8 [(0, .long v0), (2, .int v2), (3, .long v3)] := hl
  rw [fX0_restAbove]
  rw [okX0_restAbove] at hok
  exact wX0_restAbove_0 C v0 v2 v3 hok (lv_sub hl [0, 1, 2] rfl)
set_option maxHeartbeats 4000000 in
set_option maxRecDepth 100000 in
theorem wX0_rest_16 {p : Program} {l : Launch} {e : Env} {s : State} {m : MethodId} {args : Array Value} {below : List Frame} {meth : Method} {c : Code} (C : px_C p s m args meth c cX0_rest 11 (some .long) RX0 wsX0_rest) (v0 : Int32) {ls : Array Slot} (hl : lv_has ls 11 [(0, .int v0)]) : W p l e { frames := 3, cells := 0, slots := 0, locals := 72 } s m args below meth c s.heap [] 0 0 (MQ below (px_Q (.long (fX0_rest_16 v0))) args s 0 0 (fun _ => False)) (F0 m 16 ls []) := by
  obtain ⟨hx, hb, hml, hown, hts, hr, hlocks⟩ := id C
  rw [fX0_rest_16]
  refine lv_iload_n hx hb dX0_rest_16 rfl (lv_at hl 0 rfl) ?_
  refine px_S (As := [.int v0]) (rest := []) ⟨hx, hb, hml, hown, hts⟩ (kX0_notANumber l v0) (va_cwS 1 hts gX0_rest_X0_notANumber rfl rfl rfl (by decide +kernel) ⟨Nat.le_of_ble_eq_true rfl, Nat.le_of_ble_eq_true rfl⟩) rfl hl.1 rfl (Nat.le_of_ble_eq_true rfl) dX0_rest_17 (Nat.zero_le _) (Nat.zero_le _) ?_
  exact W.lret hx hb hr (fun t ht _ => ⟨rfl, ht⟩) (fun q h => by cases h) dX0_rest_20
set_option maxHeartbeats 4000000 in
set_option maxRecDepth 100000 in
theorem wX0_rest_0 {p : Program} {l : Launch} {e : Env} {s : State} {m : MethodId} {args : Array Value} {below : List Frame} {meth : Method} {c : Code} (C : px_C p s m args meth c cX0_rest 11 (some .long) RX0 wsX0_rest) (v0 : Int32) (v1 : Int64) (v3 : Int64) {ls : Array Slot} (hl : lv_has ls 11 [(0, .int v0), (1, .long v1), (3, .long v3)]) : W p l e { frames := 3, cells := 0, slots := 0, locals := 72 } s m args below meth c s.heap [] 0 0 (MQ below (px_Q (.long (fX0_rest_0 v0 v1 v3))) args s 0 0 (fun _ => False)) (F0 m 0 ls []) := by
  obtain ⟨hx, hb, hml, hown, hts, hr, hlocks⟩ := id C
  rw [fX0_rest_0]
  refine lv_iload_n hx hb dX0_rest_0 rfl (lv_at hl 0 rfl) ?_
  refine lv_lload_n hx hb dX0_rest_1 rfl (lv_at hl 1 rfl) ?_
  refine px_S (As := [.int v0, .long v1]) (rest := []) ⟨hx, hb, hml, hown, hts⟩ (kX0_isInfinite l v0 v1) (va_cwS 2 hts gX0_rest_X0_isInfinite rfl rfl rfl (by decide +kernel) ⟨Nat.le_of_ble_eq_true rfl, Nat.le_of_ble_eq_true rfl⟩) rfl hl.1 rfl (Nat.le_of_ble_eq_true rfl) dX0_rest_2 (Nat.zero_le _) (Nat.zero_le _) ?_
  refine px_if_ne (tgt := 16) hx hb dX0_rest_5 (by decide) (fun hc5 => ?_) (fun hc5 => ?_)
  · rw [if_pos hc5]
    refine lv_iload_n hx hb dX0_rest_8 rfl (lv_at hl 0 rfl) ?_
    refine lv_lload_n hx hb dX0_rest_9 rfl (lv_at hl 2 rfl) ?_
    refine px_S (As := [.int v0, .long v3]) (rest := []) ⟨hx, hb, hml, hown, hts⟩ (kX0_isZero l v0 v3) (va_cwS 2 hts gX0_rest_X0_isZero rfl rfl rfl (by decide +kernel) ⟨Nat.le_of_ble_eq_true rfl, Nat.le_of_ble_eq_true rfl⟩) rfl hl.1 rfl (Nat.le_of_ble_eq_true rfl) dX0_rest_10 (Nat.zero_le _) (Nat.zero_le _) ?_
    refine px_if_eq (tgt := 21) hx hb dX0_rest_13 (by decide) (fun hc13 => ?_) (fun hc13 => ?_)
    · rw [if_pos hc13]
      refine lv_iload_n hx hb dX0_rest_21 rfl (lv_at hl 0 rfl) ?_
      refine lv_lload_n hx hb dX0_rest_22 rfl (lv_at hl 1 rfl) ?_
      refine px_S (As := [.int v0, .long v1]) (rest := []) ⟨hx, hb, hml, hown, hts⟩ (kX0_size l v0 v1) (va_cwS 2 hts gX0_rest_X0_size rfl rfl rfl (by decide +kernel) ⟨Nat.le_of_ble_eq_true rfl, Nat.le_of_ble_eq_true rfl⟩) rfl hl.1 rfl (Nat.le_of_ble_eq_true rfl) dX0_rest_23 (Nat.zero_le _) (Nat.zero_le _) ?_
      refine lv_iload_n hx hb dX0_rest_26 rfl (lv_at hl 0 rfl) ?_
      refine lv_lload_n hx hb dX0_rest_27 rfl (lv_at hl 2 rfl) ?_
      refine px_S (As := [.int v0, .long v3]) (rest := [.long (fX0_size v0 v1)]) ⟨hx, hb, hml, hown, hts⟩ (kX0_size l v0 v3) (va_cwS 2 hts gX0_rest_X0_size rfl rfl rfl (by decide +kernel) ⟨Nat.le_of_ble_eq_true rfl, Nat.le_of_ble_eq_true rfl⟩) rfl hl.1 rfl (Nat.le_of_ble_eq_true rfl) dX0_rest_28 (Nat.zero_le _) (Nat.zero_le _) ?_
      refine px_lcmp_ge (tgt := 37) hx hb dX0_rest_31 dX0_rest_32 (by decide) (fun hc31 => ?_) (fun hc31 => ?_)
      · rw [if_pos hc31]
        refine lv_lload_n hx hb dX0_rest_35 rfl (lv_at hl 1 rfl) ?_
        exact W.lret hx hb hr (fun t ht _ => ⟨rfl, ht⟩) (fun q h => by cases h) dX0_rest_36
      · rw [if_neg hc31]
        refine lv_bipush (v := 52) hx hb dX0_rest_37 (by decide) ?_
        refine lv_iload_n hx hb dX0_rest_39 rfl (lv_at hl 0 rfl) ?_
        refine lv_lload_n hx hb dX0_rest_40 rfl (lv_at hl 1 rfl) ?_
        refine px_S (As := [.int v0, .long v1]) (rest := [.int (52 : Int32)]) ⟨hx, hb, hml, hown, hts⟩ (kX0_magnitude l v0 v1) (va_cwS 2 hts gX0_rest_X0_magnitude rfl rfl rfl (by decide +kernel) ⟨Nat.le_of_ble_eq_true rfl, Nat.le_of_ble_eq_true rfl⟩) rfl hl.1 rfl (Nat.le_of_ble_eq_true rfl) dX0_rest_41 (Nat.zero_le _) (Nat.zero_le _) ?_
        refine px_S (As := [.int (52 : Int32), .long (fX0_magnitude v0 v1)]) (rest := []) ⟨hx, hb, hml, hown, hts⟩ (kX0_roomBelow l (52 : Int32) (fX0_magnitude v0 v1) (okX0_roomBelow_all (52 : Int32) (fX0_magnitude v0 v1))) (va_cwS 2 hts gX0_rest_X0_roomBelow rfl rfl rfl (by decide +kernel) ⟨Nat.le_of_ble_eq_true rfl, Nat.le_of_ble_eq_true rfl⟩) rfl hl.1 rfl (Nat.le_of_ble_eq_true rfl) dX0_rest_44 (Nat.zero_le _) (Nat.zero_le _) ?_
        refine lv_topi (fun v5_47 ev5_47 => ?_)
        rw [← ev5_47]
        refine lv_istore (lv' := [(5, .int v5_47), (0, .int v0), (1, .long v1), (3, .long v3)]) hx hb dX0_rest_47 hl (by decide) rfl (fun ls hl => ?_)
        rw [fX0_rest_49]
        refine lv_bipush (v := 52) hx hb dX0_rest_49 (by decide) ?_
        refine lv_iload_n hx hb dX0_rest_51 rfl (lv_at hl 1 rfl) ?_
        refine lv_lload_n hx hb dX0_rest_52 rfl (lv_at hl 3 rfl) ?_
        refine px_S (As := [.int v0, .long v3]) (rest := [.int (52 : Int32)]) ⟨hx, hb, hml, hown, hts⟩ (kX0_magnitude l v0 v3) (va_cwS 2 hts gX0_rest_X0_magnitude rfl rfl rfl (by decide +kernel) ⟨Nat.le_of_ble_eq_true rfl, Nat.le_of_ble_eq_true rfl⟩) rfl hl.1 rfl (Nat.le_of_ble_eq_true rfl) dX0_rest_53 (Nat.zero_le _) (Nat.zero_le _) ?_
        refine px_S (As := [.int (52 : Int32), .long (fX0_magnitude v0 v3)]) (rest := []) ⟨hx, hb, hml, hown, hts⟩ (kX0_roomBelow l (52 : Int32) (fX0_magnitude v0 v3) (okX0_roomBelow_all (52 : Int32) (fX0_magnitude v0 v3))) (va_cwS 2 hts gX0_rest_X0_roomBelow rfl rfl rfl (by decide +kernel) ⟨Nat.le_of_ble_eq_true rfl, Nat.le_of_ble_eq_true rfl⟩) rfl hl.1 rfl (Nat.le_of_ble_eq_true rfl) dX0_rest_56 (Nat.zero_le _) (Nat.zero_le _) ?_
        refine lv_topi (fun v6_59 ev6_59 => ?_)
        rw [← ev6_59]
        refine lv_istore (lv' := [(6, .int v6_59), (5, .int v5_47), (0, .int v0), (1, .long v1), (3, .long v3)]) hx hb dX0_rest_59 hl (by decide) rfl (fun ls hl => ?_)
        rw [fX0_rest_61]
        refine lv_iload_n hx hb dX0_rest_61 rfl (lv_at hl 2 rfl) ?_
        refine lv_lload_n hx hb dX0_rest_62 rfl (lv_at hl 4 rfl) ?_
        refine px_S (As := [.int v0, .long v3]) (rest := []) ⟨hx, hb, hml, hown, hts⟩ (kX0_exponent l v0 v3) (va_cwS 2 hts gX0_rest_X0_exponent rfl rfl rfl (by decide +kernel) ⟨Nat.le_of_ble_eq_true rfl, Nat.le_of_ble_eq_true rfl⟩) rfl hl.1 rfl (Nat.le_of_ble_eq_true rfl) dX0_rest_63 (Nat.zero_le _) (Nat.zero_le _) ?_
        refine lv_iload hx hb dX0_rest_66 (lv_at hl 0 rfl) ?_
        refine lv_isub hx hb dX0_rest_68 ?_
        refine lv_topi (fun v7_69 ev7_69 => ?_)
        rw [← ev7_69]
        refine lv_istore (lv' := [(7, .int v7_69), (6, .int v6_59), (5, .int v5_47), (0, .int v0), (1, .long v1), (3, .long v3)]) hx hb dX0_rest_69 hl (by decide) rfl (fun ls hl => ?_)
        rw [fX0_rest_71]
        refine lv_iload_n hx hb dX0_rest_71 rfl (lv_at hl 3 rfl) ?_
        refine lv_lload_n hx hb dX0_rest_72 rfl (lv_at hl 4 rfl) ?_
        refine px_S (As := [.int v0, .long v1]) (rest := []) ⟨hx, hb, hml, hown, hts⟩ (kX0_exponent l v0 v1) (va_cwS 2 hts gX0_rest_X0_exponent rfl rfl rfl (by decide +kernel) ⟨Nat.le_of_ble_eq_true rfl, Nat.le_of_ble_eq_true rfl⟩) rfl hl.1 rfl (Nat.le_of_ble_eq_true rfl) dX0_rest_73 (Nat.zero_le _) (Nat.zero_le _) ?_
        refine lv_iload hx hb dX0_rest_76 (lv_at hl 2 rfl) ?_
        refine lv_isub hx hb dX0_rest_78 ?_
        refine lv_iload hx hb dX0_rest_79 (lv_at hl 0 rfl) ?_
        refine lv_isub hx hb dX0_rest_81 ?_
        refine lv_topi (fun v8_82 ev8_82 => ?_)
        rw [← ev8_82]
        refine lv_istore (lv' := [(8, .int v8_82), (7, .int v7_69), (6, .int v6_59), (5, .int v5_47), (0, .int v0), (1, .long v1), (3, .long v3)]) hx hb dX0_rest_82 hl (by decide) rfl (fun ls hl => ?_)
        rw [fX0_rest_84]
        refine lv_iload_n hx hb dX0_rest_84 rfl (lv_at hl 4 rfl) ?_
        refine lv_lload_n hx hb dX0_rest_85 rfl (lv_at hl 5 rfl) ?_
        refine px_S (As := [.int v0, .long v1]) (rest := []) ⟨hx, hb, hml, hown, hts⟩ (kX0_magnitude l v0 v1) (va_cwS 2 hts gX0_rest_X0_magnitude rfl rfl rfl (by decide +kernel) ⟨Nat.le_of_ble_eq_true rfl, Nat.le_of_ble_eq_true rfl⟩) rfl hl.1 rfl (Nat.le_of_ble_eq_true rfl) dX0_rest_86 (Nat.zero_le _) (Nat.zero_le _) ?_
        refine lv_iload hx hb dX0_rest_89 (lv_at hl 3 rfl) ?_
        refine px_lshl hx hb dX0_rest_91 ?_
        refine lv_iload hx hb dX0_rest_92 (lv_at hl 0 rfl) ?_
        refine lv_iload_n hx hb dX0_rest_94 rfl (lv_at hl 4 rfl) ?_
        refine lv_lload_n hx hb dX0_rest_95 rfl (lv_at hl 6 rfl) ?_
        refine px_S (As := [.int v0, .long v3]) (rest := [.int v8_82, .long (jshl (fX0_magnitude v0 v1) v5_47)]) ⟨hx, hb, hml, hown, hts⟩ (kX0_magnitude l v0 v3) (va_cwS 2 hts gX0_rest_X0_magnitude rfl rfl rfl (by decide +kernel) ⟨Nat.le_of_ble_eq_true rfl, Nat.le_of_ble_eq_true rfl⟩) rfl hl.1 rfl (Nat.le_of_ble_eq_true rfl) dX0_rest_96 (Nat.zero_le _) (Nat.zero_le _) ?_
        refine lv_iload hx hb dX0_rest_99 (lv_at hl 2 rfl) ?_
        refine px_lshl hx hb dX0_rest_101 ?_
        refine px_S (As := [.long (jshl (fX0_magnitude v0 v1) v5_47), .int v8_82, .long (jshl (fX0_magnitude v0 v3) v6_59)]) (rest := []) ⟨hx, hb, hml, hown, hts⟩ (kX0_restAbove l (jshl (fX0_magnitude v0 v1) v5_47) v8_82 (jshl (fX0_magnitude v0 v3) v6_59) (okX0_restAbove_all (jshl (fX0_magnitude v0 v1) v5_47) v8_82 (jshl (fX0_magnitude v0 v3) v6_59))) (va_cwS 3 hts gX0_rest_X0_restAbove rfl rfl rfl (by decide +kernel) ⟨Nat.le_of_ble_eq_true rfl, Nat.le_of_ble_eq_true rfl⟩) rfl hl.1 rfl (Nat.le_of_ble_eq_true rfl) dX0_rest_102 (Nat.zero_le _) (Nat.zero_le _) ?_
        refine lv_topl (fun v9_105 ev9_105 => ?_)
        rw [← ev9_105]
        refine lv_lstore (lv' := [(9, .long v9_105), (8, .int v8_82), (7, .int v7_69), (6, .int v6_59), (5, .int v5_47), (0, .int v0), (1, .long v1), (3, .long v3)]) hx hb dX0_rest_105 hl (by decide) rfl (fun ls hl => ?_)
        rw [fX0_rest_107]
        refine lv_iload_n hx hb dX0_rest_107 rfl (lv_at hl 5 rfl) ?_
        refine lv_iload_n hx hb dX0_rest_108 rfl (lv_at hl 5 rfl) ?_
        refine lv_lload_n hx hb dX0_rest_109 rfl (lv_at hl 6 rfl) ?_
        refine px_S (As := [.int v0, .long v1]) (rest := [.int v0]) ⟨hx, hb, hml, hown, hts⟩ (kX0_isNegative l v0 v1) (va_cwS 2 hts gX0_rest_X0_isNegative rfl rfl rfl (by decide +kernel) ⟨Nat.le_of_ble_eq_true rfl, Nat.le_of_ble_eq_true rfl⟩) rfl hl.1 rfl (Nat.le_of_ble_eq_true rfl) dX0_rest_110 (Nat.zero_le _) (Nat.zero_le _) ?_
        refine lv_lload hx hb dX0_rest_113 (lv_at hl 0 rfl) ?_
        refine lv_iload hx hb dX0_rest_115 (lv_at hl 2 rfl) ?_
        refine px_S (As := [.int v0, .int (fX0_isNegative v0 v1), .long v9_105, .int v7_69]) (rest := []) ⟨hx, hb, hml, hown, hts⟩ (kX0_nearest l v0 (fX0_isNegative v0 v1) v9_105 v7_69) (va_cwS 4 hts gX0_rest_X0_nearest rfl rfl rfl (by decide +kernel) ⟨Nat.le_of_ble_eq_true rfl, Nat.le_of_ble_eq_true rfl⟩) rfl hl.1 rfl (Nat.le_of_ble_eq_true rfl) dX0_rest_117 (Nat.zero_le _) (Nat.zero_le _) ?_
        exact W.lret hx hb hr (fun t ht _ => ⟨rfl, ht⟩) (fun q h => by cases h) dX0_rest_120
    · rw [if_neg hc13]
      exact wX0_rest_16 C v0 (lv_sub hl [0] rfl)
  · rw [if_neg hc5]
    exact wX0_rest_16 C v0 (lv_sub hl [0] rfl)
set_option maxHeartbeats 4000000 in
set_option maxRecDepth 100000 in
theorem kX0_rest (l : Launch) (v0 : Int32) (v1 : Int64) (v3 : Int64) : px_M l yX0_rest wsX0_rest ({ frames := 3, cells := 0, slots := 0, locals := 72 }) [.int v0, .long v1, .long v3] (.long (fX0_rest v0 v1 v3)) := by
  refine Met.ofW (cc := cX0_rest) (maxL := 11) (ret := (some .long)) (by decide) rfl ?_
  intro p e s m args below meth c s₁ B hml hv
  cases hv
  have C : px_C p s m _ meth c cX0_rest 11 (some .long) RX0 wsX0_rest := ⟨B.exec, B.bytes, hml, findClass_of_methodNamed B.named, atoms_spec (ws := wsX0_rest) B.pre, B.returns, B.notSynchronized⟩
  have hl := lv_entry ([.int v0, .long v1, .long v3]) (n := 11) (Nat.le_of_ble_eq_true rfl)
  rw [lg_entry_eq]
  generalize (lg_sl ([.int v0, .long v1, .long v3]) ++ List.replicate (11 - (lg_sl ([.int v0, .long v1, .long v3])).length) Slot.unset).toArray = ls at hl ⊢
  have hl : lv_has ls 11 [(0, .int v0), (1, .long v1), (3, .long v3)] := hl
  rw [fX0_rest]
  exact wX0_rest_0 C v0 v1 v3 (lv_sub hl [0, 1, 2] rfl)
