set_option maxHeartbeats 4000000 in
set_option maxRecDepth 100000 in
theorem wX1_init_0 {p : Program} {l : Launch} {e : Env} {s : State} {m : MethodId} {args : Array Value} {below : List Frame} {meth : Method} {c : Code} {D : va_G} (C : px_C p s m args meth c cX1_init 1 none RX1 wsX1_init) (this : Nat) (fld : Int32) {H : Heap} {locs : List Loc} (hK : va_K D vwCl [] s) (hP : va_P D vwCl [(this, .inr (0, [.int fld]))] H) (hS : va_S (fun q => q = this) s.heap H locs) {ls : Array Slot} (hl : lv_has ls 1 [(0, .ref this)]) : W p l e { frames := 1, cells := 0, slots := 0, locals := 12 } s m args below meth c H locs 0 0 (MQ below (ob_QU D 0 this (fX1_init_0 fld)) args s 0 0 (fun q => q = this)) (F0 m 0 ls []) := by
  obtain ⟨hx, hb, hml, hown, hts, hr, hlocks⟩ := id C
  rw [fX1_init_0]
  refine lv_aload_n hx hb dX1_init_0 rfl (lv_at hl 0 rfl) ?_
  refine W.objInit hx hb hown (hts (.methodLink RX1 1 objectInit) (by decide +kernel)) (hts (.instanceMethod objectInit) (by decide +kernel)) (hts (.code objectInit ⟨#[0xb1]⟩ 1 none) (by decide +kernel)) rfl (by rw [hml]; exact hl.1) rfl dX1_init_1 (Nat.le_of_ble_eq_true rfl) (Nat.le_of_ble_eq_true rfl) ?_
  refine W.eq (g2 := F0 m 4 ls []) rfl ?_
  refine lv_aload_n hx hb dX1_init_4 rfl (lv_at hl 0 rfl) ?_
  refine lv_iconst (v := 0) hx hb dX1_init_5 (by decide) ?_
  refine va_put (D := D) (ci := 0) (v := .int (0 : Int32)) (ty := .int) (C := RX1) (T := TX1) (N := 1) hx hb hts (by decide +kernel) tyX1 tyX1_ok nmX1 hown hK hP (ob_D _ _) hS 0 rfl rfl 0 (by decide) (hts (.fieldLink RX1 9 "KindNumbers" "why" "I") (by decide +kernel)) (fun _ h9 => h9) rfl (by decide +kernel) rfl rfl (Nat.le_of_ble_eq_true rfl) dX1_init_6 (fun H locs hP _ hS => ?_)
  have hP : va_P D vwCl [(this, .inr (0, [.int (0 : Int32)]))] H := hP
  exact W.vret hx hb hr (fun t ht hW => ⟨rfl, by rw [ht]; exact hP, hS.F ht⟩) hS.2.2 dX1_init_9
set_option maxHeartbeats 4000000 in
set_option maxRecDepth 100000 in
theorem kX1_init (l : Launch) (D : va_G) (this : Nat)  (fld : Int32) : Met l yX1_init wsX1_init ({ frames := 1, cells := 0, slots := 0, locals := 12 }) (ob_P D 0 this fld [.ref this]) (ob_QU D 0 this (fX1_init fld)) 0 0 (fun q => q = this) := by
  refine Met.ofW (cc := cX1_init) (maxL := 1) (ret := none) (by decide) rfl ?_
  intro p e s m args below meth c s₁ B hml hv
  obtain ⟨rfl, hP, hK⟩ := hv
  have C : px_C p s m _ meth c cX1_init 1 none RX1 wsX1_init := ⟨B.exec, B.bytes, hml, findClass_of_methodNamed B.named, atoms_spec (ws := wsX1_init) B.pre, B.returns, B.notSynchronized⟩
  have hl := lv_entry ([.ref this]) (n := 1) (Nat.le_of_ble_eq_true rfl)
  rw [lg_entry_eq]
  generalize (lg_sl ([.ref this]) ++ List.replicate (1 - (lg_sl ([.ref this])).length) Slot.unset).toArray = ls at hl ⊢
  have hl : lv_has ls 1 [(0, .ref this)] := hl
  rw [fX1_init]
  exact wX1_init_0 C this fld hK hP va_S.rf (lv_sub hl [0] rfl)
set_option maxHeartbeats 4000000 in
set_option maxRecDepth 100000 in
theorem wX1_has_0 {p : Program} {l : Launch} {e : Env} {s : State} {m : MethodId} {args : Array Value} {below : List Frame} {meth : Method} {c : Code} {D : va_G} (C : px_C p s m args meth c cX1_has 4 (some .boolean) RX1 wsX1_has) (this : Nat) (v1 : Int32) (v2 : Int64) (fld : Int32) {H : Heap} {locs : List Loc} (hK : va_K D vwCl [] s) (hP : va_P D vwCl [(this, .inr (0, [.int fld]))] H) (hS : va_S (fun q => q = this) s.heap H locs) {ls : Array Slot} (hl : lv_has ls 4 [(0, .ref this), (1, .int v1), (2, .long v2)]) : W p l e { frames := 4, cells := 0, slots := 0, locals := 88 } s m args below meth c H locs 0 0 (MQ below (ob_QI D 0 this (fX1_has_0 v1 v2 fld)) args s 0 0 (fun q => q = this)) (F0 m 0 ls []) := by
  obtain ⟨hx, hb, hml, hown, hts, hr, hlocks⟩ := id C
  rw [fX1_has_0]
  refine lv_iload_n hx hb dX1_has_0 rfl (lv_at hl 1 rfl) ?_
  refine lv_lload_n hx hb dX1_has_1 rfl (lv_at hl 2 rfl) ?_
  refine px_S (As := [.int v1, .long v2]) (rest := []) ⟨hx, hb, hml, hown, hts⟩ (kX1_isValue l v1 v2) (va_cwS 2 hts gX1_has_X1_isValue rfl rfl rfl (by decide +kernel) ⟨Nat.le_of_ble_eq_true rfl, Nat.le_of_ble_eq_true rfl⟩) rfl hl.1 rfl (Nat.le_of_ble_eq_true rfl) dX1_has_2 (Nat.zero_le _) (Nat.zero_le _) ?_
  exact W.zret hx hb hr (px_z (zX1_isValue _ _)) (fun t ht hW => ⟨rfl, by rw [ht]; exact hP, hS.F ht⟩) hS.2.2 dX1_has_5
set_option maxHeartbeats 4000000 in
set_option maxRecDepth 100000 in
theorem kX1_has (l : Launch) (D : va_G) (this : Nat) (v1 : Int32) (v2 : Int64) (fld : Int32) : Met l yX1_has wsX1_has ({ frames := 4, cells := 0, slots := 0, locals := 88 }) (ob_P D 0 this fld [.ref this, .int v1, .long v2]) (ob_QI D 0 this (fX1_has v1 v2 fld)) 0 0 (fun q => q = this) := by
  refine Met.ofW (cc := cX1_has) (maxL := 4) (ret := (some .boolean)) (by decide) rfl ?_
  intro p e s m args below meth c s₁ B hml hv
  obtain ⟨rfl, hP, hK⟩ := hv
  have C : px_C p s m _ meth c cX1_has 4 (some .boolean) RX1 wsX1_has := ⟨B.exec, B.bytes, hml, findClass_of_methodNamed B.named, atoms_spec (ws := wsX1_has) B.pre, B.returns, B.notSynchronized⟩
  have hl := lv_entry ([.ref this, .int v1, .long v2]) (n := 4) (Nat.le_of_ble_eq_true rfl)
  rw [lg_entry_eq]
  generalize (lg_sl ([.ref this, .int v1, .long v2]) ++ List.replicate (4 - (lg_sl ([.ref this, .int v1, .long v2])).length) Slot.unset).toArray = ls at hl ⊢
  have hl : lv_has ls 4 [(0, .ref this), (1, .int v1), (2, .long v2)] := hl
  rw [fX1_has]
  exact wX1_has_0 C this v1 v2 fld hK hP va_S.rf (lv_sub hl [0, 1, 2] rfl)
set_option maxHeartbeats 4000000 in
set_option maxRecDepth 100000 in
theorem wX1_widens_0 {p : Program} {l : Launch} {e : Env} {s : State} {m : MethodId} {args : Array Value} {below : List Frame} {meth : Method} {c : Code} {D : va_G} (C : px_C p s m args meth c cX1_widens 3 (some .boolean) RX1 wsX1_widens) (this : Nat) (v1 : Int32) (v2 : Int32) (fld : Int32) {H : Heap} {locs : List Loc} (hK : va_K D vwCl [] s) (hP : va_P D vwCl [(this, .inr (0, [.int fld]))] H) (hS : va_S (fun q => q = this) s.heap H locs) {ls : Array Slot} (hl : lv_has ls 3 [(0, .ref this), (1, .int v1), (2, .int v2)]) : W p l e { frames := 1, cells := 0, slots := 0, locals := 20 } s m args below meth c H locs 0 0 (MQ below (ob_QI D 0 this (fX1_widens_0 v1 v2 fld)) args s 0 0 (fun q => q = this)) (F0 m 0 ls []) := by
  obtain ⟨hx, hb, hml, hown, hts, hr, hlocks⟩ := id C
  rw [fX1_widens_0]
  refine lv_iload_n hx hb dX1_widens_0 rfl (lv_at hl 1 rfl) ?_
  refine lv_iload_n hx hb dX1_widens_1 rfl (lv_at hl 2 rfl) ?_
  refine px_icmp_ne (tgt := 21) hx hb dX1_widens_2 (by decide) (fun hc2 => ?_) (fun hc2 => ?_)
  · rw [if_pos hc2]
    refine lv_iload_n hx hb dX1_widens_5 rfl (lv_at hl 1 rfl) ?_
    refine px_if_lt (tgt := 19) hx hb dX1_widens_6 (by decide) (fun hc6 => ?_) (fun hc6 => ?_)
    · rw [if_pos hc6]
      refine lv_iconst (v := 0) hx hb dX1_widens_19 (by decide) ?_
      exact W.zret hx hb hr (by decide) (fun t ht hW => ⟨rfl, by rw [ht]; exact hP, hS.F ht⟩) hS.2.2 dX1_widens_20
    · rw [if_neg hc6]
      refine lv_iload_n hx hb dX1_widens_9 rfl (lv_at hl 1 rfl) ?_
      refine lv_bipush (v := 7) hx hb dX1_widens_10 (by decide) ?_
      refine px_icmp_gt (tgt := 19) hx hb dX1_widens_12 (by decide) (fun hc12 => ?_) (fun hc12 => ?_)
      · rw [if_pos hc12]
        refine lv_iconst (v := 0) hx hb dX1_widens_19 (by decide) ?_
        exact W.zret hx hb hr (by decide) (fun t ht hW => ⟨rfl, by rw [ht]; exact hP, hS.F ht⟩) hS.2.2 dX1_widens_20
      · rw [if_neg hc12]
        refine lv_iconst (v := 1) hx hb dX1_widens_15 (by decide) ?_
        refine lv_goto (tgt := 20) hx hb dX1_widens_16 (by decide) ?_
        exact W.zret hx hb hr (by decide) (fun t ht hW => ⟨rfl, by rw [ht]; exact hP, hS.F ht⟩) hS.2.2 dX1_widens_20
  · rw [if_neg hc2]
    refine lv_iload_n hx hb dX1_widens_21 rfl (lv_at hl 1 rfl) ?_
    refine px_S (As := [.int v1]) (rest := []) ⟨hx, hb, hml, hown, hts⟩ (kX1_isNumberKind l v1) (va_cwS 1 hts gX1_widens_X1_isNumberKind rfl rfl rfl (by decide +kernel) ⟨Nat.le_of_ble_eq_true rfl, Nat.le_of_ble_eq_true rfl⟩) rfl hl.1 rfl (Nat.le_of_ble_eq_true rfl) dX1_widens_22 (Nat.zero_le _) (Nat.zero_le _) ?_
    refine px_if_eq (tgt := 40) hx hb dX1_widens_25 (by decide) (fun hc25 => ?_) (fun hc25 => ?_)
    · rw [if_pos hc25]
      refine lv_iconst (v := 0) hx hb dX1_widens_40 (by decide) ?_
      exact W.zret hx hb hr (by decide) (fun t ht hW => ⟨rfl, by rw [ht]; exact hP, hS.F ht⟩) hS.2.2 dX1_widens_41
    · rw [if_neg hc25]
      refine lv_iload_n hx hb dX1_widens_28 rfl (lv_at hl 2 rfl) ?_
      refine px_S (As := [.int v2]) (rest := []) ⟨hx, hb, hml, hown, hts⟩ (kX1_isNumberKind l v2) (va_cwS 1 hts gX1_widens_X1_isNumberKind rfl rfl rfl (by decide +kernel) ⟨Nat.le_of_ble_eq_true rfl, Nat.le_of_ble_eq_true rfl⟩) rfl hl.1 rfl (Nat.le_of_ble_eq_true rfl) dX1_widens_29 (Nat.zero_le _) (Nat.zero_le _) ?_
      refine px_if_eq (tgt := 40) hx hb dX1_widens_32 (by decide) (fun hc32 => ?_) (fun hc32 => ?_)
      · rw [if_pos hc32]
        refine lv_iconst (v := 0) hx hb dX1_widens_40 (by decide) ?_
        exact W.zret hx hb hr (by decide) (fun t ht hW => ⟨rfl, by rw [ht]; exact hP, hS.F ht⟩) hS.2.2 dX1_widens_41
      · rw [if_neg hc32]
        refine lv_iload_n hx hb dX1_widens_35 rfl (lv_at hl 2 rfl) ?_
        refine lv_iconst (v := 3) hx hb dX1_widens_36 (by decide) ?_
        refine px_icmp_ne (tgt := 42) hx hb dX1_widens_37 (by decide) (fun hc37 => ?_) (fun hc37 => ?_)
        · rw [if_pos hc37]
          refine lv_iconst (v := 0) hx hb dX1_widens_40 (by decide) ?_
          exact W.zret hx hb hr (by decide) (fun t ht hW => ⟨rfl, by rw [ht]; exact hP, hS.F ht⟩) hS.2.2 dX1_widens_41
        · rw [if_neg hc37]
          refine lv_iload_n hx hb dX1_widens_42 rfl (lv_at hl 1 rfl) ?_
          refine lv_iload_n hx hb dX1_widens_43 rfl (lv_at hl 2 rfl) ?_
          refine px_icmp_ge (tgt := 51) hx hb dX1_widens_44 (by decide) (fun hc44 => ?_) (fun hc44 => ?_)
          · rw [if_pos hc44]
            refine lv_iconst (v := 1) hx hb dX1_widens_47 (by decide) ?_
            refine lv_goto (tgt := 52) hx hb dX1_widens_48 (by decide) ?_
            exact W.zret hx hb hr (by decide) (fun t ht hW => ⟨rfl, by rw [ht]; exact hP, hS.F ht⟩) hS.2.2 dX1_widens_52
          · rw [if_neg hc44]
            refine lv_iconst (v := 0) hx hb dX1_widens_51 (by decide) ?_
            exact W.zret hx hb hr (by decide) (fun t ht hW => ⟨rfl, by rw [ht]; exact hP, hS.F ht⟩) hS.2.2 dX1_widens_52
set_option maxHeartbeats 4000000 in
set_option maxRecDepth 100000 in
theorem kX1_widens (l : Launch) (D : va_G) (this : Nat) (v1 : Int32) (v2 : Int32) (fld : Int32) : Met l yX1_widens wsX1_widens ({ frames := 1, cells := 0, slots := 0, locals := 20 }) (ob_P D 0 this fld [.ref this, .int v1, .int v2]) (ob_QI D 0 this (fX1_widens v1 v2 fld)) 0 0 (fun q => q = this) := by
  refine Met.ofW (cc := cX1_widens) (maxL := 3) (ret := (some .boolean)) (by decide) rfl ?_
  intro p e s m args below meth c s₁ B hml hv
  obtain ⟨rfl, hP, hK⟩ := hv
  have C : px_C p s m _ meth c cX1_widens 3 (some .boolean) RX1 wsX1_widens := ⟨B.exec, B.bytes, hml, findClass_of_methodNamed B.named, atoms_spec (ws := wsX1_widens) B.pre, B.returns, B.notSynchronized⟩
  have hl := lv_entry ([.ref this, .int v1, .int v2]) (n := 3) (Nat.le_of_ble_eq_true rfl)
  rw [lg_entry_eq]
  generalize (lg_sl ([.ref this, .int v1, .int v2]) ++ List.replicate (3 - (lg_sl ([.ref this, .int v1, .int v2])).length) Slot.unset).toArray = ls at hl ⊢
  have hl : lv_has ls 3 [(0, .ref this), (1, .int v1), (2, .int v2)] := hl
  rw [fX1_widens]
  exact wX1_widens_0 C this v1 v2 fld hK hP va_S.rf (lv_sub hl [0, 1, 2] rfl)
set_option maxHeartbeats 4000000 in
set_option maxRecDepth 100000 in
theorem wX1_fails_0 {p : Program} {l : Launch} {e : Env} {s : State} {m : MethodId} {args : Array Value} {below : List Frame} {meth : Method} {c : Code} {D : va_G} (C : px_C p s m args meth c cX1_fails 3 (some .int) RX1 wsX1_fails) (this : Nat) (v1 : Int32) (v2 : Int32) (fld : Int32) {H : Heap} {locs : List Loc} (hK : va_K D vwCl [] s) (hP : va_P D vwCl [(this, .inr (0, [.int fld]))] H) (hS : va_S (fun q => q = this) s.heap H locs) {ls : Array Slot} (hl : lv_has ls 3 [(0, .ref this), (1, .int v1), (2, .int v2)]) : W p l e { frames := 0, cells := 0, slots := 0, locals := 0 } s m args below meth c H locs 0 0 (MQ below (ob_QI D 0 this (fX1_fails_0 v1 v2 fld)) args s 0 0 (fun q => q = this)) (F0 m 0 ls []) := by
  obtain ⟨hx, hb, hml, hown, hts, hr, hlocks⟩ := id C
  rw [fX1_fails_0]
  refine lv_aload_n hx hb dX1_fails_0 rfl (lv_at hl 0 rfl) ?_
  refine lv_iload_n hx hb dX1_fails_1 rfl (lv_at hl 1 rfl) ?_
  refine va_put (D := D) (ci := 0) (v := .int v1) (ty := .int) (C := RX1) (T := TX1) (N := 1) hx hb hts (by decide +kernel) tyX1 tyX1_ok nmX1 hown hK hP (ob_D _ _) hS 0 rfl rfl 0 (by decide) (hts (.fieldLink RX1 9 "KindNumbers" "why" "I") (by decide +kernel)) (fun _ h9 => h9) rfl (by decide +kernel) rfl rfl (Nat.le_of_ble_eq_true rfl) dX1_fails_2 (fun H locs hP _ hS => ?_)
  have hP : va_P D vwCl [(this, .inr (0, [.int v1]))] H := hP
  refine lv_iload_n hx hb dX1_fails_5 rfl (lv_at hl 2 rfl) ?_
  exact W.iret hx hb hr (fun t ht hW => ⟨rfl, by rw [ht]; exact hP, hS.F ht⟩) hS.2.2 dX1_fails_6
set_option maxHeartbeats 4000000 in
set_option maxRecDepth 100000 in
theorem kX1_fails (l : Launch) (D : va_G) (this : Nat) (v1 : Int32) (v2 : Int32) (fld : Int32) : Met l yX1_fails wsX1_fails ({ frames := 0, cells := 0, slots := 0, locals := 0 }) (ob_P D 0 this fld [.ref this, .int v1, .int v2]) (ob_QI D 0 this (fX1_fails v1 v2 fld)) 0 0 (fun q => q = this) := by
  refine Met.ofW (cc := cX1_fails) (maxL := 3) (ret := (some .int)) (by decide) rfl ?_
  intro p e s m args below meth c s₁ B hml hv
  obtain ⟨rfl, hP, hK⟩ := hv
  have C : px_C p s m _ meth c cX1_fails 3 (some .int) RX1 wsX1_fails := ⟨B.exec, B.bytes, hml, findClass_of_methodNamed B.named, atoms_spec (ws := wsX1_fails) B.pre, B.returns, B.notSynchronized⟩
  have hl := lv_entry ([.ref this, .int v1, .int v2]) (n := 3) (Nat.le_of_ble_eq_true rfl)
  rw [lg_entry_eq]
  generalize (lg_sl ([.ref this, .int v1, .int v2]) ++ List.replicate (3 - (lg_sl ([.ref this, .int v1, .int v2])).length) Slot.unset).toArray = ls at hl ⊢
  have hl : lv_has ls 3 [(0, .ref this), (1, .int v1), (2, .int v2)] := hl
  rw [fX1_fails]
  exact wX1_fails_0 C this v1 v2 fld hK hP va_S.rf (lv_sub hl [0, 1, 2] rfl)
set_option maxHeartbeats 4000000 in
set_option maxRecDepth 100000 in
theorem wX1_cast_39 {p : Program} {l : Launch} {e : Env} {s : State} {m : MethodId} {args : Array Value} {below : List Frame} {meth : Method} {c : Code} {D : va_G} (C : px_C p s m args meth c cX1_cast 6 (some .long) RX1 wsX1_cast) (this : Nat) (fld : Int32) {H : Heap} {locs : List Loc} (hK : va_K D vwCl [] s) (hP : va_P D vwCl [(this, .inr (0, [.int fld]))] H) (hS : va_S (fun q => q = this) s.heap H locs) {ls : Array Slot} (hl : lv_has ls 6 [(0, .ref this)]) : W p l e { frames := 5, cells := 0, slots := 0, locals := 121 } s m args below meth c H locs 0 0 (MQ below (ob_QL D 0 this (fX1_cast_39 fld)) args s 0 0 (fun q => q = this)) (F0 m 39 ls []) := by
  obtain ⟨hx, hb, hml, hown, hts, hr, hlocks⟩ := id C
  rw [fX1_cast_39]
  refine lv_aload_n hx hb dX1_cast_39 rfl (lv_at hl 0 rfl) ?_
  refine lv_iconst (v := 1) hx hb dX1_cast_40 (by decide) ?_
  refine lv_iconst (v := 0) hx hb dX1_cast_41 (by decide) ?_
  refine ob_Vi (As := [.int (1 : Int32), .int (0 : Int32)]) (rest := []) ⟨hx, hb, hml, hown, hts⟩ (kX1_fails l D this (1 : Int32) (0 : Int32) fld) hK hP hS (ci := 0) rfl (cwV 2 hts gX1_cast_X1_fails rfl rfl rfl (by decide +kernel) ⟨Nat.le_of_ble_eq_true rfl, Nat.le_of_ble_eq_true rfl⟩) rfl hl.1 rfl (Nat.le_of_ble_eq_true rfl) dX1_cast_42 (Nat.zero_le _) (Nat.zero_le _) (fun H locs hP hS => ?_)
  refine px_i2l hx hb dX1_cast_45 ?_
  exact W.lret hx hb hr (fun t ht hW => ⟨rfl, by rw [ht]; exact hP, hS.F ht⟩) hS.2.2 dX1_cast_46
set_option maxHeartbeats 4000000 in
set_option maxRecDepth 100000 in
theorem wX1_cast_24 {p : Program} {l : Launch} {e : Env} {s : State} {m : MethodId} {args : Array Value} {below : List Frame} {meth : Method} {c : Code} {D : va_G} (C : px_C p s m args meth c cX1_cast 6 (some .long) RX1 wsX1_cast) (this : Nat) (v1 : Int32) (v2 : Int32) (v3 : Int64) (s0 : Int32) (fld : Int32) {H : Heap} {locs : List Loc} (hK : va_K D vwCl [] s) (hP : va_P D vwCl [(this, .inr (0, [.int fld]))] H) (hS : va_S (fun q => q = this) s.heap H locs) {ls : Array Slot} (hl : lv_has ls 6 [(0, .ref this), (1, .int v1), (2, .int v2), (3, .long v3)]) : W p l e { frames := 5, cells := 0, slots := 0, locals := 121 } s m args below meth c H locs 0 0 (MQ below (ob_QL D 0 this (fX1_cast_24 v1 v2 v3 s0 fld)) args s 0 0 (fun q => q = this)) (F0 m 24 ls [.int s0]) := by
  obtain ⟨hx, hb, hml, hown, hts, hr, hlocks⟩ := id C
  rw [fX1_cast_24]
  refine lv_istore (lv' := [(5, .int s0), (0, .ref this), (1, .int v1), (2, .int v2), (3, .long v3)]) hx hb dX1_cast_24 hl (by decide) rfl (fun ls hl => ?_)
  refine lv_iload hx hb dX1_cast_26 (lv_at hl 0 rfl) ?_
  refine px_if_eq (tgt := 39) hx hb dX1_cast_28 (by decide) (fun hc28 => ?_) (fun hc28 => ?_)
  · rw [if_pos hc28]
    exact wX1_cast_39 C this fld hK hP hS (lv_sub hl [1] rfl)
  · rw [if_neg hc28]
    refine lv_iload_n hx hb dX1_cast_31 rfl (lv_at hl 2 rfl) ?_
    refine lv_lload_n hx hb dX1_cast_32 rfl (lv_at hl 4 rfl) ?_
    refine px_S (As := [.int v1, .long v3]) (rest := []) ⟨hx, hb, hml, hown, hts⟩ (kX1_isValue l v1 v3) (va_cwS 2 hts gX1_cast_X1_isValue rfl rfl rfl (by decide +kernel) ⟨Nat.le_of_ble_eq_true rfl, Nat.le_of_ble_eq_true rfl⟩) rfl hl.1 rfl (Nat.le_of_ble_eq_true rfl) dX1_cast_33 (Nat.zero_le _) (Nat.zero_le _) ?_
    refine px_if_ne (tgt := 47) hx hb dX1_cast_36 (by decide) (fun hc36 => ?_) (fun hc36 => ?_)
    · rw [if_pos hc36]
      exact wX1_cast_39 C this fld hK hP hS (lv_sub hl [1] rfl)
    · rw [if_neg hc36]
      refine lv_aload_n hx hb dX1_cast_47 rfl (lv_at hl 1 rfl) ?_
      refine lv_iconst (v := 0) hx hb dX1_cast_48 (by decide) ?_
      refine va_put (D := D) (ci := 0) (v := .int (0 : Int32)) (ty := .int) (C := RX1) (T := TX1) (N := 1) hx hb hts (by decide +kernel) tyX1 tyX1_ok nmX1 hown hK hP (ob_D _ _) hS 0 rfl rfl 0 (by decide) (hts (.fieldLink RX1 9 "KindNumbers" "why" "I") (by decide +kernel)) (fun _ h9 => h9) rfl (by decide +kernel) rfl rfl (Nat.le_of_ble_eq_true rfl) dX1_cast_49 (fun H locs hP _ hS => ?_)
      have hP : va_P D vwCl [(this, .inr (0, [.int (0 : Int32)]))] H := hP
      refine lv_iload_n hx hb dX1_cast_52 rfl (lv_at hl 2 rfl) ?_
      refine lv_iload_n hx hb dX1_cast_53 rfl (lv_at hl 3 rfl) ?_
      refine lv_lload_n hx hb dX1_cast_54 rfl (lv_at hl 4 rfl) ?_
      refine px_S (As := [.int v1, .int v2, .long v3]) (rest := []) ⟨hx, hb, hml, hown, hts⟩ (kX1_converted l v1 v2 v3) (va_cwS 3 hts gX1_cast_X1_converted rfl rfl rfl (by decide +kernel) ⟨Nat.le_of_ble_eq_true rfl, Nat.le_of_ble_eq_true rfl⟩) rfl hl.1 rfl (Nat.le_of_ble_eq_true rfl) dX1_cast_55 (Nat.zero_le _) (Nat.zero_le _) ?_
      exact W.lret hx hb hr (fun t ht hW => ⟨rfl, by rw [ht]; exact hP, hS.F ht⟩) hS.2.2 dX1_cast_58
set_option maxHeartbeats 4000000 in
set_option maxRecDepth 100000 in
theorem wX1_cast_19 {p : Program} {l : Launch} {e : Env} {s : State} {m : MethodId} {args : Array Value} {below : List Frame} {meth : Method} {c : Code} {D : va_G} (C : px_C p s m args meth c cX1_cast 6 (some .long) RX1 wsX1_cast) (this : Nat) (v1 : Int32) (v2 : Int32) (v3 : Int64) (fld : Int32) {H : Heap} {locs : List Loc} (hK : va_K D vwCl [] s) (hP : va_P D vwCl [(this, .inr (0, [.int fld]))] H) (hS : va_S (fun q => q = this) s.heap H locs) {ls : Array Slot} (hl : lv_has ls 6 [(0, .ref this), (1, .int v1), (2, .int v2), (3, .long v3)]) : W p l e { frames := 5, cells := 0, slots := 0, locals := 121 } s m args below meth c H locs 0 0 (MQ below (ob_QL D 0 this (fX1_cast_19 v1 v2 v3 fld)) args s 0 0 (fun q => q = this)) (F0 m 19 ls []) := by
  obtain ⟨hx, hb, hml, hown, hts, hr, hlocks⟩ := id C
  rw [fX1_cast_19]
  refine lv_iconst (v := 1) hx hb dX1_cast_19 (by decide) ?_
  refine lv_goto (tgt := 24) hx hb dX1_cast_20 (by decide) ?_
  exact wX1_cast_24 C this v1 v2 v3 (1 : Int32) fld hK hP hS (lv_sub hl [0, 1, 2, 3] rfl)
set_option maxHeartbeats 4000000 in
set_option maxRecDepth 100000 in
theorem wX1_cast_23 {p : Program} {l : Launch} {e : Env} {s : State} {m : MethodId} {args : Array Value} {below : List Frame} {meth : Method} {c : Code} {D : va_G} (C : px_C p s m args meth c cX1_cast 6 (some .long) RX1 wsX1_cast) (this : Nat) (v1 : Int32) (v2 : Int32) (v3 : Int64) (fld : Int32) {H : Heap} {locs : List Loc} (hK : va_K D vwCl [] s) (hP : va_P D vwCl [(this, .inr (0, [.int fld]))] H) (hS : va_S (fun q => q = this) s.heap H locs) {ls : Array Slot} (hl : lv_has ls 6 [(0, .ref this), (1, .int v1), (2, .int v2), (3, .long v3)]) : W p l e { frames := 5, cells := 0, slots := 0, locals := 121 } s m args below meth c H locs 0 0 (MQ below (ob_QL D 0 this (fX1_cast_23 v1 v2 v3 fld)) args s 0 0 (fun q => q = this)) (F0 m 23 ls []) := by
  obtain ⟨hx, hb, hml, hown, hts, hr, hlocks⟩ := id C
  rw [fX1_cast_23]
  refine lv_iconst (v := 0) hx hb dX1_cast_23 (by decide) ?_
  exact wX1_cast_24 C this v1 v2 v3 (0 : Int32) fld hK hP hS (lv_sub hl [0, 1, 2, 3] rfl)
set_option maxHeartbeats 4000000 in
set_option maxRecDepth 100000 in
theorem wX1_cast_0 {p : Program} {l : Launch} {e : Env} {s : State} {m : MethodId} {args : Array Value} {below : List Frame} {meth : Method} {c : Code} {D : va_G} (C : px_C p s m args meth c cX1_cast 6 (some .long) RX1 wsX1_cast) (this : Nat) (v1 : Int32) (v2 : Int32) (v3 : Int64) (fld : Int32) {H : Heap} {locs : List Loc} (hK : va_K D vwCl [] s) (hP : va_P D vwCl [(this, .inr (0, [.int fld]))] H) (hS : va_S (fun q => q = this) s.heap H locs) {ls : Array Slot} (hl : lv_has ls 6 [(0, .ref this), (1, .int v1), (2, .int v2), (3, .long v3)]) : W p l e { frames := 5, cells := 0, slots := 0, locals := 121 } s m args below meth c H locs 0 0 (MQ below (ob_QL D 0 this (fX1_cast_0 v1 v2 v3 fld)) args s 0 0 (fun q => q = this)) (F0 m 0 ls []) := by
  obtain ⟨hx, hb, hml, hown, hts, hr, hlocks⟩ := id C
  rw [fX1_cast_0]
  refine lv_iload_n hx hb dX1_cast_0 rfl (lv_at hl 1 rfl) ?_
  refine lv_iload_n hx hb dX1_cast_1 rfl (lv_at hl 2 rfl) ?_
  refine px_icmp_eq (tgt := 19) hx hb dX1_cast_2 (by decide) (fun hc2 => ?_) (fun hc2 => ?_)
  · rw [if_pos hc2]
    exact wX1_cast_19 C this v1 v2 v3 fld hK hP hS (lv_sub hl [0, 1, 2, 3] rfl)
  · rw [if_neg hc2]
    refine lv_iload_n hx hb dX1_cast_5 rfl (lv_at hl 1 rfl) ?_
    refine px_S (As := [.int v1]) (rest := []) ⟨hx, hb, hml, hown, hts⟩ (kX1_isNumberKind l v1) (va_cwS 1 hts gX1_cast_X1_isNumberKind rfl rfl rfl (by decide +kernel) ⟨Nat.le_of_ble_eq_true rfl, Nat.le_of_ble_eq_true rfl⟩) rfl hl.1 rfl (Nat.le_of_ble_eq_true rfl) dX1_cast_6 (Nat.zero_le _) (Nat.zero_le _) ?_
    refine px_if_eq (tgt := 23) hx hb dX1_cast_9 (by decide) (fun hc9 => ?_) (fun hc9 => ?_)
    · rw [if_pos hc9]
      exact wX1_cast_23 C this v1 v2 v3 fld hK hP hS (lv_sub hl [0, 1, 2, 3] rfl)
    · rw [if_neg hc9]
      refine lv_iload_n hx hb dX1_cast_12 rfl (lv_at hl 2 rfl) ?_
      refine px_S (As := [.int v2]) (rest := []) ⟨hx, hb, hml, hown, hts⟩ (kX1_isNumberKind l v2) (va_cwS 1 hts gX1_cast_X1_isNumberKind rfl rfl rfl (by decide +kernel) ⟨Nat.le_of_ble_eq_true rfl, Nat.le_of_ble_eq_true rfl⟩) rfl hl.1 rfl (Nat.le_of_ble_eq_true rfl) dX1_cast_13 (Nat.zero_le _) (Nat.zero_le _) ?_
      refine px_if_eq (tgt := 23) hx hb dX1_cast_16 (by decide) (fun hc16 => ?_) (fun hc16 => ?_)
      · rw [if_pos hc16]
        exact wX1_cast_23 C this v1 v2 v3 fld hK hP hS (lv_sub hl [0, 1, 2, 3] rfl)
      · rw [if_neg hc16]
        exact wX1_cast_19 C this v1 v2 v3 fld hK hP hS (lv_sub hl [0, 1, 2, 3] rfl)
set_option maxHeartbeats 4000000 in
set_option maxRecDepth 100000 in
theorem kX1_cast (l : Launch) (D : va_G) (this : Nat) (v1 : Int32) (v2 : Int32) (v3 : Int64) (fld : Int32) : Met l yX1_cast wsX1_cast ({ frames := 5, cells := 0, slots := 0, locals := 121 }) (ob_P D 0 this fld [.ref this, .int v1, .int v2, .long v3]) (ob_QL D 0 this (fX1_cast v1 v2 v3 fld)) 0 0 (fun q => q = this) := by
  refine Met.ofW (cc := cX1_cast) (maxL := 6) (ret := (some .long)) (by decide) rfl ?_
  intro p e s m args below meth c s₁ B hml hv
  obtain ⟨rfl, hP, hK⟩ := hv
  have C : px_C p s m _ meth c cX1_cast 6 (some .long) RX1 wsX1_cast := ⟨B.exec, B.bytes, hml, findClass_of_methodNamed B.named, atoms_spec (ws := wsX1_cast) B.pre, B.returns, B.notSynchronized⟩
  have hl := lv_entry ([.ref this, .int v1, .int v2, .long v3]) (n := 6) (Nat.le_of_ble_eq_true rfl)
  rw [lg_entry_eq]
  generalize (lg_sl ([.ref this, .int v1, .int v2, .long v3]) ++ List.replicate (6 - (lg_sl ([.ref this, .int v1, .int v2, .long v3])).length) Slot.unset).toArray = ls at hl ⊢
  have hl : lv_has ls 6 [(0, .ref this), (1, .int v1), (2, .int v2), (3, .long v3)] := hl
  rw [fX1_cast]
  exact wX1_cast_0 C this v1 v2 v3 fld hK hP va_S.rf (lv_sub hl [0, 1, 2, 3] rfl)
set_option maxHeartbeats 4000000 in
set_option maxRecDepth 100000 in
theorem wX1_workWhole_0 {p : Program} {l : Launch} {e : Env} {s : State} {m : MethodId} {args : Array Value} {below : List Frame} {meth : Method} {c : Code} {D : va_G} (C : px_C p s m args meth c cX1_workWhole 7 (some .long) RX1 wsX1_workWhole) (this : Nat) (v1 : Int32) (v2 : Int32) (v3 : Int64) (v5 : Int64) (fld : Int32) {H : Heap} {locs : List Loc} (hK : va_K D vwCl [] s) (hP : va_P D vwCl [(this, .inr (0, [.int fld]))] H) (hS : va_S (fun q => q = this) s.heap H locs) {ls : Array Slot} (hl : lv_has ls 7 [(0, .ref this), (1, .int v1), (2, .int v2), (3, .long v3), (5, .long v5)]) : W p l e { frames := 1, cells := 0, slots := 0, locals := 22 } s m args below meth c H locs 0 0 (MQ below (ob_QL D 0 this (fX1_workWhole_0 v1 v2 v3 v5 fld)) args s 0 0 (fun q => q = this)) (F0 m 0 ls []) := by
  obtain ⟨hx, hb, hml, hown, hts, hr, hlocks⟩ := id C
  rw [fX1_workWhole_0]
  refine lv_iload_n hx hb dX1_workWhole_0 rfl (lv_at hl 1 rfl) ?_
  by_cases hs1_0 : v1 = (1 : Int32)
  · rw [if_pos hs1_0]
    refine lv_tableIn (tgt := 32) (off := 31) hx hb dX1_workWhole_1 (by rw [hs1_0]; decide) (by rw [hs1_0]; decide) (by rw [hs1_0]; decide +kernel) (by decide) ?_
    refine lv_iload_n hx hb dX1_workWhole_32 rfl (lv_at hl 2 rfl) ?_
    refine lv_lload_n hx hb dX1_workWhole_33 rfl (lv_at hl 3 rfl) ?_
    refine lv_lload hx hb dX1_workWhole_34 (lv_at hl 4 rfl) ?_
    refine lv_ladd hx hb dX1_workWhole_36 ?_
    refine px_S (As := [.int v2, .long (v3 + v5)]) (rest := []) ⟨hx, hb, hml, hown, hts⟩ (kX1_narrowed l v2 (v3 + v5)) (va_cwS 2 hts gX1_workWhole_X1_narrowed rfl rfl rfl (by decide +kernel) ⟨Nat.le_of_ble_eq_true rfl, Nat.le_of_ble_eq_true rfl⟩) rfl hl.1 rfl (Nat.le_of_ble_eq_true rfl) dX1_workWhole_37 (Nat.zero_le _) (Nat.zero_le _) ?_
    exact W.lret hx hb hr (fun t ht hW => ⟨rfl, by rw [ht]; exact hP, hS.F ht⟩) hS.2.2 dX1_workWhole_40
  · rw [if_neg hs1_0]
    by_cases hs1_1 : v1 = (2 : Int32)
    · rw [if_pos hs1_1]
      refine lv_tableIn (tgt := 41) (off := 40) hx hb dX1_workWhole_1 (by rw [hs1_1]; decide) (by rw [hs1_1]; decide) (by rw [hs1_1]; decide +kernel) (by decide) ?_
      refine lv_iload_n hx hb dX1_workWhole_41 rfl (lv_at hl 2 rfl) ?_
      refine lv_lload_n hx hb dX1_workWhole_42 rfl (lv_at hl 3 rfl) ?_
      refine lv_lload hx hb dX1_workWhole_43 (lv_at hl 4 rfl) ?_
      refine lv_lsub hx hb dX1_workWhole_45 ?_
      refine px_S (As := [.int v2, .long (v3 - v5)]) (rest := []) ⟨hx, hb, hml, hown, hts⟩ (kX1_narrowed l v2 (v3 - v5)) (va_cwS 2 hts gX1_workWhole_X1_narrowed rfl rfl rfl (by decide +kernel) ⟨Nat.le_of_ble_eq_true rfl, Nat.le_of_ble_eq_true rfl⟩) rfl hl.1 rfl (Nat.le_of_ble_eq_true rfl) dX1_workWhole_46 (Nat.zero_le _) (Nat.zero_le _) ?_
      exact W.lret hx hb hr (fun t ht hW => ⟨rfl, by rw [ht]; exact hP, hS.F ht⟩) hS.2.2 dX1_workWhole_49
    · rw [if_neg hs1_1]
      by_cases hs1_2 : v1 = (3 : Int32)
      · rw [if_pos hs1_2]
        refine lv_tableIn (tgt := 50) (off := 49) hx hb dX1_workWhole_1 (by rw [hs1_2]; decide) (by rw [hs1_2]; decide) (by rw [hs1_2]; decide +kernel) (by decide) ?_
        refine lv_iload_n hx hb dX1_workWhole_50 rfl (lv_at hl 2 rfl) ?_
        refine lv_lload_n hx hb dX1_workWhole_51 rfl (lv_at hl 3 rfl) ?_
        refine lv_lload hx hb dX1_workWhole_52 (lv_at hl 4 rfl) ?_
        refine lv_lmul hx hb dX1_workWhole_54 ?_
        refine px_S (As := [.int v2, .long (v3 * v5)]) (rest := []) ⟨hx, hb, hml, hown, hts⟩ (kX1_narrowed l v2 (v3 * v5)) (va_cwS 2 hts gX1_workWhole_X1_narrowed rfl rfl rfl (by decide +kernel) ⟨Nat.le_of_ble_eq_true rfl, Nat.le_of_ble_eq_true rfl⟩) rfl hl.1 rfl (Nat.le_of_ble_eq_true rfl) dX1_workWhole_55 (Nat.zero_le _) (Nat.zero_le _) ?_
        exact W.lret hx hb hr (fun t ht hW => ⟨rfl, by rw [ht]; exact hP, hS.F ht⟩) hS.2.2 dX1_workWhole_58
      · rw [if_neg hs1_2]
        by_cases hs1_3 : v1 = (4 : Int32)
        · rw [if_pos hs1_3]
          refine lv_tableIn (tgt := 59) (off := 58) hx hb dX1_workWhole_1 (by rw [hs1_3]; decide) (by rw [hs1_3]; decide) (by rw [hs1_3]; decide +kernel) (by decide) ?_
          refine lv_lload hx hb dX1_workWhole_59 (lv_at hl 4 rfl) ?_
          refine lv_lconst (v := 0) hx hb dX1_workWhole_61 (by decide) ?_
          refine px_lcmp_ne (tgt := 77) hx hb dX1_workWhole_62 dX1_workWhole_63 (by decide) (fun hc62 => ?_) (fun hc62 => ?_)
          · rw [if_pos hc62]
            refine lv_aload_n hx hb dX1_workWhole_66 rfl (lv_at hl 0 rfl) ?_
            refine lv_bipush (v := 8) hx hb dX1_workWhole_67 (by decide) ?_
            refine lv_iconst (v := 0) hx hb dX1_workWhole_69 (by decide) ?_
            refine ob_Vi (As := [.int (8 : Int32), .int (0 : Int32)]) (rest := []) ⟨hx, hb, hml, hown, hts⟩ (kX1_fails l D this (8 : Int32) (0 : Int32) fld) hK hP hS (ci := 0) rfl (cwV 2 hts gX1_workWhole_X1_fails rfl rfl rfl (by decide +kernel) ⟨Nat.le_of_ble_eq_true rfl, Nat.le_of_ble_eq_true rfl⟩) rfl hl.1 rfl (Nat.le_of_ble_eq_true rfl) dX1_workWhole_70 (Nat.zero_le _) (Nat.zero_le _) (fun H locs hP hS => ?_)
            refine px_i2l hx hb dX1_workWhole_73 ?_
            refine lv_goto (tgt := 85) hx hb dX1_workWhole_74 (by decide) ?_
            exact W.lret hx hb hr (fun t ht hW => ⟨rfl, by rw [ht]; exact hP, hS.F ht⟩) hS.2.2 dX1_workWhole_85
          · rw [if_neg hc62]
            refine lv_iload_n hx hb dX1_workWhole_77 rfl (lv_at hl 2 rfl) ?_
            refine lv_lload_n hx hb dX1_workWhole_78 rfl (lv_at hl 3 rfl) ?_
            refine lv_lload hx hb dX1_workWhole_79 (lv_at hl 4 rfl) ?_
            refine lv_ldiv hx hb dX1_workWhole_81 hc62 ?_
            refine px_S (As := [.int v2, .long (v3 / v5)]) (rest := []) ⟨hx, hb, hml, hown, hts⟩ (kX1_narrowed l v2 (v3 / v5)) (va_cwS 2 hts gX1_workWhole_X1_narrowed rfl rfl rfl (by decide +kernel) ⟨Nat.le_of_ble_eq_true rfl, Nat.le_of_ble_eq_true rfl⟩) rfl hl.1 rfl (Nat.le_of_ble_eq_true rfl) dX1_workWhole_82 (Nat.zero_le _) (Nat.zero_le _) ?_
            exact W.lret hx hb hr (fun t ht hW => ⟨rfl, by rw [ht]; exact hP, hS.F ht⟩) hS.2.2 dX1_workWhole_85
        · rw [if_neg hs1_3]
          refine lv_tableOut (tgt := 86) hx hb dX1_workWhole_1 (by have q0 := lv_neT (a := 1) hs1_0 (by decide); have q1 := lv_neT (a := 2) hs1_1 (by decide); have q2 := lv_neT (a := 3) hs1_2 (by decide); have q3 := lv_neT (a := 4) hs1_3 (by decide); omega) (by decide) ?_
          refine lv_lload hx hb dX1_workWhole_86 (lv_at hl 4 rfl) ?_
          refine lv_lconst (v := 0) hx hb dX1_workWhole_88 (by decide) ?_
          refine px_lcmp_ne (tgt := 104) hx hb dX1_workWhole_89 dX1_workWhole_90 (by decide) (fun hc89 => ?_) (fun hc89 => ?_)
          · rw [if_pos hc89]
            refine lv_aload_n hx hb dX1_workWhole_93 rfl (lv_at hl 0 rfl) ?_
            refine lv_bipush (v := 8) hx hb dX1_workWhole_94 (by decide) ?_
            refine lv_iconst (v := 0) hx hb dX1_workWhole_96 (by decide) ?_
            refine ob_Vi (As := [.int (8 : Int32), .int (0 : Int32)]) (rest := []) ⟨hx, hb, hml, hown, hts⟩ (kX1_fails l D this (8 : Int32) (0 : Int32) fld) hK hP hS (ci := 0) rfl (cwV 2 hts gX1_workWhole_X1_fails rfl rfl rfl (by decide +kernel) ⟨Nat.le_of_ble_eq_true rfl, Nat.le_of_ble_eq_true rfl⟩) rfl hl.1 rfl (Nat.le_of_ble_eq_true rfl) dX1_workWhole_97 (Nat.zero_le _) (Nat.zero_le _) (fun H locs hP hS => ?_)
            refine px_i2l hx hb dX1_workWhole_100 ?_
            refine lv_goto (tgt := 112) hx hb dX1_workWhole_101 (by decide) ?_
            exact W.lret hx hb hr (fun t ht hW => ⟨rfl, by rw [ht]; exact hP, hS.F ht⟩) hS.2.2 dX1_workWhole_112
          · rw [if_neg hc89]
            refine lv_iload_n hx hb dX1_workWhole_104 rfl (lv_at hl 2 rfl) ?_
            refine lv_lload_n hx hb dX1_workWhole_105 rfl (lv_at hl 3 rfl) ?_
            refine lv_lload hx hb dX1_workWhole_106 (lv_at hl 4 rfl) ?_
            refine px_lrem hx hb dX1_workWhole_108 hc89 ?_
            refine px_S (As := [.int v2, .long (jrem v3 v5)]) (rest := []) ⟨hx, hb, hml, hown, hts⟩ (kX1_narrowed l v2 (jrem v3 v5)) (va_cwS 2 hts gX1_workWhole_X1_narrowed rfl rfl rfl (by decide +kernel) ⟨Nat.le_of_ble_eq_true rfl, Nat.le_of_ble_eq_true rfl⟩) rfl hl.1 rfl (Nat.le_of_ble_eq_true rfl) dX1_workWhole_109 (Nat.zero_le _) (Nat.zero_le _) ?_
            exact W.lret hx hb hr (fun t ht hW => ⟨rfl, by rw [ht]; exact hP, hS.F ht⟩) hS.2.2 dX1_workWhole_112
set_option maxHeartbeats 4000000 in
set_option maxRecDepth 100000 in
theorem kX1_workWhole (l : Launch) (D : va_G) (this : Nat) (v1 : Int32) (v2 : Int32) (v3 : Int64) (v5 : Int64) (fld : Int32) : Met l yX1_workWhole wsX1_workWhole ({ frames := 1, cells := 0, slots := 0, locals := 22 }) (ob_P D 0 this fld [.ref this, .int v1, .int v2, .long v3, .long v5]) (ob_QL D 0 this (fX1_workWhole v1 v2 v3 v5 fld)) 0 0 (fun q => q = this) := by
  refine Met.ofW (cc := cX1_workWhole) (maxL := 7) (ret := (some .long)) (by decide) rfl ?_
  intro p e s m args below meth c s₁ B hml hv
  obtain ⟨rfl, hP, hK⟩ := hv
  have C : px_C p s m _ meth c cX1_workWhole 7 (some .long) RX1 wsX1_workWhole := ⟨B.exec, B.bytes, hml, findClass_of_methodNamed B.named, atoms_spec (ws := wsX1_workWhole) B.pre, B.returns, B.notSynchronized⟩
  have hl := lv_entry ([.ref this, .int v1, .int v2, .long v3, .long v5]) (n := 7) (Nat.le_of_ble_eq_true rfl)
  rw [lg_entry_eq]
  generalize (lg_sl ([.ref this, .int v1, .int v2, .long v3, .long v5]) ++ List.replicate (7 - (lg_sl ([.ref this, .int v1, .int v2, .long v3, .long v5])).length) Slot.unset).toArray = ls at hl ⊢
  have hl : lv_has ls 7 [(0, .ref this), (1, .int v1), (2, .int v2), (3, .long v3), (5, .long v5)] := hl
  rw [fX1_workWhole]
  exact wX1_workWhole_0 C this v1 v2 v3 v5 fld hK hP va_S.rf (lv_sub hl [0, 1, 2, 3, 4] rfl)
set_option maxHeartbeats 4000000 in
set_option maxRecDepth 100000 in
theorem wX1_workReal_93 {p : Program} {l : Launch} {e : Env} {s : State} {m : MethodId} {args : Array Value} {below : List Frame} {meth : Method} {c : Code} {D : va_G} (C : px_C p s m args meth c cX1_workReal 9 (some .long) RX1 wsX1_workReal) (this : Nat) (v2 : Int32) (v7 : Int64) (fld : Int32) {H : Heap} {locs : List Loc} (hK : va_K D vwCl [] s) (hP : va_P D vwCl [(this, .inr (0, [.int fld]))] H) (hS : va_S (fun q => q = this) s.heap H locs) {ls : Array Slot} (hl : lv_has ls 9 [(0, .ref this), (2, .int v2), (7, .long v7)]) : W p l e { frames := 5, cells := 0, slots := 0, locals := 129 } s m args below meth c H locs 0 0 (MQ below (ob_QL D 0 this (fX1_workReal_93 v2 v7 fld)) args s 0 0 (fun q => q = this)) (F0 m 93 ls []) := by
  obtain ⟨hx, hb, hml, hown, hts, hr, hlocks⟩ := id C
  rw [fX1_workReal_93]
  refine lv_iload_n hx hb dX1_workReal_93 rfl (lv_at hl 1 rfl) ?_
  refine lv_lload hx hb dX1_workReal_94 (lv_at hl 2 rfl) ?_
  refine px_S (As := [.int v2, .long v7]) (rest := []) ⟨hx, hb, hml, hown, hts⟩ (kX0_isNumber l v2 v7) (va_cwS 2 hts gX1_workReal_X0_isNumber rfl rfl rfl (by decide +kernel) ⟨Nat.le_of_ble_eq_true rfl, Nat.le_of_ble_eq_true rfl⟩) rfl hl.1 rfl (Nat.le_of_ble_eq_true rfl) dX1_workReal_96 (Nat.zero_le _) (Nat.zero_le _) ?_
  refine px_if_eq (tgt := 107) hx hb dX1_workReal_99 (by decide) (fun hc99 => ?_) (fun hc99 => ?_)
  · rw [if_pos hc99]
    refine lv_aload_n hx hb dX1_workReal_107 rfl (lv_at hl 0 rfl) ?_
    refine lv_bipush (v := 8) hx hb dX1_workReal_108 (by decide) ?_
    refine lv_iconst (v := 0) hx hb dX1_workReal_110 (by decide) ?_
    refine ob_Vi (As := [.int (8 : Int32), .int (0 : Int32)]) (rest := []) ⟨hx, hb, hml, hown, hts⟩ (kX1_fails l D this (8 : Int32) (0 : Int32) fld) hK hP hS (ci := 0) rfl (cwV 2 hts gX1_workReal_X1_fails rfl rfl rfl (by decide +kernel) ⟨Nat.le_of_ble_eq_true rfl, Nat.le_of_ble_eq_true rfl⟩) rfl hl.1 rfl (Nat.le_of_ble_eq_true rfl) dX1_workReal_111 (Nat.zero_le _) (Nat.zero_le _) (fun H locs hP hS => ?_)
    refine px_i2l hx hb dX1_workReal_114 ?_
    exact W.lret hx hb hr (fun t ht hW => ⟨rfl, by rw [ht]; exact hP, hS.F ht⟩) hS.2.2 dX1_workReal_115
  · rw [if_neg hc99]
    refine lv_lload hx hb dX1_workReal_102 (lv_at hl 2 rfl) ?_
    refine lv_goto (tgt := 115) hx hb dX1_workReal_104 (by decide) ?_
    exact W.lret hx hb hr (fun t ht hW => ⟨rfl, by rw [ht]; exact hP, hS.F ht⟩) hS.2.2 dX1_workReal_115
set_option maxHeartbeats 4000000 in
set_option maxRecDepth 100000 in
theorem wX1_workReal_0 {p : Program} {l : Launch} {e : Env} {s : State} {m : MethodId} {args : Array Value} {below : List Frame} {meth : Method} {c : Code} {D : va_G} (C : px_C p s m args meth c cX1_workReal 9 (some .long) RX1 wsX1_workReal) (this : Nat) (v1 : Int32) (v2 : Int32) (v3 : Int64) (v5 : Int64) (fld : Int32) {H : Heap} {locs : List Loc} (hK : va_K D vwCl [] s) (hP : va_P D vwCl [(this, .inr (0, [.int fld]))] H) (hS : va_S (fun q => q = this) s.heap H locs) {ls : Array Slot} (hl : lv_has ls 9 [(0, .ref this), (1, .int v1), (2, .int v2), (3, .long v3), (5, .long v5)]) : W p l e { frames := 5, cells := 0, slots := 0, locals := 129 } s m args below meth c H locs 0 0 (MQ below (ob_QL D 0 this (fX1_workReal_0 v1 v2 v3 v5 fld)) args s 0 0 (fun q => q = this)) (F0 m 0 ls []) := by
  obtain ⟨hx, hb, hml, hown, hts, hr, hlocks⟩ := id C
  rw [fX1_workReal_0]
  refine lv_iload_n hx hb dX1_workReal_0 rfl (lv_at hl 1 rfl) ?_
  by_cases hs1_0 : v1 = (1 : Int32)
  · rw [if_pos hs1_0]
    refine lv_tableIn (tgt := 32) (off := 31) hx hb dX1_workReal_1 (by rw [hs1_0]; decide) (by rw [hs1_0]; decide) (by rw [hs1_0]; decide +kernel) (by decide) ?_
    refine lv_iload_n hx hb dX1_workReal_32 rfl (lv_at hl 2 rfl) ?_
    refine lv_lload_n hx hb dX1_workReal_33 rfl (lv_at hl 3 rfl) ?_
    refine lv_lload hx hb dX1_workReal_34 (lv_at hl 4 rfl) ?_
    refine px_S (As := [.int v2, .long v3, .long v5]) (rest := []) ⟨hx, hb, hml, hown, hts⟩ (kX0_sum l v2 v3 v5) (va_cwS 3 hts gX1_workReal_X0_sum rfl rfl rfl (by decide +kernel) ⟨Nat.le_of_ble_eq_true rfl, Nat.le_of_ble_eq_true rfl⟩) rfl hl.1 rfl (Nat.le_of_ble_eq_true rfl) dX1_workReal_36 (Nat.zero_le _) (Nat.zero_le _) ?_
    refine lv_topl (fun v7_39 ev7_39 => ?_)
    rw [← ev7_39]
    refine lv_lstore (lv' := [(7, .long v7_39), (0, .ref this), (1, .int v1), (2, .int v2), (3, .long v3), (5, .long v5)]) hx hb dX1_workReal_39 hl (by decide) rfl (fun ls hl => ?_)
    rw [fX1_workReal_41]
    refine lv_goto (tgt := 93) hx hb dX1_workReal_41 (by decide) ?_
    exact wX1_workReal_93 C this v2 v7_39 fld hK hP hS (lv_sub hl [1, 3, 0] rfl)
  · rw [if_neg hs1_0]
    by_cases hs1_1 : v1 = (2 : Int32)
    · rw [if_pos hs1_1]
      refine lv_tableIn (tgt := 44) (off := 43) hx hb dX1_workReal_1 (by rw [hs1_1]; decide) (by rw [hs1_1]; decide) (by rw [hs1_1]; decide +kernel) (by decide) ?_
      refine lv_iload_n hx hb dX1_workReal_44 rfl (lv_at hl 2 rfl) ?_
      refine lv_lload_n hx hb dX1_workReal_45 rfl (lv_at hl 3 rfl) ?_
      refine lv_iload_n hx hb dX1_workReal_46 rfl (lv_at hl 2 rfl) ?_
      refine lv_lload hx hb dX1_workReal_47 (lv_at hl 4 rfl) ?_
      refine px_S (As := [.int v2, .long v5]) (rest := [.long v3, .int v2]) ⟨hx, hb, hml, hown, hts⟩ (kX0_negated l v2 v5) (va_cwS 2 hts gX1_workReal_X0_negated rfl rfl rfl (by decide +kernel) ⟨Nat.le_of_ble_eq_true rfl, Nat.le_of_ble_eq_true rfl⟩) rfl hl.1 rfl (Nat.le_of_ble_eq_true rfl) dX1_workReal_49 (Nat.zero_le _) (Nat.zero_le _) ?_
      refine px_S (As := [.int v2, .long v3, .long (fX0_negated v2 v5)]) (rest := []) ⟨hx, hb, hml, hown, hts⟩ (kX0_sum l v2 v3 (fX0_negated v2 v5)) (va_cwS 3 hts gX1_workReal_X0_sum rfl rfl rfl (by decide +kernel) ⟨Nat.le_of_ble_eq_true rfl, Nat.le_of_ble_eq_true rfl⟩) rfl hl.1 rfl (Nat.le_of_ble_eq_true rfl) dX1_workReal_52 (Nat.zero_le _) (Nat.zero_le _) ?_
      refine lv_topl (fun v7_55 ev7_55 => ?_)
      rw [← ev7_55]
      refine lv_lstore (lv' := [(7, .long v7_55), (0, .ref this), (1, .int v1), (2, .int v2), (3, .long v3), (5, .long v5)]) hx hb dX1_workReal_55 hl (by decide) rfl (fun ls hl => ?_)
      rw [fX1_workReal_57]
      refine lv_goto (tgt := 93) hx hb dX1_workReal_57 (by decide) ?_
      exact wX1_workReal_93 C this v2 v7_55 fld hK hP hS (lv_sub hl [1, 3, 0] rfl)
    · rw [if_neg hs1_1]
      by_cases hs1_2 : v1 = (3 : Int32)
      · rw [if_pos hs1_2]
        refine lv_tableIn (tgt := 60) (off := 59) hx hb dX1_workReal_1 (by rw [hs1_2]; decide) (by rw [hs1_2]; decide) (by rw [hs1_2]; decide +kernel) (by decide) ?_
        refine lv_iload_n hx hb dX1_workReal_60 rfl (lv_at hl 2 rfl) ?_
        refine lv_lload_n hx hb dX1_workReal_61 rfl (lv_at hl 3 rfl) ?_
        refine lv_lload hx hb dX1_workReal_62 (lv_at hl 4 rfl) ?_
        refine px_S (As := [.int v2, .long v3, .long v5]) (rest := []) ⟨hx, hb, hml, hown, hts⟩ (kX0_product l v2 v3 v5) (va_cwS 3 hts gX1_workReal_X0_product rfl rfl rfl (by decide +kernel) ⟨Nat.le_of_ble_eq_true rfl, Nat.le_of_ble_eq_true rfl⟩) rfl hl.1 rfl (Nat.le_of_ble_eq_true rfl) dX1_workReal_64 (Nat.zero_le _) (Nat.zero_le _) ?_
        refine lv_topl (fun v7_67 ev7_67 => ?_)
        rw [← ev7_67]
        refine lv_lstore (lv' := [(7, .long v7_67), (0, .ref this), (1, .int v1), (2, .int v2), (3, .long v3), (5, .long v5)]) hx hb dX1_workReal_67 hl (by decide) rfl (fun ls hl => ?_)
        rw [fX1_workReal_69]
        refine lv_goto (tgt := 93) hx hb dX1_workReal_69 (by decide) ?_
        exact wX1_workReal_93 C this v2 v7_67 fld hK hP hS (lv_sub hl [1, 3, 0] rfl)
      · rw [if_neg hs1_2]
        by_cases hs1_3 : v1 = (4 : Int32)
        · rw [if_pos hs1_3]
          refine lv_tableIn (tgt := 72) (off := 71) hx hb dX1_workReal_1 (by rw [hs1_3]; decide) (by rw [hs1_3]; decide) (by rw [hs1_3]; decide +kernel) (by decide) ?_
          refine lv_iload_n hx hb dX1_workReal_72 rfl (lv_at hl 2 rfl) ?_
          refine lv_lload_n hx hb dX1_workReal_73 rfl (lv_at hl 3 rfl) ?_
          refine lv_lload hx hb dX1_workReal_74 (lv_at hl 4 rfl) ?_
          refine px_S (As := [.int v2, .long v3, .long v5]) (rest := []) ⟨hx, hb, hml, hown, hts⟩ (kX0_quotient l v2 v3 v5) (va_cwS 3 hts gX1_workReal_X0_quotient rfl rfl rfl (by decide +kernel) ⟨Nat.le_of_ble_eq_true rfl, Nat.le_of_ble_eq_true rfl⟩) rfl hl.1 rfl (Nat.le_of_ble_eq_true rfl) dX1_workReal_76 (Nat.zero_le _) (Nat.zero_le _) ?_
          refine lv_topl (fun v7_79 ev7_79 => ?_)
          rw [← ev7_79]
          refine lv_lstore (lv' := [(7, .long v7_79), (0, .ref this), (1, .int v1), (2, .int v2), (3, .long v3), (5, .long v5)]) hx hb dX1_workReal_79 hl (by decide) rfl (fun ls hl => ?_)
          rw [fX1_workReal_81]
          refine lv_goto (tgt := 93) hx hb dX1_workReal_81 (by decide) ?_
          exact wX1_workReal_93 C this v2 v7_79 fld hK hP hS (lv_sub hl [1, 3, 0] rfl)
        · rw [if_neg hs1_3]
          refine lv_tableOut (tgt := 84) hx hb dX1_workReal_1 (by have q0 := lv_neT (a := 1) hs1_0 (by decide); have q1 := lv_neT (a := 2) hs1_1 (by decide); have q2 := lv_neT (a := 3) hs1_2 (by decide); have q3 := lv_neT (a := 4) hs1_3 (by decide); omega) (by decide) ?_
          refine lv_iload_n hx hb dX1_workReal_84 rfl (lv_at hl 2 rfl) ?_
          refine lv_lload_n hx hb dX1_workReal_85 rfl (lv_at hl 3 rfl) ?_
          refine lv_lload hx hb dX1_workReal_86 (lv_at hl 4 rfl) ?_
          refine px_S (As := [.int v2, .long v3, .long v5]) (rest := []) ⟨hx, hb, hml, hown, hts⟩ (kX0_rest l v2 v3 v5) (va_cwS 3 hts gX1_workReal_X0_rest rfl rfl rfl (by decide +kernel) ⟨Nat.le_of_ble_eq_true rfl, Nat.le_of_ble_eq_true rfl⟩) rfl hl.1 rfl (Nat.le_of_ble_eq_true rfl) dX1_workReal_88 (Nat.zero_le _) (Nat.zero_le _) ?_
          refine lv_lstore (lv' := [(7, .long (fX0_rest v2 v3 v5)), (0, .ref this), (1, .int v1), (2, .int v2), (3, .long v3), (5, .long v5)]) hx hb dX1_workReal_91 hl (by decide) rfl (fun ls hl => ?_)
          exact wX1_workReal_93 C this v2 (fX0_rest v2 v3 v5) fld hK hP hS (lv_sub hl [1, 3, 0] rfl)
set_option maxHeartbeats 4000000 in
set_option maxRecDepth 100000 in
theorem kX1_workReal (l : Launch) (D : va_G) (this : Nat) (v1 : Int32) (v2 : Int32) (v3 : Int64) (v5 : Int64) (fld : Int32) : Met l yX1_workReal wsX1_workReal ({ frames := 5, cells := 0, slots := 0, locals := 129 }) (ob_P D 0 this fld [.ref this, .int v1, .int v2, .long v3, .long v5]) (ob_QL D 0 this (fX1_workReal v1 v2 v3 v5 fld)) 0 0 (fun q => q = this) := by
  refine Met.ofW (cc := cX1_workReal) (maxL := 9) (ret := (some .long)) (by decide) rfl ?_
  intro p e s m args below meth c s₁ B hml hv
  obtain ⟨rfl, hP, hK⟩ := hv
  have C : px_C p s m _ meth c cX1_workReal 9 (some .long) RX1 wsX1_workReal := ⟨B.exec, B.bytes, hml, findClass_of_methodNamed B.named, atoms_spec (ws := wsX1_workReal) B.pre, B.returns, B.notSynchronized⟩
  have hl := lv_entry ([.ref this, .int v1, .int v2, .long v3, .long v5]) (n := 9) (Nat.le_of_ble_eq_true rfl)
  rw [lg_entry_eq]
  generalize (lg_sl ([.ref this, .int v1, .int v2, .long v3, .long v5]) ++ List.replicate (9 - (lg_sl ([.ref this, .int v1, .int v2, .long v3, .long v5])).length) Slot.unset).toArray = ls at hl ⊢
  have hl : lv_has ls 9 [(0, .ref this), (1, .int v1), (2, .int v2), (3, .long v3), (5, .long v5)] := hl
  rw [fX1_workReal]
  exact wX1_workReal_0 C this v1 v2 v3 v5 fld hK hP va_S.rf (lv_sub hl [0, 1, 2, 3, 4] rfl)
set_option maxHeartbeats 4000000 in
set_option maxRecDepth 100000 in
theorem wX1_work_22 {p : Program} {l : Launch} {e : Env} {s : State} {m : MethodId} {args : Array Value} {below : List Frame} {meth : Method} {c : Code} {D : va_G} (C : px_C p s m args meth c cX1_work 13 (some .long) RX1 wsX1_work) (this : Nat) (fld : Int32) {H : Heap} {locs : List Loc} (hK : va_K D vwCl [] s) (hP : va_P D vwCl [(this, .inr (0, [.int fld]))] H) (hS : va_S (fun q => q = this) s.heap H locs) {ls : Array Slot} (hl : lv_has ls 13 [(0, .ref this)]) : W p l e { frames := 6, cells := 0, slots := 0, locals := 157 } s m args below meth c H locs 0 0 (MQ below (ob_QL D 0 this (fX1_work_22 fld)) args s 0 0 (fun q => q = this)) (F0 m 22 ls []) := by
  obtain ⟨hx, hb, hml, hown, hts, hr, hlocks⟩ := id C
  rw [fX1_work_22]
  refine lv_aload_n hx hb dX1_work_22 rfl (lv_at hl 0 rfl) ?_
  refine lv_iconst (v := 1) hx hb dX1_work_23 (by decide) ?_
  refine lv_iconst (v := 0) hx hb dX1_work_24 (by decide) ?_
  refine ob_Vi (As := [.int (1 : Int32), .int (0 : Int32)]) (rest := []) ⟨hx, hb, hml, hown, hts⟩ (kX1_fails l D this (1 : Int32) (0 : Int32) fld) hK hP hS (ci := 0) rfl (cwV 2 hts gX1_work_X1_fails rfl rfl rfl (by decide +kernel) ⟨Nat.le_of_ble_eq_true rfl, Nat.le_of_ble_eq_true rfl⟩) rfl hl.1 rfl (Nat.le_of_ble_eq_true rfl) dX1_work_25 (Nat.zero_le _) (Nat.zero_le _) (fun H locs hP hS => ?_)
  refine px_i2l hx hb dX1_work_28 ?_
  exact W.lret hx hb hr (fun t ht hW => ⟨rfl, by rw [ht]; exact hP, hS.F ht⟩) hS.2.2 dX1_work_29
set_option maxHeartbeats 4000000 in
set_option maxRecDepth 100000 in
theorem wX1_work_0 {p : Program} {l : Launch} {e : Env} {s : State} {m : MethodId} {args : Array Value} {below : List Frame} {meth : Method} {c : Code} {D : va_G} (C : px_C p s m args meth c cX1_work 13 (some .long) RX1 wsX1_work) (this : Nat) (v1 : Int32) (v2 : Int32) (v3 : Int64) (v5 : Int32) (v6 : Int64) (fld : Int32) {H : Heap} {locs : List Loc} (hK : va_K D vwCl [] s) (hP : va_P D vwCl [(this, .inr (0, [.int fld]))] H) (hS : va_S (fun q => q = this) s.heap H locs) {ls : Array Slot} (hl : lv_has ls 13 [(0, .ref this), (1, .int v1), (2, .int v2), (3, .long v3), (5, .int v5), (6, .long v6)]) : W p l e { frames := 6, cells := 0, slots := 0, locals := 157 } s m args below meth c H locs 0 0 (MQ below (ob_QL D 0 this (fX1_work_0 v1 v2 v3 v5 v6 fld)) args s 0 0 (fun q => q = this)) (F0 m 0 ls []) := by
  obtain ⟨hx, hb, hml, hown, hts, hr, hlocks⟩ := id C
  rw [fX1_work_0]
  refine lv_iload_n hx hb dX1_work_0 rfl (lv_at hl 1 rfl) ?_
  refine lv_iconst (v := 1) hx hb dX1_work_1 (by decide) ?_
  refine px_icmp_lt (tgt := 22) hx hb dX1_work_2 (by decide) (fun hc2 => ?_) (fun hc2 => ?_)
  · rw [if_pos hc2]
    exact wX1_work_22 C this fld hK hP hS (lv_sub hl [0] rfl)
  · rw [if_neg hc2]
    refine lv_iload_n hx hb dX1_work_5 rfl (lv_at hl 1 rfl) ?_
    refine lv_iconst (v := 5) hx hb dX1_work_6 (by decide) ?_
    refine px_icmp_gt (tgt := 22) hx hb dX1_work_7 (by decide) (fun hc7 => ?_) (fun hc7 => ?_)
    · rw [if_pos hc7]
      exact wX1_work_22 C this fld hK hP hS (lv_sub hl [0] rfl)
    · rw [if_neg hc7]
      refine lv_iload_n hx hb dX1_work_10 rfl (lv_at hl 2 rfl) ?_
      refine lv_lload_n hx hb dX1_work_11 rfl (lv_at hl 3 rfl) ?_
      refine lv_iload hx hb dX1_work_12 (lv_at hl 4 rfl) ?_
      refine lv_lload hx hb dX1_work_14 (lv_at hl 5 rfl) ?_
      refine px_S (As := [.int v2, .long v3, .int v5, .long v6]) (rest := []) ⟨hx, hb, hml, hown, hts⟩ (kX1_areNumbers l v2 v3 v5 v6) (va_cwS 4 hts gX1_work_X1_areNumbers rfl rfl rfl (by decide +kernel) ⟨Nat.le_of_ble_eq_true rfl, Nat.le_of_ble_eq_true rfl⟩) rfl hl.1 rfl (Nat.le_of_ble_eq_true rfl) dX1_work_16 (Nat.zero_le _) (Nat.zero_le _) ?_
      refine px_if_ne (tgt := 30) hx hb dX1_work_19 (by decide) (fun hc19 => ?_) (fun hc19 => ?_)
      · rw [if_pos hc19]
        exact wX1_work_22 C this fld hK hP hS (lv_sub hl [0] rfl)
      · rw [if_neg hc19]
        refine lv_aload_n hx hb dX1_work_30 rfl (lv_at hl 0 rfl) ?_
        refine lv_iconst (v := 0) hx hb dX1_work_31 (by decide) ?_
        refine va_put (D := D) (ci := 0) (v := .int (0 : Int32)) (ty := .int) (C := RX1) (T := TX1) (N := 1) hx hb hts (by decide +kernel) tyX1 tyX1_ok nmX1 hown hK hP (ob_D _ _) hS 0 rfl rfl 0 (by decide) (hts (.fieldLink RX1 9 "KindNumbers" "why" "I") (by decide +kernel)) (fun _ h9 => h9) rfl (by decide +kernel) rfl rfl (Nat.le_of_ble_eq_true rfl) dX1_work_32 (fun H locs hP _ hS => ?_)
        have hP : va_P D vwCl [(this, .inr (0, [.int (0 : Int32)]))] H := hP
        refine lv_iload_n hx hb dX1_work_35 rfl (lv_at hl 2 rfl) ?_
        refine lv_iload hx hb dX1_work_36 (lv_at hl 4 rfl) ?_
        refine px_S (As := [.int v2, .int v5]) (rest := []) ⟨hx, hb, hml, hown, hts⟩ (kX1_workKind l v2 v5) (va_cwS 2 hts gX1_work_X1_workKind rfl rfl rfl (by decide +kernel) ⟨Nat.le_of_ble_eq_true rfl, Nat.le_of_ble_eq_true rfl⟩) rfl hl.1 rfl (Nat.le_of_ble_eq_true rfl) dX1_work_38 (Nat.zero_le _) (Nat.zero_le _) ?_
        refine lv_topi (fun v8_41 ev8_41 => ?_)
        rw [← ev8_41]
        refine lv_istore (lv' := [(8, .int v8_41), (0, .ref this), (1, .int v1), (2, .int v2), (3, .long v3), (5, .int v5), (6, .long v6)]) hx hb dX1_work_41 hl (by decide) rfl (fun ls hl => ?_)
        rw [fX1_work_43]
        refine lv_iload_n hx hb dX1_work_43 rfl (lv_at hl 3 rfl) ?_
        refine lv_iload hx hb dX1_work_44 (lv_at hl 0 rfl) ?_
        refine lv_lload_n hx hb dX1_work_46 rfl (lv_at hl 4 rfl) ?_
        refine px_S (As := [.int v2, .int v8_41, .long v3]) (rest := []) ⟨hx, hb, hml, hown, hts⟩ (kX1_converted l v2 v8_41 v3) (va_cwS 3 hts gX1_work_X1_converted rfl rfl rfl (by decide +kernel) ⟨Nat.le_of_ble_eq_true rfl, Nat.le_of_ble_eq_true rfl⟩) rfl hl.1 rfl (Nat.le_of_ble_eq_true rfl) dX1_work_47 (Nat.zero_le _) (Nat.zero_le _) ?_
        refine lv_topl (fun v9_50 ev9_50 => ?_)
        rw [← ev9_50]
        refine lv_lstore (lv' := [(9, .long v9_50), (8, .int v8_41), (0, .ref this), (1, .int v1), (2, .int v2), (3, .long v3), (5, .int v5), (6, .long v6)]) hx hb dX1_work_50 hl (by decide) rfl (fun ls hl => ?_)
        rw [fX1_work_52]
        refine lv_iload hx hb dX1_work_52 (lv_at hl 6 rfl) ?_
        refine lv_iload hx hb dX1_work_54 (lv_at hl 1 rfl) ?_
        refine lv_lload hx hb dX1_work_56 (lv_at hl 7 rfl) ?_
        refine px_S (As := [.int v5, .int v8_41, .long v6]) (rest := []) ⟨hx, hb, hml, hown, hts⟩ (kX1_converted l v5 v8_41 v6) (va_cwS 3 hts gX1_work_X1_converted rfl rfl rfl (by decide +kernel) ⟨Nat.le_of_ble_eq_true rfl, Nat.le_of_ble_eq_true rfl⟩) rfl hl.1 rfl (Nat.le_of_ble_eq_true rfl) dX1_work_58 (Nat.zero_le _) (Nat.zero_le _) ?_
        refine lv_topl (fun v11_61 ev11_61 => ?_)
        rw [← ev11_61]
        refine lv_lstore (lv' := [(11, .long v11_61), (9, .long v9_50), (8, .int v8_41), (0, .ref this), (1, .int v1), (2, .int v2), (3, .long v3), (5, .int v5), (6, .long v6)]) hx hb dX1_work_61 hl (by decide) rfl (fun ls hl => ?_)
        rw [fX1_work_63]
        refine lv_iload hx hb dX1_work_63 (lv_at hl 2 rfl) ?_
        refine lv_bipush (v := 6) hx hb dX1_work_65 (by decide) ?_
        refine px_icmp_lt (tgt := 84) hx hb dX1_work_67 (by decide) (fun hc67 => ?_) (fun hc67 => ?_)
        · rw [if_pos hc67]
          refine lv_aload_n hx hb dX1_work_84 rfl (lv_at hl 3 rfl) ?_
          refine lv_iload_n hx hb dX1_work_85 rfl (lv_at hl 4 rfl) ?_
          refine lv_iload hx hb dX1_work_86 (lv_at hl 2 rfl) ?_
          refine lv_lload hx hb dX1_work_88 (lv_at hl 1 rfl) ?_
          refine lv_lload hx hb dX1_work_90 (lv_at hl 0 rfl) ?_
          refine ob_Vl (As := [.int v1, .int v8_41, .long v9_50, .long v11_61]) (rest := []) ⟨hx, hb, hml, hown, hts⟩ (kX1_workWhole l D this v1 v8_41 v9_50 v11_61 (0 : Int32)) hK hP hS (ci := 0) rfl (cwV 4 hts gX1_work_X1_workWhole rfl rfl rfl (by decide +kernel) ⟨Nat.le_of_ble_eq_true rfl, Nat.le_of_ble_eq_true rfl⟩) rfl hl.1 rfl (Nat.le_of_ble_eq_true rfl) dX1_work_92 (Nat.zero_le _) (Nat.zero_le _) (fun H locs hP hS => ?_)
          exact W.lret hx hb hr (fun t ht hW => ⟨rfl, by rw [ht]; exact hP, hS.F ht⟩) hS.2.2 dX1_work_95
        · rw [if_neg hc67]
          refine lv_aload_n hx hb dX1_work_70 rfl (lv_at hl 3 rfl) ?_
          refine lv_iload_n hx hb dX1_work_71 rfl (lv_at hl 4 rfl) ?_
          refine lv_iload hx hb dX1_work_72 (lv_at hl 2 rfl) ?_
          refine lv_lload hx hb dX1_work_74 (lv_at hl 1 rfl) ?_
          refine lv_lload hx hb dX1_work_76 (lv_at hl 0 rfl) ?_
          refine ob_Vl (As := [.int v1, .int v8_41, .long v9_50, .long v11_61]) (rest := []) ⟨hx, hb, hml, hown, hts⟩ (kX1_workReal l D this v1 v8_41 v9_50 v11_61 (0 : Int32)) hK hP hS (ci := 0) rfl (cwV 4 hts gX1_work_X1_workReal rfl rfl rfl (by decide +kernel) ⟨Nat.le_of_ble_eq_true rfl, Nat.le_of_ble_eq_true rfl⟩) rfl hl.1 rfl (Nat.le_of_ble_eq_true rfl) dX1_work_78 (Nat.zero_le _) (Nat.zero_le _) (fun H locs hP hS => ?_)
          refine lv_goto (tgt := 95) hx hb dX1_work_81 (by decide) ?_
          exact W.lret hx hb hr (fun t ht hW => ⟨rfl, by rw [ht]; exact hP, hS.F ht⟩) hS.2.2 dX1_work_95
set_option maxHeartbeats 4000000 in
set_option maxRecDepth 100000 in
theorem kX1_work (l : Launch) (D : va_G) (this : Nat) (v1 : Int32) (v2 : Int32) (v3 : Int64) (v5 : Int32) (v6 : Int64) (fld : Int32) : Met l yX1_work wsX1_work ({ frames := 6, cells := 0, slots := 0, locals := 157 }) (ob_P D 0 this fld [.ref this, .int v1, .int v2, .long v3, .int v5, .long v6]) (ob_QL D 0 this (fX1_work v1 v2 v3 v5 v6 fld)) 0 0 (fun q => q = this) := by
  refine Met.ofW (cc := cX1_work) (maxL := 13) (ret := (some .long)) (by decide) rfl ?_
  intro p e s m args below meth c s₁ B hml hv
  obtain ⟨rfl, hP, hK⟩ := hv
  have C : px_C p s m _ meth c cX1_work 13 (some .long) RX1 wsX1_work := ⟨B.exec, B.bytes, hml, findClass_of_methodNamed B.named, atoms_spec (ws := wsX1_work) B.pre, B.returns, B.notSynchronized⟩
  have hl := lv_entry ([.ref this, .int v1, .int v2, .long v3, .int v5, .long v6]) (n := 13) (Nat.le_of_ble_eq_true rfl)
  rw [lg_entry_eq]
  generalize (lg_sl ([.ref this, .int v1, .int v2, .long v3, .int v5, .long v6]) ++ List.replicate (13 - (lg_sl ([.ref this, .int v1, .int v2, .long v3, .int v5, .long v6])).length) Slot.unset).toArray = ls at hl ⊢
  have hl : lv_has ls 13 [(0, .ref this), (1, .int v1), (2, .int v2), (3, .long v3), (5, .int v5), (6, .long v6)] := hl
  rw [fX1_work]
  exact wX1_work_0 C this v1 v2 v3 v5 v6 fld hK hP va_S.rf (lv_sub hl [0, 1, 2, 3, 4, 5] rfl)
set_option maxHeartbeats 4000000 in
set_option maxRecDepth 100000 in
theorem wX1_shift_42 {p : Program} {l : Launch} {e : Env} {s : State} {m : MethodId} {args : Array Value} {below : List Frame} {meth : Method} {c : Code} {D : va_G} (C : px_C p s m args meth c cX1_shift 8 (some .long) RX1 wsX1_shift) (this : Nat) (fld : Int32) {H : Heap} {locs : List Loc} (hK : va_K D vwCl [] s) (hP : va_P D vwCl [(this, .inr (0, [.int fld]))] H) (hS : va_S (fun q => q = this) s.heap H locs) {ls : Array Slot} (hl : lv_has ls 8 [(0, .ref this)]) : W p l e { frames := 4, cells := 0, slots := 0, locals := 88 } s m args below meth c H locs 0 0 (MQ below (ob_QL D 0 this (fX1_shift_42 fld)) args s 0 0 (fun q => q = this)) (F0 m 42 ls []) := by
  obtain ⟨hx, hb, hml, hown, hts, hr, hlocks⟩ := id C
  rw [fX1_shift_42]
  refine lv_aload_n hx hb dX1_shift_42 rfl (lv_at hl 0 rfl) ?_
  refine lv_iconst (v := 1) hx hb dX1_shift_43 (by decide) ?_
  refine lv_iconst (v := 0) hx hb dX1_shift_44 (by decide) ?_
  refine ob_Vi (As := [.int (1 : Int32), .int (0 : Int32)]) (rest := []) ⟨hx, hb, hml, hown, hts⟩ (kX1_fails l D this (1 : Int32) (0 : Int32) fld) hK hP hS (ci := 0) rfl (cwV 2 hts gX1_shift_X1_fails rfl rfl rfl (by decide +kernel) ⟨Nat.le_of_ble_eq_true rfl, Nat.le_of_ble_eq_true rfl⟩) rfl hl.1 rfl (Nat.le_of_ble_eq_true rfl) dX1_shift_45 (Nat.zero_le _) (Nat.zero_le _) (fun H locs hP hS => ?_)
  refine px_i2l hx hb dX1_shift_48 ?_
  exact W.lret hx hb hr (fun t ht hW => ⟨rfl, by rw [ht]; exact hP, hS.F ht⟩) hS.2.2 dX1_shift_49
set_option maxHeartbeats 4000000 in
set_option maxRecDepth 100000 in
theorem wX1_shift_17 {p : Program} {l : Launch} {e : Env} {s : State} {m : MethodId} {args : Array Value} {below : List Frame} {meth : Method} {c : Code} {D : va_G} (C : px_C p s m args meth c cX1_shift 8 (some .long) RX1 wsX1_shift) (this : Nat) (v1 : Int32) (v2 : Int32) (v3 : Int64) (v5 : Int64) (s0 : Int32) (fld : Int32) {H : Heap} {locs : List Loc} (hK : va_K D vwCl [] s) (hP : va_P D vwCl [(this, .inr (0, [.int fld]))] H) (hS : va_S (fun q => q = this) s.heap H locs) {ls : Array Slot} (hl : lv_has ls 8 [(0, .ref this), (1, .int v1), (2, .int v2), (3, .long v3), (5, .long v5)]) : W p l e { frames := 4, cells := 0, slots := 0, locals := 88 } s m args below meth c H locs 0 0 (MQ below (ob_QL D 0 this (fX1_shift_17 v1 v2 v3 v5 s0 fld)) args s 0 0 (fun q => q = this)) (F0 m 17 ls [.int s0]) := by
  obtain ⟨hx, hb, hml, hown, hts, hr, hlocks⟩ := id C
  rw [fX1_shift_17]
  refine lv_istore (lv' := [(7, .int s0), (0, .ref this), (1, .int v1), (2, .int v2), (3, .long v3), (5, .long v5)]) hx hb dX1_shift_17 hl (by decide) rfl (fun ls hl => ?_)
  refine lv_iload hx hb dX1_shift_19 (lv_at hl 0 rfl) ?_
  refine px_if_eq (tgt := 42) hx hb dX1_shift_21 (by decide) (fun hc21 => ?_) (fun hc21 => ?_)
  · rw [if_pos hc21]
    exact wX1_shift_42 C this fld hK hP hS (lv_sub hl [1] rfl)
  · rw [if_neg hc21]
    refine lv_iload_n hx hb dX1_shift_24 rfl (lv_at hl 3 rfl) ?_
    refine lv_iconst (v := 1) hx hb dX1_shift_25 (by decide) ?_
    refine px_icmp_lt (tgt := 42) hx hb dX1_shift_26 (by decide) (fun hc26 => ?_) (fun hc26 => ?_)
    · rw [if_pos hc26]
      exact wX1_shift_42 C this fld hK hP hS (lv_sub hl [1] rfl)
    · rw [if_neg hc26]
      refine lv_iload_n hx hb dX1_shift_29 rfl (lv_at hl 3 rfl) ?_
      refine lv_iconst (v := 5) hx hb dX1_shift_30 (by decide) ?_
      refine px_icmp_gt (tgt := 42) hx hb dX1_shift_31 (by decide) (fun hc31 => ?_) (fun hc31 => ?_)
      · rw [if_pos hc31]
        exact wX1_shift_42 C this fld hK hP hS (lv_sub hl [1] rfl)
      · rw [if_neg hc31]
        refine lv_iload_n hx hb dX1_shift_34 rfl (lv_at hl 3 rfl) ?_
        refine lv_lload_n hx hb dX1_shift_35 rfl (lv_at hl 4 rfl) ?_
        refine px_S (As := [.int v2, .long v3]) (rest := []) ⟨hx, hb, hml, hown, hts⟩ (kX1_isValue l v2 v3) (va_cwS 2 hts gX1_shift_X1_isValue rfl rfl rfl (by decide +kernel) ⟨Nat.le_of_ble_eq_true rfl, Nat.le_of_ble_eq_true rfl⟩) rfl hl.1 rfl (Nat.le_of_ble_eq_true rfl) dX1_shift_36 (Nat.zero_le _) (Nat.zero_le _) ?_
        refine px_if_ne (tgt := 50) hx hb dX1_shift_39 (by decide) (fun hc39 => ?_) (fun hc39 => ?_)
        · rw [if_pos hc39]
          exact wX1_shift_42 C this fld hK hP hS (lv_sub hl [1] rfl)
        · rw [if_neg hc39]
          refine lv_aload_n hx hb dX1_shift_50 rfl (lv_at hl 1 rfl) ?_
          refine lv_iconst (v := 0) hx hb dX1_shift_51 (by decide) ?_
          refine va_put (D := D) (ci := 0) (v := .int (0 : Int32)) (ty := .int) (C := RX1) (T := TX1) (N := 1) hx hb hts (by decide +kernel) tyX1 tyX1_ok nmX1 hown hK hP (ob_D _ _) hS 0 rfl rfl 0 (by decide) (hts (.fieldLink RX1 9 "KindNumbers" "why" "I") (by decide +kernel)) (fun _ h9 => h9) rfl (by decide +kernel) rfl rfl (Nat.le_of_ble_eq_true rfl) dX1_shift_52 (fun H locs hP _ hS => ?_)
          have hP : va_P D vwCl [(this, .inr (0, [.int (0 : Int32)]))] H := hP
          refine lv_iload_n hx hb dX1_shift_55 rfl (lv_at hl 3 rfl) ?_
          refine lv_iconst (v := 5) hx hb dX1_shift_56 (by decide) ?_
          refine px_icmp_ne (tgt := 75) hx hb dX1_shift_57 (by decide) (fun hc57 => ?_) (fun hc57 => ?_)
          · rw [if_pos hc57]
            refine lv_iload_n hx hb dX1_shift_60 rfl (lv_at hl 2 rfl) ?_
            refine lv_lload_n hx hb dX1_shift_61 rfl (lv_at hl 4 rfl) ?_
            refine lv_lload hx hb dX1_shift_62 (lv_at hl 5 rfl) ?_
            refine lv_ldc2 hx hb hown (hts (.constantLong RX1 43 (63)) (by decide +kernel)) dX1_shift_64 ?_
            refine lv_land hx hb dX1_shift_67 ?_
            refine px_l2i hx hb dX1_shift_68 ?_
            refine px_S (As := [.int v1, .long v3, .int ((v5 &&& (63 : Int64)).toInt32)]) (rest := []) ⟨hx, hb, hml, hown, hts⟩ (kX1_shiftedLong l v1 v3 ((v5 &&& (63 : Int64)).toInt32)) (va_cwS 3 hts gX1_shift_X1_shiftedLong rfl rfl rfl (by decide +kernel) ⟨Nat.le_of_ble_eq_true rfl, Nat.le_of_ble_eq_true rfl⟩) rfl hl.1 rfl (Nat.le_of_ble_eq_true rfl) dX1_shift_69 (Nat.zero_le _) (Nat.zero_le _) ?_
            refine lv_goto (tgt := 88) hx hb dX1_shift_72 (by decide) ?_
            exact W.lret hx hb hr (fun t ht hW => ⟨rfl, by rw [ht]; exact hP, hS.F ht⟩) hS.2.2 dX1_shift_88
          · rw [if_neg hc57]
            refine lv_iload_n hx hb dX1_shift_75 rfl (lv_at hl 2 rfl) ?_
            refine lv_lload_n hx hb dX1_shift_76 rfl (lv_at hl 4 rfl) ?_
            refine px_l2i hx hb dX1_shift_77 ?_
            refine lv_lload hx hb dX1_shift_78 (lv_at hl 5 rfl) ?_
            refine lv_ldc2 hx hb hown (hts (.constantLong RX1 49 (31)) (by decide +kernel)) dX1_shift_80 ?_
            refine lv_land hx hb dX1_shift_83 ?_
            refine px_l2i hx hb dX1_shift_84 ?_
            refine px_S (As := [.int v1, .int (v3.toInt32), .int ((v5 &&& (31 : Int64)).toInt32)]) (rest := []) ⟨hx, hb, hml, hown, hts⟩ (kX1_shiftedInt l v1 (v3.toInt32) ((v5 &&& (31 : Int64)).toInt32)) (va_cwS 3 hts gX1_shift_X1_shiftedInt rfl rfl rfl (by decide +kernel) ⟨Nat.le_of_ble_eq_true rfl, Nat.le_of_ble_eq_true rfl⟩) rfl hl.1 rfl (Nat.le_of_ble_eq_true rfl) dX1_shift_85 (Nat.zero_le _) (Nat.zero_le _) ?_
            exact W.lret hx hb hr (fun t ht hW => ⟨rfl, by rw [ht]; exact hP, hS.F ht⟩) hS.2.2 dX1_shift_88
set_option maxHeartbeats 4000000 in
set_option maxRecDepth 100000 in
theorem wX1_shift_16 {p : Program} {l : Launch} {e : Env} {s : State} {m : MethodId} {args : Array Value} {below : List Frame} {meth : Method} {c : Code} {D : va_G} (C : px_C p s m args meth c cX1_shift 8 (some .long) RX1 wsX1_shift) (this : Nat) (v1 : Int32) (v2 : Int32) (v3 : Int64) (v5 : Int64) (fld : Int32) {H : Heap} {locs : List Loc} (hK : va_K D vwCl [] s) (hP : va_P D vwCl [(this, .inr (0, [.int fld]))] H) (hS : va_S (fun q => q = this) s.heap H locs) {ls : Array Slot} (hl : lv_has ls 8 [(0, .ref this), (1, .int v1), (2, .int v2), (3, .long v3), (5, .long v5)]) : W p l e { frames := 4, cells := 0, slots := 0, locals := 88 } s m args below meth c H locs 0 0 (MQ below (ob_QL D 0 this (fX1_shift_16 v1 v2 v3 v5 fld)) args s 0 0 (fun q => q = this)) (F0 m 16 ls []) := by
  obtain ⟨hx, hb, hml, hown, hts, hr, hlocks⟩ := id C
  rw [fX1_shift_16]
  refine lv_iconst (v := 0) hx hb dX1_shift_16 (by decide) ?_
  exact wX1_shift_17 C this v1 v2 v3 v5 (0 : Int32) fld hK hP hS (lv_sub hl [0, 1, 2, 3, 4] rfl)
set_option maxHeartbeats 4000000 in
set_option maxRecDepth 100000 in
theorem wX1_shift_0 {p : Program} {l : Launch} {e : Env} {s : State} {m : MethodId} {args : Array Value} {below : List Frame} {meth : Method} {c : Code} {D : va_G} (C : px_C p s m args meth c cX1_shift 8 (some .long) RX1 wsX1_shift) (this : Nat) (v1 : Int32) (v2 : Int32) (v3 : Int64) (v5 : Int64) (fld : Int32) {H : Heap} {locs : List Loc} (hK : va_K D vwCl [] s) (hP : va_P D vwCl [(this, .inr (0, [.int fld]))] H) (hS : va_S (fun q => q = this) s.heap H locs) {ls : Array Slot} (hl : lv_has ls 8 [(0, .ref this), (1, .int v1), (2, .int v2), (3, .long v3), (5, .long v5)]) : W p l e { frames := 4, cells := 0, slots := 0, locals := 88 } s m args below meth c H locs 0 0 (MQ below (ob_QL D 0 this (fX1_shift_0 v1 v2 v3 v5 fld)) args s 0 0 (fun q => q = this)) (F0 m 0 ls []) := by
  obtain ⟨hx, hb, hml, hown, hts, hr, hlocks⟩ := id C
  rw [fX1_shift_0]
  refine lv_iload_n hx hb dX1_shift_0 rfl (lv_at hl 1 rfl) ?_
  refine lv_bipush (v := 6) hx hb dX1_shift_1 (by decide) ?_
  refine px_icmp_lt (tgt := 16) hx hb dX1_shift_3 (by decide) (fun hc3 => ?_) (fun hc3 => ?_)
  · rw [if_pos hc3]
    exact wX1_shift_16 C this v1 v2 v3 v5 fld hK hP hS (lv_sub hl [0, 1, 2, 3, 4] rfl)
  · rw [if_neg hc3]
    refine lv_iload_n hx hb dX1_shift_6 rfl (lv_at hl 1 rfl) ?_
    refine lv_bipush (v := 8) hx hb dX1_shift_7 (by decide) ?_
    refine px_icmp_gt (tgt := 16) hx hb dX1_shift_9 (by decide) (fun hc9 => ?_) (fun hc9 => ?_)
    · rw [if_pos hc9]
      exact wX1_shift_16 C this v1 v2 v3 v5 fld hK hP hS (lv_sub hl [0, 1, 2, 3, 4] rfl)
    · rw [if_neg hc9]
      refine lv_iconst (v := 1) hx hb dX1_shift_12 (by decide) ?_
      refine lv_goto (tgt := 17) hx hb dX1_shift_13 (by decide) ?_
      exact wX1_shift_17 C this v1 v2 v3 v5 (1 : Int32) fld hK hP hS (lv_sub hl [0, 1, 2, 3, 4] rfl)
set_option maxHeartbeats 4000000 in
set_option maxRecDepth 100000 in
theorem kX1_shift (l : Launch) (D : va_G) (this : Nat) (v1 : Int32) (v2 : Int32) (v3 : Int64) (v5 : Int64) (fld : Int32) : Met l yX1_shift wsX1_shift ({ frames := 4, cells := 0, slots := 0, locals := 88 }) (ob_P D 0 this fld [.ref this, .int v1, .int v2, .long v3, .long v5]) (ob_QL D 0 this (fX1_shift v1 v2 v3 v5 fld)) 0 0 (fun q => q = this) := by
  refine Met.ofW (cc := cX1_shift) (maxL := 8) (ret := (some .long)) (by decide) rfl ?_
  intro p e s m args below meth c s₁ B hml hv
  obtain ⟨rfl, hP, hK⟩ := hv
  have C : px_C p s m _ meth c cX1_shift 8 (some .long) RX1 wsX1_shift := ⟨B.exec, B.bytes, hml, findClass_of_methodNamed B.named, atoms_spec (ws := wsX1_shift) B.pre, B.returns, B.notSynchronized⟩
  have hl := lv_entry ([.ref this, .int v1, .int v2, .long v3, .long v5]) (n := 8) (Nat.le_of_ble_eq_true rfl)
  rw [lg_entry_eq]
  generalize (lg_sl ([.ref this, .int v1, .int v2, .long v3, .long v5]) ++ List.replicate (8 - (lg_sl ([.ref this, .int v1, .int v2, .long v3, .long v5])).length) Slot.unset).toArray = ls at hl ⊢
  have hl : lv_has ls 8 [(0, .ref this), (1, .int v1), (2, .int v2), (3, .long v3), (5, .long v5)] := hl
  rw [fX1_shift]
  exact wX1_shift_0 C this v1 v2 v3 v5 fld hK hP va_S.rf (lv_sub hl [0, 1, 2, 3, 4] rfl)
set_option maxHeartbeats 4000000 in
set_option maxRecDepth 100000 in
theorem wX1_compare_0 {p : Program} {l : Launch} {e : Env} {s : State} {m : MethodId} {args : Array Value} {below : List Frame} {meth : Method} {c : Code} {D : va_G} (C : px_C p s m args meth c cX1_compare 12 (some .int) RX1 wsX1_compare) (this : Nat) (v1 : Int32) (v2 : Int64) (v4 : Int32) (v5 : Int64) (fld : Int32) {H : Heap} {locs : List Loc} (hK : va_K D vwCl [] s) (hP : va_P D vwCl [(this, .inr (0, [.int fld]))] H) (hS : va_S (fun q => q = this) s.heap H locs) {ls : Array Slot} (hl : lv_has ls 12 [(0, .ref this), (1, .int v1), (2, .long v2), (4, .int v4), (5, .long v5)]) : W p l e { frames := 5, cells := 0, slots := 0, locals := 121 } s m args below meth c H locs 0 0 (MQ below (ob_QI D 0 this (fX1_compare_0 v1 v2 v4 v5 fld)) args s 0 0 (fun q => q = this)) (F0 m 0 ls []) := by
  obtain ⟨hx, hb, hml, hown, hts, hr, hlocks⟩ := id C
  rw [fX1_compare_0]
  refine lv_iload_n hx hb dX1_compare_0 rfl (lv_at hl 1 rfl) ?_
  refine lv_lload_n hx hb dX1_compare_1 rfl (lv_at hl 2 rfl) ?_
  refine lv_iload hx hb dX1_compare_2 (lv_at hl 3 rfl) ?_
  refine lv_lload hx hb dX1_compare_4 (lv_at hl 4 rfl) ?_
  refine px_S (As := [.int v1, .long v2, .int v4, .long v5]) (rest := []) ⟨hx, hb, hml, hown, hts⟩ (kX1_areNumbers l v1 v2 v4 v5) (va_cwS 4 hts gX1_compare_X1_areNumbers rfl rfl rfl (by decide +kernel) ⟨Nat.le_of_ble_eq_true rfl, Nat.le_of_ble_eq_true rfl⟩) rfl hl.1 rfl (Nat.le_of_ble_eq_true rfl) dX1_compare_6 (Nat.zero_le _) (Nat.zero_le _) ?_
  refine px_if_ne (tgt := 19) hx hb dX1_compare_9 (by decide) (fun hc9 => ?_) (fun hc9 => ?_)
  · rw [if_pos hc9]
    refine lv_aload_n hx hb dX1_compare_12 rfl (lv_at hl 0 rfl) ?_
    refine lv_iconst (v := 1) hx hb dX1_compare_13 (by decide) ?_
    refine lv_iconst (v := 2) hx hb dX1_compare_14 (by decide) ?_
    refine ob_Vi (As := [.int (1 : Int32), .int (2 : Int32)]) (rest := []) ⟨hx, hb, hml, hown, hts⟩ (kX1_fails l D this (1 : Int32) (2 : Int32) fld) hK hP hS (ci := 0) rfl (cwV 2 hts gX1_compare_X1_fails rfl rfl rfl (by decide +kernel) ⟨Nat.le_of_ble_eq_true rfl, Nat.le_of_ble_eq_true rfl⟩) rfl hl.1 rfl (Nat.le_of_ble_eq_true rfl) dX1_compare_15 (Nat.zero_le _) (Nat.zero_le _) (fun H locs hP hS => ?_)
    exact W.iret hx hb hr (fun t ht hW => ⟨rfl, by rw [ht]; exact hP, hS.F ht⟩) hS.2.2 dX1_compare_18
  · rw [if_neg hc9]
    refine lv_aload_n hx hb dX1_compare_19 rfl (lv_at hl 0 rfl) ?_
    refine lv_iconst (v := 0) hx hb dX1_compare_20 (by decide) ?_
    refine va_put (D := D) (ci := 0) (v := .int (0 : Int32)) (ty := .int) (C := RX1) (T := TX1) (N := 1) hx hb hts (by decide +kernel) tyX1 tyX1_ok nmX1 hown hK hP (ob_D _ _) hS 0 rfl rfl 0 (by decide) (hts (.fieldLink RX1 9 "KindNumbers" "why" "I") (by decide +kernel)) (fun _ h9 => h9) rfl (by decide +kernel) rfl rfl (Nat.le_of_ble_eq_true rfl) dX1_compare_21 (fun H locs hP _ hS => ?_)
    have hP : va_P D vwCl [(this, .inr (0, [.int (0 : Int32)]))] H := hP
    refine lv_iload_n hx hb dX1_compare_24 rfl (lv_at hl 1 rfl) ?_
    refine lv_iload hx hb dX1_compare_25 (lv_at hl 3 rfl) ?_
    refine px_S (As := [.int v1, .int v4]) (rest := []) ⟨hx, hb, hml, hown, hts⟩ (kX1_workKind l v1 v4) (va_cwS 2 hts gX1_compare_X1_workKind rfl rfl rfl (by decide +kernel) ⟨Nat.le_of_ble_eq_true rfl, Nat.le_of_ble_eq_true rfl⟩) rfl hl.1 rfl (Nat.le_of_ble_eq_true rfl) dX1_compare_27 (Nat.zero_le _) (Nat.zero_le _) ?_
    refine lv_topi (fun v7_30 ev7_30 => ?_)
    rw [← ev7_30]
    refine lv_istore (lv' := [(7, .int v7_30), (0, .ref this), (1, .int v1), (2, .long v2), (4, .int v4), (5, .long v5)]) hx hb dX1_compare_30 hl (by decide) rfl (fun ls hl => ?_)
    rw [fX1_compare_32]
    refine lv_iload_n hx hb dX1_compare_32 rfl (lv_at hl 2 rfl) ?_
    refine lv_iload hx hb dX1_compare_33 (lv_at hl 0 rfl) ?_
    refine lv_lload_n hx hb dX1_compare_35 rfl (lv_at hl 3 rfl) ?_
    refine px_S (As := [.int v1, .int v7_30, .long v2]) (rest := []) ⟨hx, hb, hml, hown, hts⟩ (kX1_converted l v1 v7_30 v2) (va_cwS 3 hts gX1_compare_X1_converted rfl rfl rfl (by decide +kernel) ⟨Nat.le_of_ble_eq_true rfl, Nat.le_of_ble_eq_true rfl⟩) rfl hl.1 rfl (Nat.le_of_ble_eq_true rfl) dX1_compare_36 (Nat.zero_le _) (Nat.zero_le _) ?_
    refine lv_topl (fun v8_39 ev8_39 => ?_)
    rw [← ev8_39]
    refine lv_lstore (lv' := [(8, .long v8_39), (7, .int v7_30), (0, .ref this), (1, .int v1), (2, .long v2), (4, .int v4), (5, .long v5)]) hx hb dX1_compare_39 hl (by decide) rfl (fun ls hl => ?_)
    rw [fX1_compare_41]
    refine lv_iload hx hb dX1_compare_41 (lv_at hl 5 rfl) ?_
    refine lv_iload hx hb dX1_compare_43 (lv_at hl 1 rfl) ?_
    refine lv_lload hx hb dX1_compare_45 (lv_at hl 6 rfl) ?_
    refine px_S (As := [.int v4, .int v7_30, .long v5]) (rest := []) ⟨hx, hb, hml, hown, hts⟩ (kX1_converted l v4 v7_30 v5) (va_cwS 3 hts gX1_compare_X1_converted rfl rfl rfl (by decide +kernel) ⟨Nat.le_of_ble_eq_true rfl, Nat.le_of_ble_eq_true rfl⟩) rfl hl.1 rfl (Nat.le_of_ble_eq_true rfl) dX1_compare_47 (Nat.zero_le _) (Nat.zero_le _) ?_
    refine lv_topl (fun v10_50 ev10_50 => ?_)
    rw [← ev10_50]
    refine lv_lstore (lv' := [(10, .long v10_50), (8, .long v8_39), (7, .int v7_30), (0, .ref this), (1, .int v1), (2, .long v2), (4, .int v4), (5, .long v5)]) hx hb dX1_compare_50 hl (by decide) rfl (fun ls hl => ?_)
    rw [fX1_compare_52]
    refine lv_iload hx hb dX1_compare_52 (lv_at hl 2 rfl) ?_
    refine lv_bipush (v := 6) hx hb dX1_compare_54 (by decide) ?_
    refine px_icmp_lt (tgt := 77) hx hb dX1_compare_56 (by decide) (fun hc56 => ?_) (fun hc56 => ?_)
    · rw [if_pos hc56]
      refine lv_lload hx hb dX1_compare_77 (lv_at hl 1 rfl) ?_
      refine lv_lload hx hb dX1_compare_79 (lv_at hl 0 rfl) ?_
      refine px_S (As := [.long v8_39, .long v10_50]) (rest := []) ⟨hx, hb, hml, hown, hts⟩ (kX1_sideOf l v8_39 v10_50) (va_cwS 2 hts gX1_compare_X1_sideOf rfl rfl rfl (by decide +kernel) ⟨Nat.le_of_ble_eq_true rfl, Nat.le_of_ble_eq_true rfl⟩) rfl hl.1 rfl (Nat.le_of_ble_eq_true rfl) dX1_compare_81 (Nat.zero_le _) (Nat.zero_le _) ?_
      exact W.iret hx hb hr (fun t ht hW => ⟨rfl, by rw [ht]; exact hP, hS.F ht⟩) hS.2.2 dX1_compare_84
    · rw [if_neg hc56]
      refine lv_iload hx hb dX1_compare_59 (lv_at hl 2 rfl) ?_
      refine lv_lload hx hb dX1_compare_61 (lv_at hl 1 rfl) ?_
      refine px_S (As := [.int v7_30, .long v8_39]) (rest := []) ⟨hx, hb, hml, hown, hts⟩ (kX0_place l v7_30 v8_39) (va_cwS 2 hts gX1_compare_X0_place rfl rfl rfl (by decide +kernel) ⟨Nat.le_of_ble_eq_true rfl, Nat.le_of_ble_eq_true rfl⟩) rfl hl.1 rfl (Nat.le_of_ble_eq_true rfl) dX1_compare_63 (Nat.zero_le _) (Nat.zero_le _) ?_
      refine lv_iload hx hb dX1_compare_66 (lv_at hl 2 rfl) ?_
      refine lv_lload hx hb dX1_compare_68 (lv_at hl 0 rfl) ?_
      refine px_S (As := [.int v7_30, .long v10_50]) (rest := [.long (fX0_place v7_30 v8_39)]) ⟨hx, hb, hml, hown, hts⟩ (kX0_place l v7_30 v10_50) (va_cwS 2 hts gX1_compare_X0_place rfl rfl rfl (by decide +kernel) ⟨Nat.le_of_ble_eq_true rfl, Nat.le_of_ble_eq_true rfl⟩) rfl hl.1 rfl (Nat.le_of_ble_eq_true rfl) dX1_compare_70 (Nat.zero_le _) (Nat.zero_le _) ?_
      refine px_S (As := [.long (fX0_place v7_30 v8_39), .long (fX0_place v7_30 v10_50)]) (rest := []) ⟨hx, hb, hml, hown, hts⟩ (kX1_sideOf l (fX0_place v7_30 v8_39) (fX0_place v7_30 v10_50)) (va_cwS 2 hts gX1_compare_X1_sideOf rfl rfl rfl (by decide +kernel) ⟨Nat.le_of_ble_eq_true rfl, Nat.le_of_ble_eq_true rfl⟩) rfl hl.1 rfl (Nat.le_of_ble_eq_true rfl) dX1_compare_73 (Nat.zero_le _) (Nat.zero_le _) ?_
      exact W.iret hx hb hr (fun t ht hW => ⟨rfl, by rw [ht]; exact hP, hS.F ht⟩) hS.2.2 dX1_compare_76
set_option maxHeartbeats 4000000 in
set_option maxRecDepth 100000 in
theorem kX1_compare (l : Launch) (D : va_G) (this : Nat) (v1 : Int32) (v2 : Int64) (v4 : Int32) (v5 : Int64) (fld : Int32) : Met l yX1_compare wsX1_compare ({ frames := 5, cells := 0, slots := 0, locals := 121 }) (ob_P D 0 this fld [.ref this, .int v1, .long v2, .int v4, .long v5]) (ob_QI D 0 this (fX1_compare v1 v2 v4 v5 fld)) 0 0 (fun q => q = this) := by
  refine Met.ofW (cc := cX1_compare) (maxL := 12) (ret := (some .int)) (by decide) rfl ?_
  intro p e s m args below meth c s₁ B hml hv
  obtain ⟨rfl, hP, hK⟩ := hv
  have C : px_C p s m _ meth c cX1_compare 12 (some .int) RX1 wsX1_compare := ⟨B.exec, B.bytes, hml, findClass_of_methodNamed B.named, atoms_spec (ws := wsX1_compare) B.pre, B.returns, B.notSynchronized⟩
  have hl := lv_entry ([.ref this, .int v1, .long v2, .int v4, .long v5]) (n := 12) (Nat.le_of_ble_eq_true rfl)
  rw [lg_entry_eq]
  generalize (lg_sl ([.ref this, .int v1, .long v2, .int v4, .long v5]) ++ List.replicate (12 - (lg_sl ([.ref this, .int v1, .long v2, .int v4, .long v5])).length) Slot.unset).toArray = ls at hl ⊢
  have hl : lv_has ls 12 [(0, .ref this), (1, .int v1), (2, .long v2), (4, .int v4), (5, .long v5)] := hl
  rw [fX1_compare]
  exact wX1_compare_0 C this v1 v2 v4 v5 fld hK hP va_S.rf (lv_sub hl [0, 1, 2, 3, 4] rfl)
set_option maxHeartbeats 4000000 in
set_option maxRecDepth 100000 in
theorem wX1_order_17 {p : Program} {l : Launch} {e : Env} {s : State} {m : MethodId} {args : Array Value} {below : List Frame} {meth : Method} {c : Code} {D : va_G} (C : px_C p s m args meth c cX1_order 6 (some .int) RX1 wsX1_order) (this : Nat) (fld : Int32) {H : Heap} {locs : List Loc} (hK : va_K D vwCl [] s) (hP : va_P D vwCl [(this, .inr (0, [.int fld]))] H) (hS : va_S (fun q => q = this) s.heap H locs) {ls : Array Slot} (hl : lv_has ls 6 [(0, .ref this)]) : W p l e { frames := 4, cells := 0, slots := 0, locals := 88 } s m args below meth c H locs 0 0 (MQ below (ob_QI D 0 this (fX1_order_17 fld)) args s 0 0 (fun q => q = this)) (F0 m 17 ls []) := by
  obtain ⟨hx, hb, hml, hown, hts, hr, hlocks⟩ := id C
  rw [fX1_order_17]
  refine lv_aload_n hx hb dX1_order_17 rfl (lv_at hl 0 rfl) ?_
  refine lv_iconst (v := 1) hx hb dX1_order_18 (by decide) ?_
  refine lv_iconst (v := 2) hx hb dX1_order_19 (by decide) ?_
  refine ob_Vi (As := [.int (1 : Int32), .int (2 : Int32)]) (rest := []) ⟨hx, hb, hml, hown, hts⟩ (kX1_fails l D this (1 : Int32) (2 : Int32) fld) hK hP hS (ci := 0) rfl (cwV 2 hts gX1_order_X1_fails rfl rfl rfl (by decide +kernel) ⟨Nat.le_of_ble_eq_true rfl, Nat.le_of_ble_eq_true rfl⟩) rfl hl.1 rfl (Nat.le_of_ble_eq_true rfl) dX1_order_20 (Nat.zero_le _) (Nat.zero_le _) (fun H locs hP hS => ?_)
  exact W.iret hx hb hr (fun t ht hW => ⟨rfl, by rw [ht]; exact hP, hS.F ht⟩) hS.2.2 dX1_order_23
set_option maxHeartbeats 4000000 in
set_option maxRecDepth 100000 in
theorem wX1_order_0 {p : Program} {l : Launch} {e : Env} {s : State} {m : MethodId} {args : Array Value} {below : List Frame} {meth : Method} {c : Code} {D : va_G} (C : px_C p s m args meth c cX1_order 6 (some .int) RX1 wsX1_order) (this : Nat) (v1 : Int32) (v2 : Int64) (v4 : Int64) (fld : Int32) {H : Heap} {locs : List Loc} (hK : va_K D vwCl [] s) (hP : va_P D vwCl [(this, .inr (0, [.int fld]))] H) (hS : va_S (fun q => q = this) s.heap H locs) {ls : Array Slot} (hl : lv_has ls 6 [(0, .ref this), (1, .int v1), (2, .long v2), (4, .long v4)]) : W p l e { frames := 4, cells := 0, slots := 0, locals := 88 } s m args below meth c H locs 0 0 (MQ below (ob_QI D 0 this (fX1_order_0 v1 v2 v4 fld)) args s 0 0 (fun q => q = this)) (F0 m 0 ls []) := by
  obtain ⟨hx, hb, hml, hown, hts, hr, hlocks⟩ := id C
  rw [fX1_order_0]
  refine lv_iload_n hx hb dX1_order_0 rfl (lv_at hl 1 rfl) ?_
  refine lv_lload_n hx hb dX1_order_1 rfl (lv_at hl 2 rfl) ?_
  refine px_S (As := [.int v1, .long v2]) (rest := []) ⟨hx, hb, hml, hown, hts⟩ (kX1_isValue l v1 v2) (va_cwS 2 hts gX1_order_X1_isValue rfl rfl rfl (by decide +kernel) ⟨Nat.le_of_ble_eq_true rfl, Nat.le_of_ble_eq_true rfl⟩) rfl hl.1 rfl (Nat.le_of_ble_eq_true rfl) dX1_order_2 (Nat.zero_le _) (Nat.zero_le _) ?_
  refine px_if_eq (tgt := 17) hx hb dX1_order_5 (by decide) (fun hc5 => ?_) (fun hc5 => ?_)
  · rw [if_pos hc5]
    exact wX1_order_17 C this fld hK hP hS (lv_sub hl [0] rfl)
  · rw [if_neg hc5]
    refine lv_iload_n hx hb dX1_order_8 rfl (lv_at hl 1 rfl) ?_
    refine lv_lload hx hb dX1_order_9 (lv_at hl 3 rfl) ?_
    refine px_S (As := [.int v1, .long v4]) (rest := []) ⟨hx, hb, hml, hown, hts⟩ (kX1_isValue l v1 v4) (va_cwS 2 hts gX1_order_X1_isValue rfl rfl rfl (by decide +kernel) ⟨Nat.le_of_ble_eq_true rfl, Nat.le_of_ble_eq_true rfl⟩) rfl hl.1 rfl (Nat.le_of_ble_eq_true rfl) dX1_order_11 (Nat.zero_le _) (Nat.zero_le _) ?_
    refine px_if_ne (tgt := 24) hx hb dX1_order_14 (by decide) (fun hc14 => ?_) (fun hc14 => ?_)
    · rw [if_pos hc14]
      exact wX1_order_17 C this fld hK hP hS (lv_sub hl [0] rfl)
    · rw [if_neg hc14]
      refine lv_aload_n hx hb dX1_order_24 rfl (lv_at hl 0 rfl) ?_
      refine lv_iconst (v := 0) hx hb dX1_order_25 (by decide) ?_
      refine va_put (D := D) (ci := 0) (v := .int (0 : Int32)) (ty := .int) (C := RX1) (T := TX1) (N := 1) hx hb hts (by decide +kernel) tyX1 tyX1_ok nmX1 hown hK hP (ob_D _ _) hS 0 rfl rfl 0 (by decide) (hts (.fieldLink RX1 9 "KindNumbers" "why" "I") (by decide +kernel)) (fun _ h9 => h9) rfl (by decide +kernel) rfl rfl (Nat.le_of_ble_eq_true rfl) dX1_order_26 (fun H locs hP _ hS => ?_)
      have hP : va_P D vwCl [(this, .inr (0, [.int (0 : Int32)]))] H := hP
      refine lv_iload_n hx hb dX1_order_29 rfl (lv_at hl 1 rfl) ?_
      refine lv_bipush (v := 6) hx hb dX1_order_30 (by decide) ?_
      refine px_icmp_lt (tgt := 50) hx hb dX1_order_32 (by decide) (fun hc32 => ?_) (fun hc32 => ?_)
      · rw [if_pos hc32]
        refine lv_lload_n hx hb dX1_order_50 rfl (lv_at hl 2 rfl) ?_
        refine lv_lload hx hb dX1_order_51 (lv_at hl 3 rfl) ?_
        refine px_S (As := [.long v2, .long v4]) (rest := []) ⟨hx, hb, hml, hown, hts⟩ (kX1_sideOf l v2 v4) (va_cwS 2 hts gX1_order_X1_sideOf rfl rfl rfl (by decide +kernel) ⟨Nat.le_of_ble_eq_true rfl, Nat.le_of_ble_eq_true rfl⟩) rfl hl.1 rfl (Nat.le_of_ble_eq_true rfl) dX1_order_53 (Nat.zero_le _) (Nat.zero_le _) ?_
        exact W.iret hx hb hr (fun t ht hW => ⟨rfl, by rw [ht]; exact hP, hS.F ht⟩) hS.2.2 dX1_order_56
      · rw [if_neg hc32]
        refine lv_iload_n hx hb dX1_order_35 rfl (lv_at hl 1 rfl) ?_
        refine lv_lload_n hx hb dX1_order_36 rfl (lv_at hl 2 rfl) ?_
        refine px_S (As := [.int v1, .long v2]) (rest := []) ⟨hx, hb, hml, hown, hts⟩ (kX0_placeWithZerosApart l v1 v2) (va_cwS 2 hts gX1_order_X0_placeWithZerosApart rfl rfl rfl (by decide +kernel) ⟨Nat.le_of_ble_eq_true rfl, Nat.le_of_ble_eq_true rfl⟩) rfl hl.1 rfl (Nat.le_of_ble_eq_true rfl) dX1_order_37 (Nat.zero_le _) (Nat.zero_le _) ?_
        refine lv_iload_n hx hb dX1_order_40 rfl (lv_at hl 1 rfl) ?_
        refine lv_lload hx hb dX1_order_41 (lv_at hl 3 rfl) ?_
        refine px_S (As := [.int v1, .long v4]) (rest := [.long (fX0_placeWithZerosApart v1 v2)]) ⟨hx, hb, hml, hown, hts⟩ (kX0_placeWithZerosApart l v1 v4) (va_cwS 2 hts gX1_order_X0_placeWithZerosApart rfl rfl rfl (by decide +kernel) ⟨Nat.le_of_ble_eq_true rfl, Nat.le_of_ble_eq_true rfl⟩) rfl hl.1 rfl (Nat.le_of_ble_eq_true rfl) dX1_order_43 (Nat.zero_le _) (Nat.zero_le _) ?_
        refine px_S (As := [.long (fX0_placeWithZerosApart v1 v2), .long (fX0_placeWithZerosApart v1 v4)]) (rest := []) ⟨hx, hb, hml, hown, hts⟩ (kX1_sideOf l (fX0_placeWithZerosApart v1 v2) (fX0_placeWithZerosApart v1 v4)) (va_cwS 2 hts gX1_order_X1_sideOf rfl rfl rfl (by decide +kernel) ⟨Nat.le_of_ble_eq_true rfl, Nat.le_of_ble_eq_true rfl⟩) rfl hl.1 rfl (Nat.le_of_ble_eq_true rfl) dX1_order_46 (Nat.zero_le _) (Nat.zero_le _) ?_
        exact W.iret hx hb hr (fun t ht hW => ⟨rfl, by rw [ht]; exact hP, hS.F ht⟩) hS.2.2 dX1_order_49
set_option maxHeartbeats 4000000 in
set_option maxRecDepth 100000 in
theorem kX1_order (l : Launch) (D : va_G) (this : Nat) (v1 : Int32) (v2 : Int64) (v4 : Int64) (fld : Int32) : Met l yX1_order wsX1_order ({ frames := 4, cells := 0, slots := 0, locals := 88 }) (ob_P D 0 this fld [.ref this, .int v1, .long v2, .long v4]) (ob_QI D 0 this (fX1_order v1 v2 v4 fld)) 0 0 (fun q => q = this) := by
  refine Met.ofW (cc := cX1_order) (maxL := 6) (ret := (some .int)) (by decide) rfl ?_
  intro p e s m args below meth c s₁ B hml hv
  obtain ⟨rfl, hP, hK⟩ := hv
  have C : px_C p s m _ meth c cX1_order 6 (some .int) RX1 wsX1_order := ⟨B.exec, B.bytes, hml, findClass_of_methodNamed B.named, atoms_spec (ws := wsX1_order) B.pre, B.returns, B.notSynchronized⟩
  have hl := lv_entry ([.ref this, .int v1, .long v2, .long v4]) (n := 6) (Nat.le_of_ble_eq_true rfl)
  rw [lg_entry_eq]
  generalize (lg_sl ([.ref this, .int v1, .long v2, .long v4]) ++ List.replicate (6 - (lg_sl ([.ref this, .int v1, .long v2, .long v4])).length) Slot.unset).toArray = ls at hl ⊢
  have hl : lv_has ls 6 [(0, .ref this), (1, .int v1), (2, .long v2), (4, .long v4)] := hl
  rw [fX1_order]
  exact wX1_order_0 C this v1 v2 v4 fld hK hP va_S.rf (lv_sub hl [0, 1, 2, 3] rfl)
set_option maxHeartbeats 4000000 in
set_option maxRecDepth 100000 in
theorem wX1_failed_0 {p : Program} {l : Launch} {e : Env} {s : State} {m : MethodId} {args : Array Value} {below : List Frame} {meth : Method} {c : Code} {D : va_G} (C : px_C p s m args meth c cX1_failed 1 (some .int) RX1 wsX1_failed) (this : Nat) (fld : Int32) {H : Heap} {locs : List Loc} (hK : va_K D vwCl [] s) (hP : va_P D vwCl [(this, .inr (0, [.int fld]))] H) (hS : va_S (fun q => q = this) s.heap H locs) {ls : Array Slot} (hl : lv_has ls 1 [(0, .ref this)]) : W p l e { frames := 0, cells := 0, slots := 0, locals := 0 } s m args below meth c H locs 0 0 (MQ below (ob_QI D 0 this (fX1_failed_0 fld)) args s 0 0 (fun q => q = this)) (F0 m 0 ls []) := by
  obtain ⟨hx, hb, hml, hown, hts, hr, hlocks⟩ := id C
  rw [fX1_failed_0]
  refine lv_aload_n hx hb dX1_failed_0 rfl (lv_at hl 0 rfl) ?_
  refine va_get (D := D) (ci := 0) (v := .int fld) (C := RX1) (T := TX1) (N := 1) hx hb hts (by decide +kernel) hown hK hP 0 rfl rfl 0 (by decide) (hts (.fieldLink RX1 9 "KindNumbers" "why" "I") (by decide +kernel)) (fun _ h9 => h9) rfl dX1_failed_1 ?_
  exact W.iret hx hb hr (fun t ht hW => ⟨rfl, by rw [ht]; exact hP, hS.F ht⟩) hS.2.2 dX1_failed_4
set_option maxHeartbeats 4000000 in
set_option maxRecDepth 100000 in
theorem kX1_failed (l : Launch) (D : va_G) (this : Nat)  (fld : Int32) : Met l yX1_failed wsX1_failed ({ frames := 0, cells := 0, slots := 0, locals := 0 }) (ob_P D 0 this fld [.ref this]) (ob_QI D 0 this (fX1_failed fld)) 0 0 (fun q => q = this) := by
  refine Met.ofW (cc := cX1_failed) (maxL := 1) (ret := (some .int)) (by decide) rfl ?_
  intro p e s m args below meth c s₁ B hml hv
  obtain ⟨rfl, hP, hK⟩ := hv
  have C : px_C p s m _ meth c cX1_failed 1 (some .int) RX1 wsX1_failed := ⟨B.exec, B.bytes, hml, findClass_of_methodNamed B.named, atoms_spec (ws := wsX1_failed) B.pre, B.returns, B.notSynchronized⟩
  have hl := lv_entry ([.ref this]) (n := 1) (Nat.le_of_ble_eq_true rfl)
  rw [lg_entry_eq]
  generalize (lg_sl ([.ref this]) ++ List.replicate (1 - (lg_sl ([.ref this])).length) Slot.unset).toArray = ls at hl ⊢
  have hl : lv_has ls 1 [(0, .ref this)] := hl
  rw [fX1_failed]
  exact wX1_failed_0 C this fld hK hP va_S.rf (lv_sub hl [0] rfl)
