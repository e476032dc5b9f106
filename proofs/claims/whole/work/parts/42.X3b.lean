set_option maxHeartbeats 4000000 in
set_option maxRecDepth 100000 in
theorem wX3_init_0 {p : Program} {l : Launch} {e : Env} {s : State} {m : MethodId} {args : Array Value} {below : List Frame} {meth : Method} {c : Code} {D : va_G} (C : px_C p s m args meth c cX3_init 1 none RX3 wsX3_init) (this : Nat) (fld : Int32) {H : Heap} {locs : List Loc} (hK : va_K D vwCl [] s) (hP : va_P D vwCl [(this, .inr (1, [.int fld]))] H) (hS : va_S (fun q => q = this) s.heap H locs) {ls : Array Slot} (hl : lv_has ls 1 [(0, .ref this)]) : W p l e { frames := 1, cells := 0, slots := 0, locals := 12 } s m args below meth c H locs 0 0 (MQ below (ob_QU D 1 this (fX3_init_0 fld)) args s 0 0 (fun q => q = this)) (F0 m 0 ls []) := by
  obtain ⟨hx, hb, hml, hown, hts, hr, hlocks⟩ := id C
  rw [fX3_init_0]
  refine lv_aload_n hx hb dX3_init_0 rfl (lv_at hl 0 rfl) ?_
  refine W.objInit hx hb hown (hts (.methodLink RX3 1 objectInit) (by decide +kernel)) (hts (.instanceMethod objectInit) (by decide +kernel)) (hts (.code objectInit ⟨#[0xb1]⟩ 1 none) (by decide +kernel)) rfl (by rw [hml]; exact hl.1) rfl dX3_init_1 (Nat.le_of_ble_eq_true rfl) (Nat.le_of_ble_eq_true rfl) ?_
  refine W.eq (g2 := F0 m 4 ls []) rfl ?_
  exact W.vret hx hb hr (fun t ht hW => ⟨rfl, by rw [ht]; exact hP, hS.F ht⟩) hS.2.2 dX3_init_4
set_option maxHeartbeats 4000000 in
set_option maxRecDepth 100000 in
theorem kX3_init (l : Launch) (D : va_G) (this : Nat)  (fld : Int32) : Met l yX3_init wsX3_init ({ frames := 1, cells := 0, slots := 0, locals := 12 }) (ob_P D 1 this fld [.ref this]) (ob_QU D 1 this (fX3_init fld)) 0 0 (fun q => q = this) := by
  refine Met.ofW (cc := cX3_init) (maxL := 1) (ret := none) (by decide) rfl ?_
  intro p e s m args below meth c s₁ B hml hv
  obtain ⟨rfl, hP, hK⟩ := hv
  have C : px_C p s m _ meth c cX3_init 1 none RX3 wsX3_init := ⟨B.exec, B.bytes, hml, findClass_of_methodNamed B.named, atoms_spec (ws := wsX3_init) B.pre, B.returns, B.notSynchronized⟩
  have hl := lv_entry ([.ref this]) (n := 1) (Nat.le_of_ble_eq_true rfl)
  rw [lg_entry_eq]
  generalize (lg_sl ([.ref this]) ++ List.replicate (1 - (lg_sl ([.ref this])).length) Slot.unset).toArray = ls at hl ⊢
  have hl : lv_has ls 1 [(0, .ref this)] := hl
  rw [fX3_init]
  exact wX3_init_0 C this fld hK hP va_S.rf (lv_sub hl [0] rfl)
set_option maxHeartbeats 4000000 in
set_option maxRecDepth 100000 in
theorem wX3_failed_0 {p : Program} {l : Launch} {e : Env} {s : State} {m : MethodId} {args : Array Value} {below : List Frame} {meth : Method} {c : Code} {D : va_G} (C : px_C p s m args meth c cX3_failed 1 (some .int) RX3 wsX3_failed) (this : Nat) (fld : Int32) {H : Heap} {locs : List Loc} (hK : va_K D vwCl [] s) (hP : va_P D vwCl [(this, .inr (1, [.int fld]))] H) (hS : va_S (fun q => q = this) s.heap H locs) {ls : Array Slot} (hl : lv_has ls 1 [(0, .ref this)]) : W p l e { frames := 0, cells := 0, slots := 0, locals := 0 } s m args below meth c H locs 0 0 (MQ below (ob_QI D 1 this (fX3_failed_0 fld)) args s 0 0 (fun q => q = this)) (F0 m 0 ls []) := by
  obtain ⟨hx, hb, hml, hown, hts, hr, hlocks⟩ := id C
  rw [fX3_failed_0]
  refine lv_aload_n hx hb dX3_failed_0 rfl (lv_at hl 0 rfl) ?_
  refine va_get (D := D) (ci := 1) (v := .int fld) (C := RX3) (T := TX3) (N := 1) hx hb hts (by decide +kernel) hown hK hP 0 rfl rfl 0 (by decide) (hts (.fieldLink RX3 7 "KindNumbersModel" "failed" "I") (by decide +kernel)) (fun _ h9 => h9) rfl dX3_failed_1 ?_
  exact W.iret hx hb hr (fun t ht hW => ⟨rfl, by rw [ht]; exact hP, hS.F ht⟩) hS.2.2 dX3_failed_4
set_option maxHeartbeats 4000000 in
set_option maxRecDepth 100000 in
theorem kX3_failed (l : Launch) (D : va_G) (this : Nat)  (fld : Int32) : Met l yX3_failed wsX3_failed ({ frames := 0, cells := 0, slots := 0, locals := 0 }) (ob_P D 1 this fld [.ref this]) (ob_QI D 1 this (fX3_failed fld)) 0 0 (fun q => q = this) := by
  refine Met.ofW (cc := cX3_failed) (maxL := 1) (ret := (some .int)) (by decide) rfl ?_
  intro p e s m args below meth c s₁ B hml hv
  obtain ⟨rfl, hP, hK⟩ := hv
  have C : px_C p s m _ meth c cX3_failed 1 (some .int) RX3 wsX3_failed := ⟨B.exec, B.bytes, hml, findClass_of_methodNamed B.named, atoms_spec (ws := wsX3_failed) B.pre, B.returns, B.notSynchronized⟩
  have hl := lv_entry ([.ref this]) (n := 1) (Nat.le_of_ble_eq_true rfl)
  rw [lg_entry_eq]
  generalize (lg_sl ([.ref this]) ++ List.replicate (1 - (lg_sl ([.ref this])).length) Slot.unset).toArray = ls at hl ⊢
  have hl : lv_has ls 1 [(0, .ref this)] := hl
  rw [fX3_failed]
  exact wX3_failed_0 C this fld hK hP va_S.rf (lv_sub hl [0] rfl)
set_option maxHeartbeats 4000000 in
set_option maxRecDepth 100000 in
theorem wX3_has_0 {p : Program} {l : Launch} {e : Env} {s : State} {m : MethodId} {args : Array Value} {below : List Frame} {meth : Method} {c : Code} {D : va_G} (C : px_C p s m args meth c cX3_has 4 (some .boolean) RX3 wsX3_has) (this : Nat) (v1 : Int32) (v2 : Int64) (fld : Int32) (hok : okX3_has_0 v1 v2 fld) {H : Heap} {locs : List Loc} (hK : va_K D vwCl [] s) (hP : va_P D vwCl [(this, .inr (1, [.int fld]))] H) (hS : va_S (fun q => q = this) s.heap H locs) {ls : Array Slot} (hl : lv_has ls 4 [(0, .ref this), (1, .int v1), (2, .long v2)]) : W p l e { frames := 3, cells := 0, slots := 0, locals := 86 } s m args below meth c H locs 0 0 (MQ below (ob_QI D 1 this (fX3_has_0 v1 v2 fld)) args s 0 0 (fun q => q = this)) (F0 m 0 ls []) := by
  obtain ⟨hx, hb, hml, hown, hts, hr, hlocks⟩ := id C
  rw [fX3_has_0]
  rw [okX3_has_0] at hok
  refine lv_iload_n hx hb dX3_has_0 rfl (lv_at hl 1 rfl) ?_
  refine lv_lload_n hx hb dX3_has_1 rfl (lv_at hl 2 rfl) ?_
  obtain ⟨hk, hok⟩ := hok
  refine px_S (As := [.int v1, .long v2]) (rest := []) ⟨hx, hb, hml, hown, hts⟩ (kX3_hasBits l v1 v2 hk) (va_cwS 2 hts gX3_has_X3_hasBits rfl rfl rfl (by decide +kernel) ⟨Nat.le_of_ble_eq_true rfl, Nat.le_of_ble_eq_true rfl⟩) rfl hl.1 rfl (Nat.le_of_ble_eq_true rfl) dX3_has_2 (Nat.zero_le _) (Nat.zero_le _) ?_
  exact W.zret hx hb hr (px_z (zX3_hasBits _ _)) (fun t ht hW => ⟨rfl, by rw [ht]; exact hP, hS.F ht⟩) hS.2.2 dX3_has_5
set_option maxHeartbeats 4000000 in
set_option maxRecDepth 100000 in
theorem kX3_has (l : Launch) (D : va_G) (this : Nat) (v1 : Int32) (v2 : Int64) (fld : Int32) (hok : okX3_has v1 v2 fld) : Met l yX3_has wsX3_has ({ frames := 3, cells := 0, slots := 0, locals := 86 }) (ob_P D 1 this fld [.ref this, .int v1, .long v2]) (ob_QI D 1 this (fX3_has v1 v2 fld)) 0 0 (fun q => q = this) := by
  refine Met.ofW (cc := cX3_has) (maxL := 4) (ret := (some .boolean)) (by decide) rfl ?_
  intro p e s m args below meth c s₁ B hml hv
  obtain ⟨rfl, hP, hK⟩ := hv
  have C : px_C p s m _ meth c cX3_has 4 (some .boolean) RX3 wsX3_has := ⟨B.exec, B.bytes, hml, findClass_of_methodNamed B.named, atoms_spec (ws := wsX3_has) B.pre, B.returns, B.notSynchronized⟩
  have hl := lv_entry ([.ref this, .int v1, .long v2]) (n := 4) (Nat.le_of_ble_eq_true rfl)
  rw [lg_entry_eq]
  generalize (lg_sl ([.ref this, .int v1, .long v2]) ++ List.replicate (4 - (lg_sl ([.ref this, .int v1, .long v2])).length) Slot.unset).toArray = ls at hl ⊢
  have hl : lv_has ls 4 [(0, .ref this), (1, .int v1), (2, .long v2)] := hl
  rw [fX3_has]
  rw [okX3_has] at hok
  exact wX3_has_0 C this v1 v2 fld hok hK hP va_S.rf (lv_sub hl [0, 1, 2] rfl)
set_option maxHeartbeats 4000000 in
set_option maxRecDepth 100000 in
theorem wX3_widens_0 {p : Program} {l : Launch} {e : Env} {s : State} {m : MethodId} {args : Array Value} {below : List Frame} {meth : Method} {c : Code} {D : va_G} (C : px_C p s m args meth c cX3_widens 3 (some .boolean) RX3 wsX3_widens) (this : Nat) (v1 : Int32) (v2 : Int32) (fld : Int32) {H : Heap} {locs : List Loc} (hK : va_K D vwCl [] s) (hP : va_P D vwCl [(this, .inr (1, [.int fld]))] H) (hS : va_S (fun q => q = this) s.heap H locs) {ls : Array Slot} (hl : lv_has ls 3 [(0, .ref this), (1, .int v1), (2, .int v2)]) : W p l e { frames := 1, cells := 0, slots := 0, locals := 21 } s m args below meth c H locs 0 0 (MQ below (ob_QI D 1 this (fX3_widens_0 v1 v2 fld)) args s 0 0 (fun q => q = this)) (F0 m 0 ls []) := by
  obtain ⟨hx, hb, hml, hown, hts, hr, hlocks⟩ := id C
  rw [fX3_widens_0]
  refine lv_iload_n hx hb dX3_widens_0 rfl (lv_at hl 1 rfl) ?_
  refine px_if_lt (tgt := 37) hx hb dX3_widens_1 (by decide) (fun hc1 => ?_) (fun hc1 => ?_)
  · rw [if_pos hc1]
    refine lv_iconst (v := 0) hx hb dX3_widens_37 (by decide) ?_
    exact W.zret hx hb hr (by decide) (fun t ht hW => ⟨rfl, by rw [ht]; exact hP, hS.F ht⟩) hS.2.2 dX3_widens_38
  · rw [if_neg hc1]
    refine lv_iload_n hx hb dX3_widens_4 rfl (lv_at hl 1 rfl) ?_
    refine lv_bipush (v := 7) hx hb dX3_widens_5 (by decide) ?_
    refine px_icmp_gt (tgt := 37) hx hb dX3_widens_7 (by decide) (fun hc7 => ?_) (fun hc7 => ?_)
    · rw [if_pos hc7]
      refine lv_iconst (v := 0) hx hb dX3_widens_37 (by decide) ?_
      exact W.zret hx hb hr (by decide) (fun t ht hW => ⟨rfl, by rw [ht]; exact hP, hS.F ht⟩) hS.2.2 dX3_widens_38
    · rw [if_neg hc7]
      refine lv_iload_n hx hb dX3_widens_10 rfl (lv_at hl 1 rfl) ?_
      refine lv_iload_n hx hb dX3_widens_11 rfl (lv_at hl 2 rfl) ?_
      refine px_icmp_eq (tgt := 33) hx hb dX3_widens_12 (by decide) (fun hc12 => ?_) (fun hc12 => ?_)
      · rw [if_pos hc12]
        refine lv_iconst (v := 1) hx hb dX3_widens_33 (by decide) ?_
        refine lv_goto (tgt := 38) hx hb dX3_widens_34 (by decide) ?_
        exact W.zret hx hb hr (by decide) (fun t ht hW => ⟨rfl, by rw [ht]; exact hP, hS.F ht⟩) hS.2.2 dX3_widens_38
      · rw [if_neg hc12]
        refine lv_iload_n hx hb dX3_widens_15 rfl (lv_at hl 2 rfl) ?_
        refine px_if_lt (tgt := 37) hx hb dX3_widens_16 (by decide) (fun hc16 => ?_) (fun hc16 => ?_)
        · rw [if_pos hc16]
          refine lv_iconst (v := 0) hx hb dX3_widens_37 (by decide) ?_
          exact W.zret hx hb hr (by decide) (fun t ht hW => ⟨rfl, by rw [ht]; exact hP, hS.F ht⟩) hS.2.2 dX3_widens_38
        · rw [if_neg hc16]
          refine lv_iload_n hx hb dX3_widens_19 rfl (lv_at hl 2 rfl) ?_
          refine lv_bipush (v := 7) hx hb dX3_widens_20 (by decide) ?_
          refine px_icmp_gt (tgt := 37) hx hb dX3_widens_22 (by decide) (fun hc22 => ?_) (fun hc22 => ?_)
          · rw [if_pos hc22]
            refine lv_iconst (v := 0) hx hb dX3_widens_37 (by decide) ?_
            exact W.zret hx hb hr (by decide) (fun t ht hW => ⟨rfl, by rw [ht]; exact hP, hS.F ht⟩) hS.2.2 dX3_widens_38
          · rw [if_neg hc22]
            refine lv_iload_n hx hb dX3_widens_25 rfl (lv_at hl 1 rfl) ?_
            refine lv_iload_n hx hb dX3_widens_26 rfl (lv_at hl 2 rfl) ?_
            refine px_S (As := [.int v1, .int v2]) (rest := []) ⟨hx, hb, hml, hown, hts⟩ (kX3_isWider l v1 v2) (va_cwS 2 hts gX3_widens_X3_isWider rfl rfl rfl (by decide +kernel) ⟨Nat.le_of_ble_eq_true rfl, Nat.le_of_ble_eq_true rfl⟩) rfl hl.1 rfl (Nat.le_of_ble_eq_true rfl) dX3_widens_27 (Nat.zero_le _) (Nat.zero_le _) ?_
            refine px_if_eq (tgt := 37) hx hb dX3_widens_30 (by decide) (fun hc30 => ?_) (fun hc30 => ?_)
            · rw [if_pos hc30]
              refine lv_iconst (v := 0) hx hb dX3_widens_37 (by decide) ?_
              exact W.zret hx hb hr (by decide) (fun t ht hW => ⟨rfl, by rw [ht]; exact hP, hS.F ht⟩) hS.2.2 dX3_widens_38
            · rw [if_neg hc30]
              refine lv_iconst (v := 1) hx hb dX3_widens_33 (by decide) ?_
              refine lv_goto (tgt := 38) hx hb dX3_widens_34 (by decide) ?_
              exact W.zret hx hb hr (by decide) (fun t ht hW => ⟨rfl, by rw [ht]; exact hP, hS.F ht⟩) hS.2.2 dX3_widens_38
set_option maxHeartbeats 4000000 in
set_option maxRecDepth 100000 in
theorem kX3_widens (l : Launch) (D : va_G) (this : Nat) (v1 : Int32) (v2 : Int32) (fld : Int32) : Met l yX3_widens wsX3_widens ({ frames := 1, cells := 0, slots := 0, locals := 21 }) (ob_P D 1 this fld [.ref this, .int v1, .int v2]) (ob_QI D 1 this (fX3_widens v1 v2 fld)) 0 0 (fun q => q = this) := by
  refine Met.ofW (cc := cX3_widens) (maxL := 3) (ret := (some .boolean)) (by decide) rfl ?_
  intro p e s m args below meth c s₁ B hml hv
  obtain ⟨rfl, hP, hK⟩ := hv
  have C : px_C p s m _ meth c cX3_widens 3 (some .boolean) RX3 wsX3_widens := ⟨B.exec, B.bytes, hml, findClass_of_methodNamed B.named, atoms_spec (ws := wsX3_widens) B.pre, B.returns, B.notSynchronized⟩
  have hl := lv_entry ([.ref this, .int v1, .int v2]) (n := 3) (Nat.le_of_ble_eq_true rfl)
  rw [lg_entry_eq]
  generalize (lg_sl ([.ref this, .int v1, .int v2]) ++ List.replicate (3 - (lg_sl ([.ref this, .int v1, .int v2])).length) Slot.unset).toArray = ls at hl ⊢
  have hl : lv_has ls 3 [(0, .ref this), (1, .int v1), (2, .int v2)] := hl
  rw [fX3_widens]
  exact wX3_widens_0 C this v1 v2 fld hK hP va_S.rf (lv_sub hl [0, 1, 2] rfl)
set_option maxHeartbeats 4000000 in
set_option maxRecDepth 100000 in
theorem wX3_cast_45 {p : Program} {l : Launch} {e : Env} {s : State} {m : MethodId} {args : Array Value} {below : List Frame} {meth : Method} {c : Code} {D : va_G} (C : px_C p s m args meth c cX3_cast 6 (some .long) RX3 wsX3_cast) (this : Nat) (v1 : Int32) (v2 : Int32) (v3 : Int64) (v5 : Int32) (s1 : Int32) (fld : Int32) (hok : okX3_cast_45 v1 v2 v3 v5 s1 fld) {H : Heap} {locs : List Loc} (hK : va_K D vwCl [] s) (hP : va_P D vwCl [(this, .inr (1, [.int fld]))] H) (hS : va_S (fun q => q = this) s.heap H locs) {ls : Array Slot} (hl : lv_has ls 6 [(0, .ref this), (1, .int v1), (2, .int v2), (3, .long v3), (5, .int v5)]) : W p l e { frames := 5, cells := 0, slots := 0, locals := 140 } s m args below meth c H locs 0 0 (MQ below (ob_QL D 1 this (fX3_cast_45 v1 v2 v3 v5 s1 fld)) args s 0 0 (fun q => q = this)) (F0 m 45 ls [.int s1, .ref this]) := by
  obtain ⟨hx, hb, hml, hown, hts, hr, hlocks⟩ := id C
  rw [fX3_cast_45]
  rw [okX3_cast_45] at hok
  refine va_put (D := D) (ci := 1) (v := .int s1) (ty := .int) (C := RX3) (T := TX3) (N := 1) hx hb hts (by decide +kernel) tyX3 tyX3_ok nmX3 hown hK hP (ob_D _ _) hS 0 rfl rfl 0 (by decide) (hts (.fieldLink RX3 7 "KindNumbersModel" "failed" "I") (by decide +kernel)) (fun _ h9 => h9) rfl (by decide +kernel) rfl rfl (Nat.le_of_ble_eq_true rfl) dX3_cast_45 (fun H locs hP _ hS => ?_)
  have hP : va_P D vwCl [(this, .inr (1, [.int s1]))] H := hP
  refine lv_iload hx hb dX3_cast_48 (lv_at hl 4 rfl) ?_
  refine px_if_eq (tgt := 62) hx hb dX3_cast_50 (by decide) (fun hc50 => ?_) (fun hc50 => ?_)
  · rw [if_pos hc50]
    have hok := hok.1 hc50
    refine lv_lconst (v := 0) hx hb dX3_cast_62 (by decide) ?_
    exact W.lret hx hb hr (fun t ht hW => ⟨rfl, by rw [ht]; exact hP, hS.F ht⟩) hS.2.2 dX3_cast_63
  · rw [if_neg hc50]
    have hok := hok.2 hc50
    refine lv_lload_n hx hb dX3_cast_53 rfl (lv_at hl 3 rfl) ?_
    refine lv_iload_n hx hb dX3_cast_54 rfl (lv_at hl 1 rfl) ?_
    refine lv_iload_n hx hb dX3_cast_55 rfl (lv_at hl 2 rfl) ?_
    obtain ⟨hk, hok⟩ := hok
    refine px_S (As := [.long v3, .int v1, .int v2]) (rest := []) ⟨hx, hb, hml, hown, hts⟩ (kX3_casted l v3 v1 v2 hk) (va_cwS 3 hts gX3_cast_X3_casted rfl rfl rfl (by decide +kernel) ⟨Nat.le_of_ble_eq_true rfl, Nat.le_of_ble_eq_true rfl⟩) rfl hl.1 rfl (Nat.le_of_ble_eq_true rfl) dX3_cast_56 (Nat.zero_le _) (Nat.zero_le _) ?_
    refine lv_goto (tgt := 63) hx hb dX3_cast_59 (by decide) ?_
    exact W.lret hx hb hr (fun t ht hW => ⟨rfl, by rw [ht]; exact hP, hS.F ht⟩) hS.2.2 dX3_cast_63
set_option maxHeartbeats 4000000 in
set_option maxRecDepth 100000 in
theorem wX3_cast_32 {p : Program} {l : Launch} {e : Env} {s : State} {m : MethodId} {args : Array Value} {below : List Frame} {meth : Method} {c : Code} {D : va_G} (C : px_C p s m args meth c cX3_cast 6 (some .long) RX3 wsX3_cast) (this : Nat) (v1 : Int32) (v2 : Int32) (v3 : Int64) (s0 : Int32) (fld : Int32) (hok : okX3_cast_32 v1 v2 v3 s0 fld) {H : Heap} {locs : List Loc} (hK : va_K D vwCl [] s) (hP : va_P D vwCl [(this, .inr (1, [.int fld]))] H) (hS : va_S (fun q => q = this) s.heap H locs) {ls : Array Slot} (hl : lv_has ls 6 [(0, .ref this), (1, .int v1), (2, .int v2), (3, .long v3)]) : W p l e { frames := 5, cells := 0, slots := 0, locals := 140 } s m args below meth c H locs 0 0 (MQ below (ob_QL D 1 this (fX3_cast_32 v1 v2 v3 s0 fld)) args s 0 0 (fun q => q = this)) (F0 m 32 ls [.int s0]) := by
  obtain ⟨hx, hb, hml, hown, hts, hr, hlocks⟩ := id C
  rw [fX3_cast_32]
  rw [okX3_cast_32] at hok
  refine lv_istore (lv' := [(5, .int s0), (0, .ref this), (1, .int v1), (2, .int v2), (3, .long v3)]) hx hb dX3_cast_32 hl (by decide) rfl (fun ls hl => ?_)
  refine lv_aload_n hx hb dX3_cast_34 rfl (lv_at hl 1 rfl) ?_
  refine lv_iload hx hb dX3_cast_35 (lv_at hl 0 rfl) ?_
  refine px_if_eq (tgt := 44) hx hb dX3_cast_37 (by decide) (fun hc37 => ?_) (fun hc37 => ?_)
  · rw [if_pos hc37]
    have hok := hok.1 hc37
    refine lv_iconst (v := 1) hx hb dX3_cast_44 (by decide) ?_
    exact wX3_cast_45 C this v1 v2 v3 s0 (1 : Int32) fld hok hK hP hS (lv_sub hl [1, 2, 3, 4, 0] rfl)
  · rw [if_neg hc37]
    have hok := hok.2 hc37
    refine lv_iconst (v := 0) hx hb dX3_cast_40 (by decide) ?_
    refine lv_goto (tgt := 45) hx hb dX3_cast_41 (by decide) ?_
    exact wX3_cast_45 C this v1 v2 v3 s0 (0 : Int32) fld hok hK hP hS (lv_sub hl [1, 2, 3, 4, 0] rfl)
set_option maxHeartbeats 4000000 in
set_option maxRecDepth 100000 in
theorem wX3_cast_31 {p : Program} {l : Launch} {e : Env} {s : State} {m : MethodId} {args : Array Value} {below : List Frame} {meth : Method} {c : Code} {D : va_G} (C : px_C p s m args meth c cX3_cast 6 (some .long) RX3 wsX3_cast) (this : Nat) (v1 : Int32) (v2 : Int32) (v3 : Int64) (fld : Int32) (hok : okX3_cast_31 v1 v2 v3 fld) {H : Heap} {locs : List Loc} (hK : va_K D vwCl [] s) (hP : va_P D vwCl [(this, .inr (1, [.int fld]))] H) (hS : va_S (fun q => q = this) s.heap H locs) {ls : Array Slot} (hl : lv_has ls 6 [(0, .ref this), (1, .int v1), (2, .int v2), (3, .long v3)]) : W p l e { frames := 5, cells := 0, slots := 0, locals := 140 } s m args below meth c H locs 0 0 (MQ below (ob_QL D 1 this (fX3_cast_31 v1 v2 v3 fld)) args s 0 0 (fun q => q = this)) (F0 m 31 ls []) := by
  obtain ⟨hx, hb, hml, hown, hts, hr, hlocks⟩ := id C
  rw [fX3_cast_31]
  rw [okX3_cast_31] at hok
  refine lv_iconst (v := 0) hx hb dX3_cast_31 (by decide) ?_
  exact wX3_cast_32 C this v1 v2 v3 (0 : Int32) fld hok hK hP hS (lv_sub hl [0, 1, 2, 3] rfl)
set_option maxHeartbeats 4000000 in
set_option maxRecDepth 100000 in
theorem wX3_cast_19 {p : Program} {l : Launch} {e : Env} {s : State} {m : MethodId} {args : Array Value} {below : List Frame} {meth : Method} {c : Code} {D : va_G} (C : px_C p s m args meth c cX3_cast 6 (some .long) RX3 wsX3_cast) (this : Nat) (v1 : Int32) (v2 : Int32) (v3 : Int64) (fld : Int32) (hok : okX3_cast_19 v1 v2 v3 fld) {H : Heap} {locs : List Loc} (hK : va_K D vwCl [] s) (hP : va_P D vwCl [(this, .inr (1, [.int fld]))] H) (hS : va_S (fun q => q = this) s.heap H locs) {ls : Array Slot} (hl : lv_has ls 6 [(0, .ref this), (1, .int v1), (2, .int v2), (3, .long v3)]) : W p l e { frames := 5, cells := 0, slots := 0, locals := 140 } s m args below meth c H locs 0 0 (MQ below (ob_QL D 1 this (fX3_cast_19 v1 v2 v3 fld)) args s 0 0 (fun q => q = this)) (F0 m 19 ls []) := by
  obtain ⟨hx, hb, hml, hown, hts, hr, hlocks⟩ := id C
  rw [fX3_cast_19]
  rw [okX3_cast_19] at hok
  refine lv_iload_n hx hb dX3_cast_19 rfl (lv_at hl 1 rfl) ?_
  refine lv_lload_n hx hb dX3_cast_20 rfl (lv_at hl 3 rfl) ?_
  obtain ⟨hk, hok⟩ := hok
  refine px_S (As := [.int v1, .long v3]) (rest := []) ⟨hx, hb, hml, hown, hts⟩ (kX3_hasBits l v1 v3 hk) (va_cwS 2 hts gX3_cast_X3_hasBits rfl rfl rfl (by decide +kernel) ⟨Nat.le_of_ble_eq_true rfl, Nat.le_of_ble_eq_true rfl⟩) rfl hl.1 rfl (Nat.le_of_ble_eq_true rfl) dX3_cast_21 (Nat.zero_le _) (Nat.zero_le _) ?_
  refine px_if_eq (tgt := 31) hx hb dX3_cast_24 (by decide) (fun hc24 => ?_) (fun hc24 => ?_)
  · rw [if_pos hc24]
    have hok := hok.1 hc24
    exact wX3_cast_31 C this v1 v2 v3 fld hok hK hP hS (lv_sub hl [0, 1, 2, 3] rfl)
  · rw [if_neg hc24]
    have hok := hok.2 hc24
    refine lv_iconst (v := 1) hx hb dX3_cast_27 (by decide) ?_
    refine lv_goto (tgt := 32) hx hb dX3_cast_28 (by decide) ?_
    exact wX3_cast_32 C this v1 v2 v3 (1 : Int32) fld hok hK hP hS (lv_sub hl [0, 1, 2, 3] rfl)
set_option maxHeartbeats 4000000 in
set_option maxRecDepth 100000 in
theorem wX3_cast_0 {p : Program} {l : Launch} {e : Env} {s : State} {m : MethodId} {args : Array Value} {below : List Frame} {meth : Method} {c : Code} {D : va_G} (C : px_C p s m args meth c cX3_cast 6 (some .long) RX3 wsX3_cast) (this : Nat) (v1 : Int32) (v2 : Int32) (v3 : Int64) (fld : Int32) (hok : okX3_cast_0 v1 v2 v3 fld) {H : Heap} {locs : List Loc} (hK : va_K D vwCl [] s) (hP : va_P D vwCl [(this, .inr (1, [.int fld]))] H) (hS : va_S (fun q => q = this) s.heap H locs) {ls : Array Slot} (hl : lv_has ls 6 [(0, .ref this), (1, .int v1), (2, .int v2), (3, .long v3)]) : W p l e { frames := 5, cells := 0, slots := 0, locals := 140 } s m args below meth c H locs 0 0 (MQ below (ob_QL D 1 this (fX3_cast_0 v1 v2 v3 fld)) args s 0 0 (fun q => q = this)) (F0 m 0 ls []) := by
  obtain ⟨hx, hb, hml, hown, hts, hr, hlocks⟩ := id C
  rw [fX3_cast_0]
  rw [okX3_cast_0] at hok
  refine lv_iload_n hx hb dX3_cast_0 rfl (lv_at hl 1 rfl) ?_
  refine lv_iload_n hx hb dX3_cast_1 rfl (lv_at hl 2 rfl) ?_
  refine px_icmp_eq (tgt := 19) hx hb dX3_cast_2 (by decide) (fun hc2 => ?_) (fun hc2 => ?_)
  · rw [if_pos hc2]
    have hok := hok.1 hc2
    exact wX3_cast_19 C this v1 v2 v3 fld hok hK hP hS (lv_sub hl [0, 1, 2, 3] rfl)
  · rw [if_neg hc2]
    have hok := hok.2 hc2
    refine lv_iload_n hx hb dX3_cast_5 rfl (lv_at hl 1 rfl) ?_
    refine px_S (As := [.int v1]) (rest := []) ⟨hx, hb, hml, hown, hts⟩ (kX3_isNumber l v1) (va_cwS 1 hts gX3_cast_X3_isNumber rfl rfl rfl (by decide +kernel) ⟨Nat.le_of_ble_eq_true rfl, Nat.le_of_ble_eq_true rfl⟩) rfl hl.1 rfl (Nat.le_of_ble_eq_true rfl) dX3_cast_6 (Nat.zero_le _) (Nat.zero_le _) ?_
    refine px_if_eq (tgt := 31) hx hb dX3_cast_9 (by decide) (fun hc9 => ?_) (fun hc9 => ?_)
    · rw [if_pos hc9]
      have hok := hok.1 hc9
      exact wX3_cast_31 C this v1 v2 v3 fld hok hK hP hS (lv_sub hl [0, 1, 2, 3] rfl)
    · rw [if_neg hc9]
      have hok := hok.2 hc9
      refine lv_iload_n hx hb dX3_cast_12 rfl (lv_at hl 2 rfl) ?_
      refine px_S (As := [.int v2]) (rest := []) ⟨hx, hb, hml, hown, hts⟩ (kX3_isNumber l v2) (va_cwS 1 hts gX3_cast_X3_isNumber rfl rfl rfl (by decide +kernel) ⟨Nat.le_of_ble_eq_true rfl, Nat.le_of_ble_eq_true rfl⟩) rfl hl.1 rfl (Nat.le_of_ble_eq_true rfl) dX3_cast_13 (Nat.zero_le _) (Nat.zero_le _) ?_
      refine px_if_eq (tgt := 31) hx hb dX3_cast_16 (by decide) (fun hc16 => ?_) (fun hc16 => ?_)
      · rw [if_pos hc16]
        have hok := hok.1 hc16
        exact wX3_cast_31 C this v1 v2 v3 fld hok hK hP hS (lv_sub hl [0, 1, 2, 3] rfl)
      · rw [if_neg hc16]
        have hok := hok.2 hc16
        exact wX3_cast_19 C this v1 v2 v3 fld hok hK hP hS (lv_sub hl [0, 1, 2, 3] rfl)
set_option maxHeartbeats 4000000 in
set_option maxRecDepth 100000 in
theorem kX3_cast (l : Launch) (D : va_G) (this : Nat) (v1 : Int32) (v2 : Int32) (v3 : Int64) (fld : Int32) (hok : okX3_cast v1 v2 v3 fld) : Met l yX3_cast wsX3_cast ({ frames := 5, cells := 0, slots := 0, locals := 140 }) (ob_P D 1 this fld [.ref this, .int v1, .int v2, .long v3]) (ob_QL D 1 this (fX3_cast v1 v2 v3 fld)) 0 0 (fun q => q = this) := by
  refine Met.ofW (cc := cX3_cast) (maxL := 6) (ret := (some .long)) (by decide) rfl ?_
  intro p e s m args below meth c s₁ B hml hv
  obtain ⟨rfl, hP, hK⟩ := hv
  have C : px_C p s m _ meth c cX3_cast 6 (some .long) RX3 wsX3_cast := ⟨B.exec, B.bytes, hml, findClass_of_methodNamed B.named, atoms_spec (ws := wsX3_cast) B.pre, B.returns, B.notSynchronized⟩
  have hl := lv_entry ([.ref this, .int v1, .int v2, .long v3]) (n := 6) (Nat.le_of_ble_eq_true rfl)
  rw [lg_entry_eq]
  generalize (lg_sl ([.ref this, .int v1, .int v2, .long v3]) ++ List.replicate (6 - (lg_sl ([.ref this, .int v1, .int v2, .long v3])).length) Slot.unset).toArray = ls at hl ⊢
  have hl : lv_has ls 6 [(0, .ref this), (1, .int v1), (2, .int v2), (3, .long v3)] := hl
  rw [fX3_cast]
  rw [okX3_cast] at hok
  exact wX3_cast_0 C this v1 v2 v3 fld hok hK hP va_S.rf (lv_sub hl [0, 1, 2, 3] rfl)
set_option maxHeartbeats 4000000 in
set_option maxRecDepth 100000 in
theorem wX3_areNumbers_0 {p : Program} {l : Launch} {e : Env} {s : State} {m : MethodId} {args : Array Value} {below : List Frame} {meth : Method} {c : Code} {D : va_G} (C : px_C p s m args meth c cX3_areNumbers 7 (some .boolean) RX3 wsX3_areNumbers) (this : Nat) (v1 : Int32) (v2 : Int64) (v4 : Int32) (v5 : Int64) (fld : Int32) (hok : okX3_areNumbers_0 v1 v2 v4 v5 fld) {H : Heap} {locs : List Loc} (hK : va_K D vwCl [] s) (hP : va_P D vwCl [(this, .inr (1, [.int fld]))] H) (hS : va_S (fun q => q = this) s.heap H locs) {ls : Array Slot} (hl : lv_has ls 7 [(0, .ref this), (1, .int v1), (2, .long v2), (4, .int v4), (5, .long v5)]) : W p l e { frames := 3, cells := 0, slots := 0, locals := 86 } s m args below meth c H locs 0 0 (MQ below (ob_QI D 1 this (fX3_areNumbers_0 v1 v2 v4 v5 fld)) args s 0 0 (fun q => q = this)) (F0 m 0 ls []) := by
  obtain ⟨hx, hb, hml, hown, hts, hr, hlocks⟩ := id C
  rw [fX3_areNumbers_0]
  rw [okX3_areNumbers_0] at hok
  refine lv_iload_n hx hb dX3_areNumbers_0 rfl (lv_at hl 1 rfl) ?_
  refine px_S (As := [.int v1]) (rest := []) ⟨hx, hb, hml, hown, hts⟩ (kX3_isNumber l v1) (va_cwS 1 hts gX3_areNumbers_X3_isNumber rfl rfl rfl (by decide +kernel) ⟨Nat.le_of_ble_eq_true rfl, Nat.le_of_ble_eq_true rfl⟩) rfl hl.1 rfl (Nat.le_of_ble_eq_true rfl) dX3_areNumbers_1 (Nat.zero_le _) (Nat.zero_le _) ?_
  refine px_if_eq (tgt := 37) hx hb dX3_areNumbers_4 (by decide) (fun hc4 => ?_) (fun hc4 => ?_)
  · rw [if_pos hc4]
    have hok := hok.1 hc4
    refine lv_iconst (v := 0) hx hb dX3_areNumbers_37 (by decide) ?_
    exact W.zret hx hb hr (by decide) (fun t ht hW => ⟨rfl, by rw [ht]; exact hP, hS.F ht⟩) hS.2.2 dX3_areNumbers_38
  · rw [if_neg hc4]
    have hok := hok.2 hc4
    refine lv_iload hx hb dX3_areNumbers_7 (lv_at hl 3 rfl) ?_
    refine px_S (As := [.int v4]) (rest := []) ⟨hx, hb, hml, hown, hts⟩ (kX3_isNumber l v4) (va_cwS 1 hts gX3_areNumbers_X3_isNumber rfl rfl rfl (by decide +kernel) ⟨Nat.le_of_ble_eq_true rfl, Nat.le_of_ble_eq_true rfl⟩) rfl hl.1 rfl (Nat.le_of_ble_eq_true rfl) dX3_areNumbers_9 (Nat.zero_le _) (Nat.zero_le _) ?_
    refine px_if_eq (tgt := 37) hx hb dX3_areNumbers_12 (by decide) (fun hc12 => ?_) (fun hc12 => ?_)
    · rw [if_pos hc12]
      have hok := hok.1 hc12
      refine lv_iconst (v := 0) hx hb dX3_areNumbers_37 (by decide) ?_
      exact W.zret hx hb hr (by decide) (fun t ht hW => ⟨rfl, by rw [ht]; exact hP, hS.F ht⟩) hS.2.2 dX3_areNumbers_38
    · rw [if_neg hc12]
      have hok := hok.2 hc12
      refine lv_iload_n hx hb dX3_areNumbers_15 rfl (lv_at hl 1 rfl) ?_
      refine lv_lload_n hx hb dX3_areNumbers_16 rfl (lv_at hl 2 rfl) ?_
      obtain ⟨hk, hok⟩ := hok
      refine px_S (As := [.int v1, .long v2]) (rest := []) ⟨hx, hb, hml, hown, hts⟩ (kX3_hasBits l v1 v2 hk) (va_cwS 2 hts gX3_areNumbers_X3_hasBits rfl rfl rfl (by decide +kernel) ⟨Nat.le_of_ble_eq_true rfl, Nat.le_of_ble_eq_true rfl⟩) rfl hl.1 rfl (Nat.le_of_ble_eq_true rfl) dX3_areNumbers_17 (Nat.zero_le _) (Nat.zero_le _) ?_
      refine px_if_eq (tgt := 37) hx hb dX3_areNumbers_20 (by decide) (fun hc20 => ?_) (fun hc20 => ?_)
      · rw [if_pos hc20]
        have hok := hok.1 hc20
        refine lv_iconst (v := 0) hx hb dX3_areNumbers_37 (by decide) ?_
        exact W.zret hx hb hr (by decide) (fun t ht hW => ⟨rfl, by rw [ht]; exact hP, hS.F ht⟩) hS.2.2 dX3_areNumbers_38
      · rw [if_neg hc20]
        have hok := hok.2 hc20
        refine lv_iload hx hb dX3_areNumbers_23 (lv_at hl 3 rfl) ?_
        refine lv_lload hx hb dX3_areNumbers_25 (lv_at hl 4 rfl) ?_
        obtain ⟨hk, hok⟩ := hok
        refine px_S (As := [.int v4, .long v5]) (rest := []) ⟨hx, hb, hml, hown, hts⟩ (kX3_hasBits l v4 v5 hk) (va_cwS 2 hts gX3_areNumbers_X3_hasBits rfl rfl rfl (by decide +kernel) ⟨Nat.le_of_ble_eq_true rfl, Nat.le_of_ble_eq_true rfl⟩) rfl hl.1 rfl (Nat.le_of_ble_eq_true rfl) dX3_areNumbers_27 (Nat.zero_le _) (Nat.zero_le _) ?_
        refine px_if_eq (tgt := 37) hx hb dX3_areNumbers_30 (by decide) (fun hc30 => ?_) (fun hc30 => ?_)
        · rw [if_pos hc30]
          have hok := hok.1 hc30
          refine lv_iconst (v := 0) hx hb dX3_areNumbers_37 (by decide) ?_
          exact W.zret hx hb hr (by decide) (fun t ht hW => ⟨rfl, by rw [ht]; exact hP, hS.F ht⟩) hS.2.2 dX3_areNumbers_38
        · rw [if_neg hc30]
          have hok := hok.2 hc30
          refine lv_iconst (v := 1) hx hb dX3_areNumbers_33 (by decide) ?_
          refine lv_goto (tgt := 38) hx hb dX3_areNumbers_34 (by decide) ?_
          exact W.zret hx hb hr (by decide) (fun t ht hW => ⟨rfl, by rw [ht]; exact hP, hS.F ht⟩) hS.2.2 dX3_areNumbers_38
set_option maxHeartbeats 4000000 in
set_option maxRecDepth 100000 in
theorem kX3_areNumbers (l : Launch) (D : va_G) (this : Nat) (v1 : Int32) (v2 : Int64) (v4 : Int32) (v5 : Int64) (fld : Int32) (hok : okX3_areNumbers v1 v2 v4 v5 fld) : Met l yX3_areNumbers wsX3_areNumbers ({ frames := 3, cells := 0, slots := 0, locals := 86 }) (ob_P D 1 this fld [.ref this, .int v1, .long v2, .int v4, .long v5]) (ob_QI D 1 this (fX3_areNumbers v1 v2 v4 v5 fld)) 0 0 (fun q => q = this) := by
  refine Met.ofW (cc := cX3_areNumbers) (maxL := 7) (ret := (some .boolean)) (by decide) rfl ?_
  intro p e s m args below meth c s₁ B hml hv
  obtain ⟨rfl, hP, hK⟩ := hv
  have C : px_C p s m _ meth c cX3_areNumbers 7 (some .boolean) RX3 wsX3_areNumbers := ⟨B.exec, B.bytes, hml, findClass_of_methodNamed B.named, atoms_spec (ws := wsX3_areNumbers) B.pre, B.returns, B.notSynchronized⟩
  have hl := lv_entry ([.ref this, .int v1, .long v2, .int v4, .long v5]) (n := 7) (Nat.le_of_ble_eq_true rfl)
  rw [lg_entry_eq]
  generalize (lg_sl ([.ref this, .int v1, .long v2, .int v4, .long v5]) ++ List.replicate (7 - (lg_sl ([.ref this, .int v1, .long v2, .int v4, .long v5])).length) Slot.unset).toArray = ls at hl ⊢
  have hl : lv_has ls 7 [(0, .ref this), (1, .int v1), (2, .long v2), (4, .int v4), (5, .long v5)] := hl
  rw [fX3_areNumbers]
  rw [okX3_areNumbers] at hok
  exact wX3_areNumbers_0 C this v1 v2 v4 v5 fld hok hK hP va_S.rf (lv_sub hl [0, 1, 2, 3, 4] rfl)
set_option maxHeartbeats 4000000 in
set_option maxRecDepth 100000 in
theorem wX3_whole_109 {p : Program} {l : Launch} {e : Env} {s : State} {m : MethodId} {args : Array Value} {below : List Frame} {meth : Method} {c : Code} {D : va_G} (C : px_C p s m args meth c cX3_whole 9 (some .long) RX3 wsX3_whole) (this : Nat) (v2 : Int32) (v7 : Int64) (fld : Int32) {H : Heap} {locs : List Loc} (hK : va_K D vwCl [] s) (hP : va_P D vwCl [(this, .inr (1, [.int fld]))] H) (hS : va_S (fun q => q = this) s.heap H locs) {ls : Array Slot} (hl : lv_has ls 9 [(0, .ref this), (2, .int v2), (7, .long v7)]) : W p l e { frames := 0, cells := 0, slots := 0, locals := 0 } s m args below meth c H locs 0 0 (MQ below (ob_QL D 1 this (fX3_whole_109 v2 v7 fld)) args s 0 0 (fun q => q = this)) (F0 m 109 ls []) := by
  obtain ⟨hx, hb, hml, hown, hts, hr, hlocks⟩ := id C
  rw [fX3_whole_109]
  refine lv_iload_n hx hb dX3_whole_109 rfl (lv_at hl 1 rfl) ?_
  refine lv_iconst (v := 4) hx hb dX3_whole_110 (by decide) ?_
  refine px_icmp_ne (tgt := 121) hx hb dX3_whole_111 (by decide) (fun hc111 => ?_) (fun hc111 => ?_)
  · rw [if_pos hc111]
    refine lv_lload hx hb dX3_whole_114 (lv_at hl 2 rfl) ?_
    refine px_l2i hx hb dX3_whole_116 ?_
    refine px_i2l hx hb dX3_whole_117 ?_
    refine lv_goto (tgt := 123) hx hb dX3_whole_118 (by decide) ?_
    exact W.lret hx hb hr (fun t ht hW => ⟨rfl, by rw [ht]; exact hP, hS.F ht⟩) hS.2.2 dX3_whole_123
  · rw [if_neg hc111]
    refine lv_lload hx hb dX3_whole_121 (lv_at hl 2 rfl) ?_
    exact W.lret hx hb hr (fun t ht hW => ⟨rfl, by rw [ht]; exact hP, hS.F ht⟩) hS.2.2 dX3_whole_123
set_option maxHeartbeats 4000000 in
set_option maxRecDepth 100000 in
theorem wX3_whole_85 {p : Program} {l : Launch} {e : Env} {s : State} {m : MethodId} {args : Array Value} {below : List Frame} {meth : Method} {c : Code} {D : va_G} (C : px_C p s m args meth c cX3_whole 9 (some .long) RX3 wsX3_whole) (this : Nat) (v2 : Int32) (s0 : Int64) (fld : Int32) {H : Heap} {locs : List Loc} (hK : va_K D vwCl [] s) (hP : va_P D vwCl [(this, .inr (1, [.int fld]))] H) (hS : va_S (fun q => q = this) s.heap H locs) {ls : Array Slot} (hl : lv_has ls 9 [(0, .ref this), (2, .int v2)]) : W p l e { frames := 0, cells := 0, slots := 0, locals := 0 } s m args below meth c H locs 0 0 (MQ below (ob_QL D 1 this (fX3_whole_85 v2 s0 fld)) args s 0 0 (fun q => q = this)) (F0 m 85 ls [.long s0]) := by
  obtain ⟨hx, hb, hml, hown, hts, hr, hlocks⟩ := id C
  rw [fX3_whole_85]
  refine lv_lstore (lv' := [(7, .long s0), (0, .ref this), (2, .int v2)]) hx hb dX3_whole_85 hl (by decide) rfl (fun ls hl => ?_)
  refine lv_goto (tgt := 109) hx hb dX3_whole_87 (by decide) ?_
  exact wX3_whole_109 C this v2 s0 fld hK hP hS (lv_sub hl [1, 2, 0] rfl)
set_option maxHeartbeats 4000000 in
set_option maxRecDepth 100000 in
theorem wX3_whole_107 {p : Program} {l : Launch} {e : Env} {s : State} {m : MethodId} {args : Array Value} {below : List Frame} {meth : Method} {c : Code} {D : va_G} (C : px_C p s m args meth c cX3_whole 9 (some .long) RX3 wsX3_whole) (this : Nat) (v2 : Int32) (s0 : Int64) (fld : Int32) {H : Heap} {locs : List Loc} (hK : va_K D vwCl [] s) (hP : va_P D vwCl [(this, .inr (1, [.int fld]))] H) (hS : va_S (fun q => q = this) s.heap H locs) {ls : Array Slot} (hl : lv_has ls 9 [(0, .ref this), (2, .int v2)]) : W p l e { frames := 0, cells := 0, slots := 0, locals := 0 } s m args below meth c H locs 0 0 (MQ below (ob_QL D 1 this (fX3_whole_107 v2 s0 fld)) args s 0 0 (fun q => q = this)) (F0 m 107 ls [.long s0]) := by
  obtain ⟨hx, hb, hml, hown, hts, hr, hlocks⟩ := id C
  rw [fX3_whole_107]
  refine lv_lstore (lv' := [(7, .long s0), (0, .ref this), (2, .int v2)]) hx hb dX3_whole_107 hl (by decide) rfl (fun ls hl => ?_)
  exact wX3_whole_109 C this v2 s0 fld hK hP hS (lv_sub hl [1, 2, 0] rfl)
set_option maxHeartbeats 4000000 in
set_option maxRecDepth 100000 in
theorem wX3_whole_20 {p : Program} {l : Launch} {e : Env} {s : State} {m : MethodId} {args : Array Value} {below : List Frame} {meth : Method} {c : Code} {D : va_G} (C : px_C p s m args meth c cX3_whole 9 (some .long) RX3 wsX3_whole) (this : Nat) (v1 : Int32) (v2 : Int32) (v3 : Int64) (v5 : Int64) (fld : Int32) (hok : okX3_whole_20 v1 v2 v3 v5 fld) {H : Heap} {locs : List Loc} (hK : va_K D vwCl [] s) (hP : va_P D vwCl [(this, .inr (1, [.int fld]))] H) (hS : va_S (fun q => q = this) s.heap H locs) {ls : Array Slot} (hl : lv_has ls 9 [(0, .ref this), (1, .int v1), (2, .int v2), (3, .long v3), (5, .long v5)]) : W p l e { frames := 0, cells := 0, slots := 0, locals := 0 } s m args below meth c H locs 0 0 (MQ below (ob_QL D 1 this (fX3_whole_20 v1 v2 v3 v5 fld)) args s 0 0 (fun q => q = this)) (F0 m 20 ls []) := by
  obtain ⟨hx, hb, hml, hown, hts, hr, hlocks⟩ := id C
  rw [fX3_whole_20]
  rw [okX3_whole_20] at hok
  refine lv_iload_n hx hb dX3_whole_20 rfl (lv_at hl 1 rfl) ?_
  refine lv_iconst (v := 1) hx hb dX3_whole_21 (by decide) ?_
  refine px_icmp_ne (tgt := 34) hx hb dX3_whole_22 (by decide) (fun hc22 => ?_) (fun hc22 => ?_)
  · rw [if_pos hc22]
    have hok := hok.1 hc22
    refine lv_lload_n hx hb dX3_whole_25 rfl (lv_at hl 3 rfl) ?_
    refine lv_lload hx hb dX3_whole_26 (lv_at hl 4 rfl) ?_
    refine lv_ladd hx hb dX3_whole_28 ?_
    refine lv_topl (fun v7_29 ev7_29 => ?_)
    rw [← ev7_29]
    refine lv_lstore (lv' := [(7, .long v7_29), (0, .ref this), (1, .int v1), (2, .int v2), (3, .long v3), (5, .long v5)]) hx hb dX3_whole_29 hl (by decide) rfl (fun ls hl => ?_)
    rw [fX3_whole_31]
    refine lv_goto (tgt := 109) hx hb dX3_whole_31 (by decide) ?_
    exact wX3_whole_109 C this v2 v7_29 fld hK hP hS (lv_sub hl [1, 3, 0] rfl)
  · rw [if_neg hc22]
    have hok := hok.2 hc22
    refine lv_iload_n hx hb dX3_whole_34 rfl (lv_at hl 1 rfl) ?_
    refine lv_iconst (v := 2) hx hb dX3_whole_35 (by decide) ?_
    refine px_icmp_ne (tgt := 48) hx hb dX3_whole_36 (by decide) (fun hc36 => ?_) (fun hc36 => ?_)
    · rw [if_pos hc36]
      have hok := hok.1 hc36
      refine lv_lload_n hx hb dX3_whole_39 rfl (lv_at hl 3 rfl) ?_
      refine lv_lload hx hb dX3_whole_40 (lv_at hl 4 rfl) ?_
      refine lv_lsub hx hb dX3_whole_42 ?_
      refine lv_topl (fun v7_43 ev7_43 => ?_)
      rw [← ev7_43]
      refine lv_lstore (lv' := [(7, .long v7_43), (0, .ref this), (1, .int v1), (2, .int v2), (3, .long v3), (5, .long v5)]) hx hb dX3_whole_43 hl (by decide) rfl (fun ls hl => ?_)
      rw [fX3_whole_45]
      refine lv_goto (tgt := 109) hx hb dX3_whole_45 (by decide) ?_
      exact wX3_whole_109 C this v2 v7_43 fld hK hP hS (lv_sub hl [1, 3, 0] rfl)
    · rw [if_neg hc36]
      have hok := hok.2 hc36
      refine lv_iload_n hx hb dX3_whole_48 rfl (lv_at hl 1 rfl) ?_
      refine lv_iconst (v := 3) hx hb dX3_whole_49 (by decide) ?_
      refine px_icmp_ne (tgt := 62) hx hb dX3_whole_50 (by decide) (fun hc50 => ?_) (fun hc50 => ?_)
      · rw [if_pos hc50]
        have hok := hok.1 hc50
        refine lv_lload_n hx hb dX3_whole_53 rfl (lv_at hl 3 rfl) ?_
        refine lv_lload hx hb dX3_whole_54 (lv_at hl 4 rfl) ?_
        refine lv_lmul hx hb dX3_whole_56 ?_
        refine lv_topl (fun v7_57 ev7_57 => ?_)
        rw [← ev7_57]
        refine lv_lstore (lv' := [(7, .long v7_57), (0, .ref this), (1, .int v1), (2, .int v2), (3, .long v3), (5, .long v5)]) hx hb dX3_whole_57 hl (by decide) rfl (fun ls hl => ?_)
        rw [fX3_whole_59]
        refine lv_goto (tgt := 109) hx hb dX3_whole_59 (by decide) ?_
        exact wX3_whole_109 C this v2 v7_57 fld hK hP hS (lv_sub hl [1, 3, 0] rfl)
      · rw [if_neg hc50]
        have hok := hok.2 hc50
        refine lv_iload_n hx hb dX3_whole_62 rfl (lv_at hl 1 rfl) ?_
        refine lv_iconst (v := 4) hx hb dX3_whole_63 (by decide) ?_
        refine px_icmp_ne (tgt := 90) hx hb dX3_whole_64 (by decide) (fun hc64 => ?_) (fun hc64 => ?_)
        · rw [if_pos hc64]
          have hok := hok.1 hc64
          refine lv_lload hx hb dX3_whole_67 (lv_at hl 4 rfl) ?_
          refine lv_ldc2 hx hb hown (hts (.constantLong RX3 120 (-1)) (by decide +kernel)) dX3_whole_69 ?_
          refine px_lcmp_ne (tgt := 81) hx hb dX3_whole_72 dX3_whole_73 (by decide) (fun hc72 => ?_) (fun hc72 => ?_)
          · rw [if_pos hc72]
            have hok := hok.1 hc72
            refine lv_lload_n hx hb dX3_whole_76 rfl (lv_at hl 3 rfl) ?_
            refine lv_lneg hx hb dX3_whole_77 ?_
            refine lv_goto (tgt := 85) hx hb dX3_whole_78 (by decide) ?_
            exact wX3_whole_85 C this v2 (-v3) fld hK hP hS (lv_sub hl [0, 2] rfl)
          · rw [if_neg hc72]
            have hok := hok.2 hc72
            refine lv_lload_n hx hb dX3_whole_81 rfl (lv_at hl 3 rfl) ?_
            refine lv_lload hx hb dX3_whole_82 (lv_at hl 4 rfl) ?_
            obtain ⟨hne, hok⟩ := hok
            refine lv_ldiv hx hb dX3_whole_84 hne ?_
            exact wX3_whole_85 C this v2 (v3 / v5) fld hK hP hS (lv_sub hl [0, 2] rfl)
        · rw [if_neg hc64]
          have hok := hok.2 hc64
          refine lv_lload hx hb dX3_whole_90 (lv_at hl 4 rfl) ?_
          refine lv_ldc2 hx hb hown (hts (.constantLong RX3 120 (-1)) (by decide +kernel)) dX3_whole_92 ?_
          refine px_lcmp_ne (tgt := 103) hx hb dX3_whole_95 dX3_whole_96 (by decide) (fun hc95 => ?_) (fun hc95 => ?_)
          · rw [if_pos hc95]
            have hok := hok.1 hc95
            refine lv_lconst (v := 0) hx hb dX3_whole_99 (by decide) ?_
            refine lv_goto (tgt := 107) hx hb dX3_whole_100 (by decide) ?_
            exact wX3_whole_107 C this v2 (0 : Int64) fld hK hP hS (lv_sub hl [0, 2] rfl)
          · rw [if_neg hc95]
            have hok := hok.2 hc95
            refine lv_lload_n hx hb dX3_whole_103 rfl (lv_at hl 3 rfl) ?_
            refine lv_lload hx hb dX3_whole_104 (lv_at hl 4 rfl) ?_
            obtain ⟨hne, hok⟩ := hok
            refine px_lrem hx hb dX3_whole_106 hne ?_
            exact wX3_whole_107 C this v2 (jrem v3 v5) fld hK hP hS (lv_sub hl [0, 2] rfl)
set_option maxHeartbeats 4000000 in
set_option maxRecDepth 100000 in
theorem wX3_whole_0 {p : Program} {l : Launch} {e : Env} {s : State} {m : MethodId} {args : Array Value} {below : List Frame} {meth : Method} {c : Code} {D : va_G} (C : px_C p s m args meth c cX3_whole 9 (some .long) RX3 wsX3_whole) (this : Nat) (v1 : Int32) (v2 : Int32) (v3 : Int64) (v5 : Int64) (fld : Int32) (hok : okX3_whole_0 v1 v2 v3 v5 fld) {H : Heap} {locs : List Loc} (hK : va_K D vwCl [] s) (hP : va_P D vwCl [(this, .inr (1, [.int fld]))] H) (hS : va_S (fun q => q = this) s.heap H locs) {ls : Array Slot} (hl : lv_has ls 9 [(0, .ref this), (1, .int v1), (2, .int v2), (3, .long v3), (5, .long v5)]) : W p l e { frames := 0, cells := 0, slots := 0, locals := 0 } s m args below meth c H locs 0 0 (MQ below (ob_QL D 1 this (fX3_whole_0 v1 v2 v3 v5 fld)) args s 0 0 (fun q => q = this)) (F0 m 0 ls []) := by
  obtain ⟨hx, hb, hml, hown, hts, hr, hlocks⟩ := id C
  rw [fX3_whole_0]
  rw [okX3_whole_0] at hok
  refine lv_iload_n hx hb dX3_whole_0 rfl (lv_at hl 1 rfl) ?_
  refine lv_iconst (v := 3) hx hb dX3_whole_1 (by decide) ?_
  refine px_icmp_le (tgt := 20) hx hb dX3_whole_2 (by decide) (fun hc2 => ?_) (fun hc2 => ?_)
  · rw [if_pos hc2]
    have hok := hok.1 hc2
    refine lv_lload hx hb dX3_whole_5 (lv_at hl 4 rfl) ?_
    refine lv_lconst (v := 0) hx hb dX3_whole_7 (by decide) ?_
    refine px_lcmp_ne (tgt := 20) hx hb dX3_whole_8 dX3_whole_9 (by decide) (fun hc8 => ?_) (fun hc8 => ?_)
    · rw [if_pos hc8]
      have hok := hok.1 hc8
      refine lv_aload_n hx hb dX3_whole_12 rfl (lv_at hl 0 rfl) ?_
      refine lv_bipush (v := 8) hx hb dX3_whole_13 (by decide) ?_
      refine va_put (D := D) (ci := 1) (v := .int (8 : Int32)) (ty := .int) (C := RX3) (T := TX3) (N := 1) hx hb hts (by decide +kernel) tyX3 tyX3_ok nmX3 hown hK hP (ob_D _ _) hS 0 rfl rfl 0 (by decide) (hts (.fieldLink RX3 7 "KindNumbersModel" "failed" "I") (by decide +kernel)) (fun _ h9 => h9) rfl (by decide +kernel) rfl rfl (Nat.le_of_ble_eq_true rfl) dX3_whole_15 (fun H locs hP _ hS => ?_)
      have hP : va_P D vwCl [(this, .inr (1, [.int (8 : Int32)]))] H := hP
      refine lv_lconst (v := 0) hx hb dX3_whole_18 (by decide) ?_
      exact W.lret hx hb hr (fun t ht hW => ⟨rfl, by rw [ht]; exact hP, hS.F ht⟩) hS.2.2 dX3_whole_19
    · rw [if_neg hc8]
      have hok := hok.2 hc8
      exact wX3_whole_20 C this v1 v2 v3 v5 fld hok hK hP hS (lv_sub hl [0, 1, 2, 3, 4] rfl)
  · rw [if_neg hc2]
    have hok := hok.2 hc2
    exact wX3_whole_20 C this v1 v2 v3 v5 fld hok hK hP hS (lv_sub hl [0, 1, 2, 3, 4] rfl)
set_option maxHeartbeats 4000000 in
set_option maxRecDepth 100000 in
theorem kX3_whole (l : Launch) (D : va_G) (this : Nat) (v1 : Int32) (v2 : Int32) (v3 : Int64) (v5 : Int64) (fld : Int32) (hok : okX3_whole v1 v2 v3 v5 fld) : Met l yX3_whole wsX3_whole ({ frames := 0, cells := 0, slots := 0, locals := 0 }) (ob_P D 1 this fld [.ref this, .int v1, .int v2, .long v3, .long v5]) (ob_QL D 1 this (fX3_whole v1 v2 v3 v5 fld)) 0 0 (fun q => q = this) := by
  refine Met.ofW (cc := cX3_whole) (maxL := 9) (ret := (some .long)) (by decide) rfl ?_
  intro p e s m args below meth c s₁ B hml hv
  obtain ⟨rfl, hP, hK⟩ := hv
  have C : px_C p s m _ meth c cX3_whole 9 (some .long) RX3 wsX3_whole := ⟨B.exec, B.bytes, hml, findClass_of_methodNamed B.named, atoms_spec (ws := wsX3_whole) B.pre, B.returns, B.notSynchronized⟩
  have hl := lv_entry ([.ref this, .int v1, .int v2, .long v3, .long v5]) (n := 9) (Nat.le_of_ble_eq_true rfl)
  rw [lg_entry_eq]
  generalize (lg_sl ([.ref this, .int v1, .int v2, .long v3, .long v5]) ++ List.replicate (9 - (lg_sl ([.ref this, .int v1, .int v2, .long v3, .long v5])).length) Slot.unset).toArray = ls at hl ⊢
  have hl : lv_has ls 9 [(0, .ref this), (1, .int v1), (2, .int v2), (3, .long v3), (5, .long v5)] := hl
  rw [fX3_whole]
  rw [okX3_whole] at hok
  exact wX3_whole_0 C this v1 v2 v3 v5 fld hok hK hP va_S.rf (lv_sub hl [0, 1, 2, 3, 4] rfl)
set_option maxHeartbeats 4000000 in
set_option maxRecDepth 100000 in
theorem wX3_floating_162 {p : Program} {l : Launch} {e : Env} {s : State} {m : MethodId} {args : Array Value} {below : List Frame} {meth : Method} {c : Code} {D : va_G} (C : px_C p s m args meth c cX3_floating 11 (some .long) RX3 wsX3_floating) (hN : nx_N s) (this : Nat) (v1 : Int32) (v2 : Int64) (v4 : Int64) (v8 : Int64) (v10 : Int32) (fld : Int32) (hok : okX3_floating_162 v1 v2 v4 v8 v10 fld) {H : Heap} {locs : List Loc} (hK : va_K D vwCl [] s) (hP : va_P D vwCl [(this, .inr (1, [.int fld]))] H) (hS : va_S (fun q => q = this) s.heap H locs) {ls : Array Slot} (hl : lv_has ls 11 [(0, .ref this), (1, .int v1), (2, .long v2), (4, .long v4), (8, .long v8), (10, .int v10)]) : W p l e { frames := 3, cells := 0, slots := 0, locals := 103 } s m args below meth c H locs 0 0 (MQ below (ob_QL D 1 this (fX3_floating_162 v1 v2 v4 v8 v10 fld)) args s 0 0 (fun q => q = this)) (F0 m 162 ls []) := by
  obtain ⟨hx, hb, hml, hown, hts, hr, hlocks⟩ := id C
  rw [fX3_floating_162]
  rw [okX3_floating_162] at hok
  refine lv_iload hx hb dX3_floating_162 (lv_at hl 5 rfl) ?_
  refine px_if_eq (tgt := 175) hx hb dX3_floating_164 (by decide) (fun hc164 => ?_) (fun hc164 => ?_)
  · rw [if_pos hc164]
    have hok := hok.1 hc164
    refine lv_iload_n hx hb dX3_floating_175 rfl (lv_at hl 1 rfl) ?_
    refine lv_iconst (v := 3) hx hb dX3_floating_176 (by decide) ?_
    refine px_icmp_ge (tgt := 189) hx hb dX3_floating_177 (by decide) (fun hc177 => ?_) (fun hc177 => ?_)
    · rw [if_pos hc177]
      have hok := hok.1 hc177
      refine lv_lload_n hx hb dX3_floating_180 rfl (lv_at hl 2 rfl) ?_
      refine lv_lload hx hb dX3_floating_181 (lv_at hl 4 rfl) ?_
      obtain ⟨hk, hok⟩ := hok
      refine px_S (As := [.long v2, .long v8]) (rest := []) ⟨hx, hb, hml, hown, hts⟩ (kX2_add l v2 v8 hk) (va_cwS 2 hts gX3_floating_X2_add rfl rfl rfl (by decide +kernel) ⟨Nat.le_of_ble_eq_true rfl, Nat.le_of_ble_eq_true rfl⟩) rfl hl.1 rfl (Nat.le_of_ble_eq_true rfl) dX3_floating_183 (Nat.zero_le _) (Nat.zero_le _) ?_
      refine lv_goto (tgt := 223) hx hb dX3_floating_186 (by decide) ?_
      exact W.lret hx hb hr (fun t ht hW => ⟨rfl, by rw [ht]; exact hP, hS.F ht⟩) hS.2.2 dX3_floating_223
    · rw [if_neg hc177]
      have hok := hok.2 hc177
      refine lv_iload_n hx hb dX3_floating_189 rfl (lv_at hl 1 rfl) ?_
      refine lv_iconst (v := 3) hx hb dX3_floating_190 (by decide) ?_
      refine px_icmp_ne (tgt := 203) hx hb dX3_floating_191 (by decide) (fun hc191 => ?_) (fun hc191 => ?_)
      · rw [if_pos hc191]
        have hok := hok.1 hc191
        refine lv_lload_n hx hb dX3_floating_194 rfl (lv_at hl 2 rfl) ?_
        refine lv_lload hx hb dX3_floating_195 (lv_at hl 3 rfl) ?_
        obtain ⟨hk, hok⟩ := hok
        refine px_S (As := [.long v2, .long v4]) (rest := []) ⟨hx, hb, hml, hown, hts⟩ (kX2_multiply l v2 v4 hk) (va_cwS 2 hts gX3_floating_X2_multiply rfl rfl rfl (by decide +kernel) ⟨Nat.le_of_ble_eq_true rfl, Nat.le_of_ble_eq_true rfl⟩) rfl hl.1 rfl (Nat.le_of_ble_eq_true rfl) dX3_floating_197 (Nat.zero_le _) (Nat.zero_le _) ?_
        refine lv_goto (tgt := 223) hx hb dX3_floating_200 (by decide) ?_
        exact W.lret hx hb hr (fun t ht hW => ⟨rfl, by rw [ht]; exact hP, hS.F ht⟩) hS.2.2 dX3_floating_223
      · rw [if_neg hc191]
        have hok := hok.2 hc191
        refine lv_iload_n hx hb dX3_floating_203 rfl (lv_at hl 1 rfl) ?_
        refine lv_iconst (v := 4) hx hb dX3_floating_204 (by decide) ?_
        refine px_icmp_ne (tgt := 217) hx hb dX3_floating_205 (by decide) (fun hc205 => ?_) (fun hc205 => ?_)
        · rw [if_pos hc205]
          have hok := hok.1 hc205
          refine lv_lload_n hx hb dX3_floating_208 rfl (lv_at hl 2 rfl) ?_
          refine lv_lload hx hb dX3_floating_209 (lv_at hl 3 rfl) ?_
          obtain ⟨hk, hok⟩ := hok
          refine px_S (As := [.long v2, .long v4]) (rest := []) ⟨hx, hb, hml, hown, hts⟩ (kX2_divide l v2 v4 hk) (va_cwS 2 hts gX3_floating_X2_divide rfl rfl rfl (by decide +kernel) ⟨Nat.le_of_ble_eq_true rfl, Nat.le_of_ble_eq_true rfl⟩) rfl hl.1 rfl (Nat.le_of_ble_eq_true rfl) dX3_floating_211 (Nat.zero_le _) (Nat.zero_le _) ?_
          refine lv_goto (tgt := 223) hx hb dX3_floating_214 (by decide) ?_
          exact W.lret hx hb hr (fun t ht hW => ⟨rfl, by rw [ht]; exact hP, hS.F ht⟩) hS.2.2 dX3_floating_223
        · rw [if_neg hc205]
          have hok := hok.2 hc205
          refine lv_lload_n hx hb dX3_floating_217 rfl (lv_at hl 2 rfl) ?_
          refine lv_lload hx hb dX3_floating_218 (lv_at hl 3 rfl) ?_
          obtain ⟨hk, hok⟩ := hok
          refine px_SN (As := [.long v2, .long v4]) (rest := []) ⟨hx, hb, hml, hown, hts⟩ (kX3_rest l v2 v4 hk) hN (va_cwS 2 hts gX3_floating_X3_rest rfl rfl rfl (by decide +kernel) ⟨Nat.le_of_ble_eq_true rfl, Nat.le_of_ble_eq_true rfl⟩) rfl hl.1 rfl (Nat.le_of_ble_eq_true rfl) dX3_floating_220 (Nat.zero_le _) (Nat.zero_le _) ?_
          exact W.lret hx hb hr (fun t ht hW => ⟨rfl, by rw [ht]; exact hP, hS.F ht⟩) hS.2.2 dX3_floating_223
  · rw [if_neg hc164]
    have hok := hok.2 hc164
    refine lv_aload_n hx hb dX3_floating_167 rfl (lv_at hl 0 rfl) ?_
    refine lv_bipush (v := 8) hx hb dX3_floating_168 (by decide) ?_
    refine va_put (D := D) (ci := 1) (v := .int (8 : Int32)) (ty := .int) (C := RX3) (T := TX3) (N := 1) hx hb hts (by decide +kernel) tyX3 tyX3_ok nmX3 hown hK hP (ob_D _ _) hS 0 rfl rfl 0 (by decide) (hts (.fieldLink RX3 7 "KindNumbersModel" "failed" "I") (by decide +kernel)) (fun _ h9 => h9) rfl (by decide +kernel) rfl rfl (Nat.le_of_ble_eq_true rfl) dX3_floating_170 (fun H locs hP _ hS => ?_)
    have hP : va_P D vwCl [(this, .inr (1, [.int (8 : Int32)]))] H := hP
    refine lv_lconst (v := 0) hx hb dX3_floating_173 (by decide) ?_
    exact W.lret hx hb hr (fun t ht hW => ⟨rfl, by rw [ht]; exact hP, hS.F ht⟩) hS.2.2 dX3_floating_174
set_option maxHeartbeats 4000000 in
set_option maxRecDepth 100000 in
theorem wX3_floating_57 {p : Program} {l : Launch} {e : Env} {s : State} {m : MethodId} {args : Array Value} {below : List Frame} {meth : Method} {c : Code} {D : va_G} (C : px_C p s m args meth c cX3_floating 11 (some .long) RX3 wsX3_floating) (hN : nx_N s) (this : Nat) (v1 : Int32) (v2 : Int64) (v4 : Int64) (v8 : Int64) (s0 : Int32) (fld : Int32) (hok : okX3_floating_57 v1 v2 v4 v8 s0 fld) {H : Heap} {locs : List Loc} (hK : va_K D vwCl [] s) (hP : va_P D vwCl [(this, .inr (1, [.int fld]))] H) (hS : va_S (fun q => q = this) s.heap H locs) {ls : Array Slot} (hl : lv_has ls 11 [(0, .ref this), (1, .int v1), (2, .long v2), (4, .long v4), (8, .long v8)]) : W p l e { frames := 3, cells := 0, slots := 0, locals := 103 } s m args below meth c H locs 0 0 (MQ below (ob_QL D 1 this (fX3_floating_57 v1 v2 v4 v8 s0 fld)) args s 0 0 (fun q => q = this)) (F0 m 57 ls [.int s0]) := by
  obtain ⟨hx, hb, hml, hown, hts, hr, hlocks⟩ := id C
  rw [fX3_floating_57]
  rw [okX3_floating_57] at hok
  refine lv_istore (lv' := [(10, .int s0), (0, .ref this), (1, .int v1), (2, .long v2), (4, .long v4), (8, .long v8)]) hx hb dX3_floating_57 hl (by decide) rfl (fun ls hl => ?_)
  refine lv_goto (tgt := 162) hx hb dX3_floating_59 (by decide) ?_
  exact wX3_floating_162 C hN this v1 v2 v4 v8 s0 fld hok hK hP hS (lv_sub hl [1, 2, 3, 4, 5, 0] rfl)
set_option maxHeartbeats 4000000 in
set_option maxRecDepth 100000 in
theorem wX3_floating_56 {p : Program} {l : Launch} {e : Env} {s : State} {m : MethodId} {args : Array Value} {below : List Frame} {meth : Method} {c : Code} {D : va_G} (C : px_C p s m args meth c cX3_floating 11 (some .long) RX3 wsX3_floating) (hN : nx_N s) (this : Nat) (v1 : Int32) (v2 : Int64) (v4 : Int64) (v8 : Int64) (fld : Int32) (hok : okX3_floating_56 v1 v2 v4 v8 fld) {H : Heap} {locs : List Loc} (hK : va_K D vwCl [] s) (hP : va_P D vwCl [(this, .inr (1, [.int fld]))] H) (hS : va_S (fun q => q = this) s.heap H locs) {ls : Array Slot} (hl : lv_has ls 11 [(0, .ref this), (1, .int v1), (2, .long v2), (4, .long v4), (8, .long v8)]) : W p l e { frames := 3, cells := 0, slots := 0, locals := 103 } s m args below meth c H locs 0 0 (MQ below (ob_QL D 1 this (fX3_floating_56 v1 v2 v4 v8 fld)) args s 0 0 (fun q => q = this)) (F0 m 56 ls []) := by
  obtain ⟨hx, hb, hml, hown, hts, hr, hlocks⟩ := id C
  rw [fX3_floating_56]
  rw [okX3_floating_56] at hok
  refine lv_iconst (v := 0) hx hb dX3_floating_56 (by decide) ?_
  exact wX3_floating_57 C hN this v1 v2 v4 v8 (0 : Int32) fld hok hK hP hS (lv_sub hl [0, 1, 2, 3, 4] rfl)
set_option maxHeartbeats 4000000 in
set_option maxRecDepth 100000 in
theorem wX3_floating_97 {p : Program} {l : Launch} {e : Env} {s : State} {m : MethodId} {args : Array Value} {below : List Frame} {meth : Method} {c : Code} {D : va_G} (C : px_C p s m args meth c cX3_floating 11 (some .long) RX3 wsX3_floating) (hN : nx_N s) (this : Nat) (v1 : Int32) (v2 : Int64) (v4 : Int64) (v8 : Int64) (s0 : Int32) (fld : Int32) (hok : okX3_floating_97 v1 v2 v4 v8 s0 fld) {H : Heap} {locs : List Loc} (hK : va_K D vwCl [] s) (hP : va_P D vwCl [(this, .inr (1, [.int fld]))] H) (hS : va_S (fun q => q = this) s.heap H locs) {ls : Array Slot} (hl : lv_has ls 11 [(0, .ref this), (1, .int v1), (2, .long v2), (4, .long v4), (8, .long v8)]) : W p l e { frames := 3, cells := 0, slots := 0, locals := 103 } s m args below meth c H locs 0 0 (MQ below (ob_QL D 1 this (fX3_floating_97 v1 v2 v4 v8 s0 fld)) args s 0 0 (fun q => q = this)) (F0 m 97 ls [.int s0]) := by
  obtain ⟨hx, hb, hml, hown, hts, hr, hlocks⟩ := id C
  rw [fX3_floating_97]
  rw [okX3_floating_97] at hok
  refine lv_istore (lv' := [(10, .int s0), (0, .ref this), (1, .int v1), (2, .long v2), (4, .long v4), (8, .long v8)]) hx hb dX3_floating_97 hl (by decide) rfl (fun ls hl => ?_)
  refine lv_goto (tgt := 162) hx hb dX3_floating_99 (by decide) ?_
  exact wX3_floating_162 C hN this v1 v2 v4 v8 s0 fld hok hK hP hS (lv_sub hl [1, 2, 3, 4, 5, 0] rfl)
set_option maxHeartbeats 4000000 in
set_option maxRecDepth 100000 in
theorem wX3_floating_92 {p : Program} {l : Launch} {e : Env} {s : State} {m : MethodId} {args : Array Value} {below : List Frame} {meth : Method} {c : Code} {D : va_G} (C : px_C p s m args meth c cX3_floating 11 (some .long) RX3 wsX3_floating) (hN : nx_N s) (this : Nat) (v1 : Int32) (v2 : Int64) (v4 : Int64) (v8 : Int64) (fld : Int32) (hok : okX3_floating_92 v1 v2 v4 v8 fld) {H : Heap} {locs : List Loc} (hK : va_K D vwCl [] s) (hP : va_P D vwCl [(this, .inr (1, [.int fld]))] H) (hS : va_S (fun q => q = this) s.heap H locs) {ls : Array Slot} (hl : lv_has ls 11 [(0, .ref this), (1, .int v1), (2, .long v2), (4, .long v4), (8, .long v8)]) : W p l e { frames := 3, cells := 0, slots := 0, locals := 103 } s m args below meth c H locs 0 0 (MQ below (ob_QL D 1 this (fX3_floating_92 v1 v2 v4 v8 fld)) args s 0 0 (fun q => q = this)) (F0 m 92 ls []) := by
  obtain ⟨hx, hb, hml, hown, hts, hr, hlocks⟩ := id C
  rw [fX3_floating_92]
  rw [okX3_floating_92] at hok
  refine lv_iconst (v := 1) hx hb dX3_floating_92 (by decide) ?_
  refine lv_goto (tgt := 97) hx hb dX3_floating_93 (by decide) ?_
  exact wX3_floating_97 C hN this v1 v2 v4 v8 (1 : Int32) fld hok hK hP hS (lv_sub hl [0, 1, 2, 3, 4] rfl)
set_option maxHeartbeats 4000000 in
set_option maxRecDepth 100000 in
theorem wX3_floating_96 {p : Program} {l : Launch} {e : Env} {s : State} {m : MethodId} {args : Array Value} {below : List Frame} {meth : Method} {c : Code} {D : va_G} (C : px_C p s m args meth c cX3_floating 11 (some .long) RX3 wsX3_floating) (hN : nx_N s) (this : Nat) (v1 : Int32) (v2 : Int64) (v4 : Int64) (v8 : Int64) (fld : Int32) (hok : okX3_floating_96 v1 v2 v4 v8 fld) {H : Heap} {locs : List Loc} (hK : va_K D vwCl [] s) (hP : va_P D vwCl [(this, .inr (1, [.int fld]))] H) (hS : va_S (fun q => q = this) s.heap H locs) {ls : Array Slot} (hl : lv_has ls 11 [(0, .ref this), (1, .int v1), (2, .long v2), (4, .long v4), (8, .long v8)]) : W p l e { frames := 3, cells := 0, slots := 0, locals := 103 } s m args below meth c H locs 0 0 (MQ below (ob_QL D 1 this (fX3_floating_96 v1 v2 v4 v8 fld)) args s 0 0 (fun q => q = this)) (F0 m 96 ls []) := by
  obtain ⟨hx, hb, hml, hown, hts, hr, hlocks⟩ := id C
  rw [fX3_floating_96]
  rw [okX3_floating_96] at hok
  refine lv_iconst (v := 0) hx hb dX3_floating_96 (by decide) ?_
  exact wX3_floating_97 C hN this v1 v2 v4 v8 (0 : Int32) fld hok hK hP hS (lv_sub hl [0, 1, 2, 3, 4] rfl)
set_option maxHeartbeats 4000000 in
set_option maxRecDepth 100000 in
theorem wX3_floating_80 {p : Program} {l : Launch} {e : Env} {s : State} {m : MethodId} {args : Array Value} {below : List Frame} {meth : Method} {c : Code} {D : va_G} (C : px_C p s m args meth c cX3_floating 11 (some .long) RX3 wsX3_floating) (hN : nx_N s) (this : Nat) (v1 : Int32) (v2 : Int64) (v4 : Int64) (v7 : Int32) (v8 : Int64) (fld : Int32) (hok : okX3_floating_80 v1 v2 v4 v7 v8 fld) {H : Heap} {locs : List Loc} (hK : va_K D vwCl [] s) (hP : va_P D vwCl [(this, .inr (1, [.int fld]))] H) (hS : va_S (fun q => q = this) s.heap H locs) {ls : Array Slot} (hl : lv_has ls 11 [(0, .ref this), (1, .int v1), (2, .long v2), (4, .long v4), (7, .int v7), (8, .long v8)]) : W p l e { frames := 3, cells := 0, slots := 0, locals := 103 } s m args below meth c H locs 0 0 (MQ below (ob_QL D 1 this (fX3_floating_80 v1 v2 v4 v7 v8 fld)) args s 0 0 (fun q => q = this)) (F0 m 80 ls []) := by
  obtain ⟨hx, hb, hml, hown, hts, hr, hlocks⟩ := id C
  rw [fX3_floating_80]
  rw [okX3_floating_80] at hok
  refine lv_iload hx hb dX3_floating_80 (lv_at hl 4 rfl) ?_
  refine px_if_eq (tgt := 96) hx hb dX3_floating_82 (by decide) (fun hc82 => ?_) (fun hc82 => ?_)
  · rw [if_pos hc82]
    have hok := hok.1 hc82
    exact wX3_floating_96 C hN this v1 v2 v4 v8 fld hok hK hP hS (lv_sub hl [0, 1, 2, 3, 5] rfl)
  · rw [if_neg hc82]
    have hok := hok.2 hc82
    refine lv_lload_n hx hb dX3_floating_85 rfl (lv_at hl 2 rfl) ?_
    refine px_S (As := [.long v2]) (rest := []) ⟨hx, hb, hml, hown, hts⟩ (kX2_isZero l v2) (va_cwS 1 hts gX3_floating_X2_isZero rfl rfl rfl (by decide +kernel) ⟨Nat.le_of_ble_eq_true rfl, Nat.le_of_ble_eq_true rfl⟩) rfl hl.1 rfl (Nat.le_of_ble_eq_true rfl) dX3_floating_86 (Nat.zero_le _) (Nat.zero_le _) ?_
    refine px_if_eq (tgt := 96) hx hb dX3_floating_89 (by decide) (fun hc89 => ?_) (fun hc89 => ?_)
    · rw [if_pos hc89]
      have hok := hok.1 hc89
      exact wX3_floating_96 C hN this v1 v2 v4 v8 fld hok hK hP hS (lv_sub hl [0, 1, 2, 3, 5] rfl)
    · rw [if_neg hc89]
      have hok := hok.2 hc89
      exact wX3_floating_92 C hN this v1 v2 v4 v8 fld hok hK hP hS (lv_sub hl [0, 1, 2, 3, 5] rfl)
set_option maxHeartbeats 4000000 in
set_option maxRecDepth 100000 in
theorem wX3_floating_137 {p : Program} {l : Launch} {e : Env} {s : State} {m : MethodId} {args : Array Value} {below : List Frame} {meth : Method} {c : Code} {D : va_G} (C : px_C p s m args meth c cX3_floating 11 (some .long) RX3 wsX3_floating) (hN : nx_N s) (this : Nat) (v1 : Int32) (v2 : Int64) (v4 : Int64) (v8 : Int64) (s0 : Int32) (fld : Int32) (hok : okX3_floating_137 v1 v2 v4 v8 s0 fld) {H : Heap} {locs : List Loc} (hK : va_K D vwCl [] s) (hP : va_P D vwCl [(this, .inr (1, [.int fld]))] H) (hS : va_S (fun q => q = this) s.heap H locs) {ls : Array Slot} (hl : lv_has ls 11 [(0, .ref this), (1, .int v1), (2, .long v2), (4, .long v4), (8, .long v8)]) : W p l e { frames := 3, cells := 0, slots := 0, locals := 103 } s m args below meth c H locs 0 0 (MQ below (ob_QL D 1 this (fX3_floating_137 v1 v2 v4 v8 s0 fld)) args s 0 0 (fun q => q = this)) (F0 m 137 ls [.int s0]) := by
  obtain ⟨hx, hb, hml, hown, hts, hr, hlocks⟩ := id C
  rw [fX3_floating_137]
  rw [okX3_floating_137] at hok
  refine lv_istore (lv' := [(10, .int s0), (0, .ref this), (1, .int v1), (2, .long v2), (4, .long v4), (8, .long v8)]) hx hb dX3_floating_137 hl (by decide) rfl (fun ls hl => ?_)
  refine lv_goto (tgt := 162) hx hb dX3_floating_139 (by decide) ?_
  exact wX3_floating_162 C hN this v1 v2 v4 v8 s0 fld hok hK hP hS (lv_sub hl [1, 2, 3, 4, 5, 0] rfl)
set_option maxHeartbeats 4000000 in
set_option maxRecDepth 100000 in
theorem wX3_floating_132 {p : Program} {l : Launch} {e : Env} {s : State} {m : MethodId} {args : Array Value} {below : List Frame} {meth : Method} {c : Code} {D : va_G} (C : px_C p s m args meth c cX3_floating 11 (some .long) RX3 wsX3_floating) (hN : nx_N s) (this : Nat) (v1 : Int32) (v2 : Int64) (v4 : Int64) (v8 : Int64) (fld : Int32) (hok : okX3_floating_132 v1 v2 v4 v8 fld) {H : Heap} {locs : List Loc} (hK : va_K D vwCl [] s) (hP : va_P D vwCl [(this, .inr (1, [.int fld]))] H) (hS : va_S (fun q => q = this) s.heap H locs) {ls : Array Slot} (hl : lv_has ls 11 [(0, .ref this), (1, .int v1), (2, .long v2), (4, .long v4), (8, .long v8)]) : W p l e { frames := 3, cells := 0, slots := 0, locals := 103 } s m args below meth c H locs 0 0 (MQ below (ob_QL D 1 this (fX3_floating_132 v1 v2 v4 v8 fld)) args s 0 0 (fun q => q = this)) (F0 m 132 ls []) := by
  obtain ⟨hx, hb, hml, hown, hts, hr, hlocks⟩ := id C
  rw [fX3_floating_132]
  rw [okX3_floating_132] at hok
  refine lv_iconst (v := 1) hx hb dX3_floating_132 (by decide) ?_
  refine lv_goto (tgt := 137) hx hb dX3_floating_133 (by decide) ?_
  exact wX3_floating_137 C hN this v1 v2 v4 v8 (1 : Int32) fld hok hK hP hS (lv_sub hl [0, 1, 2, 3, 4] rfl)
set_option maxHeartbeats 4000000 in
set_option maxRecDepth 100000 in
theorem wX3_floating_136 {p : Program} {l : Launch} {e : Env} {s : State} {m : MethodId} {args : Array Value} {below : List Frame} {meth : Method} {c : Code} {D : va_G} (C : px_C p s m args meth c cX3_floating 11 (some .long) RX3 wsX3_floating) (hN : nx_N s) (this : Nat) (v1 : Int32) (v2 : Int64) (v4 : Int64) (v8 : Int64) (fld : Int32) (hok : okX3_floating_136 v1 v2 v4 v8 fld) {H : Heap} {locs : List Loc} (hK : va_K D vwCl [] s) (hP : va_P D vwCl [(this, .inr (1, [.int fld]))] H) (hS : va_S (fun q => q = this) s.heap H locs) {ls : Array Slot} (hl : lv_has ls 11 [(0, .ref this), (1, .int v1), (2, .long v2), (4, .long v4), (8, .long v8)]) : W p l e { frames := 3, cells := 0, slots := 0, locals := 103 } s m args below meth c H locs 0 0 (MQ below (ob_QL D 1 this (fX3_floating_136 v1 v2 v4 v8 fld)) args s 0 0 (fun q => q = this)) (F0 m 136 ls []) := by
  obtain ⟨hx, hb, hml, hown, hts, hr, hlocks⟩ := id C
  rw [fX3_floating_136]
  rw [okX3_floating_136] at hok
  refine lv_iconst (v := 0) hx hb dX3_floating_136 (by decide) ?_
  exact wX3_floating_137 C hN this v1 v2 v4 v8 (0 : Int32) fld hok hK hP hS (lv_sub hl [0, 1, 2, 3, 4] rfl)
set_option maxHeartbeats 4000000 in
set_option maxRecDepth 100000 in
theorem wX3_floating_117 {p : Program} {l : Launch} {e : Env} {s : State} {m : MethodId} {args : Array Value} {below : List Frame} {meth : Method} {c : Code} {D : va_G} (C : px_C p s m args meth c cX3_floating 11 (some .long) RX3 wsX3_floating) (hN : nx_N s) (this : Nat) (v1 : Int32) (v2 : Int64) (v4 : Int64) (v8 : Int64) (fld : Int32) (hok : okX3_floating_117 v1 v2 v4 v8 fld) {H : Heap} {locs : List Loc} (hK : va_K D vwCl [] s) (hP : va_P D vwCl [(this, .inr (1, [.int fld]))] H) (hS : va_S (fun q => q = this) s.heap H locs) {ls : Array Slot} (hl : lv_has ls 11 [(0, .ref this), (1, .int v1), (2, .long v2), (4, .long v4), (8, .long v8)]) : W p l e { frames := 3, cells := 0, slots := 0, locals := 103 } s m args below meth c H locs 0 0 (MQ below (ob_QL D 1 this (fX3_floating_117 v1 v2 v4 v8 fld)) args s 0 0 (fun q => q = this)) (F0 m 117 ls []) := by
  obtain ⟨hx, hb, hml, hown, hts, hr, hlocks⟩ := id C
  rw [fX3_floating_117]
  rw [okX3_floating_117] at hok
  refine lv_lload_n hx hb dX3_floating_117 rfl (lv_at hl 2 rfl) ?_
  refine px_S (As := [.long v2]) (rest := []) ⟨hx, hb, hml, hown, hts⟩ (kX2_isZero l v2) (va_cwS 1 hts gX3_floating_X2_isZero rfl rfl rfl (by decide +kernel) ⟨Nat.le_of_ble_eq_true rfl, Nat.le_of_ble_eq_true rfl⟩) rfl hl.1 rfl (Nat.le_of_ble_eq_true rfl) dX3_floating_118 (Nat.zero_le _) (Nat.zero_le _) ?_
  refine px_if_eq (tgt := 136) hx hb dX3_floating_121 (by decide) (fun hc121 => ?_) (fun hc121 => ?_)
  · rw [if_pos hc121]
    have hok := hok.1 hc121
    exact wX3_floating_136 C hN this v1 v2 v4 v8 fld hok hK hP hS (lv_sub hl [0, 1, 2, 3, 4] rfl)
  · rw [if_neg hc121]
    have hok := hok.2 hc121
    refine lv_lload hx hb dX3_floating_124 (lv_at hl 3 rfl) ?_
    refine px_S (As := [.long v4]) (rest := []) ⟨hx, hb, hml, hown, hts⟩ (kX2_isZero l v4) (va_cwS 1 hts gX3_floating_X2_isZero rfl rfl rfl (by decide +kernel) ⟨Nat.le_of_ble_eq_true rfl, Nat.le_of_ble_eq_true rfl⟩) rfl hl.1 rfl (Nat.le_of_ble_eq_true rfl) dX3_floating_126 (Nat.zero_le _) (Nat.zero_le _) ?_
    refine px_if_eq (tgt := 136) hx hb dX3_floating_129 (by decide) (fun hc129 => ?_) (fun hc129 => ?_)
    · rw [if_pos hc129]
      have hok := hok.1 hc129
      exact wX3_floating_136 C hN this v1 v2 v4 v8 fld hok hK hP hS (lv_sub hl [0, 1, 2, 3, 4] rfl)
    · rw [if_neg hc129]
      have hok := hok.2 hc129
      exact wX3_floating_132 C hN this v1 v2 v4 v8 fld hok hK hP hS (lv_sub hl [0, 1, 2, 3, 4] rfl)
set_option maxHeartbeats 4000000 in
set_option maxRecDepth 100000 in
theorem wX3_floating_160 {p : Program} {l : Launch} {e : Env} {s : State} {m : MethodId} {args : Array Value} {below : List Frame} {meth : Method} {c : Code} {D : va_G} (C : px_C p s m args meth c cX3_floating 11 (some .long) RX3 wsX3_floating) (hN : nx_N s) (this : Nat) (v1 : Int32) (v2 : Int64) (v4 : Int64) (v8 : Int64) (s0 : Int32) (fld : Int32) (hok : okX3_floating_160 v1 v2 v4 v8 s0 fld) {H : Heap} {locs : List Loc} (hK : va_K D vwCl [] s) (hP : va_P D vwCl [(this, .inr (1, [.int fld]))] H) (hS : va_S (fun q => q = this) s.heap H locs) {ls : Array Slot} (hl : lv_has ls 11 [(0, .ref this), (1, .int v1), (2, .long v2), (4, .long v4), (8, .long v8)]) : W p l e { frames := 3, cells := 0, slots := 0, locals := 103 } s m args below meth c H locs 0 0 (MQ below (ob_QL D 1 this (fX3_floating_160 v1 v2 v4 v8 s0 fld)) args s 0 0 (fun q => q = this)) (F0 m 160 ls [.int s0]) := by
  obtain ⟨hx, hb, hml, hown, hts, hr, hlocks⟩ := id C
  rw [fX3_floating_160]
  rw [okX3_floating_160] at hok
  refine lv_istore (lv' := [(10, .int s0), (0, .ref this), (1, .int v1), (2, .long v2), (4, .long v4), (8, .long v8)]) hx hb dX3_floating_160 hl (by decide) rfl (fun ls hl => ?_)
  exact wX3_floating_162 C hN this v1 v2 v4 v8 s0 fld hok hK hP hS (lv_sub hl [1, 2, 3, 4, 5, 0] rfl)
set_option maxHeartbeats 4000000 in
set_option maxRecDepth 100000 in
theorem wX3_floating_155 {p : Program} {l : Launch} {e : Env} {s : State} {m : MethodId} {args : Array Value} {below : List Frame} {meth : Method} {c : Code} {D : va_G} (C : px_C p s m args meth c cX3_floating 11 (some .long) RX3 wsX3_floating) (hN : nx_N s) (this : Nat) (v1 : Int32) (v2 : Int64) (v4 : Int64) (v8 : Int64) (fld : Int32) (hok : okX3_floating_155 v1 v2 v4 v8 fld) {H : Heap} {locs : List Loc} (hK : va_K D vwCl [] s) (hP : va_P D vwCl [(this, .inr (1, [.int fld]))] H) (hS : va_S (fun q => q = this) s.heap H locs) {ls : Array Slot} (hl : lv_has ls 11 [(0, .ref this), (1, .int v1), (2, .long v2), (4, .long v4), (8, .long v8)]) : W p l e { frames := 3, cells := 0, slots := 0, locals := 103 } s m args below meth c H locs 0 0 (MQ below (ob_QL D 1 this (fX3_floating_155 v1 v2 v4 v8 fld)) args s 0 0 (fun q => q = this)) (F0 m 155 ls []) := by
  obtain ⟨hx, hb, hml, hown, hts, hr, hlocks⟩ := id C
  rw [fX3_floating_155]
  rw [okX3_floating_155] at hok
  refine lv_iconst (v := 1) hx hb dX3_floating_155 (by decide) ?_
  refine lv_goto (tgt := 160) hx hb dX3_floating_156 (by decide) ?_
  exact wX3_floating_160 C hN this v1 v2 v4 v8 (1 : Int32) fld hok hK hP hS (lv_sub hl [0, 1, 2, 3, 4] rfl)
set_option maxHeartbeats 4000000 in
set_option maxRecDepth 100000 in
theorem wX3_floating_28 {p : Program} {l : Launch} {e : Env} {s : State} {m : MethodId} {args : Array Value} {below : List Frame} {meth : Method} {c : Code} {D : va_G} (C : px_C p s m args meth c cX3_floating 11 (some .long) RX3 wsX3_floating) (hN : nx_N s) (this : Nat) (v1 : Int32) (v2 : Int64) (v4 : Int64) (v6 : Int32) (v7 : Int32) (s0 : Int64) (fld : Int32) (hok : okX3_floating_28 v1 v2 v4 v6 v7 s0 fld) {H : Heap} {locs : List Loc} (hK : va_K D vwCl [] s) (hP : va_P D vwCl [(this, .inr (1, [.int fld]))] H) (hS : va_S (fun q => q = this) s.heap H locs) {ls : Array Slot} (hl : lv_has ls 11 [(0, .ref this), (1, .int v1), (2, .long v2), (4, .long v4), (6, .int v6), (7, .int v7)]) : W p l e { frames := 3, cells := 0, slots := 0, locals := 103 } s m args below meth c H locs 0 0 (MQ below (ob_QL D 1 this (fX3_floating_28 v1 v2 v4 v6 v7 s0 fld)) args s 0 0 (fun q => q = this)) (F0 m 28 ls [.long s0]) := by
  obtain ⟨hx, hb, hml, hown, hts, hr, hlocks⟩ := id C
  rw [fX3_floating_28]
  rw [okX3_floating_28] at hok
  refine lv_lstore (lv' := [(8, .long s0), (0, .ref this), (1, .int v1), (2, .long v2), (4, .long v4), (6, .int v6), (7, .int v7)]) hx hb dX3_floating_28 hl (by decide) rfl (fun ls hl => ?_)
  refine lv_iload_n hx hb dX3_floating_30 rfl (lv_at hl 2 rfl) ?_
  refine lv_iconst (v := 3) hx hb dX3_floating_31 (by decide) ?_
  refine px_icmp_ge (tgt := 62) hx hb dX3_floating_32 (by decide) (fun hc32 => ?_) (fun hc32 => ?_)
  · rw [if_pos hc32]
    have hok := hok.1 hc32
    refine lv_iload hx hb dX3_floating_35 (lv_at hl 5 rfl) ?_
    refine px_if_eq (tgt := 56) hx hb dX3_floating_37 (by decide) (fun hc37 => ?_) (fun hc37 => ?_)
    · rw [if_pos hc37]
      have hok := hok.1 hc37
      exact wX3_floating_56 C hN this v1 v2 v4 s0 fld hok hK hP hS (lv_sub hl [1, 2, 3, 4, 0] rfl)
    · rw [if_neg hc37]
      have hok := hok.2 hc37
      refine lv_iload hx hb dX3_floating_40 (lv_at hl 6 rfl) ?_
      refine px_if_eq (tgt := 56) hx hb dX3_floating_42 (by decide) (fun hc42 => ?_) (fun hc42 => ?_)
      · rw [if_pos hc42]
        have hok := hok.1 hc42
        exact wX3_floating_56 C hN this v1 v2 v4 s0 fld hok hK hP hS (lv_sub hl [1, 2, 3, 4, 0] rfl)
      · rw [if_neg hc42]
        have hok := hok.2 hc42
        refine lv_lload_n hx hb dX3_floating_45 rfl (lv_at hl 3 rfl) ?_
        refine lv_lload hx hb dX3_floating_46 (lv_at hl 0 rfl) ?_
        refine px_lcmp_eq (tgt := 56) hx hb dX3_floating_48 dX3_floating_49 (by decide) (fun hc48 => ?_) (fun hc48 => ?_)
        · rw [if_pos hc48]
          have hok := hok.1 hc48
          exact wX3_floating_56 C hN this v1 v2 v4 s0 fld hok hK hP hS (lv_sub hl [1, 2, 3, 4, 0] rfl)
        · rw [if_neg hc48]
          have hok := hok.2 hc48
          refine lv_iconst (v := 1) hx hb dX3_floating_52 (by decide) ?_
          refine lv_goto (tgt := 57) hx hb dX3_floating_53 (by decide) ?_
          exact wX3_floating_57 C hN this v1 v2 v4 s0 (1 : Int32) fld hok hK hP hS (lv_sub hl [1, 2, 3, 4, 0] rfl)
  · rw [if_neg hc32]
    have hok := hok.2 hc32
    refine lv_iload_n hx hb dX3_floating_62 rfl (lv_at hl 2 rfl) ?_
    refine lv_iconst (v := 3) hx hb dX3_floating_63 (by decide) ?_
    refine px_icmp_ne (tgt := 102) hx hb dX3_floating_64 (by decide) (fun hc64 => ?_) (fun hc64 => ?_)
    · rw [if_pos hc64]
      have hok := hok.1 hc64
      refine lv_iload hx hb dX3_floating_67 (lv_at hl 5 rfl) ?_
      refine px_if_eq (tgt := 80) hx hb dX3_floating_69 (by decide) (fun hc69 => ?_) (fun hc69 => ?_)
      · rw [if_pos hc69]
        have hok := hok.1 hc69
        exact wX3_floating_80 C hN this v1 v2 v4 v7 s0 fld hok hK hP hS (lv_sub hl [1, 2, 3, 4, 6, 0] rfl)
      · rw [if_neg hc69]
        have hok := hok.2 hc69
        refine lv_lload hx hb dX3_floating_72 (lv_at hl 4 rfl) ?_
        refine px_S (As := [.long v4]) (rest := []) ⟨hx, hb, hml, hown, hts⟩ (kX2_isZero l v4) (va_cwS 1 hts gX3_floating_X2_isZero rfl rfl rfl (by decide +kernel) ⟨Nat.le_of_ble_eq_true rfl, Nat.le_of_ble_eq_true rfl⟩) rfl hl.1 rfl (Nat.le_of_ble_eq_true rfl) dX3_floating_74 (Nat.zero_le _) (Nat.zero_le _) ?_
        refine px_if_ne (tgt := 92) hx hb dX3_floating_77 (by decide) (fun hc77 => ?_) (fun hc77 => ?_)
        · rw [if_pos hc77]
          have hok := hok.1 hc77
          exact wX3_floating_80 C hN this v1 v2 v4 v7 s0 fld hok hK hP hS (lv_sub hl [1, 2, 3, 4, 6, 0] rfl)
        · rw [if_neg hc77]
          have hok := hok.2 hc77
          exact wX3_floating_92 C hN this v1 v2 v4 s0 fld hok hK hP hS (lv_sub hl [1, 2, 3, 4, 0] rfl)
    · rw [if_neg hc64]
      have hok := hok.2 hc64
      refine lv_iload_n hx hb dX3_floating_102 rfl (lv_at hl 2 rfl) ?_
      refine lv_iconst (v := 4) hx hb dX3_floating_103 (by decide) ?_
      refine px_icmp_ne (tgt := 142) hx hb dX3_floating_104 (by decide) (fun hc104 => ?_) (fun hc104 => ?_)
      · rw [if_pos hc104]
        have hok := hok.1 hc104
        refine lv_iload hx hb dX3_floating_107 (lv_at hl 5 rfl) ?_
        refine px_if_eq (tgt := 117) hx hb dX3_floating_109 (by decide) (fun hc109 => ?_) (fun hc109 => ?_)
        · rw [if_pos hc109]
          have hok := hok.1 hc109
          exact wX3_floating_117 C hN this v1 v2 v4 s0 fld hok hK hP hS (lv_sub hl [1, 2, 3, 4, 0] rfl)
        · rw [if_neg hc109]
          have hok := hok.2 hc109
          refine lv_iload hx hb dX3_floating_112 (lv_at hl 6 rfl) ?_
          refine px_if_ne (tgt := 132) hx hb dX3_floating_114 (by decide) (fun hc114 => ?_) (fun hc114 => ?_)
          · rw [if_pos hc114]
            have hok := hok.1 hc114
            exact wX3_floating_117 C hN this v1 v2 v4 s0 fld hok hK hP hS (lv_sub hl [1, 2, 3, 4, 0] rfl)
          · rw [if_neg hc114]
            have hok := hok.2 hc114
            exact wX3_floating_132 C hN this v1 v2 v4 s0 fld hok hK hP hS (lv_sub hl [1, 2, 3, 4, 0] rfl)
      · rw [if_neg hc104]
        have hok := hok.2 hc104
        refine lv_iload hx hb dX3_floating_142 (lv_at hl 5 rfl) ?_
        refine px_if_ne (tgt := 155) hx hb dX3_floating_144 (by decide) (fun hc144 => ?_) (fun hc144 => ?_)
        · rw [if_pos hc144]
          have hok := hok.1 hc144
          refine lv_lload hx hb dX3_floating_147 (lv_at hl 4 rfl) ?_
          refine px_S (As := [.long v4]) (rest := []) ⟨hx, hb, hml, hown, hts⟩ (kX2_isZero l v4) (va_cwS 1 hts gX3_floating_X2_isZero rfl rfl rfl (by decide +kernel) ⟨Nat.le_of_ble_eq_true rfl, Nat.le_of_ble_eq_true rfl⟩) rfl hl.1 rfl (Nat.le_of_ble_eq_true rfl) dX3_floating_149 (Nat.zero_le _) (Nat.zero_le _) ?_
          refine px_if_eq (tgt := 159) hx hb dX3_floating_152 (by decide) (fun hc152 => ?_) (fun hc152 => ?_)
          · rw [if_pos hc152]
            have hok := hok.1 hc152
            refine lv_iconst (v := 0) hx hb dX3_floating_159 (by decide) ?_
            exact wX3_floating_160 C hN this v1 v2 v4 s0 (0 : Int32) fld hok hK hP hS (lv_sub hl [1, 2, 3, 4, 0] rfl)
          · rw [if_neg hc152]
            have hok := hok.2 hc152
            exact wX3_floating_155 C hN this v1 v2 v4 s0 fld hok hK hP hS (lv_sub hl [1, 2, 3, 4, 0] rfl)
        · rw [if_neg hc144]
          have hok := hok.2 hc144
          exact wX3_floating_155 C hN this v1 v2 v4 s0 fld hok hK hP hS (lv_sub hl [1, 2, 3, 4, 0] rfl)
set_option maxHeartbeats 4000000 in
set_option maxRecDepth 100000 in
theorem wX3_floating_0 {p : Program} {l : Launch} {e : Env} {s : State} {m : MethodId} {args : Array Value} {below : List Frame} {meth : Method} {c : Code} {D : va_G} (C : px_C p s m args meth c cX3_floating 11 (some .long) RX3 wsX3_floating) (hN : nx_N s) (this : Nat) (v1 : Int32) (v2 : Int64) (v4 : Int64) (fld : Int32) (hok : okX3_floating_0 v1 v2 v4 fld) {H : Heap} {locs : List Loc} (hK : va_K D vwCl [] s) (hP : va_P D vwCl [(this, .inr (1, [.int fld]))] H) (hS : va_S (fun q => q = this) s.heap H locs) {ls : Array Slot} (hl : lv_has ls 11 [(0, .ref this), (1, .int v1), (2, .long v2), (4, .long v4)]) : W p l e { frames := 3, cells := 0, slots := 0, locals := 103 } s m args below meth c H locs 0 0 (MQ below (ob_QL D 1 this (fX3_floating_0 v1 v2 v4 fld)) args s 0 0 (fun q => q = this)) (F0 m 0 ls []) := by
  obtain ⟨hx, hb, hml, hown, hts, hr, hlocks⟩ := id C
  rw [fX3_floating_0]
  rw [okX3_floating_0] at hok
  refine lv_lload_n hx hb dX3_floating_0 rfl (lv_at hl 2 rfl) ?_
  refine px_S (As := [.long v2]) (rest := []) ⟨hx, hb, hml, hown, hts⟩ (kX2_isInfinite l v2) (va_cwS 1 hts gX3_floating_X2_isInfinite rfl rfl rfl (by decide +kernel) ⟨Nat.le_of_ble_eq_true rfl, Nat.le_of_ble_eq_true rfl⟩) rfl hl.1 rfl (Nat.le_of_ble_eq_true rfl) dX3_floating_1 (Nat.zero_le _) (Nat.zero_le _) ?_
  refine lv_topi (fun v6_4 ev6_4 => ?_)
  rw [← ev6_4]
  rw [← ev6_4] at hok
  refine lv_istore (lv' := [(6, .int v6_4), (0, .ref this), (1, .int v1), (2, .long v2), (4, .long v4)]) hx hb dX3_floating_4 hl (by decide) rfl (fun ls hl => ?_)
  rw [fX3_floating_6]
  rw [okX3_floating_6] at hok
  refine lv_lload hx hb dX3_floating_6 (lv_at hl 4 rfl) ?_
  refine px_S (As := [.long v4]) (rest := []) ⟨hx, hb, hml, hown, hts⟩ (kX2_isInfinite l v4) (va_cwS 1 hts gX3_floating_X2_isInfinite rfl rfl rfl (by decide +kernel) ⟨Nat.le_of_ble_eq_true rfl, Nat.le_of_ble_eq_true rfl⟩) rfl hl.1 rfl (Nat.le_of_ble_eq_true rfl) dX3_floating_8 (Nat.zero_le _) (Nat.zero_le _) ?_
  refine lv_topi (fun v7_11 ev7_11 => ?_)
  rw [← ev7_11]
  rw [← ev7_11] at hok
  refine lv_istore (lv' := [(7, .int v7_11), (6, .int v6_4), (0, .ref this), (1, .int v1), (2, .long v2), (4, .long v4)]) hx hb dX3_floating_11 hl (by decide) rfl (fun ls hl => ?_)
  rw [fX3_floating_13]
  rw [okX3_floating_13] at hok
  refine lv_iload_n hx hb dX3_floating_13 rfl (lv_at hl 3 rfl) ?_
  refine lv_iconst (v := 2) hx hb dX3_floating_14 (by decide) ?_
  refine px_icmp_ne (tgt := 26) hx hb dX3_floating_15 (by decide) (fun hc15 => ?_) (fun hc15 => ?_)
  · rw [if_pos hc15]
    have hok := hok.1 hc15
    refine lv_lload hx hb dX3_floating_18 (lv_at hl 5 rfl) ?_
    refine px_S (As := [.long v4]) (rest := []) ⟨hx, hb, hml, hown, hts⟩ (kX2_negative l v4) (va_cwS 1 hts gX3_floating_X2_negative rfl rfl rfl (by decide +kernel) ⟨Nat.le_of_ble_eq_true rfl, Nat.le_of_ble_eq_true rfl⟩) rfl hl.1 rfl (Nat.le_of_ble_eq_true rfl) dX3_floating_20 (Nat.zero_le _) (Nat.zero_le _) ?_
    refine lv_goto (tgt := 28) hx hb dX3_floating_23 (by decide) ?_
    exact wX3_floating_28 C hN this v1 v2 v4 v6_4 v7_11 (fX2_negative v4) fld hok hK hP hS (lv_sub hl [2, 3, 4, 5, 1, 0] rfl)
  · rw [if_neg hc15]
    have hok := hok.2 hc15
    refine lv_lload hx hb dX3_floating_26 (lv_at hl 5 rfl) ?_
    exact wX3_floating_28 C hN this v1 v2 v4 v6_4 v7_11 v4 fld hok hK hP hS (lv_sub hl [2, 3, 4, 5, 1, 0] rfl)
set_option maxHeartbeats 4000000 in
set_option maxRecDepth 100000 in
theorem kX3_floating (l : Launch) (D : va_G) (this : Nat) (v1 : Int32) (v2 : Int64) (v4 : Int64) (fld : Int32) (hok : okX3_floating v1 v2 v4 fld) : Met l yX3_floating wsX3_floating ({ frames := 3, cells := 0, slots := 0, locals := 103 }) (ob_PN D 1 this fld [.ref this, .int v1, .long v2, .long v4]) (ob_QL D 1 this (fX3_floating v1 v2 v4 fld)) 0 0 (fun q => q = this) := by
  refine Met.ofW (cc := cX3_floating) (maxL := 11) (ret := (some .long)) (by decide) rfl ?_
  intro p e s m args below meth c s₁ B hml hv
  obtain ⟨rfl, hP, hK, hN⟩ := hv
  have C : px_C p s m _ meth c cX3_floating 11 (some .long) RX3 wsX3_floating := ⟨B.exec, B.bytes, hml, findClass_of_methodNamed B.named, atoms_spec (ws := wsX3_floating) B.pre, B.returns, B.notSynchronized⟩
  have hl := lv_entry ([.ref this, .int v1, .long v2, .long v4]) (n := 11) (Nat.le_of_ble_eq_true rfl)
  rw [lg_entry_eq]
  generalize (lg_sl ([.ref this, .int v1, .long v2, .long v4]) ++ List.replicate (11 - (lg_sl ([.ref this, .int v1, .long v2, .long v4])).length) Slot.unset).toArray = ls at hl ⊢
  have hl : lv_has ls 11 [(0, .ref this), (1, .int v1), (2, .long v2), (4, .long v4)] := hl
  rw [fX3_floating]
  rw [okX3_floating] at hok
  exact wX3_floating_0 C hN this v1 v2 v4 fld hok hK hP va_S.rf (lv_sub hl [0, 1, 2, 3] rfl)
set_option maxHeartbeats 4000000 in
set_option maxRecDepth 100000 in
theorem wX3_work_128 {p : Program} {l : Launch} {e : Env} {s : State} {m : MethodId} {args : Array Value} {below : List Frame} {meth : Method} {c : Code} {D : va_G} (C : px_C p s m args meth c cX3_work 15 (some .long) RX3 wsX3_work) (hN : nx_N s) (this : Nat) (v8 : Int32) (s0 : Int64) (fld : Int32) (hok : okX3_work_128 v8 s0 fld) {H : Heap} {locs : List Loc} (hK : va_K D vwCl [] s) (hP : va_P D vwCl [(this, .inr (1, [.int fld]))] H) (hS : va_S (fun q => q = this) s.heap H locs) {ls : Array Slot} (hl : lv_has ls 15 [(0, .ref this), (8, .int v8)]) : W p l e { frames := 4, cells := 0, slots := 0, locals := 133 } s m args below meth c H locs 0 0 (MQ below (ob_QL D 1 this (fX3_work_128 v8 s0 fld)) args s 0 0 (fun q => q = this)) (F0 m 128 ls [.long s0]) := by
  obtain ⟨hx, hb, hml, hown, hts, hr, hlocks⟩ := id C
  rw [fX3_work_128]
  rw [okX3_work_128] at hok
  refine lv_lstore (lv' := [(13, .long s0), (0, .ref this), (8, .int v8)]) hx hb dX3_work_128 hl (by decide) rfl (fun ls hl => ?_)
  refine lv_aload_n hx hb dX3_work_130 rfl (lv_at hl 1 rfl) ?_
  refine va_get (D := D) (ci := 1) (v := .int fld) (C := RX3) (T := TX3) (N := 1) hx hb hts (by decide +kernel) hown hK hP 0 rfl rfl 0 (by decide) (hts (.fieldLink RX3 7 "KindNumbersModel" "failed" "I") (by decide +kernel)) (fun _ h9 => h9) rfl dX3_work_131 ?_
  refine px_if_le (tgt := 139) hx hb dX3_work_134 (by decide) (fun hc134 => ?_) (fun hc134 => ?_)
  · rw [if_pos hc134]
    have hok := hok.1 hc134
    refine lv_lconst (v := 0) hx hb dX3_work_137 (by decide) ?_
    exact W.lret hx hb hr (fun t ht hW => ⟨rfl, by rw [ht]; exact hP, hS.F ht⟩) hS.2.2 dX3_work_138
  · rw [if_neg hc134]
    have hok := hok.2 hc134
    refine lv_iload hx hb dX3_work_139 (lv_at hl 2 rfl) ?_
    refine lv_bipush (v := 6) hx hb dX3_work_141 (by decide) ?_
    refine px_icmp_ne (tgt := 159) hx hb dX3_work_143 (by decide) (fun hc143 => ?_) (fun hc143 => ?_)
    · rw [if_pos hc143]
      have hok := hok.1 hc143
      refine lv_lload hx hb dX3_work_146 (lv_at hl 0 rfl) ?_
      obtain ⟨hk, hok⟩ := hok
      refine px_S (As := [.long s0]) (rest := []) ⟨hx, hb, hml, hown, hts⟩ (kX2_narrow l s0 hk) (va_cwS 1 hts gX3_work_X2_narrow rfl rfl rfl (by decide +kernel) ⟨Nat.le_of_ble_eq_true rfl, Nat.le_of_ble_eq_true rfl⟩) rfl hl.1 rfl (Nat.le_of_ble_eq_true rfl) dX3_work_148 (Nat.zero_le _) (Nat.zero_le _) ?_
      refine px_i2l hx hb dX3_work_151 ?_
      refine lv_ldc2 hx hb hown (hts (.constantLong RX3 29 (4294967295)) (by decide +kernel)) dX3_work_152 ?_
      refine lv_land hx hb dX3_work_155 ?_
      refine lv_goto (tgt := 161) hx hb dX3_work_156 (by decide) ?_
      exact W.lret hx hb hr (fun t ht hW => ⟨rfl, by rw [ht]; exact hP, hS.F ht⟩) hS.2.2 dX3_work_161
    · rw [if_neg hc143]
      have hok := hok.2 hc143
      refine lv_lload hx hb dX3_work_159 (lv_at hl 0 rfl) ?_
      exact W.lret hx hb hr (fun t ht hW => ⟨rfl, by rw [ht]; exact hP, hS.F ht⟩) hS.2.2 dX3_work_161
set_option maxHeartbeats 4000000 in
set_option maxRecDepth 100000 in
theorem wX3_work_29 {p : Program} {l : Launch} {e : Env} {s : State} {m : MethodId} {args : Array Value} {below : List Frame} {meth : Method} {c : Code} {D : va_G} (C : px_C p s m args meth c cX3_work 15 (some .long) RX3 wsX3_work) (hN : nx_N s) (this : Nat) (v1 : Int32) (v2 : Int32) (v3 : Int64) (v5 : Int32) (v6 : Int64) (s1 : Int32) (fld : Int32) (hok : okX3_work_29 v1 v2 v3 v5 v6 s1 fld) {H : Heap} {locs : List Loc} (hK : va_K D vwCl [] s) (hP : va_P D vwCl [(this, .inr (1, [.int fld]))] H) (hS : va_S (fun q => q = this) s.heap H locs) {ls : Array Slot} (hl : lv_has ls 15 [(0, .ref this), (1, .int v1), (2, .int v2), (3, .long v3), (5, .int v5), (6, .long v6)]) : W p l e { frames := 4, cells := 0, slots := 0, locals := 133 } s m args below meth c H locs 0 0 (MQ below (ob_QL D 1 this (fX3_work_29 v1 v2 v3 v5 v6 s1 fld)) args s 0 0 (fun q => q = this)) (F0 m 29 ls [.int s1, .ref this]) := by
  obtain ⟨hx, hb, hml, hown, hts, hr, hlocks⟩ := id C
  rw [fX3_work_29]
  rw [okX3_work_29] at hok
  refine va_put (D := D) (ci := 1) (v := .int s1) (ty := .int) (C := RX3) (T := TX3) (N := 1) hx hb hts (by decide +kernel) tyX3 tyX3_ok nmX3 hown hK hP (ob_D _ _) hS 0 rfl rfl 0 (by decide) (hts (.fieldLink RX3 7 "KindNumbersModel" "failed" "I") (by decide +kernel)) (fun _ h9 => h9) rfl (by decide +kernel) rfl rfl (Nat.le_of_ble_eq_true rfl) dX3_work_29 (fun H locs hP _ hS => ?_)
  have hP : va_P D vwCl [(this, .inr (1, [.int s1]))] H := hP
  refine lv_aload_n hx hb dX3_work_32 rfl (lv_at hl 0 rfl) ?_
  refine va_get (D := D) (ci := 1) (v := .int s1) (C := RX3) (T := TX3) (N := 1) hx hb hts (by decide +kernel) hown hK hP 0 rfl rfl 0 (by decide) (hts (.fieldLink RX3 7 "KindNumbersModel" "failed" "I") (by decide +kernel)) (fun _ h9 => h9) rfl dX3_work_33 ?_
  refine px_if_le (tgt := 41) hx hb dX3_work_36 (by decide) (fun hc36 => ?_) (fun hc36 => ?_)
  · rw [if_pos hc36]
    have hok := hok.1 hc36
    refine lv_lconst (v := 0) hx hb dX3_work_39 (by decide) ?_
    exact W.lret hx hb hr (fun t ht hW => ⟨rfl, by rw [ht]; exact hP, hS.F ht⟩) hS.2.2 dX3_work_40
  · rw [if_neg hc36]
    have hok := hok.2 hc36
    refine lv_iconst (v := 4) hx hb dX3_work_41 (by decide) ?_
    refine lv_iload_n hx hb dX3_work_42 rfl (lv_at hl 2 rfl) ?_
    refine lv_iload hx hb dX3_work_43 (lv_at hl 4 rfl) ?_
    refine px_mmax hx hb (hml.trans hl.1.symm) hown (hts (.methodLink RX3 106 Lib.Math.max.name) (by decide +kernel)) (hts (.static Lib.Math.max.name) (by decide +kernel)) (hts (.initialized "java/lang/Math") (by decide +kernel)) (hts (.code Lib.Math.max.name Lib.Math.max.code 2 (some .int)) (by decide +kernel)) (Nat.le_of_ble_eq_true rfl) (Nat.le_of_ble_eq_true rfl) (Nat.zero_le _) (Nat.zero_le _) dX3_work_45 ?_
    refine px_mmax hx hb (hml.trans hl.1.symm) hown (hts (.methodLink RX3 106 Lib.Math.max.name) (by decide +kernel)) (hts (.static Lib.Math.max.name) (by decide +kernel)) (hts (.initialized "java/lang/Math") (by decide +kernel)) (hts (.code Lib.Math.max.name Lib.Math.max.code 2 (some .int)) (by decide +kernel)) (Nat.le_of_ble_eq_true rfl) (Nat.le_of_ble_eq_true rfl) (Nat.zero_le _) (Nat.zero_le _) dX3_work_48 ?_
    refine lv_topi (fun v8_51 ev8_51 => ?_)
    rw [← ev8_51]
    rw [← ev8_51] at hok
    refine lv_istore (lv' := [(8, .int v8_51), (0, .ref this), (1, .int v1), (2, .int v2), (3, .long v3), (5, .int v5), (6, .long v6)]) hx hb dX3_work_51 hl (by decide) rfl (fun ls hl => ?_)
    rw [fX3_work_53]
    rw [okX3_work_53] at hok
    refine lv_lload_n hx hb dX3_work_53 rfl (lv_at hl 4 rfl) ?_
    refine lv_iload_n hx hb dX3_work_54 rfl (lv_at hl 3 rfl) ?_
    refine lv_iload hx hb dX3_work_55 (lv_at hl 0 rfl) ?_
    obtain ⟨hk, hok⟩ := hok
    refine px_S (As := [.long v3, .int v2, .int v8_51]) (rest := []) ⟨hx, hb, hml, hown, hts⟩ (kX3_widened l v3 v2 v8_51 hk) (va_cwS 3 hts gX3_work_X3_widened rfl rfl rfl (by decide +kernel) ⟨Nat.le_of_ble_eq_true rfl, Nat.le_of_ble_eq_true rfl⟩) rfl hl.1 rfl (Nat.le_of_ble_eq_true rfl) dX3_work_57 (Nat.zero_le _) (Nat.zero_le _) ?_
    refine lv_topl (fun v9_60 ev9_60 => ?_)
    rw [← ev9_60]
    rw [← ev9_60] at hok
    refine lv_lstore (lv' := [(9, .long v9_60), (8, .int v8_51), (0, .ref this), (1, .int v1), (2, .int v2), (3, .long v3), (5, .int v5), (6, .long v6)]) hx hb dX3_work_60 hl (by decide) rfl (fun ls hl => ?_)
    rw [fX3_work_62]
    rw [okX3_work_62] at hok
    refine lv_lload hx hb dX3_work_62 (lv_at hl 7 rfl) ?_
    refine lv_iload hx hb dX3_work_64 (lv_at hl 6 rfl) ?_
    refine lv_iload hx hb dX3_work_66 (lv_at hl 1 rfl) ?_
    obtain ⟨hk, hok⟩ := hok
    refine px_S (As := [.long v6, .int v5, .int v8_51]) (rest := []) ⟨hx, hb, hml, hown, hts⟩ (kX3_widened l v6 v5 v8_51 hk) (va_cwS 3 hts gX3_work_X3_widened rfl rfl rfl (by decide +kernel) ⟨Nat.le_of_ble_eq_true rfl, Nat.le_of_ble_eq_true rfl⟩) rfl hl.1 rfl (Nat.le_of_ble_eq_true rfl) dX3_work_68 (Nat.zero_le _) (Nat.zero_le _) ?_
    refine lv_topl (fun v11_71 ev11_71 => ?_)
    rw [← ev11_71]
    rw [← ev11_71] at hok
    refine lv_lstore (lv' := [(11, .long v11_71), (9, .long v9_60), (8, .int v8_51), (0, .ref this), (1, .int v1), (2, .int v2), (3, .long v3), (5, .int v5), (6, .long v6)]) hx hb dX3_work_71 hl (by decide) rfl (fun ls hl => ?_)
    rw [fX3_work_73]
    rw [okX3_work_73] at hok
    refine lv_iload hx hb dX3_work_73 (lv_at hl 2 rfl) ?_
    refine lv_bipush (v := 6) hx hb dX3_work_75 (by decide) ?_
    refine px_icmp_ge (tgt := 92) hx hb dX3_work_77 (by decide) (fun hc77 => ?_) (fun hc77 => ?_)
    · rw [if_pos hc77]
      have hok := hok.1 hc77
      refine lv_aload_n hx hb dX3_work_80 rfl (lv_at hl 3 rfl) ?_
      refine lv_iload_n hx hb dX3_work_81 rfl (lv_at hl 4 rfl) ?_
      refine lv_iload hx hb dX3_work_82 (lv_at hl 2 rfl) ?_
      refine lv_lload hx hb dX3_work_84 (lv_at hl 1 rfl) ?_
      refine lv_lload hx hb dX3_work_86 (lv_at hl 0 rfl) ?_
      obtain ⟨hk, hok⟩ := hok
      refine ob_Vl (As := [.int v1, .int v8_51, .long v9_60, .long v11_71]) (rest := []) ⟨hx, hb, hml, hown, hts⟩ (kX3_whole l D this v1 v8_51 v9_60 v11_71 s1 hk) hK hP hS (ci := 1) rfl (cwV 4 hts gX3_work_X3_whole rfl rfl rfl (by decide +kernel) ⟨Nat.le_of_ble_eq_true rfl, Nat.le_of_ble_eq_true rfl⟩) rfl hl.1 rfl (Nat.le_of_ble_eq_true rfl) dX3_work_88 (Nat.zero_le _) (Nat.zero_le _) (fun H locs hP hS => ?_)
      exact W.lret hx hb hr (fun t ht hW => ⟨rfl, by rw [ht]; exact hP, hS.F ht⟩) hS.2.2 dX3_work_91
    · rw [if_neg hc77]
      have hok := hok.2 hc77
      refine lv_iload hx hb dX3_work_92 (lv_at hl 2 rfl) ?_
      refine lv_bipush (v := 6) hx hb dX3_work_94 (by decide) ?_
      refine px_icmp_ne (tgt := 119) hx hb dX3_work_96 (by decide) (fun hc96 => ?_) (fun hc96 => ?_)
      · rw [if_pos hc96]
        have hok := hok.1 hc96
        refine lv_aload_n hx hb dX3_work_99 rfl (lv_at hl 3 rfl) ?_
        refine lv_iload_n hx hb dX3_work_100 rfl (lv_at hl 4 rfl) ?_
        refine lv_lload hx hb dX3_work_101 (lv_at hl 1 rfl) ?_
        refine px_l2i hx hb dX3_work_103 ?_
        obtain ⟨hk, hok⟩ := hok
        refine px_S (As := [.int (v9_60.toInt32)]) (rest := [.int v1, .ref this]) ⟨hx, hb, hml, hown, hts⟩ (kX2_wide l (v9_60.toInt32) hk) (va_cwS 1 hts gX3_work_X2_wide rfl rfl rfl (by decide +kernel) ⟨Nat.le_of_ble_eq_true rfl, Nat.le_of_ble_eq_true rfl⟩) rfl hl.1 rfl (Nat.le_of_ble_eq_true rfl) dX3_work_104 (Nat.zero_le _) (Nat.zero_le _) ?_
        refine lv_lload hx hb dX3_work_107 (lv_at hl 0 rfl) ?_
        refine px_l2i hx hb dX3_work_109 ?_
        obtain ⟨hk, hok⟩ := hok
        refine px_S (As := [.int (v11_71.toInt32)]) (rest := [.long (fX2_wide (v9_60.toInt32)), .int v1, .ref this]) ⟨hx, hb, hml, hown, hts⟩ (kX2_wide l (v11_71.toInt32) hk) (va_cwS 1 hts gX3_work_X2_wide rfl rfl rfl (by decide +kernel) ⟨Nat.le_of_ble_eq_true rfl, Nat.le_of_ble_eq_true rfl⟩) rfl hl.1 rfl (Nat.le_of_ble_eq_true rfl) dX3_work_110 (Nat.zero_le _) (Nat.zero_le _) ?_
        obtain ⟨hk, hok⟩ := hok
        refine ob_VNl (As := [.int v1, .long (fX2_wide (v9_60.toInt32)), .long (fX2_wide (v11_71.toInt32))]) (rest := []) ⟨hx, hb, hml, hown, hts⟩ (kX3_floating l D this v1 (fX2_wide (v9_60.toInt32)) (fX2_wide (v11_71.toInt32)) s1 hk) hN hK hP hS (ci := 1) rfl (cwV 3 hts gX3_work_X3_floating rfl rfl rfl (by decide +kernel) ⟨Nat.le_of_ble_eq_true rfl, Nat.le_of_ble_eq_true rfl⟩) rfl hl.1 rfl (Nat.le_of_ble_eq_true rfl) dX3_work_113 (Nat.zero_le _) (Nat.zero_le _) (fun H locs hP hS => ?_)
        refine lv_goto (tgt := 128) hx hb dX3_work_116 (by decide) ?_
        exact wX3_work_128 C hN this v8_51 ((fX3_floating v1 (fX2_wide (v9_60.toInt32)) (fX2_wide (v11_71.toInt32)) s1).1) ((fX3_floating v1 (fX2_wide (v9_60.toInt32)) (fX2_wide (v11_71.toInt32)) s1).2) hok hK hP hS (lv_sub hl [3, 2] rfl)
      · rw [if_neg hc96]
        have hok := hok.2 hc96
        refine lv_aload_n hx hb dX3_work_119 rfl (lv_at hl 3 rfl) ?_
        refine lv_iload_n hx hb dX3_work_120 rfl (lv_at hl 4 rfl) ?_
        refine lv_lload hx hb dX3_work_121 (lv_at hl 1 rfl) ?_
        refine lv_lload hx hb dX3_work_123 (lv_at hl 0 rfl) ?_
        obtain ⟨hk, hok⟩ := hok
        refine ob_VNl (As := [.int v1, .long v9_60, .long v11_71]) (rest := []) ⟨hx, hb, hml, hown, hts⟩ (kX3_floating l D this v1 v9_60 v11_71 s1 hk) hN hK hP hS (ci := 1) rfl (cwV 3 hts gX3_work_X3_floating rfl rfl rfl (by decide +kernel) ⟨Nat.le_of_ble_eq_true rfl, Nat.le_of_ble_eq_true rfl⟩) rfl hl.1 rfl (Nat.le_of_ble_eq_true rfl) dX3_work_125 (Nat.zero_le _) (Nat.zero_le _) (fun H locs hP hS => ?_)
        exact wX3_work_128 C hN this v8_51 ((fX3_floating v1 v9_60 v11_71 s1).1) ((fX3_floating v1 v9_60 v11_71 s1).2) hok hK hP hS (lv_sub hl [3, 2] rfl)
set_option maxHeartbeats 4000000 in
set_option maxRecDepth 100000 in
theorem wX3_work_28 {p : Program} {l : Launch} {e : Env} {s : State} {m : MethodId} {args : Array Value} {below : List Frame} {meth : Method} {c : Code} {D : va_G} (C : px_C p s m args meth c cX3_work 15 (some .long) RX3 wsX3_work) (hN : nx_N s) (this : Nat) (v1 : Int32) (v2 : Int32) (v3 : Int64) (v5 : Int32) (v6 : Int64) (fld : Int32) (hok : okX3_work_28 v1 v2 v3 v5 v6 fld) {H : Heap} {locs : List Loc} (hK : va_K D vwCl [] s) (hP : va_P D vwCl [(this, .inr (1, [.int fld]))] H) (hS : va_S (fun q => q = this) s.heap H locs) {ls : Array Slot} (hl : lv_has ls 15 [(0, .ref this), (1, .int v1), (2, .int v2), (3, .long v3), (5, .int v5), (6, .long v6)]) : W p l e { frames := 4, cells := 0, slots := 0, locals := 133 } s m args below meth c H locs 0 0 (MQ below (ob_QL D 1 this (fX3_work_28 v1 v2 v3 v5 v6 fld)) args s 0 0 (fun q => q = this)) (F0 m 28 ls [.ref this]) := by
  obtain ⟨hx, hb, hml, hown, hts, hr, hlocks⟩ := id C
  rw [fX3_work_28]
  rw [okX3_work_28] at hok
  refine lv_iconst (v := 1) hx hb dX3_work_28 (by decide) ?_
  exact wX3_work_29 C hN this v1 v2 v3 v5 v6 (1 : Int32) fld hok hK hP hS (lv_sub hl [0, 1, 2, 3, 4, 5] rfl)
set_option maxHeartbeats 4000000 in
set_option maxRecDepth 100000 in
theorem wX3_work_0 {p : Program} {l : Launch} {e : Env} {s : State} {m : MethodId} {args : Array Value} {below : List Frame} {meth : Method} {c : Code} {D : va_G} (C : px_C p s m args meth c cX3_work 15 (some .long) RX3 wsX3_work) (hN : nx_N s) (this : Nat) (v1 : Int32) (v2 : Int32) (v3 : Int64) (v5 : Int32) (v6 : Int64) (fld : Int32) (hok : okX3_work_0 v1 v2 v3 v5 v6 fld) {H : Heap} {locs : List Loc} (hK : va_K D vwCl [] s) (hP : va_P D vwCl [(this, .inr (1, [.int fld]))] H) (hS : va_S (fun q => q = this) s.heap H locs) {ls : Array Slot} (hl : lv_has ls 15 [(0, .ref this), (1, .int v1), (2, .int v2), (3, .long v3), (5, .int v5), (6, .long v6)]) : W p l e { frames := 4, cells := 0, slots := 0, locals := 133 } s m args below meth c H locs 0 0 (MQ below (ob_QL D 1 this (fX3_work_0 v1 v2 v3 v5 v6 fld)) args s 0 0 (fun q => q = this)) (F0 m 0 ls []) := by
  obtain ⟨hx, hb, hml, hown, hts, hr, hlocks⟩ := id C
  rw [fX3_work_0]
  rw [okX3_work_0] at hok
  refine lv_aload_n hx hb dX3_work_0 rfl (lv_at hl 0 rfl) ?_
  refine lv_iload_n hx hb dX3_work_1 rfl (lv_at hl 1 rfl) ?_
  refine lv_iconst (v := 1) hx hb dX3_work_2 (by decide) ?_
  refine px_icmp_lt (tgt := 28) hx hb dX3_work_3 (by decide) (fun hc3 => ?_) (fun hc3 => ?_)
  · rw [if_pos hc3]
    have hok := hok.1 hc3
    exact wX3_work_28 C hN this v1 v2 v3 v5 v6 fld hok hK hP hS (lv_sub hl [0, 1, 2, 3, 4, 5] rfl)
  · rw [if_neg hc3]
    have hok := hok.2 hc3
    refine lv_iload_n hx hb dX3_work_6 rfl (lv_at hl 1 rfl) ?_
    refine lv_iconst (v := 5) hx hb dX3_work_7 (by decide) ?_
    refine px_icmp_gt (tgt := 28) hx hb dX3_work_8 (by decide) (fun hc8 => ?_) (fun hc8 => ?_)
    · rw [if_pos hc8]
      have hok := hok.1 hc8
      exact wX3_work_28 C hN this v1 v2 v3 v5 v6 fld hok hK hP hS (lv_sub hl [0, 1, 2, 3, 4, 5] rfl)
    · rw [if_neg hc8]
      have hok := hok.2 hc8
      refine lv_aload_n hx hb dX3_work_11 rfl (lv_at hl 0 rfl) ?_
      refine lv_iload_n hx hb dX3_work_12 rfl (lv_at hl 2 rfl) ?_
      refine lv_lload_n hx hb dX3_work_13 rfl (lv_at hl 3 rfl) ?_
      refine lv_iload hx hb dX3_work_14 (lv_at hl 4 rfl) ?_
      refine lv_lload hx hb dX3_work_16 (lv_at hl 5 rfl) ?_
      obtain ⟨hk, hok⟩ := hok
      refine ob_Vi (As := [.int v2, .long v3, .int v5, .long v6]) (rest := [.ref this]) ⟨hx, hb, hml, hown, hts⟩ (kX3_areNumbers l D this v2 v3 v5 v6 fld hk) hK hP hS (ci := 1) rfl (cwV 4 hts gX3_work_X3_areNumbers rfl rfl rfl (by decide +kernel) ⟨Nat.le_of_ble_eq_true rfl, Nat.le_of_ble_eq_true rfl⟩) rfl hl.1 rfl (Nat.le_of_ble_eq_true rfl) dX3_work_18 (Nat.zero_le _) (Nat.zero_le _) (fun H locs hP hS => ?_)
      refine px_if_eq (tgt := 28) hx hb dX3_work_21 (by decide) (fun hc21 => ?_) (fun hc21 => ?_)
      · rw [if_pos hc21]
        have hok := hok.1 hc21
        exact wX3_work_28 C hN this v1 v2 v3 v5 v6 ((fX3_areNumbers v2 v3 v5 v6 fld).2) hok hK hP hS (lv_sub hl [0, 1, 2, 3, 4, 5] rfl)
      · rw [if_neg hc21]
        have hok := hok.2 hc21
        refine lv_iconst (v := 0) hx hb dX3_work_24 (by decide) ?_
        refine lv_goto (tgt := 29) hx hb dX3_work_25 (by decide) ?_
        exact wX3_work_29 C hN this v1 v2 v3 v5 v6 (0 : Int32) ((fX3_areNumbers v2 v3 v5 v6 fld).2) hok hK hP hS (lv_sub hl [0, 1, 2, 3, 4, 5] rfl)
set_option maxHeartbeats 4000000 in
set_option maxRecDepth 100000 in
theorem kX3_work (l : Launch) (D : va_G) (this : Nat) (v1 : Int32) (v2 : Int32) (v3 : Int64) (v5 : Int32) (v6 : Int64) (fld : Int32) (hok : okX3_work v1 v2 v3 v5 v6 fld) : Met l yX3_work wsX3_work ({ frames := 4, cells := 0, slots := 0, locals := 133 }) (ob_PN D 1 this fld [.ref this, .int v1, .int v2, .long v3, .int v5, .long v6]) (ob_QL D 1 this (fX3_work v1 v2 v3 v5 v6 fld)) 0 0 (fun q => q = this) := by
  refine Met.ofW (cc := cX3_work) (maxL := 15) (ret := (some .long)) (by decide) rfl ?_
  intro p e s m args below meth c s₁ B hml hv
  obtain ⟨rfl, hP, hK, hN⟩ := hv
  have C : px_C p s m _ meth c cX3_work 15 (some .long) RX3 wsX3_work := ⟨B.exec, B.bytes, hml, findClass_of_methodNamed B.named, atoms_spec (ws := wsX3_work) B.pre, B.returns, B.notSynchronized⟩
  have hl := lv_entry ([.ref this, .int v1, .int v2, .long v3, .int v5, .long v6]) (n := 15) (Nat.le_of_ble_eq_true rfl)
  rw [lg_entry_eq]
  generalize (lg_sl ([.ref this, .int v1, .int v2, .long v3, .int v5, .long v6]) ++ List.replicate (15 - (lg_sl ([.ref this, .int v1, .int v2, .long v3, .int v5, .long v6])).length) Slot.unset).toArray = ls at hl ⊢
  have hl : lv_has ls 15 [(0, .ref this), (1, .int v1), (2, .int v2), (3, .long v3), (5, .int v5), (6, .long v6)] := hl
  rw [fX3_work]
  rw [okX3_work] at hok
  exact wX3_work_0 C hN this v1 v2 v3 v5 v6 fld hok hK hP va_S.rf (lv_sub hl [0, 1, 2, 3, 4, 5] rfl)
set_option maxHeartbeats 4000000 in
set_option maxRecDepth 100000 in
theorem wX3_shift_63 {p : Program} {l : Launch} {e : Env} {s : State} {m : MethodId} {args : Array Value} {below : List Frame} {meth : Method} {c : Code} {D : va_G} (C : px_C p s m args meth c cX3_shift 9 (some .long) RX3 wsX3_shift) (this : Nat) (v1 : Int32) (v2 : Int32) (v3 : Int64) (s0 : Int32) (s1 : Int32) (fld : Int32) {H : Heap} {locs : List Loc} (hK : va_K D vwCl [] s) (hP : va_P D vwCl [(this, .inr (1, [.int fld]))] H) (hS : va_S (fun q => q = this) s.heap H locs) {ls : Array Slot} (hl : lv_has ls 9 [(0, .ref this), (1, .int v1), (2, .int v2), (3, .long v3)]) : W p l e { frames := 3, cells := 0, slots := 0, locals := 86 } s m args below meth c H locs 0 0 (MQ below (ob_QL D 1 this (fX3_shift_63 v1 v2 v3 s0 s1 fld)) args s 0 0 (fun q => q = this)) (F0 m 63 ls [.int s1, .int s0]) := by
  obtain ⟨hx, hb, hml, hown, hts, hr, hlocks⟩ := id C
  rw [fX3_shift_63]
  refine lv_iand hx hb dX3_shift_63 ?_
  refine lv_topi (fun v7_64 ev7_64 => ?_)
  rw [← ev7_64]
  refine lv_istore (lv' := [(7, .int v7_64), (0, .ref this), (1, .int v1), (2, .int v2), (3, .long v3)]) hx hb dX3_shift_64 hl (by decide) rfl (fun ls hl => ?_)
  rw [fX3_shift_66]
  refine lv_iload_n hx hb dX3_shift_66 rfl (lv_at hl 3 rfl) ?_
  refine lv_iconst (v := 5) hx hb dX3_shift_67 (by decide) ?_
  refine px_icmp_ne (tgt := 102) hx hb dX3_shift_68 (by decide) (fun hc68 => ?_) (fun hc68 => ?_)
  · rw [if_pos hc68]
    refine lv_iload_n hx hb dX3_shift_71 rfl (lv_at hl 2 rfl) ?_
    refine lv_bipush (v := 6) hx hb dX3_shift_72 (by decide) ?_
    refine px_icmp_ne (tgt := 84) hx hb dX3_shift_74 (by decide) (fun hc74 => ?_) (fun hc74 => ?_)
    · rw [if_pos hc74]
      refine lv_lload_n hx hb dX3_shift_77 rfl (lv_at hl 4 rfl) ?_
      refine lv_iload hx hb dX3_shift_78 (lv_at hl 0 rfl) ?_
      refine px_lshl hx hb dX3_shift_80 ?_
      refine lv_goto (tgt := 101) hx hb dX3_shift_81 (by decide) ?_
      exact W.lret hx hb hr (fun t ht hW => ⟨rfl, by rw [ht]; exact hP, hS.F ht⟩) hS.2.2 dX3_shift_101
    · rw [if_neg hc74]
      refine lv_iload_n hx hb dX3_shift_84 rfl (lv_at hl 2 rfl) ?_
      refine lv_bipush (v := 7) hx hb dX3_shift_85 (by decide) ?_
      refine px_icmp_ne (tgt := 97) hx hb dX3_shift_87 (by decide) (fun hc87 => ?_) (fun hc87 => ?_)
      · rw [if_pos hc87]
        refine lv_lload_n hx hb dX3_shift_90 rfl (lv_at hl 4 rfl) ?_
        refine lv_iload hx hb dX3_shift_91 (lv_at hl 0 rfl) ?_
        refine px_lshr hx hb dX3_shift_93 ?_
        refine lv_goto (tgt := 101) hx hb dX3_shift_94 (by decide) ?_
        exact W.lret hx hb hr (fun t ht hW => ⟨rfl, by rw [ht]; exact hP, hS.F ht⟩) hS.2.2 dX3_shift_101
      · rw [if_neg hc87]
        refine lv_lload_n hx hb dX3_shift_97 rfl (lv_at hl 4 rfl) ?_
        refine lv_iload hx hb dX3_shift_98 (lv_at hl 0 rfl) ?_
        refine px_lushr hx hb dX3_shift_100 ?_
        exact W.lret hx hb hr (fun t ht hW => ⟨rfl, by rw [ht]; exact hP, hS.F ht⟩) hS.2.2 dX3_shift_101
  · rw [if_neg hc68]
    refine lv_lload_n hx hb dX3_shift_102 rfl (lv_at hl 4 rfl) ?_
    refine px_l2i hx hb dX3_shift_103 ?_
    refine lv_topi (fun v8_104 ev8_104 => ?_)
    rw [← ev8_104]
    refine lv_istore (lv' := [(8, .int v8_104), (7, .int v7_64), (0, .ref this), (1, .int v1), (2, .int v2), (3, .long v3)]) hx hb dX3_shift_104 hl (by decide) rfl (fun ls hl => ?_)
    rw [fX3_shift_106]
    refine lv_iload_n hx hb dX3_shift_106 rfl (lv_at hl 3 rfl) ?_
    refine lv_bipush (v := 6) hx hb dX3_shift_107 (by decide) ?_
    refine px_icmp_ne (tgt := 121) hx hb dX3_shift_109 (by decide) (fun hc109 => ?_) (fun hc109 => ?_)
    · rw [if_pos hc109]
      refine lv_iload hx hb dX3_shift_112 (lv_at hl 0 rfl) ?_
      refine lv_iload hx hb dX3_shift_114 (lv_at hl 1 rfl) ?_
      refine px_ishl hx hb dX3_shift_116 ?_
      refine px_i2l hx hb dX3_shift_117 ?_
      refine lv_goto (tgt := 142) hx hb dX3_shift_118 (by decide) ?_
      exact W.lret hx hb hr (fun t ht hW => ⟨rfl, by rw [ht]; exact hP, hS.F ht⟩) hS.2.2 dX3_shift_142
    · rw [if_neg hc109]
      refine lv_iload_n hx hb dX3_shift_121 rfl (lv_at hl 3 rfl) ?_
      refine lv_bipush (v := 7) hx hb dX3_shift_122 (by decide) ?_
      refine px_icmp_ne (tgt := 136) hx hb dX3_shift_124 (by decide) (fun hc124 => ?_) (fun hc124 => ?_)
      · rw [if_pos hc124]
        refine lv_iload hx hb dX3_shift_127 (lv_at hl 0 rfl) ?_
        refine lv_iload hx hb dX3_shift_129 (lv_at hl 1 rfl) ?_
        refine px_ishr hx hb dX3_shift_131 ?_
        refine px_i2l hx hb dX3_shift_132 ?_
        refine lv_goto (tgt := 142) hx hb dX3_shift_133 (by decide) ?_
        exact W.lret hx hb hr (fun t ht hW => ⟨rfl, by rw [ht]; exact hP, hS.F ht⟩) hS.2.2 dX3_shift_142
      · rw [if_neg hc124]
        refine lv_iload hx hb dX3_shift_136 (lv_at hl 0 rfl) ?_
        refine lv_iload hx hb dX3_shift_138 (lv_at hl 1 rfl) ?_
        refine px_iushr hx hb dX3_shift_140 ?_
        refine px_i2l hx hb dX3_shift_141 ?_
        exact W.lret hx hb hr (fun t ht hW => ⟨rfl, by rw [ht]; exact hP, hS.F ht⟩) hS.2.2 dX3_shift_142
set_option maxHeartbeats 4000000 in
set_option maxRecDepth 100000 in
theorem wX3_shift_36 {p : Program} {l : Launch} {e : Env} {s : State} {m : MethodId} {args : Array Value} {below : List Frame} {meth : Method} {c : Code} {D : va_G} (C : px_C p s m args meth c cX3_shift 9 (some .long) RX3 wsX3_shift) (this : Nat) (v1 : Int32) (v2 : Int32) (v3 : Int64) (v5 : Int64) (s1 : Int32) (fld : Int32) {H : Heap} {locs : List Loc} (hK : va_K D vwCl [] s) (hP : va_P D vwCl [(this, .inr (1, [.int fld]))] H) (hS : va_S (fun q => q = this) s.heap H locs) {ls : Array Slot} (hl : lv_has ls 9 [(0, .ref this), (1, .int v1), (2, .int v2), (3, .long v3), (5, .long v5)]) : W p l e { frames := 3, cells := 0, slots := 0, locals := 86 } s m args below meth c H locs 0 0 (MQ below (ob_QL D 1 this (fX3_shift_36 v1 v2 v3 v5 s1 fld)) args s 0 0 (fun q => q = this)) (F0 m 36 ls [.int s1, .ref this]) := by
  obtain ⟨hx, hb, hml, hown, hts, hr, hlocks⟩ := id C
  rw [fX3_shift_36]
  refine va_put (D := D) (ci := 1) (v := .int s1) (ty := .int) (C := RX3) (T := TX3) (N := 1) hx hb hts (by decide +kernel) tyX3 tyX3_ok nmX3 hown hK hP (ob_D _ _) hS 0 rfl rfl 0 (by decide) (hts (.fieldLink RX3 7 "KindNumbersModel" "failed" "I") (by decide +kernel)) (fun _ h9 => h9) rfl (by decide +kernel) rfl rfl (Nat.le_of_ble_eq_true rfl) dX3_shift_36 (fun H locs hP _ hS => ?_)
  have hP : va_P D vwCl [(this, .inr (1, [.int s1]))] H := hP
  refine lv_aload_n hx hb dX3_shift_39 rfl (lv_at hl 0 rfl) ?_
  refine va_get (D := D) (ci := 1) (v := .int s1) (C := RX3) (T := TX3) (N := 1) hx hb hts (by decide +kernel) hown hK hP 0 rfl rfl 0 (by decide) (hts (.fieldLink RX3 7 "KindNumbersModel" "failed" "I") (by decide +kernel)) (fun _ h9 => h9) rfl dX3_shift_40 ?_
  refine px_if_le (tgt := 48) hx hb dX3_shift_43 (by decide) (fun hc43 => ?_) (fun hc43 => ?_)
  · rw [if_pos hc43]
    refine lv_lconst (v := 0) hx hb dX3_shift_46 (by decide) ?_
    exact W.lret hx hb hr (fun t ht hW => ⟨rfl, by rw [ht]; exact hP, hS.F ht⟩) hS.2.2 dX3_shift_47
  · rw [if_neg hc43]
    refine lv_lload hx hb dX3_shift_48 (lv_at hl 4 rfl) ?_
    refine px_l2i hx hb dX3_shift_50 ?_
    refine lv_iload_n hx hb dX3_shift_51 rfl (lv_at hl 2 rfl) ?_
    refine lv_iconst (v := 5) hx hb dX3_shift_52 (by decide) ?_
    refine px_icmp_ne (tgt := 61) hx hb dX3_shift_53 (by decide) (fun hc53 => ?_) (fun hc53 => ?_)
    · rw [if_pos hc53]
      refine lv_bipush (v := 63) hx hb dX3_shift_56 (by decide) ?_
      refine lv_goto (tgt := 63) hx hb dX3_shift_58 (by decide) ?_
      exact wX3_shift_63 C this v1 v2 v3 (v5.toInt32) (63 : Int32) s1 hK hP hS (lv_sub hl [0, 1, 2, 3] rfl)
    · rw [if_neg hc53]
      refine lv_bipush (v := 31) hx hb dX3_shift_61 (by decide) ?_
      exact wX3_shift_63 C this v1 v2 v3 (v5.toInt32) (31 : Int32) s1 hK hP hS (lv_sub hl [0, 1, 2, 3] rfl)
set_option maxHeartbeats 4000000 in
set_option maxRecDepth 100000 in
theorem wX3_shift_35 {p : Program} {l : Launch} {e : Env} {s : State} {m : MethodId} {args : Array Value} {below : List Frame} {meth : Method} {c : Code} {D : va_G} (C : px_C p s m args meth c cX3_shift 9 (some .long) RX3 wsX3_shift) (this : Nat) (v1 : Int32) (v2 : Int32) (v3 : Int64) (v5 : Int64) (fld : Int32) {H : Heap} {locs : List Loc} (hK : va_K D vwCl [] s) (hP : va_P D vwCl [(this, .inr (1, [.int fld]))] H) (hS : va_S (fun q => q = this) s.heap H locs) {ls : Array Slot} (hl : lv_has ls 9 [(0, .ref this), (1, .int v1), (2, .int v2), (3, .long v3), (5, .long v5)]) : W p l e { frames := 3, cells := 0, slots := 0, locals := 86 } s m args below meth c H locs 0 0 (MQ below (ob_QL D 1 this (fX3_shift_35 v1 v2 v3 v5 fld)) args s 0 0 (fun q => q = this)) (F0 m 35 ls [.ref this]) := by
  obtain ⟨hx, hb, hml, hown, hts, hr, hlocks⟩ := id C
  rw [fX3_shift_35]
  refine lv_iconst (v := 1) hx hb dX3_shift_35 (by decide) ?_
  exact wX3_shift_36 C this v1 v2 v3 v5 (1 : Int32) fld hK hP hS (lv_sub hl [0, 1, 2, 3, 4] rfl)
set_option maxHeartbeats 4000000 in
set_option maxRecDepth 100000 in
theorem wX3_shift_0 {p : Program} {l : Launch} {e : Env} {s : State} {m : MethodId} {args : Array Value} {below : List Frame} {meth : Method} {c : Code} {D : va_G} (C : px_C p s m args meth c cX3_shift 9 (some .long) RX3 wsX3_shift) (this : Nat) (v1 : Int32) (v2 : Int32) (v3 : Int64) (v5 : Int64) (fld : Int32) (hok : okX3_shift_0 v1 v2 v3 v5 fld) {H : Heap} {locs : List Loc} (hK : va_K D vwCl [] s) (hP : va_P D vwCl [(this, .inr (1, [.int fld]))] H) (hS : va_S (fun q => q = this) s.heap H locs) {ls : Array Slot} (hl : lv_has ls 9 [(0, .ref this), (1, .int v1), (2, .int v2), (3, .long v3), (5, .long v5)]) : W p l e { frames := 3, cells := 0, slots := 0, locals := 86 } s m args below meth c H locs 0 0 (MQ below (ob_QL D 1 this (fX3_shift_0 v1 v2 v3 v5 fld)) args s 0 0 (fun q => q = this)) (F0 m 0 ls []) := by
  obtain ⟨hx, hb, hml, hown, hts, hr, hlocks⟩ := id C
  rw [fX3_shift_0]
  rw [okX3_shift_0] at hok
  refine lv_aload_n hx hb dX3_shift_0 rfl (lv_at hl 0 rfl) ?_
  refine lv_iload_n hx hb dX3_shift_1 rfl (lv_at hl 1 rfl) ?_
  refine lv_bipush (v := 6) hx hb dX3_shift_2 (by decide) ?_
  refine px_icmp_lt (tgt := 35) hx hb dX3_shift_4 (by decide) (fun hc4 => ?_) (fun hc4 => ?_)
  · rw [if_pos hc4]
    have hok := hok.1 hc4
    exact wX3_shift_35 C this v1 v2 v3 v5 fld hK hP hS (lv_sub hl [0, 1, 2, 3, 4] rfl)
  · rw [if_neg hc4]
    have hok := hok.2 hc4
    refine lv_iload_n hx hb dX3_shift_7 rfl (lv_at hl 1 rfl) ?_
    refine lv_bipush (v := 8) hx hb dX3_shift_8 (by decide) ?_
    refine px_icmp_gt (tgt := 35) hx hb dX3_shift_10 (by decide) (fun hc10 => ?_) (fun hc10 => ?_)
    · rw [if_pos hc10]
      have hok := hok.1 hc10
      exact wX3_shift_35 C this v1 v2 v3 v5 fld hK hP hS (lv_sub hl [0, 1, 2, 3, 4] rfl)
    · rw [if_neg hc10]
      have hok := hok.2 hc10
      refine lv_iload_n hx hb dX3_shift_13 rfl (lv_at hl 2 rfl) ?_
      refine lv_iconst (v := 1) hx hb dX3_shift_14 (by decide) ?_
      refine px_icmp_lt (tgt := 35) hx hb dX3_shift_15 (by decide) (fun hc15 => ?_) (fun hc15 => ?_)
      · rw [if_pos hc15]
        have hok := hok.1 hc15
        exact wX3_shift_35 C this v1 v2 v3 v5 fld hK hP hS (lv_sub hl [0, 1, 2, 3, 4] rfl)
      · rw [if_neg hc15]
        have hok := hok.2 hc15
        refine lv_iload_n hx hb dX3_shift_18 rfl (lv_at hl 2 rfl) ?_
        refine lv_iconst (v := 5) hx hb dX3_shift_19 (by decide) ?_
        refine px_icmp_gt (tgt := 35) hx hb dX3_shift_20 (by decide) (fun hc20 => ?_) (fun hc20 => ?_)
        · rw [if_pos hc20]
          have hok := hok.1 hc20
          exact wX3_shift_35 C this v1 v2 v3 v5 fld hK hP hS (lv_sub hl [0, 1, 2, 3, 4] rfl)
        · rw [if_neg hc20]
          have hok := hok.2 hc20
          refine lv_iload_n hx hb dX3_shift_23 rfl (lv_at hl 2 rfl) ?_
          refine lv_lload_n hx hb dX3_shift_24 rfl (lv_at hl 3 rfl) ?_
          obtain ⟨hk, hok⟩ := hok
          refine px_S (As := [.int v2, .long v3]) (rest := [.ref this]) ⟨hx, hb, hml, hown, hts⟩ (kX3_hasBits l v2 v3 hk) (va_cwS 2 hts gX3_shift_X3_hasBits rfl rfl rfl (by decide +kernel) ⟨Nat.le_of_ble_eq_true rfl, Nat.le_of_ble_eq_true rfl⟩) rfl hl.1 rfl (Nat.le_of_ble_eq_true rfl) dX3_shift_25 (Nat.zero_le _) (Nat.zero_le _) ?_
          refine px_if_eq (tgt := 35) hx hb dX3_shift_28 (by decide) (fun hc28 => ?_) (fun hc28 => ?_)
          · rw [if_pos hc28]
            have hok := hok.1 hc28
            exact wX3_shift_35 C this v1 v2 v3 v5 fld hK hP hS (lv_sub hl [0, 1, 2, 3, 4] rfl)
          · rw [if_neg hc28]
            have hok := hok.2 hc28
            refine lv_iconst (v := 0) hx hb dX3_shift_31 (by decide) ?_
            refine lv_goto (tgt := 36) hx hb dX3_shift_32 (by decide) ?_
            exact wX3_shift_36 C this v1 v2 v3 v5 (0 : Int32) fld hK hP hS (lv_sub hl [0, 1, 2, 3, 4] rfl)
set_option maxHeartbeats 4000000 in
set_option maxRecDepth 100000 in
theorem kX3_shift (l : Launch) (D : va_G) (this : Nat) (v1 : Int32) (v2 : Int32) (v3 : Int64) (v5 : Int64) (fld : Int32) (hok : okX3_shift v1 v2 v3 v5 fld) : Met l yX3_shift wsX3_shift ({ frames := 3, cells := 0, slots := 0, locals := 86 }) (ob_P D 1 this fld [.ref this, .int v1, .int v2, .long v3, .long v5]) (ob_QL D 1 this (fX3_shift v1 v2 v3 v5 fld)) 0 0 (fun q => q = this) := by
  refine Met.ofW (cc := cX3_shift) (maxL := 9) (ret := (some .long)) (by decide) rfl ?_
  intro p e s m args below meth c s₁ B hml hv
  obtain ⟨rfl, hP, hK⟩ := hv
  have C : px_C p s m _ meth c cX3_shift 9 (some .long) RX3 wsX3_shift := ⟨B.exec, B.bytes, hml, findClass_of_methodNamed B.named, atoms_spec (ws := wsX3_shift) B.pre, B.returns, B.notSynchronized⟩
  have hl := lv_entry ([.ref this, .int v1, .int v2, .long v3, .long v5]) (n := 9) (Nat.le_of_ble_eq_true rfl)
  rw [lg_entry_eq]
  generalize (lg_sl ([.ref this, .int v1, .int v2, .long v3, .long v5]) ++ List.replicate (9 - (lg_sl ([.ref this, .int v1, .int v2, .long v3, .long v5])).length) Slot.unset).toArray = ls at hl ⊢
  have hl : lv_has ls 9 [(0, .ref this), (1, .int v1), (2, .int v2), (3, .long v3), (5, .long v5)] := hl
  rw [fX3_shift]
  rw [okX3_shift] at hok
  exact wX3_shift_0 C this v1 v2 v3 v5 fld hok hK hP va_S.rf (lv_sub hl [0, 1, 2, 3, 4] rfl)
set_option maxHeartbeats 4000000 in
set_option maxRecDepth 100000 in
theorem wX3_compare_19 {p : Program} {l : Launch} {e : Env} {s : State} {m : MethodId} {args : Array Value} {below : List Frame} {meth : Method} {c : Code} {D : va_G} (C : px_C p s m args meth c cX3_compare 12 (some .int) RX3 wsX3_compare) (this : Nat) (v1 : Int32) (v2 : Int64) (v4 : Int32) (v5 : Int64) (s1 : Int32) (fld : Int32) (hok : okX3_compare_19 v1 v2 v4 v5 s1 fld) {H : Heap} {locs : List Loc} (hK : va_K D vwCl [] s) (hP : va_P D vwCl [(this, .inr (1, [.int fld]))] H) (hS : va_S (fun q => q = this) s.heap H locs) {ls : Array Slot} (hl : lv_has ls 12 [(0, .ref this), (1, .int v1), (2, .long v2), (4, .int v4), (5, .long v5)]) : W p l e { frames := 4, cells := 0, slots := 0, locals := 115 } s m args below meth c H locs 0 0 (MQ below (ob_QI D 1 this (fX3_compare_19 v1 v2 v4 v5 s1 fld)) args s 0 0 (fun q => q = this)) (F0 m 19 ls [.int s1, .ref this]) := by
  obtain ⟨hx, hb, hml, hown, hts, hr, hlocks⟩ := id C
  rw [fX3_compare_19]
  rw [okX3_compare_19] at hok
  refine va_put (D := D) (ci := 1) (v := .int s1) (ty := .int) (C := RX3) (T := TX3) (N := 1) hx hb hts (by decide +kernel) tyX3 tyX3_ok nmX3 hown hK hP (ob_D _ _) hS 0 rfl rfl 0 (by decide) (hts (.fieldLink RX3 7 "KindNumbersModel" "failed" "I") (by decide +kernel)) (fun _ h9 => h9) rfl (by decide +kernel) rfl rfl (Nat.le_of_ble_eq_true rfl) dX3_compare_19 (fun H locs hP _ hS => ?_)
  have hP : va_P D vwCl [(this, .inr (1, [.int s1]))] H := hP
  refine lv_aload_n hx hb dX3_compare_22 rfl (lv_at hl 0 rfl) ?_
  refine va_get (D := D) (ci := 1) (v := .int s1) (C := RX3) (T := TX3) (N := 1) hx hb hts (by decide +kernel) hown hK hP 0 rfl rfl 0 (by decide) (hts (.fieldLink RX3 7 "KindNumbersModel" "failed" "I") (by decide +kernel)) (fun _ h9 => h9) rfl dX3_compare_23 ?_
  refine px_if_le (tgt := 31) hx hb dX3_compare_26 (by decide) (fun hc26 => ?_) (fun hc26 => ?_)
  · rw [if_pos hc26]
    have hok := hok.1 hc26
    refine lv_iconst (v := 2) hx hb dX3_compare_29 (by decide) ?_
    exact W.iret hx hb hr (fun t ht hW => ⟨rfl, by rw [ht]; exact hP, hS.F ht⟩) hS.2.2 dX3_compare_30
  · rw [if_neg hc26]
    have hok := hok.2 hc26
    refine lv_iconst (v := 4) hx hb dX3_compare_31 (by decide) ?_
    refine lv_iload_n hx hb dX3_compare_32 rfl (lv_at hl 1 rfl) ?_
    refine lv_iload hx hb dX3_compare_33 (lv_at hl 3 rfl) ?_
    refine px_mmax hx hb (hml.trans hl.1.symm) hown (hts (.methodLink RX3 106 Lib.Math.max.name) (by decide +kernel)) (hts (.static Lib.Math.max.name) (by decide +kernel)) (hts (.initialized "java/lang/Math") (by decide +kernel)) (hts (.code Lib.Math.max.name Lib.Math.max.code 2 (some .int)) (by decide +kernel)) (Nat.le_of_ble_eq_true rfl) (Nat.le_of_ble_eq_true rfl) (Nat.zero_le _) (Nat.zero_le _) dX3_compare_35 ?_
    refine px_mmax hx hb (hml.trans hl.1.symm) hown (hts (.methodLink RX3 106 Lib.Math.max.name) (by decide +kernel)) (hts (.static Lib.Math.max.name) (by decide +kernel)) (hts (.initialized "java/lang/Math") (by decide +kernel)) (hts (.code Lib.Math.max.name Lib.Math.max.code 2 (some .int)) (by decide +kernel)) (Nat.le_of_ble_eq_true rfl) (Nat.le_of_ble_eq_true rfl) (Nat.zero_le _) (Nat.zero_le _) dX3_compare_38 ?_
    refine lv_topi (fun v7_41 ev7_41 => ?_)
    rw [← ev7_41]
    rw [← ev7_41] at hok
    refine lv_istore (lv' := [(7, .int v7_41), (0, .ref this), (1, .int v1), (2, .long v2), (4, .int v4), (5, .long v5)]) hx hb dX3_compare_41 hl (by decide) rfl (fun ls hl => ?_)
    rw [fX3_compare_43]
    rw [okX3_compare_43] at hok
    refine lv_lload_n hx hb dX3_compare_43 rfl (lv_at hl 3 rfl) ?_
    refine lv_iload_n hx hb dX3_compare_44 rfl (lv_at hl 2 rfl) ?_
    refine lv_iload hx hb dX3_compare_45 (lv_at hl 0 rfl) ?_
    obtain ⟨hk, hok⟩ := hok
    refine px_S (As := [.long v2, .int v1, .int v7_41]) (rest := []) ⟨hx, hb, hml, hown, hts⟩ (kX3_widened l v2 v1 v7_41 hk) (va_cwS 3 hts gX3_compare_X3_widened rfl rfl rfl (by decide +kernel) ⟨Nat.le_of_ble_eq_true rfl, Nat.le_of_ble_eq_true rfl⟩) rfl hl.1 rfl (Nat.le_of_ble_eq_true rfl) dX3_compare_47 (Nat.zero_le _) (Nat.zero_le _) ?_
    refine lv_topl (fun v8_50 ev8_50 => ?_)
    rw [← ev8_50]
    rw [← ev8_50] at hok
    refine lv_lstore (lv' := [(8, .long v8_50), (7, .int v7_41), (0, .ref this), (1, .int v1), (2, .long v2), (4, .int v4), (5, .long v5)]) hx hb dX3_compare_50 hl (by decide) rfl (fun ls hl => ?_)
    rw [fX3_compare_52]
    rw [okX3_compare_52] at hok
    refine lv_lload hx hb dX3_compare_52 (lv_at hl 6 rfl) ?_
    refine lv_iload hx hb dX3_compare_54 (lv_at hl 5 rfl) ?_
    refine lv_iload hx hb dX3_compare_56 (lv_at hl 1 rfl) ?_
    obtain ⟨hk, hok⟩ := hok
    refine px_S (As := [.long v5, .int v4, .int v7_41]) (rest := []) ⟨hx, hb, hml, hown, hts⟩ (kX3_widened l v5 v4 v7_41 hk) (va_cwS 3 hts gX3_compare_X3_widened rfl rfl rfl (by decide +kernel) ⟨Nat.le_of_ble_eq_true rfl, Nat.le_of_ble_eq_true rfl⟩) rfl hl.1 rfl (Nat.le_of_ble_eq_true rfl) dX3_compare_58 (Nat.zero_le _) (Nat.zero_le _) ?_
    refine lv_topl (fun v10_61 ev10_61 => ?_)
    rw [← ev10_61]
    rw [← ev10_61] at hok
    refine lv_lstore (lv' := [(10, .long v10_61), (8, .long v8_50), (7, .int v7_41), (0, .ref this), (1, .int v1), (2, .long v2), (4, .int v4), (5, .long v5)]) hx hb dX3_compare_61 hl (by decide) rfl (fun ls hl => ?_)
    rw [fX3_compare_63]
    rw [okX3_compare_63] at hok
    refine lv_iload hx hb dX3_compare_63 (lv_at hl 2 rfl) ?_
    refine lv_bipush (v := 6) hx hb dX3_compare_65 (by decide) ?_
    refine px_icmp_ge (tgt := 78) hx hb dX3_compare_67 (by decide) (fun hc67 => ?_) (fun hc67 => ?_)
    · rw [if_pos hc67]
      have hok := hok.1 hc67
      refine lv_lload hx hb dX3_compare_70 (lv_at hl 1 rfl) ?_
      refine lv_lload hx hb dX3_compare_72 (lv_at hl 0 rfl) ?_
      refine px_S (As := [.long v8_50, .long v10_61]) (rest := []) ⟨hx, hb, hml, hown, hts⟩ (kJ13_compare_74951 l v8_50 v10_61) (va_cwS 2 hts gX3_compare_J13_compare_74951 rfl rfl rfl (by decide +kernel) ⟨Nat.le_of_ble_eq_true rfl, Nat.le_of_ble_eq_true rfl⟩) rfl hl.1 rfl (Nat.le_of_ble_eq_true rfl) dX3_compare_74 (Nat.zero_le _) (Nat.zero_le _) ?_
      exact W.iret hx hb hr (fun t ht hW => ⟨rfl, by rw [ht]; exact hP, hS.F ht⟩) hS.2.2 dX3_compare_77
    · rw [if_neg hc67]
      have hok := hok.2 hc67
      refine lv_iload hx hb dX3_compare_78 (lv_at hl 2 rfl) ?_
      refine lv_bipush (v := 6) hx hb dX3_compare_80 (by decide) ?_
      refine px_icmp_ne (tgt := 103) hx hb dX3_compare_82 (by decide) (fun hc82 => ?_) (fun hc82 => ?_)
      · rw [if_pos hc82]
        have hok := hok.1 hc82
        refine lv_lload hx hb dX3_compare_85 (lv_at hl 1 rfl) ?_
        refine px_l2i hx hb dX3_compare_87 ?_
        obtain ⟨hk, hok⟩ := hok
        refine px_S (As := [.int (v8_50.toInt32)]) (rest := []) ⟨hx, hb, hml, hown, hts⟩ (kX2_wide l (v8_50.toInt32) hk) (va_cwS 1 hts gX3_compare_X2_wide rfl rfl rfl (by decide +kernel) ⟨Nat.le_of_ble_eq_true rfl, Nat.le_of_ble_eq_true rfl⟩) rfl hl.1 rfl (Nat.le_of_ble_eq_true rfl) dX3_compare_88 (Nat.zero_le _) (Nat.zero_le _) ?_
        refine lv_lload hx hb dX3_compare_91 (lv_at hl 0 rfl) ?_
        refine px_l2i hx hb dX3_compare_93 ?_
        obtain ⟨hk, hok⟩ := hok
        refine px_S (As := [.int (v10_61.toInt32)]) (rest := [.long (fX2_wide (v8_50.toInt32))]) ⟨hx, hb, hml, hown, hts⟩ (kX2_wide l (v10_61.toInt32) hk) (va_cwS 1 hts gX3_compare_X2_wide rfl rfl rfl (by decide +kernel) ⟨Nat.le_of_ble_eq_true rfl, Nat.le_of_ble_eq_true rfl⟩) rfl hl.1 rfl (Nat.le_of_ble_eq_true rfl) dX3_compare_94 (Nat.zero_le _) (Nat.zero_le _) ?_
        refine px_S (As := [.long (fX2_wide (v8_50.toInt32)), .long (fX2_wide (v10_61.toInt32))]) (rest := []) ⟨hx, hb, hml, hown, hts⟩ (kX2_compare l (fX2_wide (v8_50.toInt32)) (fX2_wide (v10_61.toInt32))) (va_cwS 2 hts gX3_compare_X2_compare rfl rfl rfl (by decide +kernel) ⟨Nat.le_of_ble_eq_true rfl, Nat.le_of_ble_eq_true rfl⟩) rfl hl.1 rfl (Nat.le_of_ble_eq_true rfl) dX3_compare_97 (Nat.zero_le _) (Nat.zero_le _) ?_
        refine lv_goto (tgt := 110) hx hb dX3_compare_100 (by decide) ?_
        exact W.iret hx hb hr (fun t ht hW => ⟨rfl, by rw [ht]; exact hP, hS.F ht⟩) hS.2.2 dX3_compare_110
      · rw [if_neg hc82]
        have hok := hok.2 hc82
        refine lv_lload hx hb dX3_compare_103 (lv_at hl 1 rfl) ?_
        refine lv_lload hx hb dX3_compare_105 (lv_at hl 0 rfl) ?_
        refine px_S (As := [.long v8_50, .long v10_61]) (rest := []) ⟨hx, hb, hml, hown, hts⟩ (kX2_compare l v8_50 v10_61) (va_cwS 2 hts gX3_compare_X2_compare rfl rfl rfl (by decide +kernel) ⟨Nat.le_of_ble_eq_true rfl, Nat.le_of_ble_eq_true rfl⟩) rfl hl.1 rfl (Nat.le_of_ble_eq_true rfl) dX3_compare_107 (Nat.zero_le _) (Nat.zero_le _) ?_
        exact W.iret hx hb hr (fun t ht hW => ⟨rfl, by rw [ht]; exact hP, hS.F ht⟩) hS.2.2 dX3_compare_110
set_option maxHeartbeats 4000000 in
set_option maxRecDepth 100000 in
theorem wX3_compare_0 {p : Program} {l : Launch} {e : Env} {s : State} {m : MethodId} {args : Array Value} {below : List Frame} {meth : Method} {c : Code} {D : va_G} (C : px_C p s m args meth c cX3_compare 12 (some .int) RX3 wsX3_compare) (this : Nat) (v1 : Int32) (v2 : Int64) (v4 : Int32) (v5 : Int64) (fld : Int32) (hok : okX3_compare_0 v1 v2 v4 v5 fld) {H : Heap} {locs : List Loc} (hK : va_K D vwCl [] s) (hP : va_P D vwCl [(this, .inr (1, [.int fld]))] H) (hS : va_S (fun q => q = this) s.heap H locs) {ls : Array Slot} (hl : lv_has ls 12 [(0, .ref this), (1, .int v1), (2, .long v2), (4, .int v4), (5, .long v5)]) : W p l e { frames := 4, cells := 0, slots := 0, locals := 115 } s m args below meth c H locs 0 0 (MQ below (ob_QI D 1 this (fX3_compare_0 v1 v2 v4 v5 fld)) args s 0 0 (fun q => q = this)) (F0 m 0 ls []) := by
  obtain ⟨hx, hb, hml, hown, hts, hr, hlocks⟩ := id C
  rw [fX3_compare_0]
  rw [okX3_compare_0] at hok
  refine lv_aload_n hx hb dX3_compare_0 rfl (lv_at hl 0 rfl) ?_
  refine lv_aload_n hx hb dX3_compare_1 rfl (lv_at hl 0 rfl) ?_
  refine lv_iload_n hx hb dX3_compare_2 rfl (lv_at hl 1 rfl) ?_
  refine lv_lload_n hx hb dX3_compare_3 rfl (lv_at hl 2 rfl) ?_
  refine lv_iload hx hb dX3_compare_4 (lv_at hl 3 rfl) ?_
  refine lv_lload hx hb dX3_compare_6 (lv_at hl 4 rfl) ?_
  obtain ⟨hk, hok⟩ := hok
  refine ob_Vi (As := [.int v1, .long v2, .int v4, .long v5]) (rest := [.ref this]) ⟨hx, hb, hml, hown, hts⟩ (kX3_areNumbers l D this v1 v2 v4 v5 fld hk) hK hP hS (ci := 1) rfl (cwV 4 hts gX3_compare_X3_areNumbers rfl rfl rfl (by decide +kernel) ⟨Nat.le_of_ble_eq_true rfl, Nat.le_of_ble_eq_true rfl⟩) rfl hl.1 rfl (Nat.le_of_ble_eq_true rfl) dX3_compare_8 (Nat.zero_le _) (Nat.zero_le _) (fun H locs hP hS => ?_)
  refine px_if_eq (tgt := 18) hx hb dX3_compare_11 (by decide) (fun hc11 => ?_) (fun hc11 => ?_)
  · rw [if_pos hc11]
    have hok := hok.1 hc11
    refine lv_iconst (v := 1) hx hb dX3_compare_18 (by decide) ?_
    exact wX3_compare_19 C this v1 v2 v4 v5 (1 : Int32) ((fX3_areNumbers v1 v2 v4 v5 fld).2) hok hK hP hS (lv_sub hl [0, 1, 2, 3, 4] rfl)
  · rw [if_neg hc11]
    have hok := hok.2 hc11
    refine lv_iconst (v := 0) hx hb dX3_compare_14 (by decide) ?_
    refine lv_goto (tgt := 19) hx hb dX3_compare_15 (by decide) ?_
    exact wX3_compare_19 C this v1 v2 v4 v5 (0 : Int32) ((fX3_areNumbers v1 v2 v4 v5 fld).2) hok hK hP hS (lv_sub hl [0, 1, 2, 3, 4] rfl)
set_option maxHeartbeats 4000000 in
set_option maxRecDepth 100000 in
theorem kX3_compare (l : Launch) (D : va_G) (this : Nat) (v1 : Int32) (v2 : Int64) (v4 : Int32) (v5 : Int64) (fld : Int32) (hok : okX3_compare v1 v2 v4 v5 fld) : Met l yX3_compare wsX3_compare ({ frames := 4, cells := 0, slots := 0, locals := 115 }) (ob_P D 1 this fld [.ref this, .int v1, .long v2, .int v4, .long v5]) (ob_QI D 1 this (fX3_compare v1 v2 v4 v5 fld)) 0 0 (fun q => q = this) := by
  refine Met.ofW (cc := cX3_compare) (maxL := 12) (ret := (some .int)) (by decide) rfl ?_
  intro p e s m args below meth c s₁ B hml hv
  obtain ⟨rfl, hP, hK⟩ := hv
  have C : px_C p s m _ meth c cX3_compare 12 (some .int) RX3 wsX3_compare := ⟨B.exec, B.bytes, hml, findClass_of_methodNamed B.named, atoms_spec (ws := wsX3_compare) B.pre, B.returns, B.notSynchronized⟩
  have hl := lv_entry ([.ref this, .int v1, .long v2, .int v4, .long v5]) (n := 12) (Nat.le_of_ble_eq_true rfl)
  rw [lg_entry_eq]
  generalize (lg_sl ([.ref this, .int v1, .long v2, .int v4, .long v5]) ++ List.replicate (12 - (lg_sl ([.ref this, .int v1, .long v2, .int v4, .long v5])).length) Slot.unset).toArray = ls at hl ⊢
  have hl : lv_has ls 12 [(0, .ref this), (1, .int v1), (2, .long v2), (4, .int v4), (5, .long v5)] := hl
  rw [fX3_compare]
  rw [okX3_compare] at hok
  exact wX3_compare_0 C this v1 v2 v4 v5 fld hok hK hP va_S.rf (lv_sub hl [0, 1, 2, 3, 4] rfl)
set_option maxHeartbeats 4000000 in
set_option maxRecDepth 100000 in
theorem wX3_order_33 {p : Program} {l : Launch} {e : Env} {s : State} {m : MethodId} {args : Array Value} {below : List Frame} {meth : Method} {c : Code} {D : va_G} (C : px_C p s m args meth c cX3_order 6 (some .int) RX3 wsX3_order) (this : Nat) (v1 : Int32) (v2 : Int64) (v4 : Int64) (s1 : Int32) (fld : Int32) (hok : okX3_order_33 v1 v2 v4 s1 fld) {H : Heap} {locs : List Loc} (hK : va_K D vwCl [] s) (hP : va_P D vwCl [(this, .inr (1, [.int fld]))] H) (hS : va_S (fun q => q = this) s.heap H locs) {ls : Array Slot} (hl : lv_has ls 6 [(0, .ref this), (1, .int v1), (2, .long v2), (4, .long v4)]) : W p l e { frames := 3, cells := 0, slots := 0, locals := 88 } s m args below meth c H locs 0 0 (MQ below (ob_QI D 1 this (fX3_order_33 v1 v2 v4 s1 fld)) args s 0 0 (fun q => q = this)) (F0 m 33 ls [.int s1, .ref this]) := by
  obtain ⟨hx, hb, hml, hown, hts, hr, hlocks⟩ := id C
  rw [fX3_order_33]
  rw [okX3_order_33] at hok
  refine va_put (D := D) (ci := 1) (v := .int s1) (ty := .int) (C := RX3) (T := TX3) (N := 1) hx hb hts (by decide +kernel) tyX3 tyX3_ok nmX3 hown hK hP (ob_D _ _) hS 0 rfl rfl 0 (by decide) (hts (.fieldLink RX3 7 "KindNumbersModel" "failed" "I") (by decide +kernel)) (fun _ h9 => h9) rfl (by decide +kernel) rfl rfl (Nat.le_of_ble_eq_true rfl) dX3_order_33 (fun H locs hP _ hS => ?_)
  have hP : va_P D vwCl [(this, .inr (1, [.int s1]))] H := hP
  refine lv_aload_n hx hb dX3_order_36 rfl (lv_at hl 0 rfl) ?_
  refine va_get (D := D) (ci := 1) (v := .int s1) (C := RX3) (T := TX3) (N := 1) hx hb hts (by decide +kernel) hown hK hP 0 rfl rfl 0 (by decide) (hts (.fieldLink RX3 7 "KindNumbersModel" "failed" "I") (by decide +kernel)) (fun _ h9 => h9) rfl dX3_order_37 ?_
  refine px_if_le (tgt := 45) hx hb dX3_order_40 (by decide) (fun hc40 => ?_) (fun hc40 => ?_)
  · rw [if_pos hc40]
    have hok := hok.1 hc40
    refine lv_iconst (v := 2) hx hb dX3_order_43 (by decide) ?_
    exact W.iret hx hb hr (fun t ht hW => ⟨rfl, by rw [ht]; exact hP, hS.F ht⟩) hS.2.2 dX3_order_44
  · rw [if_neg hc40]
    have hok := hok.2 hc40
    refine lv_iload_n hx hb dX3_order_45 rfl (lv_at hl 1 rfl) ?_
    refine lv_lload_n hx hb dX3_order_46 rfl (lv_at hl 2 rfl) ?_
    obtain ⟨hk, hok⟩ := hok
    refine px_S (As := [.int v1, .long v2]) (rest := []) ⟨hx, hb, hml, hown, hts⟩ (kX3_ranked l v1 v2 hk) (va_cwS 2 hts gX3_order_X3_ranked rfl rfl rfl (by decide +kernel) ⟨Nat.le_of_ble_eq_true rfl, Nat.le_of_ble_eq_true rfl⟩) rfl hl.1 rfl (Nat.le_of_ble_eq_true rfl) dX3_order_47 (Nat.zero_le _) (Nat.zero_le _) ?_
    refine lv_iload_n hx hb dX3_order_50 rfl (lv_at hl 1 rfl) ?_
    refine lv_lload hx hb dX3_order_51 (lv_at hl 3 rfl) ?_
    obtain ⟨hk, hok⟩ := hok
    refine px_S (As := [.int v1, .long v4]) (rest := [.long (fX3_ranked v1 v2)]) ⟨hx, hb, hml, hown, hts⟩ (kX3_ranked l v1 v4 hk) (va_cwS 2 hts gX3_order_X3_ranked rfl rfl rfl (by decide +kernel) ⟨Nat.le_of_ble_eq_true rfl, Nat.le_of_ble_eq_true rfl⟩) rfl hl.1 rfl (Nat.le_of_ble_eq_true rfl) dX3_order_53 (Nat.zero_le _) (Nat.zero_le _) ?_
    refine px_S (As := [.long (fX3_ranked v1 v2), .long (fX3_ranked v1 v4)]) (rest := []) ⟨hx, hb, hml, hown, hts⟩ (kJ13_compare_74951 l (fX3_ranked v1 v2) (fX3_ranked v1 v4)) (va_cwS 2 hts gX3_order_J13_compare_74951 rfl rfl rfl (by decide +kernel) ⟨Nat.le_of_ble_eq_true rfl, Nat.le_of_ble_eq_true rfl⟩) rfl hl.1 rfl (Nat.le_of_ble_eq_true rfl) dX3_order_56 (Nat.zero_le _) (Nat.zero_le _) ?_
    exact W.iret hx hb hr (fun t ht hW => ⟨rfl, by rw [ht]; exact hP, hS.F ht⟩) hS.2.2 dX3_order_59
set_option maxHeartbeats 4000000 in
set_option maxRecDepth 100000 in
theorem wX3_order_32 {p : Program} {l : Launch} {e : Env} {s : State} {m : MethodId} {args : Array Value} {below : List Frame} {meth : Method} {c : Code} {D : va_G} (C : px_C p s m args meth c cX3_order 6 (some .int) RX3 wsX3_order) (this : Nat) (v1 : Int32) (v2 : Int64) (v4 : Int64) (fld : Int32) (hok : okX3_order_32 v1 v2 v4 fld) {H : Heap} {locs : List Loc} (hK : va_K D vwCl [] s) (hP : va_P D vwCl [(this, .inr (1, [.int fld]))] H) (hS : va_S (fun q => q = this) s.heap H locs) {ls : Array Slot} (hl : lv_has ls 6 [(0, .ref this), (1, .int v1), (2, .long v2), (4, .long v4)]) : W p l e { frames := 3, cells := 0, slots := 0, locals := 88 } s m args below meth c H locs 0 0 (MQ below (ob_QI D 1 this (fX3_order_32 v1 v2 v4 fld)) args s 0 0 (fun q => q = this)) (F0 m 32 ls [.ref this]) := by
  obtain ⟨hx, hb, hml, hown, hts, hr, hlocks⟩ := id C
  rw [fX3_order_32]
  rw [okX3_order_32] at hok
  refine lv_iconst (v := 1) hx hb dX3_order_32 (by decide) ?_
  exact wX3_order_33 C this v1 v2 v4 (1 : Int32) fld hok hK hP hS (lv_sub hl [0, 1, 2, 3] rfl)
set_option maxHeartbeats 4000000 in
set_option maxRecDepth 100000 in
theorem wX3_order_0 {p : Program} {l : Launch} {e : Env} {s : State} {m : MethodId} {args : Array Value} {below : List Frame} {meth : Method} {c : Code} {D : va_G} (C : px_C p s m args meth c cX3_order 6 (some .int) RX3 wsX3_order) (this : Nat) (v1 : Int32) (v2 : Int64) (v4 : Int64) (fld : Int32) (hok : okX3_order_0 v1 v2 v4 fld) {H : Heap} {locs : List Loc} (hK : va_K D vwCl [] s) (hP : va_P D vwCl [(this, .inr (1, [.int fld]))] H) (hS : va_S (fun q => q = this) s.heap H locs) {ls : Array Slot} (hl : lv_has ls 6 [(0, .ref this), (1, .int v1), (2, .long v2), (4, .long v4)]) : W p l e { frames := 3, cells := 0, slots := 0, locals := 88 } s m args below meth c H locs 0 0 (MQ below (ob_QI D 1 this (fX3_order_0 v1 v2 v4 fld)) args s 0 0 (fun q => q = this)) (F0 m 0 ls []) := by
  obtain ⟨hx, hb, hml, hown, hts, hr, hlocks⟩ := id C
  rw [fX3_order_0]
  rw [okX3_order_0] at hok
  refine lv_aload_n hx hb dX3_order_0 rfl (lv_at hl 0 rfl) ?_
  refine lv_iload_n hx hb dX3_order_1 rfl (lv_at hl 1 rfl) ?_
  refine px_if_lt (tgt := 32) hx hb dX3_order_2 (by decide) (fun hc2 => ?_) (fun hc2 => ?_)
  · rw [if_pos hc2]
    have hok := hok.1 hc2
    exact wX3_order_32 C this v1 v2 v4 fld hok hK hP hS (lv_sub hl [0, 1, 2, 3] rfl)
  · rw [if_neg hc2]
    have hok := hok.2 hc2
    refine lv_iload_n hx hb dX3_order_5 rfl (lv_at hl 1 rfl) ?_
    refine lv_bipush (v := 7) hx hb dX3_order_6 (by decide) ?_
    refine px_icmp_gt (tgt := 32) hx hb dX3_order_8 (by decide) (fun hc8 => ?_) (fun hc8 => ?_)
    · rw [if_pos hc8]
      have hok := hok.1 hc8
      exact wX3_order_32 C this v1 v2 v4 fld hok hK hP hS (lv_sub hl [0, 1, 2, 3] rfl)
    · rw [if_neg hc8]
      have hok := hok.2 hc8
      refine lv_iload_n hx hb dX3_order_11 rfl (lv_at hl 1 rfl) ?_
      refine lv_lload_n hx hb dX3_order_12 rfl (lv_at hl 2 rfl) ?_
      obtain ⟨hk, hok⟩ := hok
      refine px_S (As := [.int v1, .long v2]) (rest := [.ref this]) ⟨hx, hb, hml, hown, hts⟩ (kX3_hasBits l v1 v2 hk) (va_cwS 2 hts gX3_order_X3_hasBits rfl rfl rfl (by decide +kernel) ⟨Nat.le_of_ble_eq_true rfl, Nat.le_of_ble_eq_true rfl⟩) rfl hl.1 rfl (Nat.le_of_ble_eq_true rfl) dX3_order_13 (Nat.zero_le _) (Nat.zero_le _) ?_
      refine px_if_eq (tgt := 32) hx hb dX3_order_16 (by decide) (fun hc16 => ?_) (fun hc16 => ?_)
      · rw [if_pos hc16]
        have hok := hok.1 hc16
        exact wX3_order_32 C this v1 v2 v4 fld hok hK hP hS (lv_sub hl [0, 1, 2, 3] rfl)
      · rw [if_neg hc16]
        have hok := hok.2 hc16
        refine lv_iload_n hx hb dX3_order_19 rfl (lv_at hl 1 rfl) ?_
        refine lv_lload hx hb dX3_order_20 (lv_at hl 3 rfl) ?_
        obtain ⟨hk, hok⟩ := hok
        refine px_S (As := [.int v1, .long v4]) (rest := [.ref this]) ⟨hx, hb, hml, hown, hts⟩ (kX3_hasBits l v1 v4 hk) (va_cwS 2 hts gX3_order_X3_hasBits rfl rfl rfl (by decide +kernel) ⟨Nat.le_of_ble_eq_true rfl, Nat.le_of_ble_eq_true rfl⟩) rfl hl.1 rfl (Nat.le_of_ble_eq_true rfl) dX3_order_22 (Nat.zero_le _) (Nat.zero_le _) ?_
        refine px_if_eq (tgt := 32) hx hb dX3_order_25 (by decide) (fun hc25 => ?_) (fun hc25 => ?_)
        · rw [if_pos hc25]
          have hok := hok.1 hc25
          exact wX3_order_32 C this v1 v2 v4 fld hok hK hP hS (lv_sub hl [0, 1, 2, 3] rfl)
        · rw [if_neg hc25]
          have hok := hok.2 hc25
          refine lv_iconst (v := 0) hx hb dX3_order_28 (by decide) ?_
          refine lv_goto (tgt := 33) hx hb dX3_order_29 (by decide) ?_
          exact wX3_order_33 C this v1 v2 v4 (0 : Int32) fld hok hK hP hS (lv_sub hl [0, 1, 2, 3] rfl)
set_option maxHeartbeats 4000000 in
set_option maxRecDepth 100000 in
theorem kX3_order (l : Launch) (D : va_G) (this : Nat) (v1 : Int32) (v2 : Int64) (v4 : Int64) (fld : Int32) (hok : okX3_order v1 v2 v4 fld) : Met l yX3_order wsX3_order ({ frames := 3, cells := 0, slots := 0, locals := 88 }) (ob_P D 1 this fld [.ref this, .int v1, .long v2, .long v4]) (ob_QI D 1 this (fX3_order v1 v2 v4 fld)) 0 0 (fun q => q = this) := by
  refine Met.ofW (cc := cX3_order) (maxL := 6) (ret := (some .int)) (by decide) rfl ?_
  intro p e s m args below meth c s₁ B hml hv
  obtain ⟨rfl, hP, hK⟩ := hv
  have C : px_C p s m _ meth c cX3_order 6 (some .int) RX3 wsX3_order := ⟨B.exec, B.bytes, hml, findClass_of_methodNamed B.named, atoms_spec (ws := wsX3_order) B.pre, B.returns, B.notSynchronized⟩
  have hl := lv_entry ([.ref this, .int v1, .long v2, .long v4]) (n := 6) (Nat.le_of_ble_eq_true rfl)
  rw [lg_entry_eq]
  generalize (lg_sl ([.ref this, .int v1, .long v2, .long v4]) ++ List.replicate (6 - (lg_sl ([.ref this, .int v1, .long v2, .long v4])).length) Slot.unset).toArray = ls at hl ⊢
  have hl : lv_has ls 6 [(0, .ref this), (1, .int v1), (2, .long v2), (4, .long v4)] := hl
  rw [fX3_order]
  rw [okX3_order] at hok
  exact wX3_order_0 C this v1 v2 v4 fld hok hK hP va_S.rf (lv_sub hl [0, 1, 2, 3] rfl)
