theorem px_z {v : Int32} (h : v = 0 ∨ v = 1) : narrow .boolean (.int v) = .int v := by
  rcases h with rfl | rfl <;> decide
/-- the links to a nest mate's private methods -/
def nx_N (U : State) : Prop := va_Nw (.methodLinkNest RX3 75 yX2_significand RX3) U ∧ va_Nw (.methodLinkNest RX3 78 yX2_exponent RX3) U ∧ va_Nw (.methodLinkNest RX3 83 yX2_made RX3) U
theorem nx_N.warm {s U : State} (hW : s.WarmedH U.vm) (h : nx_N s) : nx_N U := ⟨va_Nw.warmM hW h.1, va_Nw.warmM hW h.2.1, va_Nw.warmM hW h.2.2⟩
theorem nx_N.same {u U : State} (e : u.vm = U.vm) (h : nx_N u) : nx_N U := ⟨va_Nw.same rfl e h.1, va_Nw.same rfl e h.2.1, va_Nw.same rfl e h.2.2⟩
def px_PN (av : List Value) : Array Value → State → Prop := fun v U => v = av.toArray ∧ nx_N U
theorem px_blindN (av : List Value) : FrameBlind (px_PN av) := fun _ _ _ _ h => ⟨h.1, nx_N.same rfl h.2⟩
abbrev px_MN (l : Launch) (y : MethodName) (ws : List Cond) (rm : Room) (av : List Value) (r : Value) : Prop := Met l y ws rm (px_PN av) (px_Q r) 0 0 (fun _ => False)
/-- an object of one int field: a method's start, and its end -/
def ob_P (D : va_G) (ci : Nat) (this : Nat) (f : Int32) (av : List Value) : Array Value → State → Prop := fun v U => v = av.toArray ∧ va_P D vwCl [(this, .inr (ci, [.int f]))] U.heap ∧ va_K D vwCl [] U
def ob_PN (D : va_G) (ci : Nat) (this : Nat) (f : Int32) (av : List Value) : Array Value → State → Prop := fun v U => v = av.toArray ∧ va_P D vwCl [(this, .inr (ci, [.int f]))] U.heap ∧ va_K D vwCl [] U ∧ nx_N U
theorem ob_blind (D : va_G) (ci this : Nat) (f : Int32) (av : List Value) : FrameBlind (ob_P D ci this f av) := fun a U g mk h => ⟨h.1, h.2.1, va_K.moved (u := U) (U := U.calling g mk a) (Vm.Alike.refl U.vm) h.2.2⟩
theorem ob_blindN (D : va_G) (ci this : Nat) (f : Int32) (av : List Value) : FrameBlind (ob_PN D ci this f av) := fun a U g mk h => ⟨h.1, h.2.1, va_K.moved (u := U) (U := U.calling g mk a) (Vm.Alike.refl U.vm) h.2.2.1, nx_N.same rfl h.2.2.2⟩
def ob_QL (D : va_G) (ci this : Nat) (r : Int64 × Int32) : Array Value → State → Outcome → State → Prop := fun _ st o t => o = .returned (some (.long r.1)) ∧ va_P D vwCl [(this, .inr (ci, [.int r.2]))] t.heap ∧ va_F (fun q => q = this) st t
def ob_QI (D : va_G) (ci this : Nat) (r : Int32 × Int32) : Array Value → State → Outcome → State → Prop := fun _ st o t => o = .returned (some (.int r.1)) ∧ va_P D vwCl [(this, .inr (ci, [.int r.2]))] t.heap ∧ va_F (fun q => q = this) st t
def ob_QU (D : va_G) (ci this : Nat) (r : Int32) : Array Value → State → Outcome → State → Prop := fun _ st o t => o = .returned none ∧ va_P D vwCl [(this, .inr (ci, [.int r]))] t.heap ∧ va_F (fun q => q = this) st t
theorem ob_D (this : Nat) (x : va_E) : va_D (fun q => q = this) [(this, x)] := by
  refine ⟨fun i j p q hi hj _ => ?_, fun k q hk => ?_⟩
  · match i, j, hi, hj with
    | 0, 0, _, _ => rfl
    | 0, j + 1, _, hj => simp at hj
    | i + 1, _, hi, _ => simp at hi
  · match k, hk with
    | 0, hk => simp at hk; rw [← hk]
    | k + 1, hk => simp at hk
section OBC
variable {p : Program} {l : Launch} {e : Env} {R : Room} {s : State} {m : MethodId} {args : Array Value} {below : List Frame} {meth : Method} {c : Code} {H : Heap} {locs : List Loc} {cells slots : Nat} {Q : State → Prop}
variable {pc : Nat} {ls : Array Slot} {rest st0 : List Value} {a : Array Value} {D : va_G} {ci this : Nat} {A0 : Nat → Prop} {H0 : Heap}
theorem ob_gol {r : Int64 × Int32} (hr : va_Run p l e R s m args below meth c H locs cells slots 0 0 (F0 m pc ls st0) rest (ob_QL D ci this r a) (fun q => q = this)) (hA : ∀ q, q = this → A0 q) (hS : va_S A0 H0 H locs)
    (kk : ∀ (H1 : Heap) (locs1 : List Loc), va_P D vwCl [(this, .inr (ci, [.int r.2]))] H1 → va_S A0 H0 H1 locs1 → H.size ≤ H1.size → (∀ q : Nat, q < H.size → ¬ q = this → H1[q]? = H[q]?) → W p l e R s m args below meth c H1 locs1 cells slots Q (F0 m (pc + 3) ls (.long r.1 :: rest))) : W p l e R s m args below meth c H locs cells slots Q (F0 m pc ls st0) := by
  intro T hT X
  obtain ⟨v, st₀, t, T', L, h0, X', hL, e1, e2, ⟨hv, hp, hz, hk⟩, st⟩ := hr T hT X
  cases hv
  rw [h0] at hz hk
  obtain ⟨t2, a1, b1⟩ := kk T'.heap (locs ++ L) (by rw [e1]; exact hp) ⟨Nat.le_trans hS.1 (by rw [e1]; exact hz), fun q h1 h2 => by rw [e1, hk q (Nat.lt_of_lt_of_le h1 hS.1) (fun z => h2 (hA q z))]; exact hS.2.1 q h1 h2, fun q hq => by
      rcases List.mem_append.mp hq with h | h
      · exact hS.2.2 q h
      · exact hA _ (hL q h)⟩ (by rw [e1]; exact hz) (fun q h1 h2 => by rw [e1]; exact hk q h1 h2) T' rfl X'
  exact ⟨t2, st t2 a1, b1⟩
theorem ob_goi {r : Int32 × Int32} (hr : va_Run p l e R s m args below meth c H locs cells slots 0 0 (F0 m pc ls st0) rest (ob_QI D ci this r a) (fun q => q = this)) (hA : ∀ q, q = this → A0 q) (hS : va_S A0 H0 H locs)
    (kk : ∀ (H1 : Heap) (locs1 : List Loc), va_P D vwCl [(this, .inr (ci, [.int r.2]))] H1 → va_S A0 H0 H1 locs1 → H.size ≤ H1.size → (∀ q : Nat, q < H.size → ¬ q = this → H1[q]? = H[q]?) → W p l e R s m args below meth c H1 locs1 cells slots Q (F0 m (pc + 3) ls (.int r.1 :: rest))) : W p l e R s m args below meth c H locs cells slots Q (F0 m pc ls st0) := by
  intro T hT X
  obtain ⟨v, st₀, t, T', L, h0, X', hL, e1, e2, ⟨hv, hp, hz, hk⟩, st⟩ := hr T hT X
  cases hv
  rw [h0] at hz hk
  obtain ⟨t2, a1, b1⟩ := kk T'.heap (locs ++ L) (by rw [e1]; exact hp) ⟨Nat.le_trans hS.1 (by rw [e1]; exact hz), fun q h1 h2 => by rw [e1, hk q (Nat.lt_of_lt_of_le h1 hS.1) (fun z => h2 (hA q z))]; exact hS.2.1 q h1 h2, fun q hq => by
      rcases List.mem_append.mp hq with h | h
      · exact hS.2.2 q h
      · exact hA _ (hL q h)⟩ (by rw [e1]; exact hz) (fun q h1 h2 => by rw [e1]; exact hk q h1 h2) T' rfl X'
  exact ⟨t2, st t2 a1, b1⟩
theorem ob_gou {r : Int32} (hr : va_Run p l e R s m args below meth c H locs cells slots 0 0 (F0 m pc ls st0) rest (ob_QU D ci this r a) (fun q => q = this)) (hA : ∀ q, q = this → A0 q) (hS : va_S A0 H0 H locs)
    (kk : ∀ (H1 : Heap) (locs1 : List Loc), va_P D vwCl [(this, .inr (ci, [.int r]))] H1 → va_S A0 H0 H1 locs1 → H.size ≤ H1.size → (∀ q : Nat, q < H.size → ¬ q = this → H1[q]? = H[q]?) → W p l e R s m args below meth c H1 locs1 cells slots Q (F0 m (pc + 3) ls rest)) : W p l e R s m args below meth c H locs cells slots Q (F0 m pc ls st0) := by
  intro T hT X
  obtain ⟨v, st₀, t, T', L, h0, X', hL, e1, e2, ⟨hv, hp, hz, hk⟩, st⟩ := hr T hT X
  cases hv
  rw [h0] at hz hk
  obtain ⟨t2, a1, b1⟩ := kk T'.heap (locs ++ L) (by rw [e1]; exact hp) ⟨Nat.le_trans hS.1 (by rw [e1]; exact hz), fun q h1 h2 => by rw [e1, hk q (Nat.lt_of_lt_of_le h1 hS.1) (fun z => h2 (hA q z))]; exact hS.2.1 q h1 h2, fun q hq => by
      rcases List.mem_append.mp hq with h | h
      · exact hS.2.2 q h
      · exact hA _ (hL q h)⟩ (by rw [e1]; exact hz) (fun q h1 h2 => by rw [e1]; exact hk q h1 h2) T' rfl X'
  exact ⟨t2, st t2 a1, b1⟩
variable {y : MethodName} {bytes cc : ByteArray} {maxL nL n index : Nat} {ret : Option FieldType} {ws : List Cond} {rm : Room} {Ts : List Cond} {own C : String} {As : List Value} {r : Value} {f : Int32} {T : u_T} {N : Nat}
theorem px_SN (S : CallFix p m c cc nL s args Ts own) (hM : px_MN l y ws rm As r) (hN : nx_N s) (cw : CallB R s args own index y bytes maxL ret ws rm 0 0 n ∧ (Cond.static y).before args s = true)
    (hn : As.length = n) (hsize : ls.size = nL) (hstack : st0 = As.reverse ++ rest) (hW : (rest.map fun v => v.category).sum ≤ 8) (hdg : decode cc pc = .ok (.invokestatic index, 3)) (hc : cells ≤ R.cells) (hs : slots ≤ R.slots)
    (kk : W p l e R s m args below meth c H locs cells slots Q (F0 m (pc + 3) ls (r :: rest))) : W p l e R s m args below meth c H locs cells slots Q (F0 m pc ls st0) :=
  px_go (va_runS (g := F0 m pc ls st0) S hM cw ⟨px_blindN As, fun _ _ hw => ⟨rfl, hN.warm hw⟩⟩ rfl hn hsize hstack (lv_room hW) hdg ⟨hc, hs⟩) kk
theorem ob_Vl {r : Int64 × Int32} (S : CallFix p m c cc nL s args Ts own) (hM : Met l y ws rm (ob_P D ci this f (.ref this :: As)) (ob_QL D ci this r) 0 0 (fun q => q = this)) (hK : va_K D vwCl [] s) (hP : va_P D vwCl [(this, .inr (ci, [.int f]))] H) (hS : va_S (fun q => q = this) H0 H locs) (hci : vwCl[ci]? = some (C, T, N)) (cw : CallW R s args own C index y bytes maxL ret ws rm 0 0 n)
    (hn : As.length = n) (hsize : ls.size = nL) (hstack : st0 = As.reverse ++ .ref this :: rest) (hW : (rest.map fun v => v.category).sum ≤ 8) (hdg : decode cc pc = .ok (.invokevirtual index, 3)) (hc : cells ≤ R.cells) (hs : slots ≤ R.slots)
    (kk : ∀ (H1 : Heap) (locs1 : List Loc), va_P D vwCl [(this, .inr (ci, [.int r.2]))] H1 → va_S (fun q => q = this) H0 H1 locs1 → W p l e R s m args below meth c H1 locs1 cells slots Q (F0 m (pc + 3) ls (.long r.1 :: rest))) : W p l e R s m args below meth c H locs cells slots Q (F0 m pc ls st0) :=
  ob_gol (va_runV (g := F0 m pc ls st0) S hM cw ⟨ob_blind D ci this f _, va_recv hK hP hci (q0 := 0) rfl, fun U hU hw => ⟨rfl, by rw [hU]; exact hP, va_K.moved hw.alike hK⟩⟩ rfl hn hsize hstack (lv_room hW) hdg ⟨hc, hs⟩) (fun _ h => h) hS (fun H1 locs1 h1 h2 _ _ => kk H1 locs1 h1 h2)
theorem ob_Vi {r : Int32 × Int32} (S : CallFix p m c cc nL s args Ts own) (hM : Met l y ws rm (ob_P D ci this f (.ref this :: As)) (ob_QI D ci this r) 0 0 (fun q => q = this)) (hK : va_K D vwCl [] s) (hP : va_P D vwCl [(this, .inr (ci, [.int f]))] H) (hS : va_S (fun q => q = this) H0 H locs) (hci : vwCl[ci]? = some (C, T, N)) (cw : CallW R s args own C index y bytes maxL ret ws rm 0 0 n)
    (hn : As.length = n) (hsize : ls.size = nL) (hstack : st0 = As.reverse ++ .ref this :: rest) (hW : (rest.map fun v => v.category).sum ≤ 8) (hdg : decode cc pc = .ok (.invokevirtual index, 3)) (hc : cells ≤ R.cells) (hs : slots ≤ R.slots)
    (kk : ∀ (H1 : Heap) (locs1 : List Loc), va_P D vwCl [(this, .inr (ci, [.int r.2]))] H1 → va_S (fun q => q = this) H0 H1 locs1 → W p l e R s m args below meth c H1 locs1 cells slots Q (F0 m (pc + 3) ls (.int r.1 :: rest))) : W p l e R s m args below meth c H locs cells slots Q (F0 m pc ls st0) :=
  ob_goi (va_runV (g := F0 m pc ls st0) S hM cw ⟨ob_blind D ci this f _, va_recv hK hP hci (q0 := 0) rfl, fun U hU hw => ⟨rfl, by rw [hU]; exact hP, va_K.moved hw.alike hK⟩⟩ rfl hn hsize hstack (lv_room hW) hdg ⟨hc, hs⟩) (fun _ h => h) hS (fun H1 locs1 h1 h2 _ _ => kk H1 locs1 h1 h2)
theorem ob_VNl {r : Int64 × Int32} (S : CallFix p m c cc nL s args Ts own) (hM : Met l y ws rm (ob_PN D ci this f (.ref this :: As)) (ob_QL D ci this r) 0 0 (fun q => q = this)) (hN : nx_N s) (hK : va_K D vwCl [] s) (hP : va_P D vwCl [(this, .inr (ci, [.int f]))] H) (hS : va_S (fun q => q = this) H0 H locs) (hci : vwCl[ci]? = some (C, T, N)) (cw : CallW R s args own C index y bytes maxL ret ws rm 0 0 n)
    (hn : As.length = n) (hsize : ls.size = nL) (hstack : st0 = As.reverse ++ .ref this :: rest) (hW : (rest.map fun v => v.category).sum ≤ 8) (hdg : decode cc pc = .ok (.invokevirtual index, 3)) (hc : cells ≤ R.cells) (hs : slots ≤ R.slots)
    (kk : ∀ (H1 : Heap) (locs1 : List Loc), va_P D vwCl [(this, .inr (ci, [.int r.2]))] H1 → va_S (fun q => q = this) H0 H1 locs1 → W p l e R s m args below meth c H1 locs1 cells slots Q (F0 m (pc + 3) ls (.long r.1 :: rest))) : W p l e R s m args below meth c H locs cells slots Q (F0 m pc ls st0) :=
  ob_gol (va_runV (g := F0 m pc ls st0) S hM cw ⟨ob_blindN D ci this f _, va_recv hK hP hci (q0 := 0) rfl, fun U hU hw => ⟨rfl, by rw [hU]; exact hP, va_K.moved hw.alike hK, hN.warm hw⟩⟩ rfl hn hsize hstack (lv_room hW) hdg ⟨hc, hs⟩) (fun _ h => h) hS (fun H1 locs1 h1 h2 _ _ => kk H1 locs1 h1 h2)
end OBC
