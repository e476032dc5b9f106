def R_law : String := "KindNumbersLaw"
def lw_P (b : Addr) (xs : List Int32) (args : Array Value) (s : State) : Prop := args = #[.ref b] ∧ s.IntsAt b xs ∧ xs.length ≤ 4096 ∧ (Jvm.Cond.and given_1 narrow_1).before args s = true
def lw_Q (_ : Array Value) (s : State) (o : Outcome) (t : State) : Prop := o = .returned (some (.int 1)) ∧ Framed s o t [] 2 2
def lw_Z (below : List Frame) (a : Array Value) (s : State) : State → Prop := fun t => ∃ o, t.status = .running ∧ Ended t below o ∧ lw_Q a s o t
/-- the law's own end, with 1 on the stack, nothing written that was there before, its room as the claim has it -/
theorem lw_ret {p : Program} {l : Launch} {e : Env} {s : State} {m : MethodId} {below : List Frame} {meth : Method} {c : Code} {b : Nat} (hx : p.tables.exec = Jvm.exec) (hb : c.code = code) (hr : meth.sig.returnType = ret) (hlocks : meth.locks = false) {pc : Nat} {H : Heap} {ls : Array Slot} (hdg : decode code pc = .ok (.ireturn, 1)) : W p l e room_1 s m #[Value.ref b] below meth c H [] 2 2 (lw_Z below #[Value.ref b] s) (F0 m pc ls [.int 1]) := by
  intro T hT X
  obtain ⟨fs, hret, hrun, hended, hW, hframe⟩ := X.leave (v := some (.int 1)) (hlocks := hlocks) (fun h => by rw [hr] at h; cases h)
  have hmeth' : T.vm.method? m = some meth := X.method'
  refine ⟨T.setFrames fs, ?_, .returned (some (.int 1)), hrun, hended, rfl, ⟨_, rfl⟩, hW, hframe⟩
  jvm_step X.here [X.here.top, hx, hb, hdg, hmeth', hr, ret, narrow_b1]
  (try refine ⟨rfl, ?_⟩); (try refine ⟨rfl, ?_⟩)
  first | (intro acts; rw [hret _ acts rfl rfl rfl]) | rw [hret _ _ rfl rfl rfl]
  exact Steps.refl _
/-- what holds at the law's entry: the machine, the code, the tables' words (any of lw_tbl by 'hts w (by decide +kernel)'), the script of L ints xs at the cell b, what the Statement gives of the start (any of its parts by flat_of_before) -/
def lw_At (p : Program) (s : State) (m : MethodId) (meth : Method) (c : Code) (b L : Nat) (xs : Nat → Int32) : Prop :=
  p.tables.exec = Jvm.exec ∧ c.code = code ∧ meth.sig.returnType = ret ∧ c.maxLocals = 4 ∧ s.vm.findClass R_law = some m.cls ∧ (∀ w ∈ lw_tbl, w.before #[Value.ref b] s = true) ∧ va_X b L xs s s.heap ∧ b < s.heap.size ∧ meth.locks = false ∧ (Jvm.Cond.and given_1 narrow_1).before #[Value.ref b] s = true
/-! the law: rows for its world of two objects -/
theorem lw_i8 (i : Nat) : nI i + Int32.ofInt 8 = nI (i + 8) := by
  rw [show Int32.ofInt 8 = nI 8 from by decide, nI_add]
theorem ob_keep {D : va_G} {cl : List vw_C} {q1 : Nat} {x : va_E} {H H1 : Heap} (h : va_P D cl [(q1, x)] H) (hk : H1[q1]? = H[q1]?) : va_P D cl [(q1, x)] H1 := by
  intro k q hq
  have e : q.1 = q1 := by
    match k, hq with
    | 0, hq => simp at hq; rw [← hq]
    | k + 1, hq => simp at hq
  exact (h k q hq).kept (by rw [e]; exact hk)
theorem ob_lt {D : va_G} {cl : List vw_C} {q1 : Nat} {x : va_E} {H : Heap} (h : va_P D cl [(q1, x)] H) : q1 < H.size := (h 0 (q1, x) rfl).lt
section OBL
variable {p : Program} {l : Launch} {e : Env} {R : Room} {s : State} {m : MethodId} {args : Array Value} {below : List Frame} {meth : Method} {c : Code} {H : Heap} {locs : List Loc} {cells slots : Nat} {Q : State → Prop}
variable {pc : Nat} {ls : Array Slot} {rest st0 : List Value} {a : Array Value} {D : va_G} {ci this : Nat} {A0 : Nat → Prop} {H0 : Heap}
variable {y : MethodName} {bytes cc : ByteArray} {maxL nL n index : Nat} {ret : Option FieldType} {ws : List Cond} {rm : Room} {Ts : List Cond} {own C : String} {As : List Value} {f : Int32} {T : u_T} {N : Nat}
theorem ob_Ll {r : Int64 × Int32} (S : CallFix p m c cc nL s args Ts own) (hM : Met l y ws rm (ob_P D ci this f (.ref this :: As)) (ob_QL D ci this r) 0 0 (fun q => q = this)) (hK : va_K D vwCl [] s) (hP : va_P D vwCl [(this, .inr (ci, [.int f]))] H) (hA : ∀ q, q = this → A0 q) (hS : va_S A0 H0 H locs) (hci : vwCl[ci]? = some (C, T, N)) (cw : CallW R s args own C index y bytes maxL ret ws rm 0 0 n)
    (hn : As.length = n) (hsize : ls.size = nL) (hstack : st0 = As.reverse ++ .ref this :: rest) (hW : (rest.map fun v => v.category).sum ≤ 8) (hdg : decode cc pc = .ok (.invokevirtual index, 3)) (hc : cells ≤ R.cells) (hs : slots ≤ R.slots)
    (kk : ∀ (H1 : Heap) (locs1 : List Loc), va_P D vwCl [(this, .inr (ci, [.int r.2]))] H1 → va_S A0 H0 H1 locs1 → H.size ≤ H1.size → (∀ q : Nat, q < H.size → ¬ q = this → H1[q]? = H[q]?) → W p l e R s m args below meth c H1 locs1 cells slots Q (F0 m (pc + 3) ls (.long r.1 :: rest))) : W p l e R s m args below meth c H locs cells slots Q (F0 m pc ls st0) :=
  ob_gol (va_runV (g := F0 m pc ls st0) S hM cw ⟨ob_blind D ci this f _, va_recv hK hP hci (q0 := 0) rfl, fun U hU hw => ⟨rfl, by rw [hU]; exact hP, va_K.moved hw.alike hK⟩⟩ rfl hn hsize hstack (lv_room hW) hdg ⟨hc, hs⟩) hA hS kk
theorem ob_Li {r : Int32 × Int32} (S : CallFix p m c cc nL s args Ts own) (hM : Met l y ws rm (ob_P D ci this f (.ref this :: As)) (ob_QI D ci this r) 0 0 (fun q => q = this)) (hK : va_K D vwCl [] s) (hP : va_P D vwCl [(this, .inr (ci, [.int f]))] H) (hA : ∀ q, q = this → A0 q) (hS : va_S A0 H0 H locs) (hci : vwCl[ci]? = some (C, T, N)) (cw : CallW R s args own C index y bytes maxL ret ws rm 0 0 n)
    (hn : As.length = n) (hsize : ls.size = nL) (hstack : st0 = As.reverse ++ .ref this :: rest) (hW : (rest.map fun v => v.category).sum ≤ 8) (hdg : decode cc pc = .ok (.invokevirtual index, 3)) (hc : cells ≤ R.cells) (hs : slots ≤ R.slots)
    (kk : ∀ (H1 : Heap) (locs1 : List Loc), va_P D vwCl [(this, .inr (ci, [.int r.2]))] H1 → va_S A0 H0 H1 locs1 → H.size ≤ H1.size → (∀ q : Nat, q < H.size → ¬ q = this → H1[q]? = H[q]?) → W p l e R s m args below meth c H1 locs1 cells slots Q (F0 m (pc + 3) ls (.int r.1 :: rest))) : W p l e R s m args below meth c H locs cells slots Q (F0 m pc ls st0) :=
  ob_goi (va_runV (g := F0 m pc ls st0) S hM cw ⟨ob_blind D ci this f _, va_recv hK hP hci (q0 := 0) rfl, fun U hU hw => ⟨rfl, by rw [hU]; exact hP, va_K.moved hw.alike hK⟩⟩ rfl hn hsize hstack (lv_room hW) hdg ⟨hc, hs⟩) hA hS kk
theorem ob_LNl {r : Int64 × Int32} (S : CallFix p m c cc nL s args Ts own) (hM : Met l y ws rm (ob_PN D ci this f (.ref this :: As)) (ob_QL D ci this r) 0 0 (fun q => q = this)) (hN : nx_N s) (hK : va_K D vwCl [] s) (hP : va_P D vwCl [(this, .inr (ci, [.int f]))] H) (hA : ∀ q, q = this → A0 q) (hS : va_S A0 H0 H locs) (hci : vwCl[ci]? = some (C, T, N)) (cw : CallW R s args own C index y bytes maxL ret ws rm 0 0 n)
    (hn : As.length = n) (hsize : ls.size = nL) (hstack : st0 = As.reverse ++ .ref this :: rest) (hW : (rest.map fun v => v.category).sum ≤ 8) (hdg : decode cc pc = .ok (.invokevirtual index, 3)) (hc : cells ≤ R.cells) (hs : slots ≤ R.slots)
    (kk : ∀ (H1 : Heap) (locs1 : List Loc), va_P D vwCl [(this, .inr (ci, [.int r.2]))] H1 → va_S A0 H0 H1 locs1 → H.size ≤ H1.size → (∀ q : Nat, q < H.size → ¬ q = this → H1[q]? = H[q]?) → W p l e R s m args below meth c H1 locs1 cells slots Q (F0 m (pc + 3) ls (.long r.1 :: rest))) : W p l e R s m args below meth c H locs cells slots Q (F0 m pc ls st0) :=
  ob_gol (va_runV (g := F0 m pc ls st0) S hM cw ⟨ob_blindN D ci this f _, va_recv hK hP hci (q0 := 0) rfl, fun U hU hw => ⟨rfl, by rw [hU]; exact hP, va_K.moved hw.alike hK, hN.warm hw⟩⟩ rfl hn hsize hstack (lv_room hW) hdg ⟨hc, hs⟩) hA hS kk
theorem ob_LI {r : Int32} (S : CallFix p m c cc nL s args Ts own) (hM : Met l y ws rm (ob_P D ci this f [.ref this]) (ob_QU D ci this r) 0 0 (fun q => q = this)) (hK : va_K D vwCl [] s) (hP : va_P D vwCl [(this, .inr (ci, [.int f]))] H) (hA : ∀ q, q = this → A0 q) (hS : va_S A0 H0 H locs) (cw : CallB R s args own index y bytes maxL none ws rm 0 0 0 ∧ y.name = "<init>" ∧ (Cond.instanceMethod y).before args s = true)
    (hsize : ls.size = nL) (hstack : st0 = .ref this :: rest) (hW : (rest.map fun v => v.category).sum ≤ 8) (hdg : decode cc pc = .ok (.invokespecial index, 3)) (hc : cells ≤ R.cells) (hs : slots ≤ R.slots)
    (kk : ∀ (H1 : Heap) (locs1 : List Loc), va_P D vwCl [(this, .inr (ci, [.int r]))] H1 → va_S A0 H0 H1 locs1 → H.size ≤ H1.size → (∀ q : Nat, q < H.size → ¬ q = this → H1[q]? = H[q]?) → W p l e R s m args below meth c H1 locs1 cells slots Q (F0 m (pc + 3) ls rest)) : W p l e R s m args below meth c H locs cells slots Q (F0 m pc ls st0) :=
  ob_gou (va_runI (g := F0 m pc ls st0) (As := []) S hM cw ⟨ob_blind D ci this f _, fun U hU hw => ⟨rfl, by rw [hU]; exact hP, va_K.moved hw.alike hK⟩⟩ rfl rfl hsize hstack (lv_room hW) hdg ⟨hc, hs⟩) hA hS kk
end OBL
