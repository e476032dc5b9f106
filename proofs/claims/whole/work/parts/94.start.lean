theorem ob_DA {A : Nat → Prop} (q0 : Nat) (x : va_E) (h : A q0) : va_D A [(q0, x)] := by
  refine ⟨fun i j p q hi hj _ => ?_, fun k q hk => ?_⟩
  · match i, j, hi, hj with
    | 0, 0, _, _ => rfl
    | 0, j + 1, _, hj => simp at hj
    | i + 1, _, hi, _ => simp at hi
  · match k, hk with
    | 0, hk => simp at hk; rw [← hk]; exact h
    | k + 1, hk => simp at hk
set_option maxHeartbeats 4000000 in
set_option maxRecDepth 100000 in
theorem whole_start {p : Program} {e : Env} {s : State} {m : MethodId} {below : List Frame} {meth : Method} {c : Code} (l : Launch) {b L : Nat} {xs : Nat → Int32} (hL : L ≤ 4096) (C0 : lw_At p s m meth c b L xs) : W p l e room_1 s m #[Value.ref b] below meth c s.heap [] 0 0 (lw_Z below #[Value.ref b] s) (entryFrame m ([Value.ref b] : List Value).toArray 4) := by
  obtain ⟨hx, hb, hr, hml, hown, hts, hX, hbl, hlocks, hgv⟩ := id C0
  have hts2 : ∀ w ∈ wsL_law, w.before #[Value.ref b] s = true := fun w h => hts w (wsL_law_in w h)
  have hA : ∀ q : Nat, s.heap.size ≤ q → (fun q : Nat => s.heap.size ≤ q) q := fun _ h => h
  obtain ⟨c0, iS0, hKn0⟩ := u_known (C := RX1) (T := TX1) (N := 1) (n := 1) hts inX1 (hts (.instantiable RX1 1) (by decide +kernel))
  obtain ⟨c1, iS1, hKn1⟩ := u_known (C := RX3) (T := TX3) (N := 1) (n := 1) hts inX3 (hts (.instantiable RX3 1) (by decide +kernel))
  obtain ⟨D, hKc⟩ : ∃ (D : va_G), ∀ (k : Nat) (q : vw_C), vwCl[k]? = some q → u_Kn s q.1 q.2.1 q.2.2 (D.1 k) (D.2 k) := by
    refine ⟨(fun k => if k = 0 then c0 else c1, fun k => if k = 0 then iS0 else iS1), ?_⟩
    intro k q hq
    match k, hq with
    | 0, hq => cases hq; exact hKn0
    | 1, hq => cases hq; exact hKn1
    | k + 2, hq => simp [vwCl] at hq
  have hS : va_S (fun q : Nat => s.heap.size ≤ q) s.heap s.heap [] := va_S.rf
  have hK : va_K D vwCl [] s := ⟨hKc, fun k q h => by simp at h⟩
  have hP : va_P D vwCl [] s.heap := fun k q h => by simp at h
  have hD : va_D (fun q : Nat => s.heap.size ≤ q) [] := ⟨fun i j p q h => by simp at h, fun k q h => by simp at h⟩
  have hl := lv_entry ([.ref b]) (n := 4) (Nat.le_of_ble_eq_true rfl)
  rw [lg_entry_eq]
  generalize (lg_sl ([.ref b]) ++ List.replicate (4 - (lg_sl ([.ref b])).length) Slot.unset).toArray = ls at hl ⊢
  have hl : lv_has ls 4 [(0, .ref b)] := hl
  refine va_new (ci := 0) (fs := [.int 0]) (C := RX1) (T := TX1) (N := 1) hx hb hts inX1 tyX1 tyX1_ok hown (hts2 (.classLink RL 7 RX1) (by decide +kernel)) (hts2 (.instantiable RX1 1) (by decide +kernel)) (hts2 (.initialized RX1) (by decide +kernel)) hK hP hD hS hA rfl (fun j hj => by rcases (show j = 0 by omega) with rfl <;> rfl) (Nat.le_of_ble_eq_true rfl) (Nat.le_of_ble_eq_true rfl) dL_law_0 (fun q0 H hP hD hS => ?_)
  have hP : va_P D vwCl [(q0, .inr (0, [.int 0]))] H := hP
  have hA0 : ∀ q, q = q0 → s.heap.size ≤ q := fun q h => by rw [h]; exact hD.2 0 (q0, .inr (0, [.int 0])) rfl
  refine W.widen (k := 1) (n := 1) (by omega) (by omega) ?_
  refine lv_dup hx hb dL_law_3 rfl ?_
  refine ob_LI ⟨hx, hb, hml, hown, hts2⟩ (kX1_init l D q0 0) hK hP hA0 hS (cwI 0 hts2 gL_law_X1_init rfl rfl rfl (hts2 (.initialized RX1) (by decide +kernel)) (hts2 (.methodLink RL 9 yX1_init) (by decide +kernel)) (hts2 (.instanceMethod yX1_init) (by decide +kernel)) rfl (by decide +kernel) ⟨Nat.le_of_ble_eq_true rfl, Nat.le_of_ble_eq_true rfl⟩) hl.1 rfl (Nat.le_of_ble_eq_true rfl) dL_law_4 (Nat.le_of_ble_eq_true rfl) (Nat.le_of_ble_eq_true rfl) (fun H locs hP hS hz hk => ?_)
  have hP : va_P D vwCl [(q0, .inr (0, [.int 0]))] H := hP
  have hD := ob_DA (A := fun q : Nat => s.heap.size ≤ q) q0 (.inr (0, [.int 0])) (hA0 q0 rfl)
  refine lv_astore_n (lv' := [(1, .ref q0), (0, .ref b)]) hx hb dL_law_7 rfl hl (by decide) rfl (fun ls hl => ?_)
  refine va_new (ci := 1) (fs := [.int 0]) (C := RX3) (T := TX3) (N := 1) hx hb hts inX3 tyX3 tyX3_ok hown (hts2 (.classLink RL 10 RX3) (by decide +kernel)) (hts2 (.instantiable RX3 1) (by decide +kernel)) (hts2 (.initialized RX3) (by decide +kernel)) hK hP hD hS hA rfl (fun j hj => by rcases (show j = 0 by omega) with rfl <;> rfl) (Nat.le_of_ble_eq_true rfl) (Nat.le_of_ble_eq_true rfl) dL_law_8 (fun q1 H hP hD hS => ?_)
  have hP : va_P D vwCl [(q0, .inr (0, [.int 0])), (q1, .inr (1, [.int 0]))] H := hP
  have hD : va_D (fun q : Nat => s.heap.size ≤ q) [(q0, .inr (0, [.int 0])), (q1, .inr (1, [.int 0]))] := hD
  have hne : ¬ q0 = q1 := fun h => absurd (hD.1 0 1 _ _ rfl rfl h) (by decide)
  have hA1 : ∀ q, q = q1 → s.heap.size ≤ q := fun q h => by rw [h]; exact hD.2 1 (q1, .inr (1, [.int 0])) rfl
  have hP1 : va_P D vwCl [(q0, .inr (0, [.int 0]))] H := hP.sub [0] rfl
  have hP2 : va_P D vwCl [(q1, .inr (1, [.int 0]))] H := hP.sub [1] rfl
  refine W.widen (k := 2) (n := 2) (by omega) (by omega) ?_
  refine lv_dup hx hb dL_law_11 rfl ?_
  refine ob_LI ⟨hx, hb, hml, hown, hts2⟩ (kX3_init l D q1 0) hK hP2 hA1 hS (cwI 0 hts2 gL_law_X3_init rfl rfl rfl (hts2 (.initialized RX3) (by decide +kernel)) (hts2 (.methodLink RL 12 yX3_init) (by decide +kernel)) (hts2 (.instanceMethod yX3_init) (by decide +kernel)) rfl (by decide +kernel) ⟨Nat.le_of_ble_eq_true rfl, Nat.le_of_ble_eq_true rfl⟩) hl.1 rfl (Nat.le_of_ble_eq_true rfl) dL_law_12 (Nat.le_of_ble_eq_true rfl) (Nat.le_of_ble_eq_true rfl) (fun H locs hP2 hS hz hk => ?_)
  have hP1 := ob_keep hP1 (hk _ (ob_lt hP1) hne)
  have hP2 : va_P D vwCl [(q1, .inr (1, [.int 0]))] H := hP2
  refine lv_astore_n (lv' := [(2, .ref q1), (1, .ref q0), (0, .ref b)]) hx hb dL_law_15 rfl hl (by decide) rfl (fun ls hl => ?_)
  refine lv_iconst (v := 0) hx hb dL_law_16 (by decide) ?_
  refine lv_istore_n (lv' := [(3, .int (nI 0)), (2, .ref q1), (1, .ref q0), (0, .ref b)]) hx hb dL_law_17 rfl hl (by decide) rfl (fun ls hl => ?_)
  exact law_loop hL C0 hK q0 q1 hne hA0 hA1 (L + 1) 0 (by omega) (by omega) 0 H _ hP1 hP2 hS ls (lv_sub hl [3, 2, 1, 0] rfl)
