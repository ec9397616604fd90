/-! THE CLASS'S CALLS, one by one: questions -/
def KC (c : Cf) (X : Mem) : Prop := GC c ∧ XC c X
/-- it answers v, and nothing that a call shows has changed -/
def QI {β : Type} (c : Cf) (v : β) (o : Option (β × Mem)) : Prop := ∃ X', o = some (v, X') ∧ KC c X'
def QT (c : Cf) (v : Int32) (o : Option ((Int32 ⊕ Nat) × Mem)) : Prop := ∃ X', o = some (.inl v, X') ∧ KC c X'
/-- it throws the exception k, and nothing has changed -/
def QX (c : Cf) (k : Nat) (o : Option ((Int32 ⊕ Nat) × Mem)) : Prop := ∃ X', o = some (.inr k, X') ∧ KC c X'
section YQ
variable {c : Cf} {X : Mem}
theorem y_q {β : Type} (h : KC c X) {r : β} {o : Option (β × Mem)} (ho : ∃ X', o = some (r, X') ∧ CQ c.S X' ∧ Fx X X') : QI c r o := by
  obtain ⟨X', e1, q1, f1⟩ := ho
  exact ⟨X', e1, h.1, h.2.fx q1 f1⟩
theorem y_qt (h : KC c X) {r : Int32} {o : Option ((Int32 ⊕ Nat) × Mem)} (ho : ∃ X', o = some (.inl r, X') ∧ CQ c.S X' ∧ Fx X X') : QT c r o := by
  obtain ⟨X', e1, q1, f1⟩ := ho
  exact ⟨X', e1, h.1, h.2.fx q1 f1⟩
theorem y_x (h : KC c X) {k : Nat} {o : Option ((Int32 ⊕ Nat) × Mem)} (ho : o = some (.inr k, X)) : QX c k o := ⟨X, ho, h⟩
theorem y_steps (h : KC c X) : QI c (ic (nn c.S)) (fX8_steps X) := by
  refine y_q h ⟨X, ?_, h.2.1, Fx.rfl'⟩
  unfold fX8_steps
  rw [x_n h.2.1.1 h.1.1]
theorem y_spanByHeights (h : KC c X) : QI c (ic (mx0 (hgt c.S) (nn c.S))) (fX8_spanByHeights X) := by
  obtain ⟨X', e1, q1, k1, _, f1, _⟩ := x8_freshLinks h.2.1
  refine y_q h ⟨X', ?_, q1, f1⟩
  unfold fX8_spanByHeights
  rw [e1, bd_some, x_greatestHeight h.1.1 k1, bd_some]
theorem y_spanByEarliest (h : KC c X) : QI c (ic (mx0 (hgt c.S) (nn c.S))) (fX8_spanByEarliest X) := by
  obtain ⟨X', e1, q1, k1, _, f1, _⟩ := x8_freshLinks h.2.1
  refine y_q h ⟨X', ?_, q1, f1⟩
  unfold fX8_spanByEarliest
  rw [e1, bd_some, x_lastResult h.1.1 k1, bd_some, span_eq]
theorem y_whyWrong (h : KC c X) : QI c (ic (whyS c.S)) (fX8_whyWrong X) := by
  obtain ⟨X', e1, q1, f1, _⟩ := x8_whyWrong h.2.1
  exact y_q h ⟨X', e1, q1, f1⟩
theorem y_wrongAt (h : KC c X) : QI c (ic (wheS c.S)) (fX8_wrongAt X) := by
  obtain ⟨X', e1, q1, f1, _⟩ := x8_wrongAt h.2.1
  exact y_q h ⟨X', e1, q1, f1⟩
theorem y_wouldPack (h : KC c X) : QI c (ic (mxm (pkS c.S) (nn c.S) + 1)) (fX8_wouldPack X) := by
  obtain ⟨X', e1, q1, f1, _⟩ := x8_wouldPack h.2.1
  exact y_q h ⟨X', e1, q1, f1⟩
theorem y_beatByUnits (h : KC c X) : QI c (ic (ub c.S 3)) (fX8_beatByUnits X) := by
  refine y_q h ⟨X, ?_, h.2.1, Fx.rfl'⟩
  unfold fX8_beatByUnits
  rw [x_unitBeat h.2.1.1 h.1.1, bd_some]
theorem y_beatByRounds (h : KC c X) : QI c (ic (LB c.S)) (fX8_beatByRounds X) := by
  obtain ⟨X', e1, q1, f1, _⟩ := x8_beatByRounds h.2.1
  exact y_q h ⟨X', e1, q1, f1⟩
theorem y_overlap (h : KC c X) : QI c (ic (ovl c.S)) (fX8_overlap X) := by
  obtain ⟨X', e1, q1, k1, _, f1, _⟩ := x8_freshLoop h.2.1
  refine y_q h ⟨X', ?_, q1, f1⟩
  unfold fX8_overlap
  rw [e1, bd_some, x8_overlapIn q1 k1, bd_some]
theorem y_doesAgree (h : KC c X) : QI c (b2 (agr c.S)) (fX8_doesAgree X) := by
  obtain ⟨X', e1, q1, f1⟩ := x8_doesAgree h.2.1
  exact y_q h ⟨X', e1, q1, f1⟩
theorem y_bundles (h : KC c X) : QI c (ic (mxm (bu c.S) (nn c.S) + 1)) (fX8_bundles X) := y_q h ⟨X, x8_bundles h.2.1, h.2.1, Fx.rfl'⟩
theorem y_beatByCircles (h : KC c X) : QI c (ic (LB c.S)) (fX8_beatByCircles X) := by
  obtain ⟨X', e1, q1, k1, _, f1, _⟩ := x8_freshLoop h.2.1
  refine y_q h ⟨X', ?_, q1, f1⟩
  unfold fX8_beatByCircles
  rw [e1, bd_some, k1.1]
theorem y_beat (h : KC c X) : QI c (ic (BT c.S)) (fX8_beat X) := by
  obtain ⟨X', e1, q1, k1, _, f1, _⟩ := x8_freshLoop h.2.1
  refine y_q h ⟨X', ?_, q1, f1⟩
  unfold fX8_beat
  rw [e1, bd_some, k1.2.1]
theorem y_jumpBundle (h : KC c X) : QI c (ic ((BT c.S : Int) - 1 - c.S 1)) (fX8_jumpBundle X) := by
  obtain ⟨X', e1, q1, k1, _, f1, _⟩ := x8_freshLoop h.2.1
  refine y_q h ⟨X', ?_, q1, f1⟩
  unfold fX8_jumpBundle
  rw [e1, bd_some, k1.2.1, q1.1.2.1, show (1 : Int32) = ic 1 from rfl, ic_sub, ic_sub]
theorem y_savedStates (h : KC c X) : QI c (ic c.m) (fX8_savedStates X) := by
  refine y_q h ⟨X, ?_, h.2.1, Fx.rfl'⟩
  unfold fX8_savedStates
  rw [h.2.2.1.1]
theorem y_filledShare (h : KC c X) : QI c (fsh c.S) (fX8_filledShare X) := y_q h ⟨X, x_filledShare h.2.1.1 h.1.1, h.2.1, Fx.rfl'⟩
theorem y_digest (h : KC c X) : QI c (dgt c) (fX8_digest X) := y_q h (x_digest h.1 h.2)
/-! of a step -/
theorem y_step (h : KC c X) {i : Nat} (hi : i < nn c.S) {r : Int32} {o : Option ((Int32 ⊕ Nat) × Mem)} {F : Mem → Int32 → Option ((Int32 ⊕ Nat) × Mem)} (ho : o = bx (fX8_checkStep X (ic i)) fun _ μ => F μ (ic i)) (hq : ∃ X', F X (ic i) = some (.inl r, X') ∧ CQ c.S X' ∧ Fx X X') : QT c r o := by
  have h20 := h.1.1.n
  refine y_qt h ?_
  rw [ho, x_checkStep h.2 h.1.1 (by omega), if_pos (by omega), bx_l]
  exact hq
theorem y_noStep (h : KC c X) {u : Int} (hu : -2147483648 ≤ u ∧ u < 2147483648) (hn : ¬ (0 ≤ u ∧ u ≤ (nn c.S : Int) - 1)) {o : Option ((Int32 ⊕ Nat) × Mem)} {F : Mem → Option ((Int32 ⊕ Nat) × Mem)} (ho : o = bx (fX8_checkStep X (ic u)) fun _ μ => F μ) : QX c 1 o := by
  refine y_x h ?_
  rw [ho, x_checkStep h.2 h.1.1 hu, if_neg hn, bx_r]
theorem y_kindOf (h : KC c X) {i : Nat} (hi : i < nn c.S) : QT c (ic (kd c.S i)) (fX8_kindOf X (ic i)) := y_step h hi (F := fun μ a => (ld 20 (μ 2) a).bind fun r6 => some (.inl r6, μ)) rfl ⟨X, by rw [x_kd h.2.1.1 h.1.1 hi, Option.bind_some], h.2.1, Fx.rfl'⟩
theorem y_bundleOf (h : KC c X) {i : Nat} (hi : i < nn c.S) : QT c (ic (bu c.S i)) (fX8_bundleOf X (ic i)) := y_step h hi (F := fun μ a => (ld 20 (μ 7) a).bind fun r6 => some (.inl r6, μ)) rfl ⟨X, by rw [x_bu h.2.1.1 h.1.1 hi, Option.bind_some], h.2.1, Fx.rfl'⟩
theorem y_readBy (h : KC c X) {i : Nat} (hi : i < nn c.S) : QT c (rd c.S i) (fX8_readBy X (ic i)) := y_step h hi (F := fun μ a => bd (fX6_readsOf μ a) fun r8 μ7 => some (.inl r8, μ7)) rfl ⟨X, by rw [x_readsOf h.2.1.1 h.1.1 hi, bd_some], h.2.1, Fx.rfl'⟩
theorem y_writtenBy (h : KC c X) {i : Nat} (hi : i < nn c.S) : QT c (ic (wr c.S i)) (fX8_writtenBy X (ic i)) := y_step h hi (F := fun μ a => bd (fX6_writesOf μ a) fun r8 μ7 => some (.inl r8, μ7)) rfl ⟨X, by rw [x_writesOf h.2.1.1 h.1.1 hi, bd_some], h.2.1, Fx.rfl'⟩
theorem y_latencyOf (h : KC c X) {i : Nat} (hi : i < nn c.S) : QT c (ic (la c.S i)) (fX8_latencyOf X (ic i)) := y_step h hi (F := fun μ a => bd (fX6_lengthOf μ a) fun r8 μ7 => some (.inl r8, μ7)) rfl ⟨X, by rw [x_lengthOf h.2.1.1 h.1.1 hi, bd_some], h.2.1, Fx.rfl'⟩
theorem y_heightOf (h : KC c X) {i : Nat} (hi : i < nn c.S) : QT c (ic (hgt c.S i)) (fX8_heightOf X (ic i)) := by
  have h20 := h.1.1.n
  obtain ⟨X', e1, q1, k1, _, f1, _⟩ := x8_freshLinks h.2.1
  exact y_step h hi (F := fun μ a => bd (fX8_freshLinks μ) fun _ μ8 => (ld 20 (μ8 81) a).bind fun r10 => some (.inl r10, μ8)) rfl ⟨X', by rw [e1, bd_some, ld_k i rfl (by omega), Option.bind_some, k1.2.2.1 i hi], q1, f1⟩
theorem y_earliestOf (h : KC c X) {i : Nat} (hi : i < nn c.S) : QT c (ic (ear c.S i)) (fX8_earliestOf X (ic i)) := by
  have h20 := h.1.1.n
  obtain ⟨X', e1, q1, k1, _, f1, _⟩ := x8_freshLinks h.2.1
  exact y_step h hi (F := fun μ a => bd (fX8_freshLinks μ) fun _ μ8 => (ld 20 (μ8 82) a).bind fun r10 => some (.inl r10, μ8)) rfl ⟨X', by rw [e1, bd_some, ld_k i rfl (by omega), Option.bind_some, k1.2.2.2 i hi], q1, f1⟩
theorem y_loopBundleOf (h : KC c X) {i : Nat} (hi : i < nn c.S) : QT c (ic (PLS c.S i)) (fX8_loopBundleOf X (ic i)) := by
  have h20 := h.1.1.n
  obtain ⟨X', e1, q1, k1, _, f1, _⟩ := x8_freshLoop h.2.1
  exact y_step h hi (F := fun μ a => bd (fX8_freshLoop μ) fun _ μ8 => (ld 20 (μ8 90) a).bind fun r10 => some (.inl r10, μ8)) rfl ⟨X', by rw [e1, bd_some, ld_k i rfl (by omega), Option.bind_some, k1.2.2 i hi]; rfl, q1, f1⟩
theorem y_separation (h : KC c X) {i j : Nat} (hi : i < nn c.S) (hj : j < nn c.S) : QT c (ic (nearT c.S i j)) (fX8_separation X (ic i) (ic j)) := by
  have h20 := h.1.1.n
  obtain ⟨X', e1, q1, k1, _, f1, _⟩ := x8_freshLinks h.2.1
  refine y_qt h ⟨X', ?_, q1, f1⟩
  unfold fX8_separation
  rw [x_checkStep h.2 h.1.1 (by omega), if_pos (by omega), bx_l, x_checkStep h.2 h.1.1 (by omega), if_pos (by omega), bx_l, e1, bd_some, x_nearOf k1.1 h.1.1 hi hj, bd_some]
theorem y_carried (h : KC c X) {i j : Nat} (hi : i < nn c.S) (hj : j < nn c.S) : QT c (ic (over c.S i j)) (fX8_carried X (ic i) (ic j)) := by
  have h20 := h.1.1.n
  obtain ⟨X', e1, q1, k1, _, f1, _⟩ := x8_freshLinks h.2.1
  refine y_qt h ⟨X', ?_, q1, f1⟩
  unfold fX8_carried
  rw [x_checkStep h.2 h.1.1 (by omega), if_pos (by omega), bx_l, x_checkStep h.2 h.1.1 (by omega), if_pos (by omega), bx_l, e1, bd_some, x_overOf k1.1 h.1.1 hi hj, bd_some]
theorem n_kindOf {u : Int} (hu : -2147483648 ≤ u ∧ u < 2147483648) (hn : ¬ (0 ≤ u ∧ u ≤ (nn c.S : Int) - 1)) (h : KC c X) : QX c 1 (fX8_kindOf X (ic u)) := y_noStep h hu hn rfl
theorem n_bundleOf {u : Int} (hu : -2147483648 ≤ u ∧ u < 2147483648) (hn : ¬ (0 ≤ u ∧ u ≤ (nn c.S : Int) - 1)) (h : KC c X) : QX c 1 (fX8_bundleOf X (ic u)) := y_noStep h hu hn rfl
theorem n_readBy {u : Int} (hu : -2147483648 ≤ u ∧ u < 2147483648) (hn : ¬ (0 ≤ u ∧ u ≤ (nn c.S : Int) - 1)) (h : KC c X) : QX c 1 (fX8_readBy X (ic u)) := y_noStep h hu hn rfl
theorem n_writtenBy {u : Int} (hu : -2147483648 ≤ u ∧ u < 2147483648) (hn : ¬ (0 ≤ u ∧ u ≤ (nn c.S : Int) - 1)) (h : KC c X) : QX c 1 (fX8_writtenBy X (ic u)) := y_noStep h hu hn rfl
theorem n_latencyOf {u : Int} (hu : -2147483648 ≤ u ∧ u < 2147483648) (hn : ¬ (0 ≤ u ∧ u ≤ (nn c.S : Int) - 1)) (h : KC c X) : QX c 1 (fX8_latencyOf X (ic u)) := y_noStep h hu hn rfl
theorem n_heightOf {u : Int} (hu : -2147483648 ≤ u ∧ u < 2147483648) (hn : ¬ (0 ≤ u ∧ u ≤ (nn c.S : Int) - 1)) (h : KC c X) : QX c 1 (fX8_heightOf X (ic u)) := y_noStep h hu hn rfl
theorem n_earliestOf {u : Int} (hu : -2147483648 ≤ u ∧ u < 2147483648) (hn : ¬ (0 ≤ u ∧ u ≤ (nn c.S : Int) - 1)) (h : KC c X) : QX c 1 (fX8_earliestOf X (ic u)) := y_noStep h hu hn rfl
theorem n_loopBundleOf {u : Int} (hu : -2147483648 ≤ u ∧ u < 2147483648) (hn : ¬ (0 ≤ u ∧ u ≤ (nn c.S : Int) - 1)) (h : KC c X) : QX c 1 (fX8_loopBundleOf X (ic u)) := y_noStep h hu hn rfl
theorem n_separation {u : Int} (hu : -2147483648 ≤ u ∧ u < 2147483648) (hn : ¬ (0 ≤ u ∧ u ≤ (nn c.S : Int) - 1)) (h : KC c X) (b : Int32) : QX c 1 (fX8_separation X (ic u) b) := y_noStep h hu hn rfl
theorem n_carried {u : Int} (hu : -2147483648 ≤ u ∧ u < 2147483648) (hn : ¬ (0 ≤ u ∧ u ≤ (nn c.S : Int) - 1)) (h : KC c X) (b : Int32) : QX c 1 (fX8_carried X (ic u) b) := y_noStep h hu hn rfl
theorem n_separation2 {u : Int} (hu : -2147483648 ≤ u ∧ u < 2147483648) (hn : ¬ (0 ≤ u ∧ u ≤ (nn c.S : Int) - 1)) (h : KC c X) (hn0 : 0 < nn c.S) : QX c 1 (fX8_separation X (ic 0) (ic u)) := by
  refine y_x h ?_
  have h20 := h.1.1.n
  unfold fX8_separation
  rw [x_checkStep h.2 h.1.1 (by omega), if_pos (by omega), bx_l, x_checkStep h.2 h.1.1 hu, if_neg hn, bx_r]
theorem n_carried2 {u : Int} (hu : -2147483648 ≤ u ∧ u < 2147483648) (hn : ¬ (0 ≤ u ∧ u ≤ (nn c.S : Int) - 1)) (h : KC c X) (hn0 : 0 < nn c.S) : QX c 1 (fX8_carried X (ic 0) (ic u)) := by
  refine y_x h ?_
  have h20 := h.1.1.n
  unfold fX8_carried
  rw [x_checkStep h.2 h.1.1 (by omega), if_pos (by omega), bx_l, x_checkStep h.2 h.1.1 hu, if_neg hn, bx_r]
/-! of a register, a cell, rounds -/
theorem y_registerInOrder (h : KC c X) {n : Nat} (hn : n ≤ 11) : QT c (ord c.S 1 (V0 c.S) n) (fX8_registerInOrder X (ic n)) := by
  obtain ⟨X', e1, f1, v1⟩ := x_doInOrder h.2.1.1 h.1.1 (a := 97) (by omega) (r := 1) (by omega)
  refine y_qt h ⟨X', ?_, h.2.1.of f1 (by decide), Fx.of f1 (by decide)⟩
  unfold fX8_registerInOrder
  have e1' : fX5_doInOrder X (1 : Int32) 97 = some ((), X') := e1
  rw [x_checkRegister (by omega), if_pos (by omega), bx_l, e1', bd_some, v_k v1 n (by omega) (by omega), Option.bind_some]
theorem y_cellInOrder (h : KC c X) {n : Nat} (hn : n ≤ 11) : QT c (ord c.S 1 (V0 c.S) (12 + n)) (fX8_cellInOrder X (ic n)) := by
  obtain ⟨X', e1, f1, v1⟩ := x_doInOrder h.2.1.1 h.1.1 (a := 97) (by omega) (r := 1) (by omega)
  refine y_qt h ⟨X', ?_, h.2.1.of f1 (by decide), Fx.of f1 (by decide)⟩
  unfold fX8_cellInOrder
  have e1' : fX5_doInOrder X (1 : Int32) 97 = some ((), X') := e1
  rw [x_checkCell (by omega), if_pos (by omega), bx_l, e1', bd_some, show (12 : Int32) = ic 12 from rfl, ic_add, v_k v1 (12 + n) (by omega) (by omega), Option.bind_some]
theorem y_registerInBundles (h : KC c X) {n : Nat} (hn : n ≤ 11) : QT c (VB c.S 205 n) (fX8_registerInBundles X (ic n)) := by
  obtain ⟨X', e1, f1, v1⟩ := x8_doBundles h.2.1 (e := 205) (by omega)
  refine y_qt h ⟨X', ?_, h.2.1.of f1 (by decide), Fx.of f1 (by decide)⟩
  unfold fX8_registerInBundles
  have e1' : fX8_doBundles X (205 : Int32) = some ((), X') := e1
  rw [x_checkRegister (by omega), if_pos (by omega), bx_l, e1', bd_some, v_k v1 n (by omega) (by omega), Option.bind_some]
theorem y_cellInBundles (h : KC c X) {n : Nat} (hn : n ≤ 11) : QT c (VB c.S 205 (12 + n)) (fX8_cellInBundles X (ic n)) := by
  obtain ⟨X', e1, f1, v1⟩ := x8_doBundles h.2.1 (e := 205) (by omega)
  refine y_qt h ⟨X', ?_, h.2.1.of f1 (by decide), Fx.of f1 (by decide)⟩
  unfold fX8_cellInBundles
  have e1' : fX8_doBundles X (205 : Int32) = some ((), X') := e1
  rw [x_checkCell (by omega), if_pos (by omega), bx_l, e1', bd_some, show (12 : Int32) = ic 12 from rfl, ic_add, v_k v1 (12 + n) (by omega) (by omega), Option.bind_some]
theorem y_registerAt (h : KC c X) {r n : Nat} (hr : r ≤ 205) (hn : n ≤ 11) : QT c (VB c.S r n) (fX8_registerAt X (ic r) (ic n)) := by
  obtain ⟨X', e1, f1, v1⟩ := x8_doBundles h.2.1 (e := r) (by omega)
  refine y_qt h ⟨X', ?_, h.2.1.of f1 (by decide), Fx.of f1 (by decide)⟩
  unfold fX8_registerAt
  rw [x_checkRegister (by omega), if_pos (by omega), bx_l, show (0 : Int32) = ic 0 from rfl, show (205 : Int32) = ic 205 from rfl, if_neg (by rw [ic_lt (by omega)]; omega), if_pos (by rw [ic_le (by omega)]; omega), e1, bd_some, v_k v1 n (by omega) (by omega), Option.bind_some]
theorem y_registerInLoop (h : KC c X) {r n : Nat} (hr : r ≤ 20) (hn : n ≤ 11) : QT c (VL c.S r n) (fX8_registerInLoop X (ic r) (ic n)) := by
  obtain ⟨X1, e0, q1, k1, _, f0, _⟩ := x8_freshLoop h.2.1
  obtain ⟨X', e1, f1, v1⟩ := x8_doLoop q1 k1 (r := r) (by omega)
  refine y_qt h ⟨X', ?_, q1.of f1 (by decide), f0.trans (Fx.of f1 (by decide))⟩
  unfold fX8_registerInLoop
  rw [x_checkRegister (by omega), if_pos (by omega), bx_l, x_checkRounds (by omega), if_pos (by omega), bx_l, e0, bd_some, e1, bd_some, v_k v1 n (by omega) (by omega), Option.bind_some]
theorem y_cellInLoop (h : KC c X) {r n : Nat} (hr : r ≤ 20) (hn : n ≤ 11) : QT c (VL c.S r (12 + n)) (fX8_cellInLoop X (ic r) (ic n)) := by
  obtain ⟨X1, e0, q1, k1, _, f0, _⟩ := x8_freshLoop h.2.1
  obtain ⟨X', e1, f1, v1⟩ := x8_doLoop q1 k1 (r := r) (by omega)
  refine y_qt h ⟨X', ?_, q1.of f1 (by decide), f0.trans (Fx.of f1 (by decide))⟩
  unfold fX8_cellInLoop
  rw [x_checkCell (by omega), if_pos (by omega), bx_l, x_checkRounds (by omega), if_pos (by omega), bx_l, e0, bd_some, e1, bd_some, show (12 : Int32) = ic 12 from rfl, ic_add, v_k v1 (12 + n) (by omega) (by omega), Option.bind_some]
theorem y_registerInRounds (h : KC c X) {r n : Nat} (hr : r ≤ 20) (hn : n ≤ 11) : QT c (ord c.S r (V0 c.S) n) (fX8_registerInRounds X (ic r) (ic n)) := by
  obtain ⟨X', e1, f1, v1⟩ := x_doInOrder h.2.1.1 h.1.1 (a := 100) (by omega) (r := r) (by omega)
  refine y_qt h ⟨X', ?_, h.2.1.of f1 (by decide), Fx.of f1 (by decide)⟩
  unfold fX8_registerInRounds
  rw [x_checkRegister (by omega), if_pos (by omega), bx_l, x_checkRounds (by omega), if_pos (by omega), bx_l, e1, bd_some, v_k v1 n (by omega) (by omega), Option.bind_some]
theorem y_stepsIn (h : KC c X) {v : Int} (hv : 0 ≤ v ∧ v ≤ 199) : QT c (setS c.S v (nn c.S)) (fX8_stepsIn X (ic v)) := by
  refine y_qt h ⟨X, ?_, h.2.1, Fx.rfl'⟩
  unfold fX8_stepsIn
  rw [x_checkBundle (by omega), if_pos hv, bx_l, x_setLaidIn h.2.1.1 h.1.1 hv, bd_some]
theorem y_loopBundles (h : KC c X) {r : Nat} (hr : r ≤ 20) : QT c (ic (spn c.S r)) (fX8_loopBundles X (ic r)) := by
  obtain ⟨X1, e0, q1, k1, _, f0, _⟩ := x8_freshLoop h.2.1
  refine y_qt h ⟨X1, ?_, q1, f0⟩
  unfold fX8_loopBundles
  rw [x_checkRounds (by omega), if_pos (by omega), bx_l, e0, bd_some, x8_spanIn q1 k1 (by omega), bd_some]
theorem n_registerInOrder {u : Int} (hu : -2147483648 ≤ u ∧ u < 2147483648) (hn : ¬ (0 ≤ u ∧ u ≤ 11)) (h : KC c X) : QX c 1 (fX8_registerInOrder X (ic u)) := by
  refine y_x h ?_
  unfold fX8_registerInOrder
  rw [x_checkRegister hu, if_neg hn, bx_r]
theorem n_registerInBundles {u : Int} (hu : -2147483648 ≤ u ∧ u < 2147483648) (hn : ¬ (0 ≤ u ∧ u ≤ 11)) (h : KC c X) : QX c 1 (fX8_registerInBundles X (ic u)) := by
  refine y_x h ?_
  unfold fX8_registerInBundles
  rw [x_checkRegister hu, if_neg hn, bx_r]
theorem n_cellInOrder {u : Int} (hu : -2147483648 ≤ u ∧ u < 2147483648) (hn : ¬ (0 ≤ u ∧ u ≤ 11)) (h : KC c X) : QX c 1 (fX8_cellInOrder X (ic u)) := by
  refine y_x h ?_
  unfold fX8_cellInOrder
  rw [x_checkCell hu, if_neg hn, bx_r]
theorem n_cellInBundles {u : Int} (hu : -2147483648 ≤ u ∧ u < 2147483648) (hn : ¬ (0 ≤ u ∧ u ≤ 11)) (h : KC c X) : QX c 1 (fX8_cellInBundles X (ic u)) := by
  refine y_x h ?_
  unfold fX8_cellInBundles
  rw [x_checkCell hu, if_neg hn, bx_r]
theorem n_registerAt {u : Int} (hu : -2147483648 ≤ u ∧ u < 2147483648) (hn : ¬ (0 ≤ u ∧ u ≤ 11)) (h : KC c X) (b : Int32) : QX c 1 (fX8_registerAt X b (ic u)) := by
  refine y_x h ?_
  unfold fX8_registerAt
  rw [x_checkRegister hu, if_neg hn, bx_r]
theorem n_registerInLoop {u : Int} (hu : -2147483648 ≤ u ∧ u < 2147483648) (hn : ¬ (0 ≤ u ∧ u ≤ 11)) (h : KC c X) (b : Int32) : QX c 1 (fX8_registerInLoop X b (ic u)) := by
  refine y_x h ?_
  unfold fX8_registerInLoop
  rw [x_checkRegister hu, if_neg hn, bx_r]
theorem n_registerInRounds {u : Int} (hu : -2147483648 ≤ u ∧ u < 2147483648) (hn : ¬ (0 ≤ u ∧ u ≤ 11)) (h : KC c X) (b : Int32) : QX c 1 (fX8_registerInRounds X b (ic u)) := by
  refine y_x h ?_
  unfold fX8_registerInRounds
  rw [x_checkRegister hu, if_neg hn, bx_r]
theorem n_cellInLoop {u : Int} (hu : -2147483648 ≤ u ∧ u < 2147483648) (hn : ¬ (0 ≤ u ∧ u ≤ 11)) (h : KC c X) (b : Int32) : QX c 1 (fX8_cellInLoop X b (ic u)) := by
  refine y_x h ?_
  unfold fX8_cellInLoop
  rw [x_checkCell hu, if_neg hn, bx_r]
theorem n_setRegister {u : Int} (hu : -2147483648 ≤ u ∧ u < 2147483648) (hn : ¬ (0 ≤ u ∧ u ≤ 11)) (h : KC c X) (b : Int32) : QX c 1 (fX8_setRegister X (ic u) b) := by
  refine y_x h ?_
  unfold fX8_setRegister
  rw [x_checkRegister hu, if_neg hn, bx_r]
theorem n_setCell {u : Int} (hu : -2147483648 ≤ u ∧ u < 2147483648) (hn : ¬ (0 ≤ u ∧ u ≤ 11)) (h : KC c X) (b : Int32) : QX c 1 (fX8_setCell X (ic u) b) := by
  refine y_x h ?_
  unfold fX8_setCell
  rw [x_checkCell hu, if_neg hn, bx_r]
theorem n_registerAt2 {u : Int} (hu : -2147483648 ≤ u ∧ u < 2147483648) (h : KC c X) (hn : ¬ (0 ≤ u ∧ u ≤ 205)) {v : Int} (hv : 0 ≤ v ∧ v ≤ 11) : QX c 2 (fX8_registerAt X (ic u) (ic v)) := by
  refine y_x h ?_
  unfold fX8_registerAt fX8_registerAt_L15
  rw [x_checkRegister (by omega), if_pos hv, bx_l, show (0 : Int32) = ic 0 from rfl, show (205 : Int32) = ic 205 from rfl]
  by_cases h1 : u < 0
  · rw [if_pos (by rw [ic_lt (by omega)]; omega)]
  · rw [if_neg (by rw [ic_lt (by omega)]; omega), if_neg (by rw [ic_le (by omega)]; omega)]
theorem n_registerInLoop2 {u : Int} (hu : -2147483648 ≤ u ∧ u < 2147483648) (h : KC c X) (hn : ¬ (0 ≤ u ∧ u ≤ 20)) {v : Int} (hv : 0 ≤ v ∧ v ≤ 11) : QX c 2 (fX8_registerInLoop X (ic u) (ic v)) := by
  refine y_x h ?_
  unfold fX8_registerInLoop
  rw [x_checkRegister (by omega), if_pos hv, bx_l, x_checkRounds hu, if_neg hn, bx_r]
theorem n_registerInRounds2 {u : Int} (hu : -2147483648 ≤ u ∧ u < 2147483648) (h : KC c X) (hn : ¬ (0 ≤ u ∧ u ≤ 20)) {v : Int} (hv : 0 ≤ v ∧ v ≤ 11) : QX c 2 (fX8_registerInRounds X (ic u) (ic v)) := by
  refine y_x h ?_
  unfold fX8_registerInRounds
  rw [x_checkRegister (by omega), if_pos hv, bx_l, x_checkRounds hu, if_neg hn, bx_r]
theorem n_cellInLoop2 {u : Int} (hu : -2147483648 ≤ u ∧ u < 2147483648) (h : KC c X) (hn : ¬ (0 ≤ u ∧ u ≤ 20)) {v : Int} (hv : 0 ≤ v ∧ v ≤ 11) : QX c 2 (fX8_cellInLoop X (ic u) (ic v)) := by
  refine y_x h ?_
  unfold fX8_cellInLoop
  rw [x_checkCell (by omega), if_pos hv, bx_l, x_checkRounds hu, if_neg hn, bx_r]
theorem n_stepsIn {u : Int} (hu : -2147483648 ≤ u ∧ u < 2147483648) (h : KC c X) (hn : ¬ (0 ≤ u ∧ u ≤ 199)) : QX c 2 (fX8_stepsIn X (ic u)) := by
  refine y_x h ?_
  unfold fX8_stepsIn
  rw [x_checkBundle hu, if_neg hn, bx_r]
theorem n_loopBundles {u : Int} (hu : -2147483648 ≤ u ∧ u < 2147483648) (h : KC c X) (hn : ¬ (0 ≤ u ∧ u ≤ 20)) : QX c 2 (fX8_loopBundles X (ic u)) := by
  refine y_x h ?_
  unfold fX8_loopBundles
  rw [x_checkRounds hu, if_neg hn, bx_r]
end YQ
