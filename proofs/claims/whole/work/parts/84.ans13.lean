/-! ANSWERS ALIKE: values in order, in bundles, in the loop -/
section ANS13
variable {c : Cf} {X M : Mem}
theorem a_registerInOrder (hG : GC c) (hX : XC c X) (hM : MC c M) (a : Int32) : Agr cd1 (fX8_registerInOrder X a) (fX9_registerInOrder M a) := by
  have hW := hG.1
  obtain ⟨u, rfl, hu⟩ := i32_ex a
  obtain ⟨t1, _, t3⟩ := r_toldOrder hM hW hu (k := 1) (by omega) (o := 0) (by omega)
  have ep : fX9_registerInOrder M (ic u) = fX9_toldOrder M (ic u) (ic 1) (ic ((0 : Nat) : Int)) := by
    unfold fX9_registerInOrder
    rw [bd_id]
    rfl
  rw [ep]
  unfold fX8_registerInOrder
  rw [x_checkRegister hu]
  by_cases h : 0 ≤ u ∧ u ≤ 11
  · rw [if_pos h, bx_l]
    obtain ⟨n, rfl⟩ : ∃ n : Nat, u = n := ⟨u.toNat, by omega⟩
    obtain ⟨M', e2, f2⟩ := t3 n 1 rfl (by omega) rfl (by omega)
    obtain ⟨X', e1, f1, v1⟩ := x_doInOrder hX.1.1 hW (a := 97) (by omega) (r := 1) (by omega)
    refine agr_q hG hX hM ⟨X', ?_, hX.1.of f1 (by decide), Fx.of f1 (by decide)⟩ ⟨M', e2, f2⟩ (by decide)
    have e1' : fX5_doInOrder X (1 : Int32) 97 = some ((), X') := e1
    rw [e1', bd_some]
    rw [v_k v1 n (by omega) (by omega), Option.bind_some]
    rw [Nat.zero_add]
  · rw [if_neg h, bx_r]
    exact agr_thr hG hX hM (k := 1) (e := 1) rfl (t1 h) rfl (by omega)
theorem a_cellInOrder (hG : GC c) (hX : XC c X) (hM : MC c M) (a : Int32) : Agr cd1 (fX8_cellInOrder X a) (fX9_cellInOrder M a) := by
  have hW := hG.1
  obtain ⟨u, rfl, hu⟩ := i32_ex a
  obtain ⟨t1, _, t3⟩ := r_toldOrder hM hW hu (k := 1) (by omega) (o := 12) (by omega)
  have ep : fX9_cellInOrder M (ic u) = fX9_toldOrder M (ic u) (ic 1) (ic ((12 : Nat) : Int)) := by
    unfold fX9_cellInOrder
    rw [bd_id]
    rfl
  rw [ep]
  unfold fX8_cellInOrder
  rw [x_checkCell hu]
  by_cases h : 0 ≤ u ∧ u ≤ 11
  · rw [if_pos h, bx_l]
    obtain ⟨n, rfl⟩ : ∃ n : Nat, u = n := ⟨u.toNat, by omega⟩
    obtain ⟨M', e2, f2⟩ := t3 n 1 rfl (by omega) rfl (by omega)
    obtain ⟨X', e1, f1, v1⟩ := x_doInOrder hX.1.1 hW (a := 97) (by omega) (r := 1) (by omega)
    refine agr_q hG hX hM ⟨X', ?_, hX.1.of f1 (by decide), Fx.of f1 (by decide)⟩ ⟨M', e2, f2⟩ (by decide)
    have e1' : fX5_doInOrder X (1 : Int32) 97 = some ((), X') := e1
    rw [e1', bd_some]
    rw [show (12 : Int32) = ic 12 from rfl, ic_add, v_k v1 (12 + n) (by omega) (by omega), Option.bind_some]
    
  · rw [if_neg h, bx_r]
    exact agr_thr hG hX hM (k := 1) (e := 1) rfl (t1 h) rfl (by omega)
theorem a_registerInBundles (hG : GC c) (hX : XC c X) (hM : MC c M) (a : Int32) : Agr cd1 (fX8_registerInBundles X a) (fX9_registerInBundles M a) := by
  have hW := hG.1
  obtain ⟨u, rfl, hu⟩ := i32_ex a
  obtain ⟨t1, t3⟩ := r_toldBundles hM hW hu (o := 0) (e := 206) (by omega) (by omega)
  have ep : fX9_registerInBundles M (ic u) = fX9_toldBundles M (ic u) (ic ((206 : Nat) : Int)) (ic ((0 : Nat) : Int)) := by
    unfold fX9_registerInBundles
    rw [bd_id]
    rfl
  rw [ep]
  unfold fX8_registerInBundles
  rw [x_checkRegister hu]
  by_cases h : 0 ≤ u ∧ u ≤ 11
  · rw [if_pos h, bx_l]
    obtain ⟨n, rfl⟩ : ∃ n : Nat, u = n := ⟨u.toNat, by omega⟩
    obtain ⟨M', e2, f2⟩ := t3 n rfl (by omega)
    rw [VB_206 hW] at e2
    obtain ⟨X', e1, f1, v1⟩ := x8_doBundles hX.1 (e := 205) (by omega)
    refine agr_q hG hX hM ⟨X', ?_, hX.1.of f1 (by decide), Fx.of f1 (by decide)⟩ ⟨M', e2, f2⟩ (by decide)
    have e1' : fX8_doBundles X (205 : Int32) = some ((), X') := e1
    rw [e1', bd_some]
    rw [v_k v1 n (by omega) (by omega), Option.bind_some]
    rw [Nat.zero_add]
  · rw [if_neg h, bx_r]
    exact agr_thr hG hX hM (k := 1) (e := 1) rfl (t1 h _) rfl (by omega)
theorem a_cellInBundles (hG : GC c) (hX : XC c X) (hM : MC c M) (a : Int32) : Agr cd1 (fX8_cellInBundles X a) (fX9_cellInBundles M a) := by
  have hW := hG.1
  obtain ⟨u, rfl, hu⟩ := i32_ex a
  obtain ⟨t1, t3⟩ := r_toldBundles hM hW hu (o := 12) (e := 206) (by omega) (by omega)
  have ep : fX9_cellInBundles M (ic u) = fX9_toldBundles M (ic u) (ic ((206 : Nat) : Int)) (ic ((12 : Nat) : Int)) := by
    unfold fX9_cellInBundles
    rw [bd_id]
    rfl
  rw [ep]
  unfold fX8_cellInBundles
  rw [x_checkCell hu]
  by_cases h : 0 ≤ u ∧ u ≤ 11
  · rw [if_pos h, bx_l]
    obtain ⟨n, rfl⟩ : ∃ n : Nat, u = n := ⟨u.toNat, by omega⟩
    obtain ⟨M', e2, f2⟩ := t3 n rfl (by omega)
    rw [VB_206 hW] at e2
    obtain ⟨X', e1, f1, v1⟩ := x8_doBundles hX.1 (e := 205) (by omega)
    refine agr_q hG hX hM ⟨X', ?_, hX.1.of f1 (by decide), Fx.of f1 (by decide)⟩ ⟨M', e2, f2⟩ (by decide)
    have e1' : fX8_doBundles X (205 : Int32) = some ((), X') := e1
    rw [e1', bd_some]
    rw [show (12 : Int32) = ic 12 from rfl, ic_add, v_k v1 (12 + n) (by omega) (by omega), Option.bind_some]
    
  · rw [if_neg h, bx_r]
    exact agr_thr hG hX hM (k := 1) (e := 1) rfl (t1 h _) rfl (by omega)
theorem a_registerInLoop (hG : GC c) (hX : XC c X) (hM : MC c M) (b a : Int32) : Agr cdB (fX8_registerInLoop X b a) (fX9_registerInLoop M b a) := by
  have hW := hG.1
  obtain ⟨u, rfl, hu⟩ := i32_ex a
  obtain ⟨k, rfl, hk⟩ := i32_ex b
  obtain ⟨t1, t2, t3⟩ := r_toldLoop hM hW hu hk (o := 0) (by omega)
  have ep : fX9_registerInLoop M (ic k) (ic u) = fX9_toldLoop M (ic k) (ic u) (ic ((0 : Nat) : Int)) := by
    unfold fX9_registerInLoop
    rw [bd_id]
    rfl
  rw [ep]
  unfold fX8_registerInLoop
  rw [x_checkRegister hu]
  by_cases h : 0 ≤ u ∧ u ≤ 11
  · rw [if_pos h, bx_l, x_checkRounds hk]
    by_cases h' : 0 ≤ k ∧ k ≤ 20
    · rw [if_pos h', bx_l]
      obtain ⟨n, rfl⟩ : ∃ n : Nat, u = n := ⟨u.toNat, by omega⟩
      obtain ⟨r, rfl⟩ : ∃ n : Nat, k = n := ⟨k.toNat, by omega⟩
      obtain ⟨M', e2, f2⟩ := t3 n r rfl (by omega) rfl (by omega)
      obtain ⟨X1, e0, q1, k1, _, f0, _⟩ := x8_freshLoop hX.1
      obtain ⟨X', e1, f1, v1⟩ := x8_doLoop q1 k1 (r := r) (by omega)
      refine agr_q hG hX hM ⟨X', ?_, q1.of f1 (by decide), f0.trans (Fx.of f1 (by decide))⟩ ⟨M', e2, f2⟩ (by decide)
      rw [e0, bd_some, e1, bd_some]
      rw [v_k v1 n (by omega) (by omega), Option.bind_some]
      rw [Nat.zero_add]
    · rw [if_neg h', bx_r]
      exact agr_thr hG hX hM (k := 2) (e := 2) rfl (t2 h h') rfl (by omega)
  · rw [if_neg h, bx_r]
    exact agr_thr hG hX hM (k := 1) (e := 1) rfl (t1 h) rfl (by omega)
theorem a_cellInLoop (hG : GC c) (hX : XC c X) (hM : MC c M) (b a : Int32) : Agr cdB (fX8_cellInLoop X b a) (fX9_cellInLoop M b a) := by
  have hW := hG.1
  obtain ⟨u, rfl, hu⟩ := i32_ex a
  obtain ⟨k, rfl, hk⟩ := i32_ex b
  obtain ⟨t1, t2, t3⟩ := r_toldLoop hM hW hu hk (o := 12) (by omega)
  have ep : fX9_cellInLoop M (ic k) (ic u) = fX9_toldLoop M (ic k) (ic u) (ic ((12 : Nat) : Int)) := by
    unfold fX9_cellInLoop
    rw [bd_id]
    rfl
  rw [ep]
  unfold fX8_cellInLoop
  rw [x_checkCell hu]
  by_cases h : 0 ≤ u ∧ u ≤ 11
  · rw [if_pos h, bx_l, x_checkRounds hk]
    by_cases h' : 0 ≤ k ∧ k ≤ 20
    · rw [if_pos h', bx_l]
      obtain ⟨n, rfl⟩ : ∃ n : Nat, u = n := ⟨u.toNat, by omega⟩
      obtain ⟨r, rfl⟩ : ∃ n : Nat, k = n := ⟨k.toNat, by omega⟩
      obtain ⟨M', e2, f2⟩ := t3 n r rfl (by omega) rfl (by omega)
      obtain ⟨X1, e0, q1, k1, _, f0, _⟩ := x8_freshLoop hX.1
      obtain ⟨X', e1, f1, v1⟩ := x8_doLoop q1 k1 (r := r) (by omega)
      refine agr_q hG hX hM ⟨X', ?_, q1.of f1 (by decide), f0.trans (Fx.of f1 (by decide))⟩ ⟨M', e2, f2⟩ (by decide)
      rw [e0, bd_some, e1, bd_some]
      rw [show (12 : Int32) = ic 12 from rfl, ic_add, v_k v1 (12 + n) (by omega) (by omega), Option.bind_some]
      
    · rw [if_neg h', bx_r]
      exact agr_thr hG hX hM (k := 2) (e := 2) rfl (t2 h h') rfl (by omega)
  · rw [if_neg h, bx_r]
    exact agr_thr hG hX hM (k := 1) (e := 1) rfl (t1 h) rfl (by omega)
theorem a_registerInRounds (hG : GC c) (hX : XC c X) (hM : MC c M) (b a : Int32) : Agr cdB (fX8_registerInRounds X b a) (fX9_registerInRounds M b a) := by
  have hW := hG.1
  obtain ⟨u, rfl, hu⟩ := i32_ex a
  obtain ⟨k, rfl, hk⟩ := i32_ex b
  obtain ⟨t1, t2, t3⟩ := r_toldOrder hM hW hu hk (o := 0) (by omega)
  have ep : fX9_registerInRounds M (ic k) (ic u) = fX9_toldOrder M (ic u) (ic k) (ic ((0 : Nat) : Int)) := by
    unfold fX9_registerInRounds
    rw [bd_id]
    rfl
  rw [ep]
  unfold fX8_registerInRounds
  rw [x_checkRegister hu]
  by_cases h : 0 ≤ u ∧ u ≤ 11
  · rw [if_pos h, bx_l, x_checkRounds hk]
    by_cases h' : 0 ≤ k ∧ k ≤ 20
    · rw [if_pos h', bx_l]
      obtain ⟨n, rfl⟩ : ∃ n : Nat, u = n := ⟨u.toNat, by omega⟩
      obtain ⟨r, rfl⟩ : ∃ n : Nat, k = n := ⟨k.toNat, by omega⟩
      obtain ⟨M', e2, f2⟩ := t3 n r rfl (by omega) rfl (by omega)
      obtain ⟨X', e1, f1, v1⟩ := x_doInOrder hX.1.1 hW (a := 100) (by omega) (r := r) (by omega)
      refine agr_q hG hX hM ⟨X', ?_, hX.1.of f1 (by decide), Fx.of f1 (by decide)⟩ ⟨M', e2, f2⟩ (by decide)
      rw [e1, bd_some, v_k v1 n rfl (by omega), Option.bind_some, Nat.zero_add]
    · rw [if_neg h', bx_r]
      exact agr_thr hG hX hM (k := 2) (e := 2) rfl (t2 h h') rfl (by omega)
  · rw [if_neg h, bx_r]
    exact agr_thr hG hX hM (k := 1) (e := 1) rfl (t1 h) rfl (by omega)
theorem a_registerAt (hG : GC c) (hX : XC c X) (hM : MC c M) (b a : Int32) : Agr cdB (fX8_registerAt X b a) (fX9_registerAt M b a) := by
  have hW := hG.1
  obtain ⟨u, rfl, hu⟩ := i32_ex a
  obtain ⟨k, rfl, hk⟩ := i32_ex b
  have ep : ∀ μ, fX9_registerAt_L26 (ic k) (ic u) μ = fX9_toldBundles μ (ic u) (ic k) (ic ((0 : Nat) : Int)) := fun μ => by
    unfold fX9_registerAt_L26
    rw [bd_id]
    rfl
  have t1 := (r_toldBundles hM hW hu (o := 0) (e := 0) (by omega) (by omega)).1
  unfold fX8_registerAt fX9_registerAt fX8_registerAt_L15
  rw [x_checkRegister hu, r_isName hu, bd_some, b2_if]
  by_cases h : 0 ≤ u ∧ u ≤ 11
  · rw [if_pos h, bx_l, if_pos (decide_eq_true h), show (0 : Int32) = ic 0 from rfl, show (205 : Int32) = ic 205 from rfl, p_in2 hk (by omega) (by omega), bd_some, b2_ifc]
    by_cases h' : 0 ≤ k ∧ k ≤ 205
    · obtain ⟨n, rfl⟩ : ∃ n : Nat, u = n := ⟨u.toNat, by omega⟩
      obtain ⟨r, rfl⟩ : ∃ n : Nat, k = n := ⟨k.toNat, by omega⟩
      obtain ⟨_, t3⟩ := r_toldBundles hM hW hu (o := 0) (e := r) (by omega) (by omega)
      obtain ⟨M', e2, f2⟩ := t3 n rfl (by omega)
      obtain ⟨X', e1, f1, v1⟩ := x8_doBundles hX.1 (e := r) (by omega)
      rw [if_neg (by rw [ic_lt (by omega)]; omega), if_pos (by rw [ic_le (by omega)]; omega), if_pos (decide_eq_true h'), ep]
      refine agr_q hG hX hM ⟨X', ?_, hX.1.of f1 (by decide), Fx.of f1 (by decide)⟩ ⟨M', e2, f2⟩ (by decide)
      rw [e1, bd_some, v_k v1 n rfl (by omega), Option.bind_some, Nat.zero_add]
    · refine agr_thr hG hX hM (k := 2) (e := 2) ?_ (by rw [if_neg (by rw [decide_eq_false h']; decide)]; rfl) rfl (by omega)
      by_cases h1 : k < 0
      · rw [if_pos (by rw [ic_lt (by omega)]; omega)]
      · rw [if_neg (by rw [ic_lt (by omega)]; omega), if_neg (by rw [ic_le (by omega)]; omega)]
  · rw [if_neg h, bx_r, if_neg (by rw [decide_eq_false h]; decide), ep]
    exact agr_thr hG hX hM (k := 1) (e := 1) rfl (t1 h _) rfl (by omega)
theorem a_loopBundles (hG : GC c) (hX : XC c X) (hM : MC c M) (a : Int32) : Agr cd1 (fX8_loopBundles X a) (fX9_loopBundles M a) := by
  have hW := hG.1
  obtain ⟨k, rfl, hk⟩ := i32_ex a
  unfold fX8_loopBundles fX9_loopBundles
  rw [x_checkRounds hk, r_areRounds hk, bd_some, b2_if]
  unfold fX9_loopBundles_L13
  simp only [pt, Option.bind_some, bd_id]
  by_cases h : 0 ≤ k ∧ k ≤ 20
  · rw [if_pos h, if_pos (decide_eq_true h), bx_l, thr0, show mu M 0 22 0 = mu M 0 22 (ic 0) from rfl]
    obtain ⟨r, rfl⟩ : ∃ n : Nat, k = n := ⟨k.toNat, by omega⟩
    obtain ⟨X1, e0, q1, k1, _, f0, _⟩ := x8_freshLoop hX.1
    obtain ⟨M', e2, f2⟩ := r_needed (ms0 hM) hW (r := r) (by omega)
    refine agr_q hG hX hM ⟨X1, ?_, q1, f0⟩ ⟨M', e2, f2⟩ (by decide)
    rw [e0, bd_some, x8_spanIn q1 k1 (by omega), bd_some]
  · rw [if_neg h, bx_r, if_neg (by rw [decide_eq_false h]; decide), thr1]
    exact agr_thr hG hX hM (k := 2) (e := 1) rfl rfl rfl (by omega)
end ANS13
