theorem bd_id {β : Type} (o : Option (β × Mem)) : (bd o fun r μ => some (r, μ)) = o := by
  cases o <;> rfl
section ANS5
variable {c : Cf} {X M : Mem}
theorem a_setCell (hG : GC c) (hX : XC c X) (hM : MC c M) (a b : Int32) : Agr cd1 (fX8_setCell X a b) (fX9_setCell M a b) := by
  obtain ⟨u, rfl, hu⟩ := i32_ex a
  obtain ⟨v, rfl, hv⟩ := i32_ex b
  unfold fX8_setCell fX9_setCell
  rw [x_checkCell hu, r_isName hu, bd_some, b2_if]
  by_cases h : 0 ≤ u ∧ u ≤ 11
  · rw [if_pos h, if_pos (decide_eq_true h), bx_l]
    obtain ⟨n, rfl⟩ : ∃ n : Nat, u = n := ⟨u.toNat, by omega⟩
    refine set_agr hG hX hM (k := 20 + n) (a := 8) (j := 12 + n) (v := v) (by unfold Loc; omega) (by omega) (fun X1 f1 e1 => ?_) ?_
    · rw [e1, bd_some]
      unfold fX6_changeFirst
      rw [show (12 : Int32) = ic 12 from rfl, ic_add, show (0 : Int32) = ic 0 from rfl, if_neg (by rw [ic_lt (by omega)]; omega), show (24 : Int32) = ic 24 from rfl, if_pos (by rw [ic_lt (by omega)]; omega), ld_k (12 + n) (by omega) (by omega), Option.bind_some, ast_k (12 + n) (by omega) (by omega), Option.bind_some, bd_some]
    · unfold fX9_setCell_L13
      simp only [pt, Option.bind_some, bd_id]
      rw [show (0 : Int32) = ic 0 from rfl, mus, if_pos (by decide), show (20 : Int32) = ic 20 from rfl, ic_add]
      rfl
  · rw [if_neg h, if_neg (by rw [decide_eq_false h]; decide), bx_r]
    refine agr_thr hG hX hM (k := 1) (e := 1) rfl ?_ rfl (by omega)
    unfold fX9_setCell_L13
    simp only [pt, Option.bind_some]
    rw [show (1 : Int32) = ic 1 from rfl, mus, if_neg (by decide)]
theorem a_setSlots (hG : GC c) (hX : XC c X) (hM : MC c M) (a b : Int32) : Agr cdB (fX8_setSlots X a b) (fX9_setSlots M a b) := by
  obtain ⟨u, rfl, hu⟩ := i32_ex a
  obtain ⟨v, rfl, hv⟩ := i32_ex b
  unfold fX8_setSlots fX9_setSlots fX8_setSlots_L14
  rw [x_checkUnit hu, r_isUnit hu, bd_some, b2_if, show (1 : Int32) = ic 1 from rfl, show (4 : Int32) = ic 4 from rfl, p_in2 hv (by omega) (by omega), bd_some, b2_if]
  by_cases h : 0 ≤ u ∧ u ≤ 2
  · rw [if_pos h, if_pos (decide_eq_true h), bx_l]
    by_cases h2 : 1 ≤ v ∧ v ≤ 4
    · rw [if_pos (decide_eq_true h2), if_neg (by rw [ic_lt (by omega)]; omega), if_pos (by rw [ic_le (by omega)]; omega)]
      obtain ⟨n, rfl⟩ : ∃ n : Nat, u = n := ⟨u.toNat, by omega⟩
      refine set_agr hG hX hM (k := 2 + n) (a := 9) (j := n) (v := v) (by unfold Loc; omega) (by omega) (fun X1 f1 e1 => ?_) ?_
      · rw [e1, bd_some, ld_k n rfl (by omega), Option.bind_some, ast_k n rfl (by omega), Option.bind_some]
      · unfold fX9_setSlots_L26
        simp only [pt, Option.bind_some, bd_id]
        rw [show (0 : Int32) = ic 0 from rfl, mus, if_pos (by decide), show (2 : Int32) = ic 2 from rfl, ic_add]
        rfl
    · have ho : (if ic v < ic 1 then (some (.inr 2, X) : Option ((Int32 ⊕ Nat) × Mem)) else if ic v ≤ ic 4 then bd (fX8_save X) fun _ μ9 => (ld 3 (μ9 9) (ic u)).bind fun r11 => (ast 3 μ9 9 (ic u) (ic v)).bind fun μ12 => some (.inl r11, μ12) else some (.inr 2, X)) = some (.inr 2, X) := by
        simp (disch := omega) only [ic_lt, ic_le]
        by_cases h3 : v < 1
        · rw [if_pos h3]
        · rw [if_neg h3, if_neg (by omega)]
      refine agr_thr hG hX hM (k := 2) (e := 2) ho ?_ rfl (by omega)
      rw [if_neg (by rw [decide_eq_false h2]; decide)]
      unfold fX9_setSlots_L26
      simp only [pt, Option.bind_some]
      rw [show (2 : Int32) = ic 2 from rfl, mus, if_neg (by decide)]
  · rw [if_neg h, if_neg (by rw [decide_eq_false h]; decide), bx_r]
    refine agr_thr hG hX hM (k := 1) (e := 1) rfl ?_ rfl (by omega)
    unfold fX9_setSlots_L26
    simp only [pt, Option.bind_some]
    rw [mus, if_neg (by decide)]
theorem a_setLatency (hG : GC c) (hX : XC c X) (hM : MC c M) (a b : Int32) : Agr cdB (fX8_setLatency X a b) (fX9_setLatency M a b) := by
  obtain ⟨u, rfl, hu⟩ := i32_ex a
  obtain ⟨v, rfl, hv⟩ := i32_ex b
  unfold fX8_setLatency fX9_setLatency fX8_setLatency_L15
  rw [x_checkUnit hu, r_isUnit hu, bd_some, b2_if, show (1 : Int32) = ic 1 from rfl, show (6 : Int32) = ic 6 from rfl, p_in2 hv (by omega) (by omega), bd_some, b2_if]
  by_cases h : 0 ≤ u ∧ u ≤ 2
  · rw [if_pos h, if_pos (decide_eq_true h), bx_l]
    by_cases h2 : 1 ≤ v ∧ v ≤ 6
    · rw [if_pos (decide_eq_true h2), if_neg (by rw [ic_lt (by omega)]; omega), if_pos (by rw [ic_le (by omega)]; omega)]
      obtain ⟨n, rfl⟩ : ∃ n : Nat, u = n := ⟨u.toNat, by omega⟩
      refine set_agr hG hX hM (k := 5 + n) (a := 10) (j := n) (v := v) (by unfold Loc; omega) (by omega) (fun X1 f1 e1 => ?_) ?_
      · rw [e1, bd_some, ld_k n rfl (by omega), Option.bind_some, ast_k n rfl (by omega), Option.bind_some]
      · unfold fX9_setLatency_L27
        simp only [pt, Option.bind_some, bd_id]
        rw [show (0 : Int32) = ic 0 from rfl, mus, if_pos (by decide), show (5 : Int32) = ic 5 from rfl, ic_add]
        rfl
    · have ho : (if ic v < ic 1 then (some (.inr 2, X) : Option ((Int32 ⊕ Nat) × Mem)) else if ic v ≤ ic 6 then bd (fX8_save X) fun _ μ9 => (ld 3 (μ9 10) (ic u)).bind fun r11 => (ast 3 μ9 10 (ic u) (ic v)).bind fun μ12 => some (.inl r11, μ12) else some (.inr 2, X)) = some (.inr 2, X) := by
        simp (disch := omega) only [ic_lt, ic_le]
        by_cases h3 : v < 1
        · rw [if_pos h3]
        · rw [if_neg h3, if_neg (by omega)]
      refine agr_thr hG hX hM (k := 2) (e := 2) ho ?_ rfl (by omega)
      rw [if_neg (by rw [decide_eq_false h2]; decide)]
      unfold fX9_setLatency_L27
      simp only [pt, Option.bind_some]
      rw [show (2 : Int32) = ic 2 from rfl, mus, if_neg (by decide)]
  · rw [if_neg h, if_neg (by rw [decide_eq_false h]; decide), bx_r]
    refine agr_thr hG hX hM (k := 1) (e := 1) rfl ?_ rfl (by omega)
    unfold fX9_setLatency_L27
    simp only [pt, Option.bind_some]
    rw [mus, if_neg (by decide)]
theorem a_setDelay (hG : GC c) (hX : XC c X) (hM : MC c M) (a : Int32) : Agr cd1 (fX8_setDelay X a) (fX9_setDelay M a) := by
  obtain ⟨v, rfl, hv⟩ := i32_ex a
  unfold fX8_setDelay fX9_setDelay fX8_setDelay_L9
  rw [show (0 : Int32) = ic 0 from rfl, show (3 : Int32) = ic 3 from rfl, p_in2 hv (by omega) (by omega), bd_some, b2_ifc]
  by_cases h2 : 0 ≤ v ∧ v ≤ 3
  · rw [if_pos (decide_eq_true h2), if_neg (by rw [ic_lt (by omega)]; omega), if_pos (by rw [ic_le (by omega)]; omega)]
    refine set_agr hG hX hM (k := 1) (a := 1) (j := 10) (v := v) (by unfold Loc; omega) (by omega) (fun X1 f1 e1 => ?_) ?_
    · rw [e1, bd_some]
      simp only [pt, Option.bind_some]
    · unfold fX9_setDelay_L15
      simp only [pt, Option.bind_some, bd_id]
      rw [mus, if_pos (by decide)]
      rfl
  · have ho : (if ic v < ic 0 then (some (.inr 2, X) : Option ((Int32 ⊕ Nat) × Mem)) else if ic v ≤ ic 3 then bd (fX8_save X) fun _ μ4 => (pt μ4 1 10 (ic v)).bind fun μ6 => some (.inl (μ4 1 10), μ6) else some (.inr 2, X)) = some (.inr 2, X) := by
      simp (disch := omega) only [ic_lt, ic_le]
      by_cases h3 : v < 0
      · rw [if_pos h3]
      · rw [if_neg h3, if_neg (by omega)]
    refine agr_thr hG hX hM (k := 2) (e := 1) ho ?_ rfl (by omega)
    rw [if_neg (by rw [decide_eq_false h2]; decide)]
    unfold fX9_setDelay_L15
    simp only [pt, Option.bind_some]
    rw [show (1 : Int32) = ic 1 from rfl, mus, if_neg (by decide)]
theorem a_lay (hG : GC c) (hX : XC c X) (hM : MC c M) (a b : Int32) : Agr cdB (fX8_lay X a b) (fX9_lay M a b) := by
  have hW := hG.1
  have h20 := hW.n
  obtain ⟨u, rfl, hu⟩ := i32_ex a
  obtain ⟨v, rfl, hv⟩ := i32_ex b
  unfold fX8_lay fX9_lay
  rw [x_checkStep hX hW hu, r_isStep hM hW hu, bd_some, b2_if, show (0 : Int32) = ic 0 from rfl, show (199 : Int32) = ic 199 from rfl, p_in2 hv (by omega) (by omega), bd_some, b2_ifc]
  by_cases h : 0 ≤ u ∧ u ≤ (nn c.S : Int) - 1
  · rw [if_pos h, if_pos (decide_eq_true h), bx_l, x_checkBundle hv]
    by_cases h2 : 0 ≤ v ∧ v ≤ 199
    · rw [if_pos h2, if_pos (decide_eq_true h2), bx_l]
      obtain ⟨n, rfl⟩ : ∃ n : Nat, u = n := ⟨u.toNat, by omega⟩
      refine set_agr hG hX hM (k := 32 + 6 * n + 5) (a := 7) (j := n) (v := v) (by unfold Loc; omega) (Or.inr (Or.inr (Or.inr (Or.inr ⟨n, rfl, by omega, by omega⟩)))) (fun X1 f1 e1 => ?_) ?_
      · rw [e1, bd_some, ld_k n rfl (by omega), Option.bind_some, ast_k n rfl (by omega), Option.bind_some]
      · unfold fX9_lay_L29
        simp only [pt, Option.bind_some, bd_id]
        rw [mus, if_pos (by decide), show (32 : Int32) = ic 32 from rfl, show (6 : Int32) = ic 6 from rfl, show (5 : Int32) = ic 5 from rfl, ic_mul, ic_add, ic_add]
        rfl
    · rw [if_neg h2, if_neg (by rw [decide_eq_false h2]; decide), bx_r]
      refine agr_thr hG hX hM (k := 2) (e := 2) rfl ?_ rfl (by omega)
      unfold fX9_lay_L29
      simp only [pt, Option.bind_some]
      rw [show (2 : Int32) = ic 2 from rfl, mus, if_neg (by decide)]
  · rw [if_neg h, if_neg (by rw [decide_eq_false h]; decide), bx_r]
    refine agr_thr hG hX hM (k := 1) (e := 1) rfl ?_ rfl (by omega)
    unfold fX9_lay_L29
    simp only [pt, Option.bind_some]
    rw [show (1 : Int32) = ic 1 from rfl, mus, if_neg (by decide)]
theorem a_takeOut (hG : GC c) (hX : XC c X) (hM : MC c M) (a : Int32) : Agr cdB (fX8_takeOut X a) (fX9_takeOut M a) := by
  have hW := hG.1
  have h20 := hW.n
  obtain ⟨u, rfl, hu⟩ := i32_ex a
  unfold fX8_takeOut fX9_takeOut
  rw [x_checkStep hX hW hu, r_isStep hM hW hu, bd_some, b2_if]
  by_cases h : 0 ≤ u ∧ u ≤ (nn c.S : Int) - 1
  · rw [if_pos h, if_pos (decide_eq_true h), bx_l]
    obtain ⟨n, rfl⟩ : ∃ n : Nat, u = n := ⟨u.toNat, by omega⟩
    have hb := hW.bu (i := n) (by omega)
    rw [x_bu hX.1.1 hW (by omega), Option.bind_some, show (5 : Int32) = ic 5 from rfl, r_its5 hM.1 (by omega), bd_some, show (-1 : Int32) = ic (-1) from rfl]
    by_cases h2 : bu c.S n = -1
    · rw [if_pos (by rw [h2]), if_pos (by rw [h2])]
      refine agr_thr hG hX hM (k := 3) (e := 2) rfl ?_ rfl (by omega)
      unfold fX9_takeOut_L28
      simp only [pt, Option.bind_some]
      rw [show (2 : Int32) = ic 2 from rfl, mus, if_neg (by decide)]
    · rw [if_neg (by rw [ic_eq (by omega)]; exact h2), if_neg (by rw [ic_eq (by omega)]; exact h2)]
      refine set_agr hG hX hM (k := 32 + 6 * n + 5) (a := 7) (j := n) (v := -1) (by unfold Loc; omega) (Or.inr (Or.inr (Or.inr (Or.inr ⟨n, rfl, by omega, by omega⟩)))) (fun X1 f1 e1 => ?_) ?_
      · have e7 : X1 7 n = ic (bu c.S n) := by
          rw [f1 7 (by omega) (by omega)]
          exact (hX.1.1.2.2.2.2.2 n (by omega)).2.2.2.2.2
        rw [e1, bd_some, ast_k n rfl (by omega), Option.bind_some, e7]
      · unfold fX9_takeOut_L28
        simp only [pt, Option.bind_some, bd_id]
        rw [show (0 : Int32) = ic 0 from rfl, mus, if_pos (by decide), show (32 : Int32) = ic 32 from rfl, show (6 : Int32) = ic 6 from rfl, show (5 : Int32) = ic 5 from rfl, ic_mul, ic_add, ic_add]
        rfl
  · rw [if_neg h, if_neg (by rw [decide_eq_false h]; decide), bx_r]
    refine agr_thr hG hX hM (k := 1) (e := 1) rfl ?_ rfl (by omega)
    unfold fX9_takeOut_L28
    simp only [pt, Option.bind_some]
    rw [show (1 : Int32) = ic 1 from rfl, mus, if_neg (by decide)]
end ANS5
