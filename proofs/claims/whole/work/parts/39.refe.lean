def AT (S : Nat → Int) (p : Nat → Int) (μ : Mem) : Prop := ∀ k, k < nn S → μ 13 k = ic (p k)
theorem AT.of {S : Nat → Int} {p : Nat → Int} {μ μ' : Mem} {l : List Nat} (h : AT S p μ) (hF : Fr l μ μ') (hl : 13 ∉ l) : AT S p μ' := fun k hk => by
  rw [hF 13 hl]
  exact h k hk
section RF
variable {S : Nat → Int} {μ μ0 : Mem} {i j : Nat} {p : Nat → Int}
theorem a_ld (h : AT S p μ) (hW : WF S) {k : Nat} (hk : k < nn S) : ld 20 (μ 13) (ic k) = some (ic (p k)) := by
  have hn := hW.n
  rw [ld_k k rfl (by omega), h k hk]
theorem r_sl (h : MS S μ) {u : Nat} (hu : u < 3) : ld 152 (μ 1) (ic (2 + (u : Int))) = some (ic (S (2 + u))) := ms_ld h (2 + u) (by omega) (by omega)
theorem r_inUnit (h : MS S μ) (hA : AT S p μ) (hW : WF S) (hp : ∀ k, k < nn S → -1 ≤ p k ∧ p k ≤ 10000) {b : Int} (hb : -1 ≤ b ∧ b ≤ 10000) {u : Nat} (hu : u < 3) : fX9_inUnit μ (ic b) (ic u) = some (ic (cin S p b u (nn S)), μ) := by
  have hn := hW.n
  have key := loop_eq (fun f (s : Int32 × Int32) => fX9_inUnit_L5 f (ic b) (ic u) s.1 s.2 μ) 0 (nn S) (fun k => (ic (cin S p b u k), ic k)) (some (ic (cin S p b u (nn S)), μ)) (by omega) ?_ ?_ fu (fu_lt (by omega))
  · simp only [fX9_inUnit, ic_lit]
    exact key
  · intro f k _ hk
    have h2 := un_lt S k
    have h3 := hp k hk
    simp (disch := omega) only [fX9_inUnit_L5, ms_n h hW, Option.bind_some, ic_le, a_ld hA hW hk, ic_eq, r_unit h hW hk, bd_some, fX9_inUnit_L42, fX9_inUnit_L43, ic_lit, ic_add]
    rw [if_neg (by omega)]
    simp only [cin]
    by_cases h4 : p k = b
    · by_cases h5 : un S k = u
      · simp [h4, h5]
      · simp [h4, h5, show ¬((un S k : Int) = (u : Int)) by omega]
    · simp [h4]
  · intro f
    simp (disch := omega) only [fX9_inUnit_L5, ms_n h hW, Option.bind_some, ic_le, ic_lit]
    rw [if_pos (by omega)]
theorem r_takesBundles (h : MS S μ) (hW : WF S) : ∃ μ', fX9_takesBundles μ = some ((), μ') ∧ Fr [13] μ μ' ∧ AT S (bu S) μ' := by
  have hn := hW.n
  have key := lq_m fX9_takesBundles_L2 (fun ν => some ((), ν)) 0 (nn S) (fun k ν => Fr [13] μ ν ∧ ∀ j, j < k → ν 13 j = ic (bu S j)) (by omega) ?_ ?_ μ fu (fu_lt (by omega)) ⟨Fr.rfl', fun i' hc => by omega⟩
  · obtain ⟨ν, ⟨h2, h3⟩, h4⟩ := key
    refine ⟨ν, ?_, h2, h3⟩
    simp only [fX9_takesBundles, ic_lit]
    exact h4
  · rintro f k ν - hk ⟨h2, h3⟩
    have m1 : MS S ν := h.fr h2 (by decide)
    have e3 : (k : Int).toNat = k := by omega
    refine ⟨mu ν 13 k (ic (bu S k)), ⟨h2.trans (Fr_mu (by decide)), ?_⟩, ?_⟩
    · intro j hj
      rw [mu_at]
      by_cases hq : j = k
      · simp [hq]
      · rw [if_neg (by omega)]
        exact h3 j (by omega)
    · simp (disch := omega) only [fX9_takesBundles_L2, ms_n m1 hW, Option.bind_some, ic_le, ic_lit, r_its5 m1, bd_some, ast_ic, e3, ic_add]
      rw [if_neg (by omega)]
      rfl
  · rintro f ν ⟨h2, h3⟩
    have m1 : MS S ν := h.fr h2 (by decide)
    simp (disch := omega) only [fX9_takesBundles_L2, ms_n m1 hW, Option.bind_some, ic_le, ic_lit]
    rw [if_pos (by omega)]
theorem r_lastOf (h : MS S μ) (hA : AT S p μ) (hW : WF S) (hp : ∀ k, k < nn S → -1 ≤ p k ∧ p k ≤ 10000) : fX9_lastOf μ = some (ic (mxm p (nn S)), μ) := by
  have hn := hW.n
  have key := loop_eq (fun f (s : Int32 × Int32) => fX9_lastOf_L4 f s.1 s.2 μ) 0 (nn S) (fun k => (ic (mxm p k), ic k)) (some (ic (mxm p (nn S)), μ)) (by omega) ?_ ?_ fu (fu_lt (by omega))
  · simp only [fX9_lastOf, ic_lit, ic_neg]
    exact key
  · intro f k _ hk
    have h3 := hp k hk
    have h4 := mxm_rg (p := p) (B := 10000) (by omega) k fun k' hk' => (hp k' (by omega)).2
    simp (disch := omega) only [fX9_lastOf_L4, ms_n h hW, Option.bind_some, ic_le, a_ld hA hW hk, r_greater, bd_some, ic_lit, ic_add]
    rw [if_neg (by omega)]
    rfl
  · intro f
    simp (disch := omega) only [fX9_lastOf_L4, ms_n h hW, Option.bind_some, ic_le, ic_lit]
    rw [if_pos (by omega)]
theorem bu_rg (hW : WF S) : ∀ k, k < nn S → -1 ≤ bu S k ∧ bu S k ≤ 10000 := fun k hk => by
  have := hW.bu hk
  omega
theorem r_isTooFull (h : MS S μ) (hA : AT S (bu S) μ) (hW : WF S) {b : Nat} (hb : b ≤ 10000) : fX9_isTooFull μ (ic b) = some (b2 (full S b), μ) := by
  have hn := hW.n
  have key := loop_eq (fun f (s : Int32 × Int32) => fX9_isTooFull_L4 f (ic b) s.1 s.2 μ) 0 3 (fun k => (b2 (fullU S b k), ic k)) (some (b2 (full S b), μ)) (by omega) ?_ ?_ fu (fu_lt (by omega))
  · simp only [fX9_isTooFull, ic_lit]
    exact key
  · intro f k _ hk
    have s0 := hW.sl k hk
    have d0 := cin_rg S (bu S) b k (nn S)
    simp (disch := omega) only [fX9_isTooFull_L4, ic_le, ic_lit, b2_0, r_inUnit h hA hW (bu_rg hW) (b := b) (by omega) hk, bd_some, ic_add, r_sl h hk, Option.bind_some, fX9_isTooFull_L35, fX9_isTooFull_L30]
    rw [if_neg (by omega)]
    simp only [fullU]
    by_cases q0 : fullU S b k = false
    · by_cases q : S (2 + k) < cin S (bu S) b k (nn S)
      · simp [q0, q, b2, show ¬ cin S (bu S) b k (nn S) ≤ S (2 + k) by omega]
      · simp [q0, q, b2, show cin S (bu S) b k (nn S) ≤ S (2 + k) by omega]
    · simp [q0, b2]
  · intro f
    simp (disch := omega) only [fX9_isTooFull_L4, ic_le, ic_lit]
    rw [if_pos (by omega), zret_b2]
    rfl
theorem r_isTooNear (h : MS S μ) (hA : AT S (bu S) μ) (hW : WF S) (hj : j < nn S) : fX9_isTooNear μ (ic j) = some (b2 (early S j j), μ) := by
  have hn := hW.n
  have key := loop_eq (fun f (s : Int32 × Int32) => fX9_isTooNear_L4 f (ic j) s.1 s.2 μ) 0 j (fun k => (b2 (early S j k), ic k)) (some (b2 (early S j j), μ)) (by omega) ?_ ?_ fu (fu_lt (by omega))
  · simp only [fX9_isTooNear, ic_lit]
    exact key
  · intro f k _ hk
    have b1 := bu_rg hW k (by omega)
    have b2' := bu_rg hW j hj
    have b3 := nearT_rg hW k j
    have k1 : k < nn S := by omega
    simp (disch := omega) only [fX9_isTooNear_L4, ic_le, ic_lit, ic_neg, b2_0, r_apartBy h hW k1 hj, bd_some, ic_eq, a_ld hA hW hj, a_ld hA hW k1, Option.bind_some, ic_sub, ic_add, fX9_isTooNear_L46, fX9_isTooNear_L50, fX9_isTooNear_L51]
    rw [if_neg (by omega)]
    simp only [early]
    by_cases q0 : early S j k = false
    · by_cases q1 : nearT S k j = -99
      · simp [q0, q1, b2]
      · by_cases q : bu S j - bu S k < nearT S k j
        · simp [q0, q1, q, b2, show ¬ nearT S k j ≤ bu S j - bu S k by omega]
        · simp [q0, q1, q, b2, show nearT S k j ≤ bu S j - bu S k by omega]
    · simp [q0, b2]
  · intro f
    simp (disch := omega) only [fX9_isTooNear_L4, ic_le, ic_lit]
    rw [if_pos (by omega), zret_b2]
def wrS (S : Nat → Int) : Int := if wA S ≠ -1 then 1 + 4 * wA S else if wB S ≠ -1 then 2 + 4 * wB S else if wC S ≠ -1 then 3 + 4 * wC S else 0
theorem r_wrong_C (m1 : MS S μ) (hA : AT S (bu S) μ) (hW : WF S) (hA1 : wA S = -1) (hB1 : wB S = -1) : fX9_wrong_L70 fu (ic 0) μ = some (ic (wrS S), μ) := by
  have hn := hW.n
  have key := loop_up (fun f s => fX9_wrong_L70 f s μ) 0 (nn S) (fun k s => s = ic (k : Int) ∧ ∀ i, i < k → early S i i = false) (fun o => o = some (ic (wrS S), μ)) (by omega) ?_ ?_ (ic 0) fu (fu_lt (by omega)) ⟨rfl, fun i hi => by omega⟩
  · exact key
  · rintro f k s - hk ⟨rfl, h3⟩
    simp (disch := omega) only [fX9_wrong_L70, ms_n m1 hW, Option.bind_some, ic_le, ic_lit, r_isTooNear m1 hA hW hk, bd_some, b2_0, ic_mul, ic_add]
    rw [if_neg (by omega)]
    by_cases q : early S k k = false
    · left
      refine ⟨ic ((k + 1 : Nat) : Int), ⟨rfl, fun i hi => ?_⟩, ?_⟩
      · by_cases hik : i = k
        · rw [hik, q]
        · exact h3 i (by omega)
      · rw [if_pos q]
        rfl
    · right
      rw [if_neg q]
      have hc : wC S = k := fnd_yes (P := fun j => early S j j) h3 (by simpa using q) hk
      unfold wrS
      rw [if_neg (by omega), if_neg (by omega), if_pos (by omega), hc]
  · rintro f s ⟨rfl, h3⟩
    simp (disch := omega) only [fX9_wrong_L70, ms_n m1 hW, Option.bind_some, ic_le, ic_lit]
    rw [if_pos (by omega)]
    have hc : wC S = -1 := fnd_no (P := fun j => early S j j) h3
    unfold wrS
    rw [if_neg (by omega), if_neg (by omega), if_neg (by omega)]
theorem r_wrong_B (m1 : MS S μ) (hA : AT S (bu S) μ) (hW : WF S) (hA1 : wA S = -1) : fX9_wrong_L40 fu (ic 0) μ = some (ic (wrS S), μ) := by
  have hn := hW.n
  have hl := mxm_rg (p := bu S) (B := 10000) (by omega) (nn S) fun k hk => (bu_rg hW k hk).2
  obtain ⟨L, hL⟩ : ∃ L, L = (mxm (bu S) (nn S) + 1).toNat := ⟨_, rfl⟩
  have hb199 := mxm_rg (p := bu S) (B := 199) (by omega) (nn S) fun k hk => (hW.bu hk).2
  have key := loop_up (fun f s => fX9_wrong_L40 f s μ) 0 L (fun k s => s = ic (k : Int) ∧ ∀ i, i < k → full S i = false) (fun o => o = some (ic (wrS S), μ)) (by omega) ?_ ?_ (ic 0) fu (fu_lt (by omega)) ⟨rfl, fun i hi => by omega⟩
  · exact key
  · rintro f k s - hk ⟨rfl, h3⟩
    simp (disch := omega) only [fX9_wrong_L40, r_lastOf m1 hA hW (bu_rg hW), bd_some, ic_lt, ic_lit, r_isTooFull m1 hA hW (b := k) (by omega), b2_0, ic_mul, ic_add]
    rw [if_neg (by omega)]
    by_cases q : full S k = false
    · left
      refine ⟨ic ((k + 1 : Nat) : Int), ⟨rfl, fun i hi => ?_⟩, ?_⟩
      · by_cases hik : i = k
        · rw [hik, q]
        · exact h3 i (by omega)
      · rw [if_pos q]
        rfl
    · right
      rw [if_neg q]
      have hc : wB S = k := by
        unfold wB
        rw [← hL]
        exact fnd_yes h3 (by simpa using q) hk
      unfold wrS
      rw [if_neg (by omega), if_pos (by omega), hc]
  · rintro f s ⟨rfl, h3⟩
    have hc : wB S = -1 := by
      unfold wB
      rw [← hL]
      exact fnd_no h3
    simp (disch := omega) only [fX9_wrong_L40, r_lastOf m1 hA hW (bu_rg hW), bd_some, ic_lt, ic_lit]
    rw [if_pos (by omega), r_wrong_C m1 hA hW hA1 hc]
theorem r_wrong_A (m1 : MS S μ) (hA : AT S (bu S) μ) (hW : WF S) : fX9_wrong_L6 fu (ic 0) μ = some (ic (wrS S), μ) := by
  have hn := hW.n
  have key := loop_up (fun f s => fX9_wrong_L6 f s μ) 0 (nn S) (fun k s => s = ic (k : Int) ∧ ∀ i, i < k → decide (bu S i = -1) = false) (fun o => o = some (ic (wrS S), μ)) (by omega) ?_ ?_ (ic 0) fu (fu_lt (by omega)) ⟨rfl, fun i hi => by omega⟩
  · exact key
  · rintro f k s - hk ⟨rfl, h3⟩
    have b1 := bu_rg hW k hk
    simp (disch := omega) only [fX9_wrong_L6, ms_n m1 hW, Option.bind_some, ic_le, ic_lit, a_ld hA hW hk, ic_neg, ic_eq, bd_some, ic_mul, ic_add]
    rw [if_neg (by omega)]
    by_cases q : bu S k = -1
    · right
      rw [if_pos q]
      have hc : wA S = k := fnd_yes (P := fun k => decide (bu S k = -1)) h3 (by simpa using q) hk
      unfold wrS
      rw [if_pos (by omega), hc]
    · left
      refine ⟨ic ((k + 1 : Nat) : Int), ⟨rfl, fun i hi => ?_⟩, ?_⟩
      · by_cases hik : i = k
        · rw [hik]
          simpa using q
        · exact h3 i (by omega)
      · rw [if_neg q]
        rfl
  · rintro f s ⟨rfl, h3⟩
    have hc : wA S = -1 := fnd_no (P := fun k => decide (bu S k = -1)) h3
    simp (disch := omega) only [fX9_wrong_L6, ms_n m1 hW, Option.bind_some, ic_le, ic_lit]
    rw [if_pos (by omega), r_wrong_B m1 hA hW hc]
theorem r_wrong (h : MS S μ) (hW : WF S) : ∃ μ', fX9_wrong μ = some (ic (wrS S), μ') ∧ Fr [13] μ μ' ∧ AT S (bu S) μ' := by
  obtain ⟨ν, e1, h2, hA⟩ := r_takesBundles h hW
  have m1 : MS S ν := h.fr h2 (by decide)
  refine ⟨ν, ?_, h2, hA⟩
  rw [fX9_wrong, e1, bd_some]
  exact r_wrong_A m1 hA hW
theorem wABC_rg (hW : WF S) : (-1 ≤ wA S ∧ wA S < 20) ∧ (-1 ≤ wB S ∧ wB S < 200) ∧ (-1 ≤ wC S ∧ wC S < 20) := by
  have hn := hW.n
  have h1 := fnd_rg (fun k => decide (bu S k = -1)) (nn S)
  have h2 := fnd_rg (full S) (mxm (bu S) (nn S) + 1).toNat
  have h3 := fnd_rg (fun j => early S j j) (nn S)
  have hb199 := mxm_rg (p := bu S) (B := 199) (by omega) (nn S) fun k hk => (hW.bu hk).2
  unfold wA wB wC
  omega
theorem wrS_rg (hW : WF S) : 0 ≤ wrS S ∧ wrS S ≤ 1000 := by
  have := wABC_rg hW
  unfold wrS
  repeat' split
  all_goals omega
theorem wrS_mod (hW : WF S) : wrS S % 4 = whyS S := by
  have := wABC_rg hW
  unfold wrS whyS
  repeat' split
  all_goals omega
theorem r_where (h : MS S μ) (hW : WF S) : ∃ μ', fX9_where μ = some (ic (wheS S), μ') ∧ Fr [13] μ μ' ∧ AT S (bu S) μ' := by
  obtain ⟨ν, e1, h2, hA⟩ := r_wrong h hW
  refine ⟨ν, ?_, h2, hA⟩
  have h1 := wrS_rg hW
  have h3 := wABC_rg hW
  simp (disch := omega) only [fX9_where, e1, bd_some, ic_lit, ic_eq, ic_neg, dv_ic, Option.bind_some]
  unfold wheS wrS
  repeat' split
  all_goals first | (exfalso; omega) | (congr 3; omega)
theorem r_ofUnit (h : MS S μ) (hW : WF S) {u : Nat} (hu : u < 3) : fX9_ofUnit μ (ic u) = some (ic (cun S u (nn S)), μ) := by
  have hn := hW.n
  have key := loop_eq (fun f (s : Int32 × Int32) => fX9_ofUnit_L12 f (ic u) s.1 s.2 μ) 0 (nn S) (fun k => (ic (cun S u k), ic k)) (some (ic (cun S u (nn S)), μ)) (by omega) ?_ ?_ fu (fu_lt (by omega))
  · simp (disch := omega) only [fX9_ofUnit, fX9_ofUnit_L9, ic_lit, ic_eq]
    simp only [cun] at key
    by_cases q : u = 0
    · rw [if_pos (by omega)]
      rw [if_pos q] at key
      exact key
    · rw [if_neg (by omega)]
      rw [if_neg q] at key
      exact key
  · intro f k _ hk
    have h2 := un_lt S k
    simp (disch := omega) only [fX9_ofUnit_L12, ms_n h hW, Option.bind_some, ic_le, r_unit h hW hk, bd_some, ic_eq, fX9_ofUnit_L37, ic_lit, ic_add]
    rw [if_neg (by omega)]
    simp only [cun]
    by_cases h5 : un S k = u
    · simp [h5]
    · simp [h5, show ¬((un S k : Int) = (u : Int)) by omega]
  · intro f
    simp (disch := omega) only [fX9_ofUnit_L12, ms_n h hW, Option.bind_some, ic_le, ic_lit]
    rw [if_pos (by omega)]
theorem r_byUnits (h : MS S μ) (hW : WF S) : fX9_byUnits μ = some (ic (ub S 3), μ) := by
  have hn := hW.n
  have key := loop_eq (fun f (s : Int32 × Int32) => fX9_byUnits_L4 f s.1 s.2 μ) 0 3 (fun k => (ic (ub S k), ic k)) (some (ic (ub S 3), μ)) (by omega) ?_ ?_ fu (fu_lt (by omega))
  · simp only [fX9_byUnits, ic_lit]
    exact key
  · intro f k _ hk
    have h2 := cun_rg S k (nn S)
    have h3 := hW.sl k hk
    have h4 := ub_rg hW k (by omega)
    have h5 := div_rg (a := cun S k (nn S) + S (2 + k) - 1) (b := S (2 + k)) (by omega) (by omega)
    simp (disch := omega) only [fX9_byUnits_L4, ic_le, ic_lit, r_ofUnit h hW hk, bd_some, ic_add, ic_sub, r_sl h hk, Option.bind_some, dv_ic, r_greater]
    rw [if_neg (by omega)]
    rfl
  · intro f
    simp (disch := omega) only [fX9_byUnits_L4, ic_le, ic_lit]
    rw [if_pos (by omega)]
theorem r_setIn (h : MS S μ) (hW : WF S) {b : Int} (hb : 0 ≤ b ∧ b ≤ 199) : fX9_setIn μ (ic b) = some (setS S b (nn S), μ) := by
  have hn := hW.n
  have key := loop_eq (fun f (s : Int32 × Int32) => fX9_setIn_L4 f (ic b) s.1 s.2 μ) 0 (nn S) (fun k => (setS S b k, ic k)) (some (setS S b (nn S), μ)) (by omega) ?_ ?_ fu (fu_lt (by omega))
  · simp only [fX9_setIn, ic_lit]
    exact key
  · intro f k _ hk
    have h3 := hW.bu hk
    simp (disch := omega) only [fX9_setIn_L4, ms_n h hW, Option.bind_some, ic_le, r_its5 h, bd_some, ic_eq, fX9_setIn_L32, ic_lit, ic_add]
    rw [if_neg (by omega)]
    simp only [setS]
    by_cases h5 : bu S k = b
    · simp [h5]
    · simp [h5, show ∀ x : Int32, x ||| ic 0 = x from fun x => by rw [show ic 0 = (0 : Int32) from (ic_lit 0).symm, Int32.or_zero]]
  · intro f
    simp (disch := omega) only [fX9_setIn_L4, ms_n h hW, Option.bind_some, ic_le, ic_lit]
    rw [if_pos (by omega)]
theorem r_many (h : MS S μ) (hW : WF S) : ∃ μ', fX9_many μ = some (ic (mxm (bu S) (nn S) + 1), μ') ∧ Fr [13] μ μ' ∧ AT S (bu S) μ' := by
  obtain ⟨ν, e1, h2, hA⟩ := r_takesBundles h hW
  refine ⟨ν, ?_, h2, hA⟩
  simp only [fX9_many, e1, bd_some, r_lastOf (h.fr h2 (by decide)) hA hW (bu_rg hW), ic_lit, ic_add]
end RF
