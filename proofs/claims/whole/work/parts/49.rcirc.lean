/-! one turn of the table, as it is walked -/
def st1 (k : Nat) (T : Nat → Nat → Int) (i j : Nat) : Nat → Nat → Int := fun a b => if a = i ∧ b = j then max (T i j) (T i k + T k j) else T a b
def rowp (k i : Nat) (T : Nat → Nat → Int) : Nat → Nat → Nat → Int
  | 0 => T
  | j + 1 => st1 k (rowp k i T j) i j
def tabp (k n : Nat) (T : Nat → Nat → Int) : Nat → Nat → Nat → Int
  | 0 => T
  | i + 1 => rowp k i (tabp k n T i) n
def BI (k : Nat) (U : Int) (i j : Nat) (T : Nat → Nat → Int) : Prop := ∀ a b, (-9999 ≤ T a b ∧ T a b ≤ 6 * U) ∧ (a = k → T a b ≤ 3 * U) ∧ (b = k → T a b ≤ 3 * U) ∧ (a = k → b = k → T a b ≤ 2 * U) ∧ ((i < a ∨ (a = i ∧ j ≤ b)) → T a b ≤ U)
theorem BI.step {k i j : Nat} {U : Int} {T : Nat → Nat → Int} (hU : 0 ≤ U) (h : BI k U i j T) : BI k U i (j + 1) (st1 k T i j) := by
  intro a b
  unfold st1
  by_cases hc : a = i ∧ b = j
  · obtain ⟨rfl, rfl⟩ := hc
    have h1 := h a b
    have h2 := h a k
    have h3 := h k b
    have h4 := h1.2.2.2.2 (Or.inr ⟨rfl, Nat.le_refl _⟩)
    have h5 := h2.2.2.1 rfl
    have h6 := h3.2.1 rfl
    rw [if_pos ⟨rfl, rfl⟩]
    refine ⟨by omega, fun q => ?_, fun q => ?_, fun q1 q2 => ?_, fun q => by omega⟩
    · subst q
      have := h2.2.2.2.1 rfl rfl
      omega
    · subst q
      have := h3.2.2.2.1 rfl rfl
      omega
    · subst q1
      subst q2
      omega
  · rw [if_neg hc]
    have h1 := h a b
    exact ⟨h1.1, h1.2.1, h1.2.2.1, h1.2.2.2.1, fun q => h1.2.2.2.2 (by omega)⟩
theorem BI.row {k i : Nat} {U : Int} {T : Nat → Nat → Int} (hU : 0 ≤ U) (h : BI k U i 0 T) : ∀ j, BI k U i j (rowp k i T j)
  | 0 => h
  | j + 1 => BI.step hU (BI.row hU h j)
theorem BI.tab {k n : Nat} {U : Int} {T : Nat → Nat → Int} (hU : 0 ≤ U) (h : BI k U 0 0 T) : ∀ i, BI k U i 0 (tabp k n T i)
  | 0 => h
  | i + 1 => fun a b => by
    have h1 := BI.row hU (BI.tab (n := n) hU h i) n a b
    exact ⟨h1.1, h1.2.1, h1.2.2.1, h1.2.2.2.1, fun q => h1.2.2.2.2 (by omega)⟩
theorem BI.of {k : Nat} {U : Int} {T : Nat → Nat → Int} (hU : 0 ≤ U) (h : ∀ a b, -9999 ≤ T a b ∧ T a b ≤ U) : BI k U 0 0 T := fun a b => by
  have := h a b
  exact ⟨by omega, fun _ => by omega, fun _ => by omega, fun _ _ => by omega, fun _ => by omega⟩
theorem rowp_ge {k i : Nat} {T : Nat → Nat → Int} : ∀ j a b, T a b ≤ rowp k i T j a b
  | 0, _, _ => Int.le_refl _
  | j + 1, a, b => by
    have h1 := rowp_ge (k := k) (i := i) (T := T) j a b
    simp only [rowp, st1]
    split
    · next hc =>
      obtain ⟨rfl, rfl⟩ := hc
      omega
    · exact h1
theorem tabp_ge {k n : Nat} {T : Nat → Nat → Int} : ∀ i a b, T a b ≤ tabp k n T i a b
  | 0, _, _ => Int.le_refl _
  | i + 1, a, b => by
    have h1 := tabp_ge (k := k) (n := n) (T := T) i a b
    have h2 := rowp_ge (k := k) (i := i) (T := tabp k n T i) n a b
    simp only [tabp]
    omega
theorem rowp_eq {k i : Nat} {T : Nat → Nat → Int} (hk : T k k ≤ 0) : ∀ j a b, rowp k i T j a b = if a = i ∧ b < j then max (T a b) (T a k + T k b) else T a b
  | 0, a, b => by simp [rowp]
  | j + 1, a, b => by
    have ih := rowp_eq (i := i) hk j
    simp only [rowp, st1]
    by_cases hc : a = i ∧ b = j
    · obtain ⟨rfl, rfl⟩ := hc
      rw [if_pos ⟨rfl, rfl⟩, if_pos ⟨rfl, by omega⟩, ih a b, ih a k, ih k b]
      rw [if_neg (by omega), if_neg (show ¬(k = a ∧ b < b) by omega)]
      split <;> omega
    · rw [if_neg hc, ih a b]
      by_cases h1 : a = i ∧ b < j
      · rw [if_pos h1, if_pos ⟨h1.1, by omega⟩]
      · rw [if_neg h1, if_neg (by omega)]
theorem tabp_eq {k n : Nat} {T : Nat → Nat → Int} (hk : T k k ≤ 0) (hkn : k < n) : ∀ i a b, b < n → tabp k n T i a b = if a < i then max (T a b) (T a k + T k b) else T a b
  | 0, a, b, _ => by simp [tabp]
  | i + 1, a, b, hb => by
    have ih := tabp_eq (n := n) hk hkn i
    have hk' : tabp k n T i k k ≤ 0 := by
      rw [ih k k hkn]
      split <;> omega
    simp only [tabp]
    rw [rowp_eq hk' n a b, ih a b hb, ih a k hkn, ih k b hb]
    by_cases h1 : a = i
    · subst h1
      rw [if_pos ⟨rfl, hb⟩]
      simp only [Nat.lt_irrefl, if_false, Nat.lt_succ_self, if_true]
      split <;> omega
    · rw [if_neg (by omega)]
      by_cases h2 : a < i
      · rw [if_pos h2, if_pos (by omega)]
      · rw [if_neg h2, if_neg (by omega)]
def TB (c : Nat) (n : Nat) (T : Nat → Nat → Int) (μ : Mem) : Prop := ∀ i j, i < n → j < n → μ c (20 * i + j) = ic (T i j)
theorem TB.set {c n : Nat} {T : Nat → Nat → Int} {μ : Mem} (h : TB c n T μ) (hn : n ≤ 20) {i j : Nat} (hj : j < n) {v : Int} {T' : Nat → Nat → Int} (hT : ∀ a b, T' a b = if a = i ∧ b = j then v else T a b) : TB c n T' (mu μ c (20 * i + j) (ic v)) := fun a b ha hb => by
  rw [mu_at, hT]
  by_cases hc : a = i ∧ b = j
  · obtain ⟨rfl, rfl⟩ := hc
    simp
  · rw [if_neg (by omega), if_neg hc, h a b ha hb]
section RC
variable {S : Nat → Int} {μ μ0 : Mem} {i j : Nat} {T : Nat → Nat → Int}
theorem r_tinit_in (hW : WF S) (hG : HG S μ0) {b : Int} (hb : 1 ≤ b ∧ b ≤ 200) (K : Int32 → Int32 → Int32 → Mem → Option (Int32 × Mem)) (hi : i < nn S) (hF : Fr [16] μ0 μ) (hT : ∀ i' j', i' < i → j' < nn S → μ 16 (20 * i' + j') = ic (gw S b i' j')) :
    ∃ μ', (Fr [16] μ0 μ' ∧ ∀ i' j', i' < i + 1 → j' < nn S → μ' 16 (20 * i' + j') = ic (gw S b i' j')) ∧ fX9_isPushed_L17 K fu (ic b) (ic (nn S)) (ic i) (ic 0) μ = K (ic b) (ic (nn S)) (ic ((i + 1 : Nat) : Int)) μ' := by
  have hn := hW.n
  have key := lq_m (fun f v ν => fX9_isPushed_L17 K f (ic b) (ic (nn S)) (ic i) v ν) (fun ν => K (ic b) (ic (nn S)) (ic ((i + 1 : Nat) : Int)) ν) 0 (nn S) (fun k ν => Fr [16] μ0 ν ∧ ∀ i' j', (i' < i ∨ (i' = i ∧ j' < k)) → j' < nn S → ν 16 (20 * i' + j') = ic (gw S b i' j')) (by omega) ?_ ?_ μ fu (fu_lt (by omega)) ⟨hF, fun i' j' h1 h2 => hT i' j' (by omega) h2⟩
  · obtain ⟨ν, ⟨h2, h3⟩, h4⟩ := key
    exact ⟨ν, ⟨h2, fun i' j' hc h5 => h3 i' j' (by omega) h5⟩, h4⟩
  · rintro f k ν - hk ⟨h2, h3⟩
    have g1 := hG.of h2 (by decide) (by decide) i k hi hk
    have e1 : (20 * (i : Int) + k).toNat = 20 * i + k := by omega
    have b1 := nearT_rg hW i k
    have b2 := over_rg hW i k
    refine ⟨mu ν 16 (20 * i + k) (ic (gw S b i k)), ⟨h2.trans (Fr_mu (by decide)), ?_⟩, ?_⟩
    · intro i' j' hc h5
      rw [mu_at]
      by_cases hq : 20 * i' + j' = 20 * i + k
      · obtain ⟨rfl, rfl⟩ : i' = i ∧ j' = k := by omega
        rw [if_pos ⟨rfl, rfl⟩]
      · rw [if_neg (by omega)]
        exact h3 i' j' (by omega) h5
    · simp (disch := omega) only [fX9_isPushed_L17, ic_le, ic_lit, ic_mul, ic_add, ic_sub, ic_neg, ld_ic, e1, g1.1, g1.2, Option.bind_some, ic_eq]
      rw [if_neg (by omega)]
      unfold gw
      by_cases c1 : over S i k = -99
      · rw [if_pos c1, if_pos c1]
        by_cases c2 : nearT S i k = -99
        · simp (disch := omega) only [fX9_isPushed_L60, fX9_isPushed_L97, ic_lit, ic_mul, ic_add, ic_neg, ld_ic, e1, g1.1, Option.bind_some, ic_eq, r_greater, bd_some, ast_ic]
          rw [if_pos c2, if_pos c2]
          rfl
        · simp (disch := omega) only [fX9_isPushed_L60, fX9_isPushed_L97, ic_lit, ic_mul, ic_add, ic_neg, ld_ic, e1, g1.1, Option.bind_some, ic_eq, r_greater, bd_some, ast_ic]
          rw [if_neg c2, if_neg c2, show max (-9999) (nearT S i k) = nearT S i k by omega]
          rfl
      · rw [if_neg c1, if_neg c1]
        by_cases c2 : nearT S i k = -99
        · simp (disch := omega) only [fX9_isPushed_L60, fX9_isPushed_L97, ic_lit, ic_mul, ic_add, ic_neg, ld_ic, e1, g1.1, Option.bind_some, ic_eq, r_greater, bd_some, ast_ic]
          rw [if_pos c2, if_pos c2, Int.max_comm]
          rfl
        · simp (disch := omega) only [fX9_isPushed_L60, fX9_isPushed_L97, ic_lit, ic_mul, ic_add, ic_neg, ld_ic, e1, g1.1, Option.bind_some, ic_eq, r_greater, bd_some, ast_ic]
          rw [if_neg c2, if_neg c2, Int.max_comm]
          rfl
  · rintro f ν ⟨h2, h3⟩
    simp (disch := omega) only [fX9_isPushed_L17, ic_le, ic_lit, ic_add]
    rw [if_pos (by omega)]
    rfl
theorem r_tinit (hW : WF S) (hG : HG S μ) {b : Int} (hb : 1 ≤ b ∧ b ≤ 200) : ∃ μ', (Fr [16] μ μ' ∧ TB 16 (nn S) (gw S b) μ') ∧ fX9_isPushed_L9 fu (ic b) (ic (nn S)) (ic 0) μ = fX9_isPushed_L132 fu (ic (nn S)) (ic 0) μ' := by
  have hn := hW.n
  have key := lq_m (fun f v ν => fX9_isPushed_L9 f (ic b) (ic (nn S)) v ν) (fun ν => fX9_isPushed_L132 fu (ic (nn S)) (ic 0) ν) 0 (nn S) (fun k ν => Fr [16] μ ν ∧ ∀ i' j', i' < k → j' < nn S → ν 16 (20 * i' + j') = ic (gw S b i' j')) (by omega) ?_ ?_ μ fu (fu_lt (by omega)) ⟨Fr.rfl', fun i' j' h1 h2 => by omega⟩
  · exact key
  · rintro f k ν - hk ⟨h2, h3⟩
    obtain ⟨ν', i1, i2⟩ := r_tinit_in hW hG hb (fX9_isPushed_L9 f) hk h2 h3
    refine ⟨ν', i1, ?_⟩
    simp (disch := omega) only [fX9_isPushed_L9, ic_le, ic_lit]
    rw [if_neg (by omega)]
    exact i2
  · rintro f ν ⟨h2, h3⟩
    simp (disch := omega) only [fX9_isPushed_L9, ic_le, ic_lit]
    rw [if_pos (by omega)]
theorem r_row (hn : nn S ≤ 20) {k : Nat} {U : Int} (hU : 0 ≤ U ∧ U ≤ 1000) (K : Int32 → Int32 → Int32 → Mem → Option (Int32 × Mem)) (hi : i < nn S) (hk : k < nn S) (hB : BI k U i 0 T) (hF : Fr [16] μ0 μ) (hT : TB 16 (nn S) T μ) :
    ∃ μ', (Fr [16] μ0 μ' ∧ TB 16 (nn S) (rowp k i T (nn S)) μ') ∧ fX9_isPushed_L149 K fu (ic (nn S)) (ic k) (ic i) (ic 0) μ = K (ic (nn S)) (ic k) (ic ((i + 1 : Nat) : Int)) μ' := by
  have key := lq_m (fun f v ν => fX9_isPushed_L149 K f (ic (nn S)) (ic k) (ic i) v ν) (fun ν => K (ic (nn S)) (ic k) (ic ((i + 1 : Nat) : Int)) ν) 0 (nn S) (fun j ν => Fr [16] μ0 ν ∧ TB 16 (nn S) (rowp k i T j) ν) (by omega) ?_ ?_ μ fu (fu_lt (by omega)) ⟨hF, hT⟩
  · exact key
  · rintro f j ν - hj ⟨h2, h3⟩
    have e1 : (20 * (i : Int) + k).toNat = 20 * i + k := by omega
    have e2 : (20 * (k : Int) + j).toNat = 20 * k + j := by omega
    have e3 : (20 * (i : Int) + j).toNat = 20 * i + j := by omega
    have hb := BI.row hU.1 hB j
    have b1 := (hb i k).1
    have b2 := (hb k j).1
    have b3 := (hb i j).1
    have t1 := h3 i k hi hk
    have t2 := h3 k j hk hj
    have t3 := h3 i j hi hj
    refine ⟨mu ν 16 (20 * i + j) (ic (max (rowp k i T j i j) (rowp k i T j i k + rowp k i T j k j))), ⟨h2.trans (Fr_mu (by decide)), h3.set hn hj fun a b => rfl⟩, ?_⟩
    simp (disch := omega) only [fX9_isPushed_L149, ic_le, ic_lit, ic_neg, ic_mul, ic_add, ld_ic, e1, e2, e3, t1, t2, t3, Option.bind_some, fX9_isPushed_L223, r_greater, bd_some, ast_ic]
    rw [if_neg (by omega)]
    by_cases hc : -9999 ≤ rowp k i T j i k + rowp k i T j k j
    · rw [if_pos hc]
      rfl
    · rw [if_neg hc, show max (rowp k i T j i j) (rowp k i T j i k + rowp k i T j k j) = max (rowp k i T j i j) (-9999) by omega]
      rfl
  · rintro f ν ⟨h2, h3⟩
    simp (disch := omega) only [fX9_isPushed_L149, ic_le, ic_lit, ic_add]
    rw [if_pos (by omega)]
    rfl
theorem r_tab (hn : nn S ≤ 20) {k : Nat} {U : Int} (hU : 0 ≤ U ∧ U ≤ 1000) (K : Int32 → Int32 → Mem → Option (Int32 × Mem)) (hk : k < nn S) (hB : BI k U 0 0 T) (hF : Fr [16] μ0 μ) (hT : TB 16 (nn S) T μ) :
    ∃ μ', (Fr [16] μ0 μ' ∧ TB 16 (nn S) (tabp k (nn S) T (nn S)) μ') ∧ fX9_isPushed_L140 K fu (ic (nn S)) (ic k) (ic 0) μ = fX9_isPushed_L242 K fu (ic (nn S)) (ic k) (ic 0) μ' := by
  have key := lq_m (fun f v ν => fX9_isPushed_L140 K f (ic (nn S)) (ic k) v ν) (fun ν => fX9_isPushed_L242 K fu (ic (nn S)) (ic k) (ic 0) ν) 0 (nn S) (fun i ν => Fr [16] μ0 ν ∧ TB 16 (nn S) (tabp k (nn S) T i) ν) (by omega) ?_ ?_ μ fu (fu_lt (by omega)) ⟨hF, hT⟩
  · exact key
  · rintro f i ν - hi ⟨h2, h3⟩
    obtain ⟨ν', i1, i2⟩ := r_row hn hU (fX9_isPushed_L140 K f) hi hk (BI.tab hU.1 hB i) h2 h3
    refine ⟨ν', i1, ?_⟩
    simp (disch := omega) only [fX9_isPushed_L140, ic_le, ic_lit]
    rw [if_neg (by omega)]
    exact i2
  · rintro f ν ⟨h2, h3⟩
    simp (disch := omega) only [fX9_isPushed_L140, ic_le, ic_lit]
    rw [if_pos (by omega)]
/-- the look along the diagonal -/
theorem r_diag (hn : nn S ≤ 20) (K : Int32 → Int32 → Mem → Option (Int32 × Mem)) {k : Nat} (hT : TB 16 (nn S) T μ) (hr : ∀ i, -9999 ≤ T i i ∧ T i i ≤ 100000) :
    ((∃ i, i < nn S ∧ 0 < T i i) ∧ fX9_isPushed_L242 K fu (ic (nn S)) (ic k) (ic 0) μ = some (ic 1, μ)) ∨ ((∀ i, i < nn S → T i i ≤ 0) ∧ fX9_isPushed_L242 K fu (ic (nn S)) (ic k) (ic 0) μ = K (ic (nn S)) (ic ((k + 1 : Nat) : Int)) μ) := by
  have key := loop_up (fun f s => fX9_isPushed_L242 K f (ic (nn S)) (ic k) s μ) 0 (nn S) (fun i s => s = ic (i : Int) ∧ ∀ i', i' < i → T i' i' ≤ 0) (fun o => ((∃ i, i < nn S ∧ 0 < T i i) ∧ o = some (ic 1, μ)) ∨ ((∀ i, i < nn S → T i i ≤ 0) ∧ o = K (ic (nn S)) (ic ((k + 1 : Nat) : Int)) μ)) (by omega) ?_ ?_ (ic 0) fu (fu_lt (by omega)) ⟨rfl, fun i hi => by omega⟩
  · exact key
  · rintro f i s - hi ⟨rfl, h3⟩
    have e3 : (20 * (i : Int) + i).toNat = 20 * i + i := by omega
    have b3 := hr i
    simp (disch := omega) only [fX9_isPushed_L242, ic_le, ic_lit, ic_mul, ic_add, ld_ic, e3, hT i i hi hi, Option.bind_some]
    rw [if_neg (by omega)]
    by_cases hc : T i i ≤ 0
    · left
      refine ⟨ic ((i + 1 : Nat) : Int), ⟨rfl, fun i' hi' => ?_⟩, ?_⟩
      · by_cases hq : i' = i
        · rw [hq]
          exact hc
        · exact h3 i' (by omega)
      · rw [if_pos hc]
        rfl
    · right
      left
      refine ⟨⟨i, hi, by omega⟩, ?_⟩
      rw [if_neg hc]
  · rintro f s ⟨rfl, h3⟩
    right
    refine ⟨h3, ?_⟩
    simp (disch := omega) only [fX9_isPushed_L242, ic_le, ic_lit, ic_add]
    rw [if_pos (by omega)]
    rfl
theorem r_isPushed (h : MS S μ) (hG : HG S μ) (hW : WF S) {b : Int} (hb : 1 ≤ b ∧ b ≤ 200) : ∃ μ' x, fX9_isPushed μ (ic b) = some (b2 x, μ') ∧ Fr [16] μ μ' ∧ (x = false ↔ Pot S b) := by
  have hn := hW.n
  obtain ⟨μ1, ⟨f1, t1⟩, e1⟩ := r_tinit hW hG hb
  have hgw := gw_rg hW hb
  have key := loop_up (fun f (s : Int32 × Mem) => fX9_isPushed_L132 f (ic (nn S)) s.1 s.2) 0 (nn S) (fun k s => s.1 = ic (k : Int) ∧ Fr [16] μ s.2 ∧ TB 16 (nn S) (fw (gw S b) k) s.2 ∧ ∀ a, a < k → fw (gw S b) a a a ≤ 0) (fun o => ∃ μ' x, o = some (b2 x, μ') ∧ Fr [16] μ μ' ∧ (x = false ↔ Pot S b)) (by omega) ?_ ?_ (ic 0, μ1) fu (fu_lt (by omega)) ⟨rfl, f1, t1, fun a ha => by omega⟩
  · obtain ⟨μ', x, h1, h2⟩ := key
    refine ⟨μ', x, ?_, h2⟩
    unfold fX9_isPushed
    simp only [ic_lit]
    rw [ms_n h hW, Option.bind_some, e1]
    exact h1
  · rintro f k ⟨v, ν⟩ - hk ⟨h1, h2, h3, h4⟩
    dsimp only at h1 h2 h3 ⊢
    subst h1
    have hbd := fw_bd (w := gw S b) (fun i j => (hgw i j).2.1) h4
    have hlo : ∀ i j, -9999 ≤ fw (gw S b) k i j := fun i j => by
      have := fw_up (w := gw S b) 0 i j k
      rw [Nat.zero_add] at this
      have h9 := (hgw i j).1
      simp only [fw] at this
      omega
    have hB : BI k 132 0 0 (fw (gw S b) k) := BI.of (by omega) fun a c => ⟨hlo a c, by have := hbd a c; omega⟩
    obtain ⟨ν1, ⟨g1, g2⟩, g3⟩ := r_tab hn.1 (U := 132) (by omega) (fX9_isPushed_L132 f) hk hB h2 h3
    have hB2 := BI.tab (n := nn S) (by omega) hB (nn S)
    have hstep : fX9_isPushed_L132 (f + 1) (ic (nn S)) (ic (k : Int)) ν = fX9_isPushed_L242 (fX9_isPushed_L132 f) fu (ic (nn S)) (ic k) (ic 0) ν1 := by
      rw [← g3]
      simp (disch := omega) only [fX9_isPushed_L132, ic_le, ic_lit]
      rw [if_neg (by omega)]
    rw [hstep]
    rcases r_diag (k := k) hn.1 (fX9_isPushed_L132 f) g2 (fun i => by have := (hB2 i i).1; omega) with ⟨⟨i, hi, hpos⟩, he⟩ | ⟨hall, he⟩
    · right
      refine ⟨ν1, true, he, g1, ?_⟩
      refine ⟨fun q => (by cases q), fun hp => ?_⟩
      exfalso
      have hkk := pot_diag hW hb hp (k := k) (by omega) hk
      rw [tabp_eq hkk hk (nn S) i i hi, if_pos hi] at hpos
      have := pot_diag hW hb hp (k := k + 1) (by omega) hi
      simp only [fw] at this
      omega
    · left
      have hkk : fw (gw S b) k k k ≤ 0 := by
        have h8 := tabp_ge (k := k) (n := nn S) (T := fw (gw S b) k) (nn S) k k
        have h9 := hall k hk
        omega
      refine ⟨(ic ((k + 1 : Nat) : Int), ν1), ⟨rfl, g1, ?_, ?_⟩, he⟩
      · intro a c ha hc
        show ν1 16 (20 * a + c) = _
        rw [g2 a c ha hc, tabp_eq hkk hk (nn S) a c hc, if_pos ha]
        rfl
      · intro a ha
        by_cases hak : a = k
        · rw [hak]
          exact hkk
        · exact h4 a (by omega)
  · rintro f ⟨v, ν⟩ ⟨h1, h2, h3, h4⟩
    dsimp only at h1 h2 h3 ⊢
    subst h1
    refine ⟨ν, false, ?_, h2, ⟨fun _ => diag_pot h4, fun _ => rfl⟩⟩
    simp (disch := omega) only [fX9_isPushed_L132, ic_le, ic_lit]
    rw [if_pos (by omega)]
    rfl
theorem r_byCircles (h : MS S μ) (hW : WF S) {k : Nat} (hk : isLb S k) (hk2 : k ≤ 120) : ∃ μ', fX9_byCircles μ = some (ic k, μ') ∧ Fr [16, 17, 18] μ μ' ∧ HG S μ' := by
  obtain ⟨μ1, e1, f1, hG⟩ := r_hangs hW h
  have hk1 := hk.1
  have key := loop_up (fun f (s : Int32 × Mem) => fX9_byCircles_L6 f s.1 s.2) 1 k (fun b s => s.1 = ic (b : Int) ∧ Fr [16] μ1 s.2) (fun o => ∃ μ', o = some (ic k, μ') ∧ Fr [16] μ1 μ') hk1 ?_ ?_ (ic 1, μ1) fu (fu_lt (by omega)) ⟨rfl, Fr.rfl'⟩
  · obtain ⟨μ', h1, h2⟩ := key
    refine ⟨μ', ?_, (f1.mono (by decide)).trans (h2.mono (by decide)), hG.of h2 (by decide) (by decide)⟩
    rw [fX9_byCircles, e1, bd_some]
    exact h1
  · rintro f b ⟨v, ν⟩ hb1 hb2 ⟨h1, h2⟩
    dsimp only at h1 h2 ⊢
    subst h1
    obtain ⟨ν', x, g1, g2, g3⟩ := r_isPushed ((h.fr f1 (by decide)).fr h2 (by decide)) (hG.of h2 (by decide) (by decide)) hW (b := b) (by omega)
    have hx : x ≠ false := fun q => hk.2.2 b hb1 hb2 (g3.mp q)
    left
    refine ⟨(ic ((b + 1 : Nat) : Int), ν'), ⟨rfl, h2.trans g2⟩, ?_⟩
    rw [fX9_byCircles_L6, g1, bd_some]
    simp only [ic_lit, b2_0, ic_add]
    rw [if_neg hx]
    rfl
  · rintro f ⟨v, ν⟩ ⟨h1, h2⟩
    dsimp only at h1 h2 ⊢
    subst h1
    obtain ⟨ν', x, g1, g2, g3⟩ := r_isPushed ((h.fr f1 (by decide)).fr h2 (by decide)) (hG.of h2 (by decide) (by decide)) hW (b := k) (by omega)
    have hx : x = false := g3.mpr hk.2.1
    refine ⟨ν', ?_, h2.trans g2⟩
    rw [fX9_byCircles_L6, g1, bd_some]
    simp only [ic_lit, b2_0]
    rw [if_pos hx]
end RC
