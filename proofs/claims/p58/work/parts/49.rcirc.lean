/-! one turn of the table, as it is walked -/
def st1 (k : Nat) (T : Nat → Nat → Int) (i j : Nat) : Nat → Nat → Int := fun a b => if a = i ∧ b = j then max (T i j) (T i k + T k j) else T a b
def rowp (k i : Nat) (T : Nat → Nat → Int) : Nat → Nat → Nat → Int
  | 0 => T
  | j + 1 => st1 k (rowp k i T j) i j
def tabp (k n : Nat) (T : Nat → Nat → Int) : Nat → Nat → Nat → Int
  | 0 => T
  | i + 1 => rowp k i (tabp k n T i) n
def BI (k : Nat) (U : Int) (i j : Nat) (T : Nat → Nat → Int) : Prop := ∀ a b, (-9999 ≤ T a b ∧ T a b ≤ 6 * U) ∧ (a = k → T a b ≤ 3 * U) ∧ (b = k → T a b ≤ 3 * U) ∧ (a = k → b = k → T a b ≤ 2 * U) ∧ ((i < a ∨ (a = i ∧ j ≤ b)) → T a b ≤ U)
theorem BI.step {k i j : Nat} {U : Int} {T : Nat → Nat → Int} (hU : 0 ≤ U) (h : BI k U i j T) : BI k U i (j + 1) (st1 k T i j) := by
  intro a b
  unfold st1
  by_cases hc : a = i ∧ b = j
  · obtain ⟨rfl, rfl⟩ := hc
    have h1 := h a b
    have h2 := h a k
    have h3 := h k b
    have h4 := h1.2.2.2.2 (Or.inr ⟨rfl, Nat.le_refl _⟩)
    have h5 := h2.2.2.1 rfl
    have h6 := h3.2.1 rfl
    rw [if_pos ⟨rfl, rfl⟩]
    refine ⟨by omega, fun q => ?_, fun q => ?_, fun q1 q2 => ?_, fun q => by omega⟩
    · subst q
      have := h2.2.2.2.1 rfl rfl
      omega
    · subst q
      have := h3.2.2.2.1 rfl rfl
      omega
    · subst q1
      subst q2
      omega
  · rw [if_neg hc]
    have h1 := h a b
    exact ⟨h1.1, h1.2.1, h1.2.2.1, h1.2.2.2.1, fun q => h1.2.2.2.2 (by omega)⟩
theorem BI.row {k i : Nat} {U : Int} {T : Nat → Nat → Int} (hU : 0 ≤ U) (h : BI k U i 0 T) : ∀ j, BI k U i j (rowp k i T j)
  | 0 => h
  | j + 1 => BI.step hU (BI.row hU h j)
theorem BI.tab {k n : Nat} {U : Int} {T : Nat → Nat → Int} (hU : 0 ≤ U) (h : BI k U 0 0 T) : ∀ i, BI k U i 0 (tabp k n T i)
  | 0 => h
  | i + 1 => fun a b => by
    have h1 := BI.row hU (BI.tab (n := n) hU h i) n a b
    exact ⟨h1.1, h1.2.1, h1.2.2.1, h1.2.2.2.1, fun q => h1.2.2.2.2 (by omega)⟩
theorem BI.of {k : Nat} {U : Int} {T : Nat → Nat → Int} (hU : 0 ≤ U) (h : ∀ a b, -9999 ≤ T a b ∧ T a b ≤ U) : BI k U 0 0 T := fun a b => by
  have := h a b
  exact ⟨by omega, fun _ => by omega, fun _ => by omega, fun _ _ => by omega, fun _ => by omega⟩
theorem rowp_ge {k i : Nat} {T : Nat → Nat → Int} : ∀ j a b, T a b ≤ rowp k i T j a b
  | 0, _, _ => Int.le_refl _
  | j + 1, a, b => by
    have h1 := rowp_ge (k := k) (i := i) (T := T) j a b
    simp only [rowp, st1]
    split
    · next hc =>
      obtain ⟨rfl, rfl⟩ := hc
      omega
    · exact h1
theorem tabp_ge {k n : Nat} {T : Nat → Nat → Int} : ∀ i a b, T a b ≤ tabp k n T i a b
  | 0, _, _ => Int.le_refl _
  | i + 1, a, b => by
    have h1 := tabp_ge (k := k) (n := n) (T := T) i a b
    have h2 := rowp_ge (k := k) (i := i) (T := tabp k n T i) n a b
    simp only [tabp]
    omega
theorem rowp_eq {k i : Nat} {T : Nat → Nat → Int} (hk : T k k ≤ 0) : ∀ j a b, rowp k i T j a b = if a = i ∧ b < j then max (T a b) (T a k + T k b) else T a b
  | 0, a, b => by simp [rowp]
  | j + 1, a, b => by
    have ih := rowp_eq (i := i) hk j
    simp only [rowp, st1]
    by_cases hc : a = i ∧ b = j
    · obtain ⟨rfl, rfl⟩ := hc
      rw [if_pos ⟨rfl, rfl⟩, if_pos ⟨rfl, by omega⟩, ih a b, ih a k, ih k b]
      rw [if_neg (by omega), if_neg (show ¬(k = a ∧ b < b) by omega)]
      split <;> omega
    · rw [if_neg hc, ih a b]
      by_cases h1 : a = i ∧ b < j
      · rw [if_pos h1, if_pos ⟨h1.1, by omega⟩]
      · rw [if_neg h1, if_neg (by omega)]
theorem tabp_eq {k n : Nat} {T : Nat → Nat → Int} (hk : T k k ≤ 0) (hkn : k < n) : ∀ i a b, b < n → tabp k n T i a b = if a < i then max (T a b) (T a k + T k b) else T a b
  | 0, a, b, _ => by simp [tabp]
  | i + 1, a, b, hb => by
    have ih := tabp_eq (n := n) hk hkn i
    have hk' : tabp k n T i k k ≤ 0 := by
      rw [ih k k hkn]
      split <;> omega
    simp only [tabp]
    rw [rowp_eq hk' n a b, ih a b hb, ih a k hkn, ih k b hb]
    by_cases h1 : a = i
    · subst h1
      rw [if_pos ⟨rfl, hb⟩]
      simp only [Nat.lt_irrefl, if_false, Nat.lt_succ_self, if_true]
      split <;> omega
    · rw [if_neg (by omega)]
      by_cases h2 : a < i
      · rw [if_pos h2, if_pos (by omega)]
      · rw [if_neg h2, if_neg (by omega)]
def TB (c : Nat) (n : Nat) (T : Nat → Nat → Int) (μ : Mem) : Prop := ∀ i j, i < n → j < n → μ c (20 * i + j) = ic (T i j)
theorem TB.set {c n : Nat} {T : Nat → Nat → Int} {μ : Mem} (h : TB c n T μ) (hn : n ≤ 20) {i j : Nat} (hj : j < n) {v : Int} {T' : Nat → Nat → Int} (hT : ∀ a b, T' a b = if a = i ∧ b = j then v else T a b) : TB c n T' (mu μ c (20 * i + j) (ic v)) := fun a b ha hb => by
  rw [mu_at, hT]
  by_cases hc : a = i ∧ b = j
  · obtain ⟨rfl, rfl⟩ := hc
    simp
  · rw [if_neg (by omega), if_neg hc, h a b ha hb]

