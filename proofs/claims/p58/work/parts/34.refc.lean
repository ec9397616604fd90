def HGp (S : Nat → Int) (i j : Nat) (μ : Mem) : Prop := ∀ i' j', (i' < i ∨ (i' = i ∧ j' < j)) → i' < nn S → j' < nn S → μ 17 (20 * i' + j') = ic (nearT S i' j') ∧ μ 18 (20 * i' + j') = ic (over S i' j')
def HG (S : Nat → Int) (μ : Mem) : Prop := ∀ i j, i < nn S → j < nn S → μ 17 (20 * i + j) = ic (nearT S i j) ∧ μ 18 (20 * i + j) = ic (over S i j)
theorem HG.of {S : Nat → Int} {μ μ' : Mem} {l : List Nat} (h : HG S μ) (hF : Fr l μ μ') (h1 : 17 ∉ l) (h2 : 18 ∉ l) : HG S μ' := fun i j hi hj => by
  rw [hF 17 h1, hF 18 h2]
  exact h i j hi hj
theorem MS.fr {S : Nat → Int} {μ μ' : Mem} {l : List Nat} (h : MS S μ) (hF : Fr l μ μ') (h1 : 1 ∉ l) : MS S μ' := h.of (hF 1 h1)
section RF
variable {S : Nat → Int} {μ μ0 : Mem} {i j : Nat}
/-- heights -/
def HTp (S : Nat → Int) (k : Nat) (μ : Mem) : Prop := ∀ j, nn S - k ≤ j → j < nn S → μ 14 j = ic (hts S k j)
end RF

