def TK (c m : Nat) (β : Int) (tk : Nat → Nat → Int) (μ : Mem) : Prop := ∀ u x : Nat, u < 3 → (x : Int) < β → μ c (m * u + x) = ic (tk u x)
section RL
variable {S : Nat → Int} {μ μ0 : Mem} {j : Nat} {β : Int} {s : Nat → Int} {tk : Nat → Nat → Int}
theorem mod_rg (hβ : 1 ≤ β) (t : Int) : 0 ≤ t % β ∧ t % β < β := ⟨Int.emod_nonneg _ (by omega), Int.emod_lt_of_pos _ (by omega)⟩
theorem TK.up {c m : Nat} {x u : Nat} (h : TK c m β tk μ) (hm : β ≤ m) (hx : (x : Int) < β) : TK c m β (tkup tk u x) (mu μ c (m * u + x) (ic (tk u x + 1))) := by
  intro u' x' hu' hx'
  rw [mu_at]
  unfold tkup
  by_cases hq : u' = u ∧ x' = x
  · obtain ⟨rfl, rfl⟩ := hq
    simp
  · rw [if_neg hq]
    by_cases hq2 : m * u' + x' = m * u + x
    · exfalso
      apply hq
      have h1 : u' = u := by
        by_cases hlt : u' < u
        · have := Nat.mul_le_mul_left m (show u' + 1 ≤ u by omega)
          rw [Nat.mul_add, Nat.mul_one] at this
          omega
        · by_cases hgt : u < u'
          · have := Nat.mul_le_mul_left m (show u + 1 ≤ u' by omega)
            rw [Nat.mul_add, Nat.mul_one] at this
            omega
          · omega
      subst h1
      exact ⟨rfl, by omega⟩
    · rw [if_neg (by omega)]
      exact h u' x' hu' hx'
end RL

