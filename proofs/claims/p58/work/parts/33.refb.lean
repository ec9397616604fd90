section RF
variable {S : Nat → Int} {μ : Mem} {i j : Nat}
theorem tmod12 (x : Int) : (if 0 ≤ x.tmod 12 then x.tmod 12 else x.tmod 12 + 12) = x % 12 := by
  have h1 := Int.tmod_add_tdiv_mul x 12
  by_cases hx : 0 ≤ x
  · rw [Int.tmod_eq_emod_of_nonneg hx, if_pos (by omega)]
  · have h2 : x.tmod 12 = -((-x) % 12) := by
      rw [← Int.tmod_eq_emod_of_nonneg (a := -x) (by omega), Int.neg_tmod, Int.neg_neg]
    rw [h2]
    split <;> omega
theorem tmod12r (x : Int) : -12 < x.tmod 12 ∧ x.tmod 12 < 12 := by
  by_cases hx : 0 ≤ x
  · rw [Int.tmod_eq_emod_of_nonneg hx]
    omega
  · have h2 : x.tmod 12 = -((-x) % 12) := by
      rw [← Int.tmod_eq_emod_of_nonneg (a := -x) (by omega), Int.neg_tmod, Int.neg_neg]
    omega
end RF

