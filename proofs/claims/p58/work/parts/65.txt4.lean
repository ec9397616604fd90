/-! THE REFERENCE'S READING: its memory while it reads, by the spot and what it tells -/
def PM (μ : Mem) (K s : Nat) (f : Nat → Int) : Mem := fun a k => if a = 0 ∧ k = 23 then ic s else if a = 20 ∧ 5 * K ≤ k ∧ k < 5 * K + 5 then ic (f (k - 5 * K)) else μ a k
def updf (f : Nat → Int) (k : Nat) (v : Int) : Nat → Int := fun j => if j = k then v else f j
def RB (t : Nat → Int) (L K : Nat) (μ : Mem) : Prop := μ 0 6 = ic L ∧ (∀ i, i < L → μ 4 i = ic (t i)) ∧ μ 0 25 = ic K ∧ K ≤ 20
theorem pm_congr {μ : Mem} {K s : Nat} {f g : Nat → Int} (h : ∀ k, k < 5 → f k = g k) : PM μ K s f = PM μ K s g := by
  funext a k
  unfold PM
  by_cases h1 : a = 0 ∧ k = 23
  · rw [if_pos h1, if_pos h1]
  · rw [if_neg h1, if_neg h1]
    by_cases h2 : a = 20 ∧ 5 * K ≤ k ∧ k < 5 * K + 5
    · rw [if_pos h2, if_pos h2, h _ (by omega)]
    · rw [if_neg h2, if_neg h2]
theorem pm_23 {μ : Mem} {K s : Nat} {f : Nat → Int} : PM μ K s f 0 23 = ic s := by
  unfold PM
  rw [if_pos ⟨rfl, rfl⟩]
theorem pmt_0 {μ : Mem} {K s k : Nat} {f : Nat → Int} (h : k ≠ 23) : PM μ K s f 0 k = μ 0 k := by
  unfold PM
  rw [if_neg (by omega), if_neg (by omega)]
theorem pm_ne {μ : Mem} {K s a : Nat} {f : Nat → Int} (h : a ≠ 0 ∧ a ≠ 20) : PM μ K s f a = μ a := by
  funext k
  unfold PM
  rw [if_neg (by omega), if_neg (by omega)]
theorem pmt_20 {μ : Mem} {K s k : Nat} {f : Nat → Int} (h : k < 5) : PM μ K s f 20 (5 * K + k) = ic (f k) := by
  unfold PM
  rw [if_neg (by omega), if_pos (by omega), show 5 * K + k - 5 * K = k by omega]
theorem pm_20n {μ : Mem} {K s k : Nat} {f : Nat → Int} (h : k < 5 * K ∨ 5 * K + 5 ≤ k) : PM μ K s f 20 k = μ 20 k := by
  unfold PM
  rw [if_neg (by omega), if_neg (by omega)]
theorem pm_mu23 {μ : Mem} {K s s' : Nat} {f : Nat → Int} : mu (PM μ K s f) 0 23 (ic s') = PM μ K s' f := by
  funext a k
  rw [mu_at]
  unfold PM
  by_cases h1 : a = 0 ∧ k = 23
  · rw [if_pos h1, if_pos h1]
  · rw [if_neg h1, if_neg h1, if_neg h1]
theorem pm_mu20 {μ : Mem} {K s j : Nat} {f : Nat → Int} {v : Int} (h : j < 5) : mu (PM μ K s f) 20 (5 * K + j) (ic v) = PM μ K s (updf f j v) := by
  funext a k
  rw [mu_at]
  unfold PM updf
  by_cases h1 : a = 20 ∧ k = 5 * K + j
  · rw [if_pos h1, if_neg (by omega), if_pos (by omega), if_pos (by omega)]
  · rw [if_neg h1]
    by_cases h2 : a = 0 ∧ k = 23
    · rw [if_pos h2, if_pos h2]
    · rw [if_neg h2, if_neg h2]
      by_cases h3 : a = 20 ∧ 5 * K ≤ k ∧ k < 5 * K + 5
      · rw [if_pos h3, if_pos h3, if_neg (by omega)]
      · rw [if_neg h3, if_neg h3]
theorem b2_ifc {β : Type} {b : Bool} {x y : β} : (if b2 b = ic 0 then x else y) = if b = true then y else x := by
  cases b <;> rfl
section TXT4
variable {t : Nat → Int} {L K s : Nat} {μ : Mem} {f : Nat → Int}
def nN (t : Nat → Int) (p : Nat) (B : Int) : Nat := if t p = 48 then 1 else if isD (t (p + 1)) = true ∧ 10 * (t p - 48) + t (p + 1) - 48 ≤ B then 2 else 1
def vN (t : Nat → Int) (p : Nat) (B : Int) : Int := if nN t p B = 2 then 10 * (t p - 48) + t (p + 1) - 48 else t p - 48
end TXT4

