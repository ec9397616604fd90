section RO
variable {S : Nat → Int} {μ : Mem}
theorem ms_set (h : MS S μ) (k : Nat) (v : Int) : MS (updI S k v) (mu μ 1 k (ic v)) := fun q hq => by
  rw [mu_at]
  unfold updI
  by_cases hc : q = k
  · simp [hc]
  · rw [if_neg (by omega), if_neg hc]
    exact h q hq
theorem ms_congr {S' : Nat → Int} (h : MS S μ) (he : ∀ k, k < 152 → S' k = S k) : MS S' μ := fun k hk => by rw [he k hk]; exact h k hk
def cpS (S : Nat → Int) (a b : Nat) : Nat → Int := fun k => if 32 ≤ k ∧ (k - 32) / 6 = b then S (32 + 6 * a + (k - 32) % 6) else S k
def insP (S : Nat → Int) (k : Nat) : Nat → Int := fun q => if 32 ≤ q ∧ k < (q - 32) / 6 ∧ (q - 32) / 6 ≤ nn S then S (q - 6) else S q
def remP (S : Nat → Int) (p k : Nat) : Nat → Int := fun q => if q = 0 then S 0 - 1 else if 32 ≤ q ∧ p ≤ (q - 32) / 6 ∧ (q - 32) / 6 < k then S (q + 6) else S q
/-- the saved states -/
def psh (HS : Nat → Nat → Int) (m : Nat) (S : Nat → Int) : Nat → Nat → Int := fun r => if m = 5 then (if r = 4 then S else HS (r + 1)) else if r = m then S else HS r
def pm (m : Nat) : Nat := if m = 5 then 5 else m + 1
def MH (HS : Nat → Nat → Int) (m : Nat) (μ : Mem) : Prop := μ 0 2 = ic m ∧ m ≤ 5 ∧ ∀ r k, r < m → k < 152 → μ 2 (152 * r + k) = ic (HS r k)
end RO

