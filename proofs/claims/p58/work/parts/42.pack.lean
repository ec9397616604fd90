section RP
variable {S : Nat → Int} {μ μ0 : Mem} {i j : Nat} {p : Nat → Int}
theorem upd_rg {s : Nat} {b : Int} (hb : 0 ≤ b ∧ b ≤ 10000) (hp : ∀ k, k < nn S → -1 ≤ p k ∧ p k ≤ 10000) : ∀ k, k < nn S → -1 ≤ updI p s b k ∧ updI p s b k ≤ 10000 := fun k hk => by
  have := hp k hk
  unfold updI
  split <;> omega
theorem AT.upd {s : Nat} {b : Int} (hA : AT S p μ) : AT S (updI p s b) (mu μ 13 s (ic b)) := fun k hk => by
  rw [mu_at]
  unfold updI
  by_cases hq : k = s
  · simp [hq]
  · simp [hq, hA k hk]
theorem ulc_all : ∀ n, ulc (fun _ => (-1 : Int)) n = n
  | 0 => rfl
  | n + 1 => by
    simp only [ulc]
    rw [ulc_all n, if_pos trivial]
end RP

