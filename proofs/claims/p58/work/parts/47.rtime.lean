def RW (W : Nat → Int) (μ : Mem) : Prop := ∀ q, q < 24 → μ 6 q = ic (W q)
def BM (S : Nat → Int) (p : Nat → Int) (beat rounds t : Int) (k0 : Nat) (R : Nat → Nat → Int32) (P : Nat → Nat → Nat) (μ : Mem) : Prop := ∀ k m, k < nn S → m < 20 → Bg p beat rounds t k0 k m → μ 11 (20 * m + k) = R k m ∧ μ 12 (20 * m + k) = ic (P k m)
section RT
variable {S : Nat → Int} {μ μ0 : Mem} {i j : Nat} {p : Nat → Int} {V : Nat → Int32}
theorem tmod_add12 {y z : Int} : (y.tmod 12 + z) % 12 = (y + z) % 12 := by
  have h5 := tmod12 y
  split at h5 <;> omega
end RT

