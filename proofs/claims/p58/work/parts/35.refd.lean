def HT (S : Nat → Int) (μ : Mem) : Prop := ∀ j, j < nn S → μ 14 j = ic (hgt S j)
def ET (S : Nat → Int) (μ : Mem) : Prop := ∀ j, j < nn S → μ 15 j = ic (ear S j)
def ETp (S : Nat → Int) (k : Nat) (μ : Mem) : Prop := ∀ j, j < k → μ 15 j = ic (ets S k j)

