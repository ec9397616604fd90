/-! ANSWERS ALIKE: exchange, pack -/
section ANS14
variable {c : Cf} {X M : Mem}
def pckW (S : Nat → Int) (p : Nat → Int) (w : Nat) : Nat → Int := fun k => if k < 32 then S k else if (k - 32) % 6 = 5 ∧ (k - 32) / 6 < w then p ((k - 32) / 6) else S k
end ANS14

