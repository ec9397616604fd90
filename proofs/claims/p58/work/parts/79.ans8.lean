section ANS8
variable {c : Cf} {X M : Mem}
theorem thr1 {β : Type} {μ : Mem} {x y : β} : (if (mu μ 0 22 1) 0 22 ≤ 0 then x else y) = y := by
  rw [mus, if_neg (by decide)]
theorem thr0 {β : Type} {μ : Mem} {x y : β} : (if (mu μ 0 22 0) 0 22 ≤ 0 then x else y) = x := by
  rw [mus, if_pos (by decide)]
end ANS8

