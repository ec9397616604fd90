/-! a step told, by the reference, beside the modes -/
section TXT6
variable {t : Nat → Int} {L K s : Nat} {μ : Mem} {f : Nat → Int}
theorem cm_m {m me : Int} (h : Cm m me) : 8 ≤ m ∧ m ≤ 13 ∧ 5 ≤ me := by
  unfold Cm at h
  omega
end TXT6

