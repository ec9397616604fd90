/-! a whole step told -/
def TOK (t : Nat → Int) (s e : Nat) (c : Nat → Int) : Prop := (∃ q, Rn t 0 s q e ∧ (q = 5 ∨ (q = 4 ∧ isD (t e) = false))) ∧ (isD (t e) = false → Sh t s e c)
section TXT7
variable {t : Nat → Int} {L K s : Nat} {μ : Mem} {f : Nat → Int}
theorem updf_4 {v w : Int} {g : Nat → Int} : updf (updf g 4 v) 4 w = updf g 4 w := by
  funext j
  unfold updf
  split <;> rfl
theorem tl_0 {a b c d e v : Int} : updf (tl5 a b c d e) 0 v = tl5 v b c d e := by
  funext j
  unfold updf tl5
  repeat' split
  all_goals first | rfl | omega
theorem tl_1 {a b c d e v : Int} : updf (tl5 a b c d e) 1 v = tl5 a v c d e := by
  funext j
  unfold updf tl5
  repeat' split
  all_goals first | rfl | omega
theorem tl_2 {a b c d e v : Int} : updf (tl5 a b c d e) 2 v = tl5 a b v d e := by
  funext j
  unfold updf tl5
  repeat' split
  all_goals first | rfl | omega
theorem tl_3 {a b c d e v : Int} : updf (tl5 a b c d e) 3 v = tl5 a b c v e := by
  funext j
  unfold updf tl5
  repeat' split
  all_goals first | rfl | omega
theorem tl_4 {a b c d e v : Int} : updf (tl5 a b c d e) 4 v = tl5 a b c d v := by
  funext j
  unfold updf tl5
  repeat' split
  all_goals first | rfl | omega
end TXT7

