/-! the reference's small questions, answered in numbers -/
def b2 (b : Bool) : Int32 := if b = true then ic 1 else ic 0
theorem b2_0 {b : Bool} : (b2 b = ic 0) = (b = false) := by
  unfold b2
  cases b
  · simp
  · simp only [if_pos, eq_iff_iff]
    rw [ic_eq (by omega)]
    simp
theorem b2_t : b2 true = ic 1 := rfl
theorem b2_f : b2 false = ic 0 := rfl
theorem zret_b2 (b : Bool) (μ : Mem) : zret (b2 b) μ = some (b2 b, μ) := by
  cases b
  · exact zret0 μ
  · exact zret1 μ
theorem bd_ite {β γ : Type} (c : Prop) [h : Decidable c] (a b : Option (β × Mem)) (f : β → Mem → Option γ) : bd (if c then a else b) f = if c then bd a f else bd b f := by
  split <;> rfl
theorem wrt_self (S : Nat → Int) (r : Int) (a : Nat) : ∀ b, b ≤ a → wrt S r a b = false
  | 0, _ => rfl
  | b + 1, h => by
    rw [wrt, wrt_self S r a b (by omega)]
    simp
    omega
def MS (S : Nat → Int) (μ : Mem) : Prop := ∀ k, k < 152 → μ 1 k = ic (S k)
theorem MS.of {S : Nat → Int} {μ μ' : Mem} (h : MS S μ) (he : μ' 1 = μ 1) : MS S μ' := fun k hk => (congrFun he k).trans (h k hk)
section RF
variable {S : Nat → Int} {μ : Mem} {i j : Nat}
theorem ms_ld (h : MS S μ) (k : Nat) {i : Int} (hk : i = k) (hb : k < 152) : ld 152 (μ 1) (ic i) = some (ic (S k)) := by
  rw [ld_k k hk ⟨hb, by omega⟩, h k hb]
theorem ms_n (h : MS S μ) (hW : WF S) : ld 152 (μ 1) (ic 0) = some (ic (nn S)) := by
  rw [ms_ld h 0 (i := 0) rfl (by omega), hW.nz]
end RF

