def AT (S : Nat → Int) (p : Nat → Int) (μ : Mem) : Prop := ∀ k, k < nn S → μ 13 k = ic (p k)
theorem AT.of {S : Nat → Int} {p : Nat → Int} {μ μ' : Mem} {l : List Nat} (h : AT S p μ) (hF : Fr l μ μ') (hl : 13 ∉ l) : AT S p μ' := fun k hk => by
  rw [hF 13 hl]
  exact h k hk
section RF
variable {S : Nat → Int} {μ μ0 : Mem} {i j : Nat} {p : Nat → Int}
theorem a_ld (h : AT S p μ) (hW : WF S) {k : Nat} (hk : k < nn S) : ld 20 (μ 13) (ic k) = some (ic (p k)) := by
  have hn := hW.n
  rw [ld_k k rfl (by omega), h k hk]
theorem r_sl (h : MS S μ) {u : Nat} (hu : u < 3) : ld 152 (μ 1) (ic (2 + (u : Int))) = some (ic (S (2 + u))) := ms_ld h (2 + u) (by omega) (by omega)
theorem bu_rg (hW : WF S) : ∀ k, k < nn S → -1 ≤ bu S k ∧ bu S k ≤ 10000 := fun k hk => by
  have := hW.bu hk
  omega
def wrS (S : Nat → Int) : Int := if wA S ≠ -1 then 1 + 4 * wA S else if wB S ≠ -1 then 2 + 4 * wB S else if wC S ≠ -1 then 3 + 4 * wC S else 0
theorem wABC_rg (hW : WF S) : (-1 ≤ wA S ∧ wA S < 20) ∧ (-1 ≤ wB S ∧ wB S < 200) ∧ (-1 ≤ wC S ∧ wC S < 20) := by
  have hn := hW.n
  have h1 := fnd_rg (fun k => decide (bu S k = -1)) (nn S)
  have h2 := fnd_rg (full S) (mxm (bu S) (nn S) + 1).toNat
  have h3 := fnd_rg (fun j => early S j j) (nn S)
  have hb199 := mxm_rg (p := bu S) (B := 199) (by omega) (nn S) fun k hk => (hW.bu hk).2
  unfold wA wB wC
  omega
theorem wrS_rg (hW : WF S) : 0 ≤ wrS S ∧ wrS S ≤ 1000 := by
  have := wABC_rg hW
  unfold wrS
  repeat' split
  all_goals omega
theorem wrS_mod (hW : WF S) : wrS S % 4 = whyS S := by
  have := wABC_rg hW
  unfold wrS whyS
  repeat' split
  all_goals omega
end RF

