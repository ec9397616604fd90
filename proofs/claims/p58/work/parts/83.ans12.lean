/-! ANSWERS ALIKE: separations, what is carried, values -/
section ANS12
variable {c : Cf} {X M : Mem}
theorem v_k {a : Nat} {V : Nat → Int32} {μ : Mem} (h : HV a V μ) (n : Nat) {x : Int} (hx : x = (n : Int)) (hn : n < 24) : ld 24 (μ a) (ic x) = some (V n) := by
  rw [v_ld h (by omega), hx, Int.toNat_natCast]
theorem agr_q (hG : GC c) (hX : XC c X) (hM : MC c M) {cd : Nat → Int} {l : List Nat} {r : Int32} {o : Option ((Int32 ⊕ Nat) × Mem)} {p : Option (Int32 × Mem)} (ho : ∃ X', o = some (.inl r, X') ∧ CQ c.S X' ∧ Fx X X') (hp : ∃ M', p = some (r, M') ∧ Fr l (mu M 0 22 (ic 0)) M') (hl : ∀ a, a ∈ l → 5 ≤ a) : Agr cd o p := by
  obtain ⟨X', e1, q1, f1⟩ := ho
  obtain ⟨M', e2, f2⟩ := hp
  have f2' : ∀ a, a < 5 → M' a = mu M 0 22 (ic 0) a := fun a ha => f2 a fun q => by have := hl a q; omega
  exact ⟨c, X', M', hG, hX.fx q1 f1, (mc_thr (ic 0) hM).of (fun a h1 h2 => f2' a (by omega)) (fun k hk => by rw [f2' 0 (by omega)]), Or.inl ⟨r, e1, e2, by rw [f2' 0 (by omega), mus]⟩⟩
theorem x_checkRegister {v : Int} (hv : -2147483648 ≤ v ∧ v < 2147483648) : fX8_checkRegister X (ic v) = some (if 0 ≤ v ∧ v ≤ 11 then .inl () else .inr 1, X) := by
  unfold fX8_checkRegister
  rw [x_isRegister hv, bd_some, b2_if]
  by_cases h : 0 ≤ v ∧ v ≤ 11
  · rw [if_pos (decide_eq_true h), if_pos h]
  · rw [if_neg (by rw [decide_eq_false h]; decide), if_neg h]
theorem x_checkRounds {v : Int} (hv : -2147483648 ≤ v ∧ v < 2147483648) : fX8_checkRounds X (ic v) = some (if 0 ≤ v ∧ v ≤ 20 then .inl () else .inr 2, X) := by
  unfold fX8_checkRounds fX8_checkRounds_L10
  simp only [ic_lit]
  simp (disch := omega) only [ic_lt, ic_le]
  repeat' split
  all_goals first | rfl | omega
end ANS12

