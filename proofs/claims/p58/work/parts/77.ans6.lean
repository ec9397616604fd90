/-! ANSWERS ALIKE: questions that never throw -/
section ANS6
variable {c : Cf} {X M : Mem}
theorem agrI_q (hG : GC c) (hX : XC c X) (hM : MC c M) {l : List Nat} {r : Int32} {o p : Option (Int32 × Mem)} (ho : ∃ X', o = some (r, X') ∧ CQ c.S X' ∧ Fx X X') (hp : ∃ M', p = some (r, M') ∧ Fr l (mu M 0 22 (ic 0)) M') (hl : ∀ a, a ∈ l → 5 ≤ a) : AgrI o p := by
  obtain ⟨X', e1, q1, f1⟩ := ho
  obtain ⟨M', e2, f2⟩ := hp
  have f2' : ∀ a, a < 5 → M' a = mu M 0 22 (ic 0) a := fun a ha => f2 a fun q => by have := hl a q; omega
  exact ⟨c, X', M', hG, hX.fx q1 f1, (mc_thr (ic 0) hM).of (fun a h1 h2 => f2' a (by omega)) (fun k hk => by rw [f2' 0 (by omega)]), r, e1, e2, by rw [f2' 0 (by omega), mus]⟩
theorem ms0 (hM : MC c M) : MS c.S (mu M 0 22 (ic 0)) := (mc_thr (ic 0) hM).1
end ANS6

