/-! ANSWERS ALIKE: saved states, the snapshot, a whole text added -/
def cfS (c : Cf) (S : Nat → Int) (HS : Nat → Nat → Int) (m : Nat) : Cf := (S, HS, m, c.hk, c.SK, c.t, c.L)
def cd1 (_ : Nat) : Int := 1
theorem xc_state {c : Cf} {X X' : Mem} {S : Nat → Int} {HS : Nat → Nat → Int} {m : Nat} (h : XC c X) (hX : XS 1 S X') (hW : WF S) (h6 : X' 0 6 = ic 0) (h10 : X' 0 10 = ic 0) (h0 : ∀ k, k ≠ 6 → k ≠ 10 → X' 0 k = X 0 k) (hF : ∀ a, 63 ≤ a → X' a = X a) (hH : XH HS m X') : XC (cfS c S HS m) X' := by
  obtain ⟨a1, a2, a3, a4, a5, a6⟩ := h
  exact ⟨⟨hX, hW, Or.inl h6, Or.inl h10⟩, hH, by rw [h0 3 (by omega) (by omega)]; exact a3, fun q => (a4 q).of fun k hk => hF _ (by omega), by rw [hF 73 (by omega)]; exact a5, fun i hi => by rw [hF 74 (by omega)]; exact a6 i hi⟩
theorem mc_state {c : Cf} {M M' : Mem} {S : Nat → Int} {HS : Nat → Nat → Int} {m : Nat} (h : MC c M) (hS : MS S M') (hH : MH HS m M') (h0 : ∀ k, k = 4 ∨ k = 6 → M' 0 k = M 0 k) (hF : ∀ a, a = 3 ∨ a = 4 → M' a = M a) : MC (cfS c S HS m) M' := by
  obtain ⟨a1, a2, a3, a4, a5, a6⟩ := h
  exact ⟨hS, hH, by rw [h0 4 (by omega)]; exact a3, fun q k hk => by rw [hF 3 (by omega)]; exact a4 q k hk, by rw [h0 6 (by omega)]; exact a5, fun i hi => by rw [hF 4 (by omega)]; exact a6 i hi⟩
theorem wf_psh {S : Nat → Int} {HS : Nat → Nat → Int} {m : Nat} (hW : WF S) (hm : m ≤ 5) (hH : ∀ r, r < m → WF (HS r)) : ∀ r, r < pm m → WF (psh HS m S r) := fun r hr => by
  unfold pm at hr
  unfold psh
  by_cases h5 : m = 5
  · rw [if_pos h5] at hr ⊢
    by_cases h4 : r = 4
    · rw [if_pos h4]
      exact hW
    · rw [if_neg h4]
      exact hH _ (by omega)
  · rw [if_neg h5] at hr ⊢
    by_cases h4 : r = m
    · rw [if_pos h4]
      exact hW
    · rw [if_neg h4]
      exact hH _ (by omega)
theorem b2_z {b : Bool} : (b2 b = 0) = (b = false) := by
  cases b
  · exact propext ⟨fun _ => rfl, fun _ => rfl⟩
  · exact propext ⟨fun q => absurd q (by decide), fun q => by cases q⟩

