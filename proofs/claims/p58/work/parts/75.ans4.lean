/-! ANSWERS ALIKE: one value set -/
def cdB (k : Nat) : Int := if k = 1 then 1 else 2
def Loc (S : Nat → Int) (k a j : Nat) : Prop := (k = 1 ∧ a = 1 ∧ j = 10) ∨ (2 ≤ k ∧ k < 5 ∧ a = 9 ∧ j = k - 2) ∨ (5 ≤ k ∧ k < 8 ∧ a = 10 ∧ j = k - 5) ∨ (8 ≤ k ∧ k < 32 ∧ a = 8 ∧ j = k - 8) ∨ (32 ≤ k ∧ (k - 32) % 6 = 5 ∧ (k - 32) / 6 < nn S ∧ a = 7 ∧ j = (k - 32) / 6)
theorem bx_l {β γ : Type} (r : β) (μ : Mem) (f : β → Mem → Option ((γ ⊕ Nat) × Mem)) : bx (some (.inl r, μ)) f = f r μ := rfl
theorem bx_r {β γ : Type} (k : Nat) (μ : Mem) (f : β → Mem → Option ((γ ⊕ Nat) × Mem)) : bx (some (.inr k, μ)) f = some (.inr k, μ) := rfl
theorem updI_n {S : Nat → Int} {k : Nat} {v : Int} (h : k ≠ 0) : nn (updI S k v) = nn S := by
  unfold nn updI
  rw [if_neg (by omega)]
theorem x_set {S : Nat → Int} {μ : Mem} {k a j : Nat} {v : Int} (h : XS 1 S μ) (hl : Loc S k a j) : XS 1 (updI S k v) (mu μ a j (ic v)) := by
  have hk0 : k ≠ 0 := by
    unfold Loc at hl
    omega
  obtain ⟨h1, h2, h3, h4, h5, h6⟩ := h
  unfold Loc at hl
  have key : ∀ (b q w : Nat), ((b = a ∧ q = j) ↔ w = k) → μ b q = ic (S w) → mu μ a j (ic v) b q = ic (updI S k v w) := fun b q w hi hm => by
    rw [mu_at]
    unfold updI
    by_cases hc : w = k
    · rw [if_pos (hi.mpr hc), if_pos hc]
    · rw [if_neg fun q => hc (hi.mp q), if_neg hc]
      exact hm
  refine ⟨key _ _ _ (by omega) h1, key _ _ _ (by omega) h2, fun u hu => key _ _ _ (by omega) (h3 u hu), fun u hu => key _ _ _ (by omega) (h4 u hu), fun u hu => key _ _ _ (by omega) (h5 u hu), fun i hi => ?_⟩
  rw [updI_n hk0] at hi
  obtain ⟨g1, g2, g3, g4, g5, g6⟩ := h6 i hi
  unfold kd tg on tw nb bu at *
  exact ⟨key _ _ _ (by omega) g1, key _ _ _ (by omega) g2, key _ _ _ (by omega) g3, key _ _ _ (by omega) g4, key _ _ _ (by omega) g5, key _ _ _ (by omega) g6⟩
theorem x_loc {S : Nat → Int} {μ : Mem} {k a j : Nat} (h : XS 1 S μ) (hl : Loc S k a j) : μ a j = ic (S k) := by
  obtain ⟨h1, h2, h3, h4, h5, h6⟩ := h
  rcases hl with ⟨rfl, rfl, rfl⟩ | ⟨g1, g2, rfl, rfl⟩ | ⟨g1, g2, rfl, rfl⟩ | ⟨g1, g2, rfl, rfl⟩ | ⟨g1, g2, g3, rfl, rfl⟩
  · exact h2
  · have := h4 (k - 5)
    have h3' := h3 (k - 2) (by omega)
    rw [show 2 + (k - 2) = k by omega] at h3'
    exact h3'
  · have h4' := h4 (k - 5) (by omega)
    rw [show 5 + (k - 5) = k by omega] at h4'
    exact h4'
  · have h5' := h5 (k - 8) (by omega)
    rw [show 8 + (k - 8) = k by omega] at h5'
    exact h5'
  · have h6' := (h6 _ g3).2.2.2.2.2
    unfold bu at h6'
    rw [show 32 + 6 * ((k - 32) / 6) + 5 = k by omega] at h6'
    exact h6'
section ANS4
variable {c : Cf} {X M : Mem}
theorem agr_thr (hG : GC c) (hX : XC c X) (hM : MC c M) {cd : Nat → Int} {o : Option ((Int32 ⊕ Nat) × Mem)} {p : Option (Int32 × Mem)} {k : Nat} {e : Int} (ho : o = some (.inr k, X)) (hp : p = some (0, mu M 0 22 (ic e))) (he : e = cd k) (h1 : 1 ≤ e ∧ e ≤ 3) : Agr cd o p :=
  ⟨c, X, _, hG, hX, mc_thr (ic e) hM, Or.inr ⟨k, 0, ho, hp, by rw [mus, he], by omega, by omega⟩⟩
theorem x_checkStep (hX : XC c X) (hW : WF c.S) {v : Int} (hv : -2147483648 ≤ v ∧ v < 2147483648) : fX8_checkStep X (ic v) = some (if 0 ≤ v ∧ v ≤ (nn c.S : Int) - 1 then .inl () else .inr 1, X) := by
  have h20 := hW.n
  unfold fX8_checkStep fX8_checkStep_L15
  rw [x_n hX.1.1 hW, show (0 : Int32) = ic 0 from rfl]
  simp (disch := omega) only [ic_lt]
  by_cases h1 : v < 0
  · rw [if_pos h1, if_neg (by omega)]
  · rw [if_neg h1]
    by_cases h2 : v < (nn c.S : Int)
    · rw [if_pos h2, if_pos (by omega)]
    · rw [if_neg h2, if_neg (by omega)]
theorem x_isRegister {v : Int} (hv : -2147483648 ≤ v ∧ v < 2147483648) : fX8_isRegister X (ic v) = some (b2 (decide (0 ≤ v ∧ v ≤ 11)), X) := by
  unfold fX8_isRegister b2
  simp only [ic_lit, decide_eq_true_eq]
  simp (disch := omega) only [ic_lt, ic_le]
  repeat' split
  all_goals first | rfl | omega
theorem x_checkUnit {v : Int} (hv : -2147483648 ≤ v ∧ v < 2147483648) : fX8_checkUnit X (ic v) = some (if 0 ≤ v ∧ v ≤ 2 then .inl () else .inr 1, X) := by
  unfold fX8_checkUnit fX8_checkUnit_L9
  simp only [ic_lit]
  simp (disch := omega) only [ic_lt]
  repeat' split
  all_goals first | rfl | omega
theorem x_checkCell {v : Int} (hv : -2147483648 ≤ v ∧ v < 2147483648) : fX8_checkCell X (ic v) = some (if 0 ≤ v ∧ v ≤ 11 then .inl () else .inr 1, X) := by
  unfold fX8_checkCell fX8_checkCell_L10
  simp only [ic_lit]
  simp (disch := omega) only [ic_lt]
  repeat' split
  all_goals first | rfl | omega
theorem x_checkBundle {v : Int} (hv : -2147483648 ≤ v ∧ v < 2147483648) : fX8_checkBundle X (ic v) = some (if 0 ≤ v ∧ v ≤ 199 then .inl () else .inr 2, X) := by
  unfold fX8_checkBundle fX8_checkBundle_L11
  simp only [ic_lit]
  simp (disch := omega) only [ic_lt]
  repeat' split
  all_goals first | rfl | omega
end ANS4

