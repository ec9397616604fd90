/-! ANSWERS ALIKE: one value set -/
def cdB (k : Nat) : Int := if k = 1 then 1 else 2
def Loc (S : Nat → Int) (k a j : Nat) : Prop := (k = 1 ∧ a = 1 ∧ j = 10) ∨ (2 ≤ k ∧ k < 5 ∧ a = 9 ∧ j = k - 2) ∨ (5 ≤ k ∧ k < 8 ∧ a = 10 ∧ j = k - 5) ∨ (8 ≤ k ∧ k < 32 ∧ a = 8 ∧ j = k - 8) ∨ (32 ≤ k ∧ (k - 32) % 6 = 5 ∧ (k - 32) / 6 < nn S ∧ a = 7 ∧ j = (k - 32) / 6)
theorem bx_l {β γ : Type} (r : β) (μ : Mem) (f : β → Mem → Option ((γ ⊕ Nat) × Mem)) : bx (some (.inl r, μ)) f = f r μ := rfl
theorem bx_r {β γ : Type} (k : Nat) (μ : Mem) (f : β → Mem → Option ((γ ⊕ Nat) × Mem)) : bx (some (.inr k, μ)) f = some (.inr k, μ) := rfl
theorem updI_n {S : Nat → Int} {k : Nat} {v : Int} (h : k ≠ 0) : nn (updI S k v) = nn S := by
  unfold nn updI
  rw [if_neg (by omega)]
theorem x_set {S : Nat → Int} {μ : Mem} {k a j : Nat} {v : Int} (h : XS 1 S μ) (hl : Loc S k a j) : XS 1 (updI S k v) (mu μ a j (ic v)) := by
  have hk0 : k ≠ 0 := by
    unfold Loc at hl
    omega
  obtain ⟨h1, h2, h3, h4, h5, h6⟩ := h
  unfold Loc at hl
  have key : ∀ (b q w : Nat), ((b = a ∧ q = j) ↔ w = k) → μ b q = ic (S w) → mu μ a j (ic v) b q = ic (updI S k v w) := fun b q w hi hm => by
    rw [mu_at]
    unfold updI
    by_cases hc : w = k
    · rw [if_pos (hi.mpr hc), if_pos hc]
    · rw [if_neg fun q => hc (hi.mp q), if_neg hc]
      exact hm
  refine ⟨key _ _ _ (by omega) h1, key _ _ _ (by omega) h2, fun u hu => key _ _ _ (by omega) (h3 u hu), fun u hu => key _ _ _ (by omega) (h4 u hu), fun u hu => key _ _ _ (by omega) (h5 u hu), fun i hi => ?_⟩
  rw [updI_n hk0] at hi
  obtain ⟨g1, g2, g3, g4, g5, g6⟩ := h6 i hi
  unfold kd tg on tw nb bu at *
  exact ⟨key _ _ _ (by omega) g1, key _ _ _ (by omega) g2, key _ _ _ (by omega) g3, key _ _ _ (by omega) g4, key _ _ _ (by omega) g5, key _ _ _ (by omega) g6⟩
theorem x_loc {S : Nat → Int} {μ : Mem} {k a j : Nat} (h : XS 1 S μ) (hl : Loc S k a j) : μ a j = ic (S k) := by
  obtain ⟨h1, h2, h3, h4, h5, h6⟩ := h
  rcases hl with ⟨rfl, rfl, rfl⟩ | ⟨g1, g2, rfl, rfl⟩ | ⟨g1, g2, rfl, rfl⟩ | ⟨g1, g2, rfl, rfl⟩ | ⟨g1, g2, g3, rfl, rfl⟩
  · exact h2
  · have := h4 (k - 5)
    have h3' := h3 (k - 2) (by omega)
    rw [show 2 + (k - 2) = k by omega] at h3'
    exact h3'
  · have h4' := h4 (k - 5) (by omega)
    rw [show 5 + (k - 5) = k by omega] at h4'
    exact h4'
  · have h5' := h5 (k - 8) (by omega)
    rw [show 8 + (k - 8) = k by omega] at h5'
    exact h5'
  · have h6' := (h6 _ g3).2.2.2.2.2
    unfold bu at h6'
    rw [show 32 + 6 * ((k - 32) / 6) + 5 = k by omega] at h6'
    exact h6'
section ANS4
variable {c : Cf} {X M : Mem}
theorem agr_thr (hG : GC c) (hX : XC c X) (hM : MC c M) {cd : Nat → Int} {o : Option ((Int32 ⊕ Nat) × Mem)} {p : Option (Int32 × Mem)} {k : Nat} {e : Int} (ho : o = some (.inr k, X)) (hp : p = some (0, mu M 0 22 (ic e))) (he : e = cd k) (h1 : 1 ≤ e ∧ e ≤ 3) : Agr cd o p :=
  ⟨c, X, _, hG, hX, mc_thr (ic e) hM, Or.inr ⟨k, 0, ho, hp, by rw [mus, he], by omega, by omega⟩⟩
theorem set_agr (hG : GC c) (hX : XC c X) (hM : MC c M) {k a j : Nat} {v : Int} (hl : Loc c.S k a j) (hv : (k = 1 ∧ 0 ≤ v ∧ v ≤ 3) ∨ (2 ≤ k ∧ k < 5 ∧ 1 ≤ v ∧ v ≤ 4) ∨ (5 ≤ k ∧ k < 8 ∧ 1 ≤ v ∧ v ≤ 6) ∨ (8 ≤ k ∧ k < 32 ∧ -2147483648 ≤ v ∧ v < 2147483648) ∨ (∃ i, k = 32 + 6 * i + 5 ∧ -1 ≤ v ∧ v ≤ 199)) {cd : Nat → Int} {o : Option ((Int32 ⊕ Nat) × Mem)} {p : Option (Int32 × Mem)} (ho : ∀ X1, (∀ a, 1 ≤ a → a < 11 → X1 a = X a) → fX8_save X = some ((), X1) → o = some (.inl (X1 a j), mu X1 a j (ic v))) (hp : p = fX9_becomes (mu M 0 22 (ic 0)) (ic k) (ic v)) : Agr cd o p := by
  have hW := hG.1
  have h20 := hW.n
  have hkb : k < 152 ∧ 1 ≤ a ∧ a < 11 := by
    clear hv ho hp
    unfold Loc at hl
    omega
  have hW' := wf_set hW hv
  obtain ⟨X1, e1, f1, g1, a1, b1, H1⟩ := x_save hX.1.1 hW hX.2.1
  have x1 : XS 1 c.S X1 := hX.1.1.of fun k hk => f1 _ (by omega) (by omega)
  obtain ⟨M1, e3, f3, g3, H3⟩ := r_saves (μ := mu M 0 22 (ic 0)) (S := c.S) (HS := c.HS) (m := c.m) (mc_thr (ic 0) hM).1 (mc_thr (ic 0) hM).2.1
  have m1 : MS c.S M1 := fun k hk => by rw [f3 1 (by omega) (by omega), mu_ne (by decide)]; exact hM.1 k hk
  refine ⟨cfS c (updI c.S k v) (psh c.HS c.m c.S) (pm c.m), mu X1 a j (ic v), mu M1 1 k (ic v), ⟨hW', wf_psh hW hM.2.1.2.1 hG.2.1, hG.2.2.1, hG.2.2.2⟩, xc_state hX (x_set x1 hl) hW' (by rw [mu_ne (by omega), a1]) (by rw [mu_ne (by omega), b1]) (fun k h1 h2 => by rw [mu_ne (by omega), g1 k h1 h2]) (fun b hb => by rw [mu_ne (by omega), f1 b (by omega) (by omega)]) (H1.of fun b h1 h2 => mu_ne (by omega)), mc_state hM (ms_set m1 k v) ⟨by rw [mu_ne (by decide)]; exact H3.1, H3.2.1, fun r q hr hq => by rw [mu_ne (by decide)]; exact H3.2.2 r q hr hq⟩ (fun q hq => by rw [mu_ne (by decide), g3 q (by omega), muk (by omega)]) (fun b hb => by rw [mu_ne (by omega), f3 b (by omega) (by omega), mu_ne (by omega)]), Or.inl ⟨ic (c.S k), ?_, ?_, ?_⟩⟩
  · rw [ho X1 (fun b h1 h2 => f1 b (by omega) (by omega)) e1, x_loc x1 hl]
  · rw [hp]
    unfold fX9_becomes
    rw [e3, bd_some, ms_ld m1 k rfl (by omega), Option.bind_some, ast_k k rfl (by omega), Option.bind_some]
  · rw [mu_ne (by decide), g3 22 (by omega), mus]
theorem r_isStep (hM : MC c M) (hW : WF c.S) {v : Int} (hv : -2147483648 ≤ v ∧ v < 2147483648) : fX9_isStep M (ic v) = some (b2 (decide (0 ≤ v ∧ v ≤ (nn c.S : Int) - 1)), M) := by
  have h20 := hW.n
  unfold fX9_isStep
  rw [show (0 : Int32) = ic 0 from rfl, ms_ld hM.1 0 (i := (0 : Int)) rfl (by omega), Option.bind_some, hW.nz, show (1 : Int32) = ic 1 from rfl, ic_sub, p_in2 hv (by omega) (by omega), bd_some]
  cases decide (0 ≤ v ∧ v ≤ (nn c.S : Int) - 1) <;> rfl
theorem r_isName {v : Int} (hv : -2147483648 ≤ v ∧ v < 2147483648) : fX9_isName M (ic v) = some (b2 (decide (0 ≤ v ∧ v ≤ 11)), M) := by
  unfold fX9_isName
  rw [show (0 : Int32) = ic 0 from rfl, show (11 : Int32) = ic 11 from rfl, p_in2 hv (by omega) (by omega), bd_some]
  cases decide (0 ≤ v ∧ v ≤ 11) <;> rfl
theorem r_isUnit {v : Int} (hv : -2147483648 ≤ v ∧ v < 2147483648) : fX9_isUnit M (ic v) = some (b2 (decide (0 ≤ v ∧ v ≤ 2)), M) := by
  unfold fX9_isUnit
  rw [show (0 : Int32) = ic 0 from rfl, show (2 : Int32) = ic 2 from rfl, p_in2 hv (by omega) (by omega), bd_some]
  cases decide (0 ≤ v ∧ v ≤ 2) <;> rfl
theorem x_checkStep (hX : XC c X) (hW : WF c.S) {v : Int} (hv : -2147483648 ≤ v ∧ v < 2147483648) : fX8_checkStep X (ic v) = some (if 0 ≤ v ∧ v ≤ (nn c.S : Int) - 1 then .inl () else .inr 1, X) := by
  have h20 := hW.n
  unfold fX8_checkStep fX8_checkStep_L15
  rw [x_n hX.1.1 hW, show (0 : Int32) = ic 0 from rfl]
  simp (disch := omega) only [ic_lt]
  by_cases h1 : v < 0
  · rw [if_pos h1, if_neg (by omega)]
  · rw [if_neg h1]
    by_cases h2 : v < (nn c.S : Int)
    · rw [if_pos h2, if_pos (by omega)]
    · rw [if_neg h2, if_neg (by omega)]
theorem x_isRegister {v : Int} (hv : -2147483648 ≤ v ∧ v < 2147483648) : fX8_isRegister X (ic v) = some (b2 (decide (0 ≤ v ∧ v ≤ 11)), X) := by
  unfold fX8_isRegister b2
  simp only [ic_lit, decide_eq_true_eq]
  simp (disch := omega) only [ic_lt, ic_le]
  repeat' split
  all_goals first | rfl | omega
theorem x_checkUnit {v : Int} (hv : -2147483648 ≤ v ∧ v < 2147483648) : fX8_checkUnit X (ic v) = some (if 0 ≤ v ∧ v ≤ 2 then .inl () else .inr 1, X) := by
  unfold fX8_checkUnit fX8_checkUnit_L9
  simp only [ic_lit]
  simp (disch := omega) only [ic_lt]
  repeat' split
  all_goals first | rfl | omega
theorem x_checkCell {v : Int} (hv : -2147483648 ≤ v ∧ v < 2147483648) : fX8_checkCell X (ic v) = some (if 0 ≤ v ∧ v ≤ 11 then .inl () else .inr 1, X) := by
  unfold fX8_checkCell fX8_checkCell_L10
  simp only [ic_lit]
  simp (disch := omega) only [ic_lt]
  repeat' split
  all_goals first | rfl | omega
theorem x_checkBundle {v : Int} (hv : -2147483648 ≤ v ∧ v < 2147483648) : fX8_checkBundle X (ic v) = some (if 0 ≤ v ∧ v ≤ 199 then .inl () else .inr 2, X) := by
  unfold fX8_checkBundle fX8_checkBundle_L11
  simp only [ic_lit]
  simp (disch := omega) only [ic_lt]
  repeat' split
  all_goals first | rfl | omega
theorem a_setRegister (hG : GC c) (hX : XC c X) (hM : MC c M) (a b : Int32) : Agr cd1 (fX8_setRegister X a b) (fX9_setRegister M a b) := by
  obtain ⟨u, rfl, hu⟩ := i32_ex a
  obtain ⟨v, rfl, hv⟩ := i32_ex b
  unfold fX8_setRegister fX9_setRegister fX8_checkRegister
  rw [x_isRegister hu, bd_some, b2_if, r_isName hu, bd_some, b2_if]
  by_cases h : 0 ≤ u ∧ u ≤ 11
  · rw [if_pos (decide_eq_true h), if_pos (decide_eq_true h), bx_l]
    obtain ⟨n, rfl⟩ : ∃ n : Nat, u = n := ⟨u.toNat, by omega⟩
    refine set_agr hG hX hM (k := 8 + n) (a := 8) (j := n) (v := v) (by unfold Loc; omega) (by omega) (fun X1 f1 e1 => ?_) ?_
    · rw [e1, bd_some]
      unfold fX6_changeFirst
      rw [show (0 : Int32) = ic 0 from rfl, if_neg (by rw [ic_lt (by omega)]; omega), show (24 : Int32) = ic 24 from rfl, if_pos (by rw [ic_lt (by omega)]; omega), ld_k n rfl (by omega), Option.bind_some, ast_k n rfl (by omega), Option.bind_some, bd_some]
    · unfold fX9_setRegister_L13
      simp only [pt, Option.bind_some]
      rw [show (0 : Int32) = ic 0 from rfl, mus, if_pos (by decide), show (8 : Int32) = ic 8 from rfl, ic_add]
      show bd (fX9_becomes (mu M 0 22 (ic 0)) (ic ((8 + n : Nat) : Int)) (ic v)) _ = _
      cases fX9_becomes (mu M 0 22 (ic 0)) (ic ((8 + n : Nat) : Int)) (ic v) <;> rfl
  · rw [if_neg (by rw [decide_eq_false h]; decide), if_neg (by rw [decide_eq_false h]; decide), bx_r]
    refine agr_thr hG hX hM (k := 1) (e := 1) rfl ?_ rfl (by omega)
    unfold fX9_setRegister_L13
    simp only [pt, Option.bind_some]
    rw [show (1 : Int32) = ic 1 from rfl, mus, if_neg (by decide)]
end ANS4
