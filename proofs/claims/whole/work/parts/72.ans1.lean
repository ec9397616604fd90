/-! ANSWERS ALIKE: text and saved states -/
def cfT (c : Cf) (t : Nat → Int) (L : Nat) : Cf := (c.S, c.HS, c.m, c.hk, c.SK, t, L)
/-- both answer, alike, and the relation holds behind -/
def Agr (cd : Nat → Int) (o : Option ((Int32 ⊕ Nat) × Mem)) (p : Option (Int32 × Mem)) : Prop := ∃ (c : Cf) (X M : Mem), GC c ∧ XC c X ∧ MC c M ∧ ((∃ r, o = some (.inl r, X) ∧ p = some (r, M) ∧ M 0 22 = ic 0) ∨ ∃ k v, o = some (.inr k, X) ∧ p = some (v, M) ∧ M 0 22 = ic (cd k) ∧ 1 ≤ cd k ∧ cd k ≤ 3)
def AgrI (o : Option (Int32 × Mem)) (p : Option (Int32 × Mem)) : Prop := ∃ (c : Cf) (X M : Mem), GC c ∧ XC c X ∧ MC c M ∧ ∃ r, o = some (r, X) ∧ p = some (r, M) ∧ M 0 22 = ic 0
theorem i32_ex (x : Int32) : ∃ v : Int, x = ic v ∧ -2147483648 ≤ v ∧ v < 2147483648 := ⟨x.toInt, (ic_of x).symm, i32_rg x⟩
theorem cq_of3 {S : Nat → Int} {μ μ' : Mem} (h : CQ S μ) (h1 : ∀ a, 1 ≤ a → a < 11 ∨ 75 ≤ a → μ' a = μ a) (h6 : μ' 0 6 = μ 0 6) (h10 : μ' 0 10 = μ 0 10) : CQ S μ' := by
  have hF : Fr (List.range 75) μ μ' ∨ True := Or.inr trivial
  refine ⟨h.1.of fun k hk => h1 _ (by omega) (by omega), h.2.1, ?_, ?_⟩
  · rw [h6]
    refine h.2.2.1.imp id fun q => ⟨q.1, q.2.of (l := List.range 75) (fun a ha => h1 a ?_ ?_) fun a ha => Or.inl (List.mem_range.mp ha)⟩
    · have : ¬ a < 75 := fun q => ha (List.mem_range.mpr q)
      omega
    · have : ¬ a < 75 := fun q => ha (List.mem_range.mpr q)
      omega
  · rw [h10]
    refine h.2.2.2.imp id fun q => ⟨q.1, q.2.of (l := List.range 75) (fun a ha => h1 a ?_ ?_) ⟨fun q => ?_, fun q => ?_⟩⟩
    · have : ¬ a < 75 := fun q => ha (List.mem_range.mpr q)
      omega
    · have : ¬ a < 75 := fun q => ha (List.mem_range.mpr q)
      omega
    · have := List.mem_range.mp q
      omega
    · have := List.mem_range.mp q
      omega
theorem xc_text {c : Cf} {X X' : Mem} {t : Nat → Int} {L : Nat} (h : XC c X) (hF : ∀ a, a ≠ 73 → a ≠ 74 → X' a = X a) (hT : XT t L X') : XC (cfT c t L) X' := by
  obtain ⟨a1, a2, a3, a4, a5⟩ := h
  exact ⟨cq_of3 a1 (fun a h1 h2 => hF a (by omega) (by omega)) (by rw [hF 0 (by omega) (by omega)]) (by rw [hF 0 (by omega) (by omega)]), a2.of fun a h1 h2 => hF a (by omega) (by omega), by rw [hF 0 (by omega) (by omega)]; exact a3, fun q => (a4 q).of fun k hk => hF _ (by omega) (by omega), hT⟩
theorem mc_text {c : Cf} {M M' : Mem} {t : Nat → Int} {L : Nat} (h : MC c M) (h1 : ∀ a, 1 ≤ a → a ≤ 3 → M' a = M a) (h0 : ∀ k, k = 2 ∨ k = 4 → M' 0 k = M 0 k) (hT : RT t L M') : MC (cfT c t L) M' := by
  obtain ⟨a1, ⟨b1, b2, b3⟩, a3, a4, a5⟩ := h
  exact ⟨fun k hk => by rw [h1 1 (by omega) (by omega)]; exact a1 k hk, ⟨by rw [h0 2 (by omega)]; exact b1, b2, fun r k hr hk => by rw [h1 2 (by omega) (by omega)]; exact b3 r k hr hk⟩, by rw [h0 4 (by omega)]; exact a3, fun q k hk => by rw [h1 3 (by omega) (by omega)]; exact a4 q k hk, hT⟩
/-- the reference's thrown is set: the relation stays -/
theorem mc_thr {c : Cf} {M : Mem} (v : Int32) (h : MC c M) : MC c (mu M 0 22 v) := h.of (fun a h1 h2 => mu_ne (by omega)) fun k hk => by rw [mu_at, if_neg (by omega)]
theorem mus {μ : Mem} {a j : Nat} {v : Int32} : mu μ a j v a j = v := by rw [mu_at, if_pos ⟨rfl, rfl⟩]
theorem muk {μ : Mem} {a j k : Nat} {v : Int32} (h : k ≠ j) : mu μ a j v a k = μ a k := by rw [mu_at, if_neg fun q => h q.2]
theorem p_in2 {μ : Mem} {a lo hi : Int} (ha : -2147483648 ≤ a ∧ a < 2147483648) (hl : -1000 ≤ lo ∧ lo ≤ 1000) (hh : -1000 ≤ hi ∧ hi ≤ 1000) : fX9_in μ (ic a) (ic lo) (ic hi) = some (b2 (decide (lo ≤ a ∧ a ≤ hi)), μ) := by
  unfold fX9_in b2
  simp only [ic_lit, decide_eq_true_eq]
  simp (disch := omega) only [ic_lt]
  repeat' split
  all_goals first | rfl | omega
def cdA (k : Nat) : Int := if k = 2 then 1 else 2
section ANS1
variable {c : Cf} {X M : Mem}
theorem a_append (hG : GC c) (hX : XC c X) (hM : MC c M) (a : Int32) : Agr cdA (fX8_append X a) (fX9_append M a) := by
  obtain ⟨v, rfl, hv⟩ := i32_ex a
  obtain ⟨hT1, hT2, hT3⟩ := hG.2.2.2
  obtain ⟨xl, xs⟩ := hX.2.2.2.2
  obtain ⟨ml, ms'⟩ := hM.2.2.2.2
  have e1 : fX9_append M (ic v) = if 33 ≤ v ∧ v ≤ 126 then (if c.L = 60 then fX9_append_L30 (ic v) (ic 2) M else fX9_append_L30 (ic v) (ic 0) M) else fX9_append_L30 (ic v) (ic 1) M := by
    unfold fX9_append
    rw [show (33 : Int32) = ic 33 from rfl, show (126 : Int32) = ic 126 from rfl, p_in2 hv (by omega) (by omega), bd_some, b2_if, ml, show (60 : Int32) = ic 60 from rfl]
    simp (disch := omega) only [ic_eq, decide_eq_true_eq]
    by_cases h1 : 33 ≤ v ∧ v ≤ 126
    · rw [if_pos h1, if_pos h1]
      by_cases h2 : c.L = 60
      · rw [if_pos (by omega), if_pos h2]
        rfl
      · rw [if_neg (by omega), if_neg h2]
        rfl
    · rw [if_neg h1, if_neg h1]
      rfl
  have e2 : ∀ k : Int, 1 ≤ k → k ≤ 3 → fX9_append_L30 (ic v) (ic k) M = some (0, mu M 0 22 (ic k)) := fun k h1 h2 => by
    unfold fX9_append_L30
    simp only [pt, Option.bind_some]
    rw [mus, if_neg (by rw [show (0 : Int32) = ic 0 from rfl, ic_le (by omega)]; omega)]
  have e3 : fX8_append X (ic v) = if 33 ≤ v ∧ v ≤ 126 then (if c.L < 60 then bd (fX7_addSign X (ic v)) fun _ μ3 => some (.inl (μ3 73 1), μ3) else some (.inr 3, X)) else some (.inr 2, X) := by
    unfold fX8_append fX8_append_L12
    rw [xl, show (33 : Int32) = ic 33 from rfl, show (126 : Int32) = ic 126 from rfl, show (60 : Int32) = ic 60 from rfl]
    simp (disch := omega) only [ic_lt, ic_le]
    by_cases h1 : v < 33
    · rw [if_pos h1, if_neg (by omega)]
    · rw [if_neg h1]
      by_cases h2 : v ≤ 126
      · rw [if_pos h2]
        by_cases h3 : c.L < 60
        · rw [if_pos (show (c.L : Int) < 60 by omega), if_pos ⟨by omega, h2⟩, if_pos h3]
        · rw [if_neg (show ¬ (c.L : Int) < 60 by omega), if_pos ⟨by omega, h2⟩, if_neg h3]
      · rw [if_neg h2, if_neg (by omega)]
  rw [e1, e3]
  by_cases h1 : 33 ≤ v ∧ v ≤ 126
  · rw [if_pos h1, if_pos h1]
    by_cases h2 : c.L = 60
    · rw [if_pos h2, if_neg (by omega), e2 2 (by omega) (by omega)]
      exact ⟨c, X, _, hG, hX, mc_thr _ hM, Or.inr ⟨3, 0, rfl, rfl, by rw [mus]; rfl, by decide, by decide⟩⟩
    · rw [if_neg h2, if_pos (by omega)]
      have f1 : fX7_addSign X (ic v) = some ((), mu (mu X 74 c.L (ic v)) 73 1 (ic ((c.L + 1 : Nat) : Int))) := by
        unfold fX7_addSign
        rw [xl, show (0 : Int32) = ic 0 from rfl, if_neg (by rw [ic_lt (by omega)]; omega), show (60 : Int32) = ic 60 from rfl, if_neg (by rw [ic_le (by omega)]; omega), ast_k c.L rfl (by omega), Option.bind_some]
        simp only [pt, Option.bind_some]
        rw [mu_ne (by decide), xl, show (1 : Int32) = ic 1 from rfl, ic_add]
        rfl
      have f2 : fX9_append_L30 (ic v) (ic 0) M = some (ic ((c.L + 1 : Nat) : Int), mu (mu (mu M 0 22 (ic 0)) 4 c.L (ic v)) 0 6 (ic ((c.L + 1 : Nat) : Int))) := by
        unfold fX9_append_L30
        simp only [pt, Option.bind_some]
        rw [mus, if_pos (by decide), muk (by decide), ml, ast_k c.L rfl (by omega), Option.bind_some, mus, mu_ne (by decide), muk (by decide), ml, show (1 : Int32) = ic 1 from rfl, ic_add]
        rfl
      rw [f1, bd_some, f2]
      refine ⟨cfT c (fun i => if i = c.L then v else c.t i) (c.L + 1), mu (mu X 74 c.L (ic v)) 73 1 (ic ((c.L + 1 : Nat) : Int)), mu (mu (mu M 0 22 (ic 0)) 4 c.L (ic v)) 0 6 (ic ((c.L + 1 : Nat) : Int)), ⟨hG.1, hG.2.1, hG.2.2.1, by show c.L + 1 ≤ 60; omega, fun i hi => ?_, fun i hi => ?_⟩, xc_text hX (fun a h1 h2 => by rw [mu_ne h1, mu_ne h2]) ⟨by rw [mu_at, if_pos ⟨rfl, rfl⟩], fun i hi => ?_⟩, mc_text hM (fun a h1 h2 => by rw [mu_ne (by omega), mu_ne (by omega), mu_ne (by omega)]) (fun k hk => by rw [mu_at, if_neg (by omega), mu_ne (by decide), mu_at, if_neg (by omega)]) ⟨by rw [mu_at, if_pos ⟨rfl, rfl⟩], fun i hi => ?_⟩, Or.inl ⟨_, rfl, ?_, ?_⟩⟩
      · show 33 ≤ (if i = c.L then v else c.t i) ∧ (if i = c.L then v else c.t i) ≤ 126
        by_cases hc : i = c.L
        · rw [if_pos hc]
          exact h1
        · rw [if_neg hc]
          have hi' : i < c.L + 1 := hi
          exact hT2 i (by omega)
      · have hi' : c.L + 1 ≤ i := hi
        show (if i = c.L then v else c.t i) = 0
        rw [if_neg (by omega)]
        exact hT3 i (by omega)
      · show _ = ic (if i = c.L then v else c.t i)
        rw [mu_ne (by decide), mu_at]
        by_cases hc : i = c.L
        · rw [if_pos ⟨rfl, hc⟩, if_pos hc]
        · rw [if_neg (by omega), if_neg hc]
          exact xs i (by omega)
      · show _ = ic (if i = c.L then v else c.t i)
        rw [mu_ne (by decide), mu_at]
        by_cases hc : i = c.L
        · rw [if_pos ⟨rfl, hc⟩, if_pos hc]
        · rw [if_neg (by omega), if_neg hc, mu_ne (by decide)]
          exact ms' i (by omega)
      · rw [mu_at, if_pos ⟨rfl, rfl⟩]
      · rw [mu_at, if_neg (by omega), mu_ne (by decide), mu_at, if_pos ⟨rfl, rfl⟩]
  · rw [if_neg h1, if_neg h1, e2 1 (by omega) (by omega)]
    exact ⟨c, X, _, hG, hX, mc_thr _ hM, Or.inr ⟨2, 0, rfl, rfl, by rw [mus]; rfl, by decide, by decide⟩⟩
theorem a_clearBuffer (hG : GC c) (hX : XC c X) (hM : MC c M) : AgrI (fX8_clearBuffer X) (fX9_clearBuffer M) := by
  obtain ⟨xl, xs⟩ := hX.2.2.2.2
  obtain ⟨ml, ms'⟩ := hM.2.2.2.2
  refine ⟨cfT c (fun _ => 0) 0, mu X 73 1 (ic 0), mu (mu M 0 22 (ic 0)) 0 6 (ic 0), ⟨hG.1, hG.2.1, hG.2.2.1, by show 0 ≤ 60; omega, fun i hi => absurd hi (Nat.not_lt_zero _), fun i hi => rfl⟩, xc_text hX (fun a h1 h2 => mu_ne h1) ⟨by rw [mu_at, if_pos ⟨rfl, rfl⟩]; rfl, fun i hi => absurd hi (Nat.not_lt_zero _)⟩, mc_text hM (fun a h1 h2 => by rw [mu_ne (by omega), mu_ne (by omega)]) (fun k hk => by rw [mu_at, if_neg (by omega), mu_at, if_neg (by omega)]) ⟨by rw [mu_at, if_pos ⟨rfl, rfl⟩]; rfl, fun i hi => absurd hi (Nat.not_lt_zero _)⟩, ic c.L, ?_, ?_, ?_⟩
  · unfold fX8_clearBuffer
    simp only [pt, Option.bind_some]
    rw [xl]
    rfl
  · unfold fX9_clearBuffer
    simp only [pt, Option.bind_some]
    rw [mu_at, if_neg (by omega), ml]
    rfl
  · rw [mu_at, if_neg (by omega), mu_at, if_pos ⟨rfl, rfl⟩]
theorem a_firstError (hG : GC c) (hX : XC c X) (hM : MC c M) : AgrI (fX8_firstError X) (fX9_firstError M) := by
  obtain ⟨i, hi, hf, e1⟩ := x_firstBad hG.2.2.2 hX.2.2.2.2
  obtain ⟨M', j, e2, hg, hF⟩ := r_firstError hG.2.2.2 hM.2.2.2.2
  have hij := fb_eq hg hf
  subst hij
  refine ⟨c, X, M', hG, hX, (mc_thr (ic 0) hM).of (fun a h1 h2 => hF.1 a (by omega) (by omega)) (fun k hk => hF.2 k (by omega) (by omega)), ic (j : Int), ?_, e2, ?_⟩
  · unfold fX8_firstError
    rw [e1, bd_some]
  · rw [hF.2 22 (by omega) (by omega), mu_at, if_pos ⟨rfl, rfl⟩]
end ANS1
