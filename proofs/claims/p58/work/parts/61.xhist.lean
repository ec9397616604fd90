/-! the class's saved states: rows of cells, in any order -/
def SB : List Nat := [13, 23, 33, 43, 53]
def XR (rw : Nat → Nat) (μ : Mem) : Prop := (∀ r, r < 5 → μ 12 r = ic (rw r) ∧ rw r ∈ SB) ∧ ∀ r q, r < 5 → q < 5 → rw r = rw q → r = q
def XH (HS : Nat → Nat → Int) (m : Nat) (μ : Mem) : Prop := μ 11 1 = ic m ∧ m ≤ 5 ∧ ∃ rw : Nat → Nat, XR rw μ ∧ ∀ r, r < m → XS (rw r) (HS r) μ
theorem SB_rg {q : Nat} (h : q ∈ SB) : 13 ≤ q ∧ q ≤ 53 ∧ q % 10 = 3 := by
  simp only [SB, List.mem_cons, List.not_mem_nil, or_false] at h
  omega
theorem XH.of {HS : Nat → Nat → Int} {m : Nat} {μ μ' : Mem} (h : XH HS m μ) (he : ∀ a, 11 ≤ a → a < 63 → μ' a = μ a) : XH HS m μ' := by
  obtain ⟨h1, h2, rw, ⟨h3, h4⟩, h5⟩ := h
  refine ⟨by rw [he 11 (by omega) (by omega)]; exact h1, h2, rw, ⟨fun r hr => by rw [he 12 (by omega) (by omega)]; exact h3 r hr, h4⟩, fun r hr => ?_⟩
  have := SB_rg (h3 r (by omega)).2
  exact (h5 r hr).of fun k hk => he _ (by omega) (by omega)
theorem ldr_k {μ : Mem} {k q : Nat} (hk : k < 5) (h : μ 12 k = ic q) (hq : q ∈ SB) : ldr 5 oks (μ 12) (ic (k : Int)) = some q := by
  have hr := SB_rg hq
  have e1 : (ic (q : Int)).toNatClampNeg = q := by rw [ic_nat (by omega)]; omega
  have e2 : oks q = true := by
    unfold oks stB
    simp only [SB, List.mem_cons, List.not_mem_nil, or_false] at hq
    rcases hq with rfl | rfl | rfl | rfl | rfl <;> rfl
  unfold ldr
  rw [ic_nat (by omega), Int.toNat_natCast, h, e1, if_pos ⟨ic_ibn (by omega), e2⟩]
theorem astr_k {μ : Mem} {k q : Nat} (hk : k < 5) (hq : q < 1000) : astr 5 μ 12 (ic (k : Int)) q = some (mu μ 12 k (ic q)) := by
  unfold astr
  rw [if_pos ⟨ic_ibn (by omega), by omega⟩, ic_nat (by omega), Int.toNat_natCast, ic_nI]
section XHS
variable {S : Nat → Int} {μ : Mem} {HS : Nat → Nat → Int} {m : Nat}
theorem x_push12 {rw : Nat → Nat} (h0 : μ 11 1 = ic m) (hm : m ≤ 4) (hR : XR rw μ) (hX : ∀ r, r < m → XS (rw r) (HS r) μ) (h : XS 1 S μ) (hW : WF S) : ∃ μ', fX1_push_L12 μ = some ((), μ') ∧ (∀ a, a < 11 ∨ 63 ≤ a → μ' a = μ a) ∧ XH (fun r => if r = m then S else HS r) (m + 1) μ' := by
  obtain ⟨h3, h4⟩ := hR
  have hq := (h3 m (by omega)).2
  have hqr := SB_rg hq
  obtain ⟨μ1, e1, f1, x1⟩ := x_copyFrom (μ := μ) (a := rw m) (b := 1) (by omega)
  have n1 : μ1 11 1 = ic m := by rw [f1 11 (by omega), h0]
  have e2 := ldr_k (μ := μ) (k := m) (by omega) (h3 m (by omega)).1 hq
  refine ⟨mu μ1 11 1 (ic ((m : Int) + 1)), ?_, fun a ha => ?_, ?_, by omega, rw, ⟨fun r hr => ?_, h4⟩, fun r hr => ?_⟩
  · unfold fX1_push_L12
    simp only [ic_lit, pt]
    rw [h0, e2, Option.bind_some, e1, bd_some, n1, ic_add, Option.bind_some]
  · rw [mu_ne (by omega), f1 a (by omega)]
  · rw [mu_at, if_pos ⟨rfl, rfl⟩]
    rfl
  · rw [mu_ne (by decide), f1 12 (by omega)]
    exact h3 r hr
  · dsimp only
    by_cases hrm : r = m
    · rw [if_pos hrm, hrm]
      exact (x1 S h hW).of fun k hk => mu_ne (by omega)
    · rw [if_neg hrm]
      have hr2 := SB_rg (h3 r (by omega)).2
      have hne : rw r ≠ rw m := fun q => hrm (h4 r m (by omega) (by omega) q)
      refine (hX r (by omega)).of fun k hk => ?_
      rw [mu_ne (by omega), f1 _ (by omega)]
theorem x_dropOldest {rw : Nat → Nat} (hR : XR rw μ) : ∃ μ' rw', fX1_dropOldest μ = some ((), μ') ∧ (∀ a, a ≠ 11 → a ≠ 12 → μ' a = μ a) ∧ μ' 11 1 = ic 4 ∧ XR rw' μ' ∧ ∀ r, r < 4 → rw' r = rw (r + 1) := by
  obtain ⟨h3, h4⟩ := hR
  have key := lq_m (fun f v ν => fX1_dropOldest_L9 f (rw 0) v ν) (fun ν => some ((), mu (mu ν 12 4 (ic (rw 0))) 11 1 (ic 4))) 1 5 (fun k ν => Fr [12] μ ν ∧ ∀ r, r < 5 → ν 12 r = if r + 1 < k then ic (rw (r + 1)) else ic (rw r)) (by omega) ?_ ?_ μ fu (fu_lt (by omega)) ⟨Fr.rfl', fun r hr => by rw [if_neg (by omega)]; exact (h3 r hr).1⟩
  · obtain ⟨ν, ⟨f1, g1⟩, e1⟩ := key
    refine ⟨mu (mu ν 12 4 (ic (rw 0))) 11 1 (ic 4), fun r => if r = 4 then rw 0 else rw (r + 1), ?_, fun a ha hb => ?_, ?_, ⟨fun r hr => ?_, fun r q hr hq he => ?_⟩, fun r hr => ?_⟩
    · unfold fX1_dropOldest
      simp only [ic_lit]
      have e0 : ldr 5 oks (μ 12) (ic 0) = some (rw 0) := ldr_k (k := 0) (by omega) (h3 0 (by omega)).1 (h3 0 (by omega)).2
      rw [e0, Option.bind_some]
      exact e1
    · rw [mu_ne ha, mu_ne hb, f1 a (by simpa using hb)]
    · rw [mu_at, if_pos ⟨rfl, rfl⟩]
    · dsimp only
      rw [mu_ne (by decide), mu_at]
      by_cases hr4 : r = 4
      · rw [if_pos ⟨rfl, hr4⟩, if_pos hr4]
        exact ⟨rfl, (h3 0 (by omega)).2⟩
      · rw [if_neg (by omega), if_neg hr4, g1 r hr, if_pos (by omega)]
        exact ⟨rfl, (h3 (r + 1) (by omega)).2⟩
    · dsimp only at he
      by_cases hr4 : r = 4
      · by_cases hq4 : q = 4
        · omega
        · rw [if_pos hr4, if_neg hq4] at he
          have := h4 0 (q + 1) (by omega) (by omega) he
          omega
      · by_cases hq4 : q = 4
        · rw [if_neg hr4, if_pos hq4] at he
          have := h4 (r + 1) 0 (by omega) (by omega) he
          omega
        · rw [if_neg hr4, if_neg hq4] at he
          have := h4 (r + 1) (q + 1) (by omega) (by omega) he
          omega
    · show (if r = 4 then rw 0 else rw (r + 1)) = rw (r + 1)
      exact if_neg (by omega)
  · rintro f k ν hk1 hk2 ⟨f1, g1⟩
    have e1 : ν 12 k = ic (rw k) := by rw [g1 k hk2, if_neg (by omega)]
    have hq := (h3 k hk2).2
    have hqr := SB_rg hq
    refine ⟨mu ν 12 (k - 1) (ic (rw k)), ⟨f1.trans (Fr_mu (by decide)), fun r hr => ?_⟩, ?_⟩
    · rw [mu_at]
      by_cases hc : r = k - 1
      · rw [if_pos ⟨rfl, hc⟩, if_pos (by omega), show r + 1 = k by omega]
      · rw [if_neg (by omega), g1 r hr]
        by_cases hd : r + 1 < k
        · rw [if_pos hd, if_pos (by omega)]
        · rw [if_neg hd, if_neg (by omega)]
    · rw [fX1_dropOldest_L9]
      simp only [ic_lit]
      have e2 : (k : Int) - 1 = ((k - 1 : Nat) : Int) := by omega
      rw [if_neg (by rw [ic_le (by omega)]; omega), ldr_k hk2 e1 hq, Option.bind_some, ic_sub, e2, astr_k (by omega) (by omega), Option.bind_some, ic_add]
      rfl
  · rintro f ν ⟨f1, g1⟩
    have hqr := SB_rg (h3 0 (by omega)).2
    have e3 : astr 5 ν 12 (ic 4) (rw 0) = some (mu ν 12 4 (ic (rw 0))) := astr_k (k := 4) (by omega) (by omega)
    rw [fX1_dropOldest_L9]
    simp only [ic_lit, pt]
    rw [if_pos (by rw [ic_le (by omega)]; omega), e3, Option.bind_some, Option.bind_some]
theorem x_push (hH : XH HS m μ) (h : XS 1 S μ) (hW : WF S) : ∃ μ', fX1_push μ = some ((), μ') ∧ (∀ a, a < 11 ∨ 63 ≤ a → μ' a = μ a) ∧ XH (psh HS m S) (pm m) μ' := by
  obtain ⟨h0, hm, rw, hR, hX⟩ := hH
  by_cases h5 : m = 5
  · subst h5
    obtain ⟨μ1, rw', e1, f1, n1, R1, t1⟩ := x_dropOldest hR
    have X1 : ∀ r, r < 4 → XS (rw' r) ((fun r => HS (r + 1)) r) μ1 := fun r hr => by
      have hq := SB_rg (hR.1 (r + 1) (by omega)).2
      rw [t1 r hr]
      exact (hX (r + 1) (by omega)).of fun k hk => f1 _ (by omega) (by omega)
    obtain ⟨μ2, e2, f2, H2⟩ := x_push12 (HS := fun r => HS (r + 1)) (m := 4) n1 (by omega) R1 X1 (h.of fun k hk => f1 _ (by omega) (by omega)) hW
    refine ⟨μ2, ?_, fun a ha => ?_, ?_⟩
    · unfold fX1_push
      simp only [ic_lit]
      rw [if_neg (by rw [h0, ic_lt (by omega)]; omega), e1, bd_some, e2]
    · rw [f2 a ha, f1 a (by omega) (by omega)]
    · have e6 : psh HS 5 S = fun r => if r = 4 then S else HS (r + 1) := by
        unfold psh
        funext r
        rw [if_pos rfl]
      rw [e6]
      exact H2
  · obtain ⟨μ2, e2, f2, H2⟩ := x_push12 h0 (by omega) hR hX h hW
    refine ⟨μ2, ?_, f2, ?_⟩
    · unfold fX1_push
      simp only [ic_lit]
      rw [if_pos (by rw [h0, ic_lt (by omega)]; omega), e2]
    · have e6 : psh HS m S = fun r => if r = m then S else HS r := by
        unfold psh
        funext r
        rw [if_neg h5]
      have e7 : pm m = m + 1 := by
        unfold pm
        rw [if_neg h5]
      rw [e6, e7]
      exact H2
theorem x_popInto (hH : XH HS m μ) (hm0 : 0 < m) (hW : WF (HS (m - 1))) : ∃ μ', fX1_popInto μ = some ((), μ') ∧ (∀ a, (a < 1 ∨ 11 ≤ a) → a ≠ 11 → μ' a = μ a) ∧ XS 1 (HS (m - 1)) μ' ∧ XH HS (m - 1) μ' := by
  obtain ⟨h0, hm, rw, ⟨h3, h4⟩, hX⟩ := hH
  have hq := (h3 (m - 1) (by omega)).2
  have hqr := SB_rg hq
  have e1 : (m : Int) - 1 = ((m - 1 : Nat) : Int) := by omega
  obtain ⟨μ2, e2, f2, x2⟩ := x_copyFrom (μ := mu μ 11 1 (ic ((m - 1 : Nat) : Int))) (a := 1) (b := rw (m - 1)) (by omega)
  have hf : ∀ a, (a < 1 ∨ 11 ≤ a) → a ≠ 11 → μ2 a = μ a := fun a h1 h2 => by rw [f2 a (by omega), mu_ne h2]
  refine ⟨μ2, ?_, hf, ?_, ?_, by omega, rw, ⟨fun r hr => ?_, h4⟩, fun r hr => ?_⟩
  · unfold fX1_popInto
    simp only [ic_lit, pt]
    have e3 : (mu μ 11 1 (ic ((m - 1 : Nat) : Int))) 11 1 = ic ((m - 1 : Nat) : Int) := by rw [mu_at, if_pos ⟨rfl, rfl⟩]
    rw [h0, if_neg (by rw [ic_le (by omega)]; omega), if_pos (by rw [ic_le (by omega)]; omega), ic_sub, e1, Option.bind_some, e3, mu_ne (by decide), ldr_k (by omega) (h3 (m - 1) (by omega)).1 hq, Option.bind_some, e2, bd_some]
  · exact x2 _ ((hX (m - 1) (by omega)).of fun k hk => mu_ne (by omega)) hW
  · rw [f2 11 (by omega), mu_at, if_pos ⟨rfl, rfl⟩]
  · rw [hf 12 (by omega) (by omega)]
    exact h3 r hr
  · have hr2 := SB_rg (h3 r (by omega)).2
    exact (hX r (by omega)).of fun k hk => hf _ (by omega) (by omega)
end XHS

