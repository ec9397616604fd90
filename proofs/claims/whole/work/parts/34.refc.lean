def HGp (S : Nat → Int) (i j : Nat) (μ : Mem) : Prop := ∀ i' j', (i' < i ∨ (i' = i ∧ j' < j)) → i' < nn S → j' < nn S → μ 17 (20 * i' + j') = ic (nearT S i' j') ∧ μ 18 (20 * i' + j') = ic (over S i' j')
def HG (S : Nat → Int) (μ : Mem) : Prop := ∀ i j, i < nn S → j < nn S → μ 17 (20 * i + j) = ic (nearT S i j) ∧ μ 18 (20 * i + j) = ic (over S i j)
theorem HG.of {S : Nat → Int} {μ μ' : Mem} {l : List Nat} (h : HG S μ) (hF : Fr l μ μ') (h1 : 17 ∉ l) (h2 : 18 ∉ l) : HG S μ' := fun i j hi hj => by
  rw [hF 17 h1, hF 18 h2]
  exact h i j hi hj
theorem MS.fr {S : Nat → Int} {μ μ' : Mem} {l : List Nat} (h : MS S μ) (hF : Fr l μ μ') (h1 : 1 ∉ l) : MS S μ' := h.of (hF 1 h1)
section RF
variable {S : Nat → Int} {μ μ0 : Mem} {i j : Nat}
theorem r_hangs_in (hW : WF S) (h : MS S μ0) (K : Int32 → Mem → Option (Unit × Mem)) (hi : i < nn S) (hF : Fr [17, 18] μ0 μ) (hG : HGp S i 0 μ) : ∃ μ', (Fr [17, 18] μ0 μ' ∧ HGp S (i + 1) 0 μ') ∧ fX9_hangs_L14 K fu (ic i) (ic 0) μ = K (ic ((i + 1 : Nat) : Int)) μ' := by
  have hn := hW.n
  have key := lq_m (fun f v ν => fX9_hangs_L14 K f (ic i) v ν) (fun ν => K (ic ((i + 1 : Nat) : Int)) ν) 0 (nn S) (fun k ν => Fr [17, 18] μ0 ν ∧ HGp S i k ν) (by omega) ?_ ?_ μ fu (fu_lt (by omega)) ⟨hF, hG⟩
  · obtain ⟨ν, ⟨h2, h3⟩, h4⟩ := key
    exact ⟨ν, ⟨h2, fun i' j' hc h5 h6 => h3 i' j' (by omega) h5 h6⟩, h4⟩
  · rintro f k ν - hk ⟨h2, h3⟩
    have e1 : (20 * (i : Int) + k).toNat = 20 * i + k := by omega
    have m1 : MS S ν := h.fr h2 (by decide)
    have m2 : MS S (mu ν 17 (20 * i + k) (ic (nearT S i k))) := m1.of (mu_ne (by decide))
    refine ⟨mu (mu ν 17 (20 * i + k) (ic (nearT S i k))) 18 (20 * i + k) (ic (over S i k)), ⟨(h2.trans (Fr_mu (by decide))).trans (Fr_mu (by decide)), ?_⟩, ?_⟩
    · intro i' j' hc h5 h6
      simp only [mu_at]
      by_cases hq : 20 * i' + j' = 20 * i + k
      · obtain ⟨rfl, rfl⟩ : i' = i ∧ j' = k := by omega
        simp
      · simp only [hq]
        simpa using h3 i' j' (by omega) h5 h6
    · simp (disch := omega) only [fX9_hangs_L14, ms_n m1 hW, Option.bind_some, ic_le, r_apartBy m1 hW, bd_some, ic_lit, ic_mul, ic_add, ast_ic, e1, r_carriedBy m2 hW]
      rw [if_neg (by omega)]
      rfl
  · rintro f ν ⟨h2, h3⟩
    have m1 : MS S ν := h.fr h2 (by decide)
    simp (disch := omega) only [fX9_hangs_L14, ms_n m1 hW, Option.bind_some, ic_le, ic_lit, ic_add]
    rw [if_pos (by omega)]
    rfl
theorem r_hangs (hW : WF S) (h : MS S μ) : ∃ μ', fX9_hangs μ = some ((), μ') ∧ Fr [17, 18] μ μ' ∧ HG S μ' := by
  have hn := hW.n
  have key := lq_m fX9_hangs_L2 (fun ν => some ((), ν)) 0 (nn S) (fun k ν => Fr [17, 18] μ ν ∧ HGp S k 0 ν) (by omega) ?_ ?_ μ fu (fu_lt (by omega)) ⟨Fr.rfl', fun i' j' hc => by omega⟩
  · obtain ⟨ν, ⟨h2, h3⟩, h4⟩ := key
    refine ⟨ν, ?_, h2, fun i' j' h5 h6 => h3 i' j' (by omega) h5 h6⟩
    simp only [fX9_hangs, ic_lit]
    exact h4
  · rintro f k ν - hk ⟨h2, h3⟩
    have m1 : MS S ν := h.fr h2 (by decide)
    obtain ⟨ν', h6, h7⟩ := r_hangs_in hW h (fX9_hangs_L2 f) hk h2 h3
    refine ⟨ν', h6, ?_⟩
    simp (disch := omega) only [fX9_hangs_L2, ms_n m1 hW, Option.bind_some, ic_le, ic_lit]
    rw [if_neg (by omega)]
    exact h7
  · rintro f ν ⟨h2, h3⟩
    have m1 : MS S ν := h.fr h2 (by decide)
    simp (disch := omega) only [fX9_hangs_L2, ms_n m1 hW, Option.bind_some, ic_le, ic_lit]
    rw [if_pos (by omega)]
/-- heights -/
def HTp (S : Nat → Int) (k : Nat) (μ : Mem) : Prop := ∀ j, nn S - k ≤ j → j < nn S → μ 14 j = ic (hts S k j)
theorem r_heights_in (hW : WF S) (h : MS S μ0) (hG : HG S μ0) (K : Int32 → Mem → Option (Unit × Mem)) {k : Nat} (hk : k < nn S) (hF : Fr [14] μ0 μ) (hT : HTp S k μ) (h0 : μ 14 (nn S - 1 - k) = ic (la S (nn S - 1 - k))) : ∃ μ', (Fr [14] μ0 μ' ∧ HTp S (k + 1) μ') ∧ fX9_measures_L32 K fu (ic ((nn S - 1 - k : Nat) : Int)) (ic ((nn S - 1 - k + 1 : Nat) : Int)) μ = K (ic (((nn S - 1 - k : Nat) : Int) + -1)) μ' := by
  have hn := hW.n
  obtain ⟨i, hi⟩ : ∃ i, i = nn S - 1 - k := ⟨_, rfl⟩
  rw [← hi] at h0 ⊢
  have key := lq_m (fun f v ν => fX9_measures_L32 K f (ic (i : Int)) v ν) (fun ν => K (ic ((i : Int) + -1)) ν) (i + 1) (nn S) (fun j ν => Fr [14] μ0 ν ∧ HTp S k ν ∧ ν 14 i = ic (hacc S (hts S k) i j)) (by omega) ?_ ?_ μ fu (fu_lt (by omega)) ⟨hF, hT, by rw [h0, hacc_self _ _ _ (Nat.le_refl _)]⟩
  · obtain ⟨ν, ⟨h2, h3, h4⟩, h5⟩ := key
    refine ⟨ν, ⟨h2, fun j h6 h7 => ?_⟩, h5⟩
    simp only [hts]
    by_cases hj : j = i
    · rw [if_pos (by omega), hj, h4]
    · rw [if_neg (by omega)]
      exact h3 j (by omega) h7
  · rintro f j ν hj1 hj2 ⟨h2, h3, h4⟩
    have m1 : MS S ν := h.fr h2 (by decide)
    have g1 := ((hG.of h2 (by decide) (by decide)) i j (by omega) hj2).1
    have e1 : (20 * (i : Int) + j).toNat = 20 * i + j := by omega
    have e2 : (i : Int).toNat = i := by omega
    have e3 : (j : Int).toNat = j := by omega
    have t1 := h3 j (by omega) hj2
    have b1 := hacc_rg hW (f := hts S k) (i := i) (B := 6 * k) (by omega) (fun j _ => (hts_rg hW k j).2) j
    have b2 := hts_rg hW k j
    have b3 := nearT_rg hW i j
    by_cases hq : nearT S i j = -99
    · refine ⟨mu ν 14 i (ic (hacc S (hts S k) i j)), ⟨h2.trans (Fr_mu (by decide)), ?_, ?_⟩, ?_⟩
      · intro j' h6 h7
        rw [mu_at, if_neg (by omega)]
        exact h3 j' h6 h7
      · rw [mu_at, if_pos ⟨rfl, rfl⟩]
        simp only [hacc]
        rw [if_neg (by omega), if_pos hq]
      · simp (disch := omega) only [fX9_measures_L32, ms_n m1 hW, Option.bind_some, ic_le, ic_lit, ic_mul, ic_add, ld_ic, e1, g1, ic_neg, ic_eq, e2, h4, fX9_measures_L91, ast_ic]
        rw [if_neg (by omega), if_pos (by omega)]
        rfl
    · refine ⟨mu ν 14 i (ic (max (hacc S (hts S k) i j) (nearT S i j + hts S k j))), ⟨h2.trans (Fr_mu (by decide)), ?_, ?_⟩, ?_⟩
      · intro j' h6 h7
        rw [mu_at, if_neg (by omega)]
        exact h3 j' h6 h7
      · rw [mu_at, if_pos ⟨rfl, rfl⟩]
        simp only [hacc]
        rw [if_neg (by omega), if_neg hq]
      · simp (disch := omega) only [fX9_measures_L32, ms_n m1 hW, Option.bind_some, ic_le, ic_lit, ic_mul, ic_add, ld_ic, e1, g1, ic_neg, ic_eq, e2, e3, t1, h4, r_greater, bd_some, fX9_measures_L91, ast_ic]
        rw [if_neg (by omega), if_neg (by omega)]
        rfl
  · rintro f ν ⟨h2, h3⟩
    have m1 : MS S ν := h.fr h2 (by decide)
    simp (disch := omega) only [fX9_measures_L32, ms_n m1 hW, Option.bind_some, ic_le, ic_lit, ic_neg, ic_add]
    rw [if_pos (by omega)]
end RF
