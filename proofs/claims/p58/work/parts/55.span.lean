/-! the two spans are one -/
section SPN
variable {S : Nat → Int}
theorem hts_st {i : Nat} : ∀ d, nn S - i + d ≤ nn S → i < nn S → hts S (nn S - i + d) i = hts S (nn S - i) i
  | 0, _, _ => rfl
  | d + 1, h, hi => by
    have ih := hts_st (i := i) d (by omega) hi
    rw [← Nat.add_assoc]
    simp only [hts]
    rw [if_neg (by omega), ih]
theorem hacc_congr {f g : Nat → Int} {i : Nat} : ∀ n, (∀ j, i < j → j < n → f j = g j) → hacc S f i n = hacc S g i n
  | 0, _ => rfl
  | n + 1, h => by
    have ih := hacc_congr (f := f) (g := g) (i := i) n fun j h1 h2 => h j h1 (by omega)
    simp only [hacc]
    by_cases hi : n ≤ i
    · rw [if_pos hi, if_pos hi]
    · rw [if_neg hi, if_neg hi, ih, h n (by omega) (by omega)]
theorem hgt_eq {i : Nat} (hi : i < nn S) : hgt S i = hacc S (hgt S) i (nn S) := by
  have h1 := hts_st (S := S) (i := i) i (by omega) hi
  rw [show nn S - i + i = nn S by omega] at h1
  unfold hgt
  rw [h1, show nn S - i = (nn S - i - 1) + 1 by omega]
  simp only [hts]
  rw [if_pos (by omega)]
  refine hacc_congr _ fun j hj hjn => ?_
  have h2 := hts_st (S := S) (i := j) (nn S - i - 1 - (nn S - j)) (by omega) hjn
  have h3 := hts_st (S := S) (i := j) j (by omega) hjn
  rw [show nn S - j + (nn S - i - 1 - (nn S - j)) = nn S - i - 1 by omega] at h2
  rw [show nn S - j + j = nn S by omega] at h3
  rw [h2, h3]
theorem hacc_sp {f : Nat → Int} {i : Nat} : ∀ n, la S i ≤ hacc S f i n ∧ (∀ j, i < j → j < n → nearT S i j ≠ -99 → nearT S i j + f j ≤ hacc S f i n) ∧ (hacc S f i n = la S i ∨ ∃ j, i < j ∧ j < n ∧ nearT S i j ≠ -99 ∧ hacc S f i n = nearT S i j + f j)
  | 0 => ⟨Int.le_refl _, fun j h1 h2 => by omega, Or.inl rfl⟩
  | n + 1 => by
    obtain ⟨h1, h2, h3⟩ := hacc_sp (f := f) (i := i) n
    simp only [hacc]
    by_cases hi : n ≤ i
    · rw [if_pos hi]
      exact ⟨Int.le_refl _, fun j h4 h5 => by omega, Or.inl rfl⟩
    · rw [if_neg hi]
      by_cases hq : nearT S i n = -99
      · rw [if_pos hq]
        refine ⟨h1, fun j h4 h5 h6 => ?_, ?_⟩
        · by_cases hjn : j = n
          · rw [hjn] at h6
            exact absurd hq h6
          · exact h2 j h4 (by omega) h6
        · rcases h3 with h3 | ⟨j, h4, h5, h6⟩
          · exact Or.inl h3
          · exact Or.inr ⟨j, h4, by omega, h6⟩
      · rw [if_neg hq]
        refine ⟨by omega, fun j h4 h5 h6 => ?_, ?_⟩
        · by_cases hjn : j = n
          · rw [hjn]
            omega
          · have := h2 j h4 (by omega) h6
            omega
        · by_cases hm : nearT S i n + f n ≤ hacc S f i n
          · rcases h3 with h3 | ⟨j, h4, h5, h6, h7⟩
            · exact Or.inl (by omega)
            · exact Or.inr ⟨j, h4, by omega, h6, by omega⟩
          · exact Or.inr ⟨n, by omega, by omega, hq, by omega⟩
theorem ets_st {i : Nat} : ∀ d, i < nn S → ets S (i + 1 + d) i = ets S (i + 1) i
  | 0, _ => rfl
  | d + 1, hi => by
    have ih := ets_st (i := i) d hi
    rw [← Nat.add_assoc]
    show (if i = i + 1 + d then _ else ets S (i + 1 + d) i) = _
    rw [if_neg (by omega), ih]
theorem eacc_congr {f g : Nat → Int} {j : Nat} : ∀ n, (∀ i, i < n → f i = g i) → eacc S f j n = eacc S g j n
  | 0, _ => rfl
  | n + 1, h => by
    have ih := eacc_congr (f := f) (g := g) (j := j) n fun i h1 => h i (by omega)
    simp only [eacc]
    rw [ih, h n (by omega)]
theorem ear_eq {i : Nat} (hi : i < nn S) : ear S i = eacc S (ear S) i i := by
  have h1 := ets_st (S := S) (i := i) (nn S - (i + 1)) hi
  rw [show i + 1 + (nn S - (i + 1)) = nn S by omega] at h1
  unfold ear
  rw [h1]
  simp only [ets]
  rw [if_pos trivial]
  refine eacc_congr _ fun j hj => ?_
  have h2 := ets_st (S := S) (i := j) (i - (j + 1)) (by omega)
  have h3 := ets_st (S := S) (i := j) (nn S - (j + 1)) (by omega)
  rw [show j + 1 + (i - (j + 1)) = i by omega] at h2
  rw [show j + 1 + (nn S - (j + 1)) = nn S by omega] at h3
  rw [h2, h3]
theorem eacc_sp {f : Nat → Int} {j : Nat} : ∀ n, 0 ≤ eacc S f j n ∧ (∀ i, i < n → nearT S i j ≠ -99 → f i + nearT S i j ≤ eacc S f j n) ∧ (eacc S f j n = 0 ∨ ∃ i, i < n ∧ nearT S i j ≠ -99 ∧ eacc S f j n = f i + nearT S i j)
  | 0 => ⟨Int.le_refl _, fun i h => by omega, Or.inl rfl⟩
  | n + 1 => by
    obtain ⟨h1, h2, h3⟩ := eacc_sp (f := f) (j := j) n
    simp only [eacc]
    by_cases hq : nearT S n j = -99
    · rw [if_pos hq]
      refine ⟨h1, fun i h4 h6 => ?_, ?_⟩
      · by_cases hin : i = n
        · rw [hin] at h6
          exact absurd hq h6
        · exact h2 i (by omega) h6
      · rcases h3 with h3 | ⟨i, h4, h6⟩
        · exact Or.inl h3
        · exact Or.inr ⟨i, by omega, h6⟩
    · rw [if_neg hq]
      refine ⟨by omega, fun i h4 h6 => ?_, ?_⟩
      · by_cases hin : i = n
        · rw [hin]
          omega
        · have := h2 i (by omega) h6
          omega
      · by_cases hm : f n + nearT S n j ≤ eacc S f j n
        · rcases h3 with h3 | ⟨i, h4, h6, h7⟩
          · exact Or.inl (by omega)
          · exact Or.inr ⟨i, by omega, h6, by omega⟩
        · exact Or.inr ⟨n, by omega, hq, by omega⟩
theorem span_a : ∀ d i, d + i = nn S → i < nn S → ear S i + hgt S i ≤ mx0 (las S) (nn S) := by
  intro d
  induction d using Nat.strongRecOn with
  | ind d ih =>
    intro i hd hi
    obtain ⟨_, _, h3⟩ := hacc_sp (S := S) (f := hgt S) (i := i) (nn S)
    rw [← hgt_eq hi] at h3
    rcases h3 with h3 | ⟨j, h4, h5, h6, h7⟩
    · have h8 := mx0_ge (f := las S) hi
      unfold las at h8 ⊢
      omega
    · obtain ⟨_, e2, _⟩ := eacc_sp (S := S) (f := ear S) (j := j) j
      rw [← ear_eq h5] at e2
      have h8 := e2 i h4 h6
      have h9 := ih (d - (j - i)) (by omega) j (by omega) h5
      omega
theorem span_b : ∀ i, i < nn S → ear S i + hgt S i ≤ mx0 (hgt S) (nn S) := by
  intro i
  induction i using Nat.strongRecOn with
  | ind i ih =>
    intro hi
    obtain ⟨_, _, h3⟩ := eacc_sp (S := S) (f := ear S) (j := i) i
    rw [← ear_eq hi] at h3
    rcases h3 with h3 | ⟨j, h4, h6, h7⟩
    · have h8 := mx0_ge (f := hgt S) hi
      omega
    · obtain ⟨_, e2, _⟩ := hacc_sp (S := S) (f := hgt S) (i := j) (nn S)
      rw [← hgt_eq (by omega)] at e2
      have h8 := e2 i h4 hi h6
      have h9 := ih j h4 (by omega)
      omega
theorem mx0_lub {f : Nat → Int} {B : Int} (hB : 0 ≤ B) : ∀ n, (∀ k, k < n → f k ≤ B) → mx0 f n ≤ B
  | 0, _ => by simpa [mx0] using hB
  | n + 1, h => by
    have h1 := mx0_lub hB n fun k hk => h k (by omega)
    have h2 := h n (by omega)
    simp only [mx0]
    omega
theorem span_eq : mx0 (las S) (nn S) = mx0 (hgt S) (nn S) := by
  have h1 : mx0 (las S) (nn S) ≤ mx0 (hgt S) (nn S) := by
    refine mx0_lub (mx0_nn _) _ fun k hk => ?_
    have h2 := span_b k hk
    obtain ⟨h3, _, _⟩ := hacc_sp (S := S) (f := hgt S) (i := k) (nn S)
    rw [← hgt_eq hk] at h3
    unfold las
    omega
  have h2 : mx0 (hgt S) (nn S) ≤ mx0 (las S) (nn S) := by
    refine mx0_lub (mx0_nn _) _ fun k hk => ?_
    have h2 := span_a (nn S - k) k (by omega) hk
    obtain ⟨h3, _, _⟩ := eacc_sp (S := S) (f := ear S) (j := k) k
    rw [← ear_eq hk] at h3
    omega
  omega
end SPN

