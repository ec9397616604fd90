def LGp (S : Nat → Int) (i j : Nat) (μ : Mem) : Prop := ∀ i' j', (i' < i ∨ (i' = i ∧ j' < j)) → i' < nn S → j' < nn S → μ 79 (20 * i' + j') = ic (nearT S i' j') ∧ μ 80 (20 * i' + j') = ic (over S i' j')
def LG (S : Nat → Int) (μ : Mem) : Prop := μ 75 0 = ic (nn S) ∧ ∀ i j, i < nn S → j < nn S → μ 79 (20 * i + j) = ic (nearT S i j) ∧ μ 80 (20 * i + j) = ic (over S i j)
theorem LG.of {S : Nat → Int} {μ μ' : Mem} {l : List Nat} (h : LG S μ) (hF : Fr l μ μ') (hl : 75 ∉ l ∧ 79 ∉ l ∧ 80 ∉ l) : LG S μ' := by
  unfold LG
  rw [hF 75 hl.1, hF 79 hl.2.1, hF 80 hl.2.2]
  exact h
/-- all that is told of the hangings -/
def LK (S : Nat → Int) (μ : Mem) : Prop := LG S μ ∧ LKr S (nn S) μ ∧ (∀ i, i < nn S → μ 81 i = ic (hgt S i)) ∧ ∀ i, i < nn S → μ 82 i = ic (ear S i)
theorem LK.of {S : Nat → Int} {μ μ' : Mem} {l : List Nat} (h : LK S μ) (hF : Fr l μ μ') (hl : ∀ a, a ∈ l → a < 75 ∨ 82 < a) : LK S μ' := by
  have hl' : ∀ a, 75 ≤ a → a ≤ 82 → a ∉ l := fun a h1 h2 h3 => by have := hl a h3; omega
  refine ⟨h.1.of hF ⟨hl' _ (by decide) (by decide), hl' _ (by decide) (by decide), hl' _ (by decide) (by decide)⟩, h.2.1.of hF ⟨hl' _ (by decide) (by decide), hl' _ (by decide) (by decide), hl' _ (by decide) (by decide), hl' _ (by decide) (by decide)⟩, ?_, ?_⟩
  · rw [hF 81 (hl' _ (by decide) (by decide))]
    exact h.2.2.1
  · rw [hF 82 (hl' _ (by decide) (by decide))]
    exact h.2.2.2
section XB
variable {S : Nat → Int} {μ μ0 : Mem} {i j : Nat}
theorem nearT_ge (h : ¬ i < j) : nearT S i j = -99 := by
  unfold nearT
  rw [if_neg h]
theorem x_nearOf (h : LG S μ) (hW : WF S) (hi : i < nn S) (hj : j < nn S) : fX2_nearOf μ (ic i) (ic j) = some (ic (nearT S i j), μ) := by
  have hn := hW.n
  have e1 : ((i : Int) * 20 + j).toNat = 20 * i + j := by omega
  simp (disch := omega) only [fX2_nearOf, ic_lit, ic_neg, ic_lt, ic_le, h.1, ic_mul, ic_add, ld_ic, e1, (h.2 i j hi hj).1, Option.bind_some]
  by_cases hij : i < j
  · rw [if_neg (by omega), if_neg (by omega), if_neg (by omega)]
  · rw [if_neg (by omega), if_pos (by omega), nearT_ge hij]
theorem x_overOf (h : LG S μ) (hW : WF S) (hi : i < nn S) (hj : j < nn S) : fX2_overOf μ (ic i) (ic j) = some (ic (over S i j), μ) := by
  have hn := hW.n
  have e1 : ((i : Int) * 20 + j).toNat = 20 * i + j := by omega
  simp (disch := omega) only [fX2_overOf, ic_lit, ic_neg, ic_lt, ic_le, h.1, ic_mul, ic_add, ld_ic, e1, (h.2 i j hi hj).2, Option.bind_some]
  rw [if_neg (by omega), if_neg (by omega), if_neg (by omega), if_neg (by omega)]
theorem x_mrows (hW : WF S) (h : XS 1 S μ) (h0 : μ 75 0 = ic (nn S)) : ∃ μ', (Fr [76, 77, 78] μ μ' ∧ LKr S (nn S) μ') ∧ fX2_measure_L10 fu (ic 0) μ = fX2_measure_L59 fu (ic 0) μ' := by
  have hn := hW.n
  have key := lq_m fX2_measure_L10 (fun ν => fX2_measure_L59 fu (ic 0) ν) 0 (nn S) (fun k ν => Fr [76, 77, 78] μ ν ∧ LKr S k ν) (by omega) ?_ ?_ μ fu (fu_lt (by omega)) ⟨Fr.rfl', h0, fun i hi => by omega⟩
  · exact key
  · rintro f k ν - hk ⟨h2, h3⟩
    have x1 : XS 1 S ν := h.fr h2 (by decide)
    have e3 : (k : Int).toNat = k := by omega
    have x2 : XS 1 S (mu ν 76 k (rd S k)) := x1.of fun a ha => mu_ne (by omega)
    have x3 : XS 1 S (mu (mu ν 76 k (rd S k)) 77 k (ic (wr S k))) := x2.of fun a ha => mu_ne (by omega)
    refine ⟨mu (mu (mu ν 76 k (rd S k)) 77 k (ic (wr S k))) 78 k (ic (la S k)), ⟨((h2.trans (Fr_mu (by decide))).trans (Fr_mu (by decide))).trans (Fr_mu (by decide)), ?_, ?_⟩, ?_⟩
    · rw [mu_ne (by decide), mu_ne (by decide), mu_ne (by decide), h3.1]
    · intro i hi
      simp only [mu_at]
      by_cases hq : i = k
      · simp [hq]
      · simpa [hq] using h3.2 i (by omega)
    · have e0 : ν 75 0 = ic (nn S) := h3.1
      simp (disch := omega) only [fX2_measure_L10, e0, ic_le, x_readsOf x1 hW hk, bd_some, ast_ic, Option.bind_some, e3, x_writesOf x2 hW hk, x_lengthOf x3 hW hk, ic_lit, ic_add]
      rw [if_neg (by omega)]
      rfl
  · rintro f ν ⟨h2, h3⟩
    simp (disch := omega) only [fX2_measure_L10, h3.1, ic_le, ic_lit]
    rw [if_pos (by omega)]
theorem x_mpairs_in (hW : WF S) (h : XS 1 S μ0) (hL : LKr S (nn S) μ0) (K : Int32 → Mem → Option (Unit × Mem)) (hi : i < nn S) (hF : Fr [79, 80] μ0 μ) (hG : LGp S i 0 μ) : ∃ μ', (Fr [79, 80] μ0 μ' ∧ LGp S (i + 1) 0 μ') ∧ fX2_measure_L69 K fu (ic i) (ic 0) μ = K (ic ((i + 1 : Nat) : Int)) μ' := by
  have hn := hW.n
  have key := lq_m (fun f v ν => fX2_measure_L69 K f (ic i) v ν) (fun ν => K (ic ((i + 1 : Nat) : Int)) ν) 0 (nn S) (fun k ν => Fr [79, 80] μ0 ν ∧ LGp S i k ν) (by omega) ?_ ?_ μ fu (fu_lt (by omega)) ⟨hF, hG⟩
  · obtain ⟨ν, ⟨h2, h3⟩, h4⟩ := key
    exact ⟨ν, ⟨h2, fun i' j' hc h5 h6 => h3 i' j' (by omega) h5 h6⟩, h4⟩
  · rintro f k ν - hk ⟨h2, h3⟩
    have e1 : ((i : Int) * 20 + k).toNat = 20 * i + k := by omega
    have x1 : XS 1 S ν := h.fr h2 (by decide)
    have l1 : LKr S (nn S) ν := hL.of h2 (by decide)
    have x2 : XS 1 S (mu ν 79 (20 * i + k) (ic (nearT S i k))) := x1.of fun a ha => mu_ne (by omega)
    have l2 : LKr S (nn S) (mu ν 79 (20 * i + k) (ic (nearT S i k))) := l1.of (Fr_mu (l := [79]) (by decide)) (by decide)
    refine ⟨mu (mu ν 79 (20 * i + k) (ic (nearT S i k))) 80 (20 * i + k) (ic (over S i k)), ⟨(h2.trans (Fr_mu (by decide))).trans (Fr_mu (by decide)), ?_⟩, ?_⟩
    · intro i' j' hc h5 h6
      simp only [mu_at]
      by_cases hq : 20 * i' + j' = 20 * i + k
      · obtain ⟨rfl, rfl⟩ : i' = i ∧ j' = k := by omega
        simp
      · simp only [hq]
        simpa using h3 i' j' (by omega) h5 h6
    · by_cases hik : i < k
      · have e2 : near S i k = nearT S i k := by rw [nearT, if_pos hik]
        simp (disch := omega) only [fX2_measure_L69, l1.1, ic_le, x_nearPair x1 l1 hW hi hk, e2, bd_some, fX2_measure_L104, ic_lit, ic_mul, ic_add, ast_ic, e1, Option.bind_some, x_overPair x2 l2 hW hi hk]
        rw [if_neg (by omega), if_neg (by omega)]
        rfl
      · have e2 := nearT_ge (S := S) hik
        rw [e2] at x2 l2
        simp (disch := omega) only [fX2_measure_L69, l1.1, ic_le, e2, bd_some, fX2_measure_L104, ic_lit, ic_neg, ic_mul, ic_add, ast_ic, e1, Option.bind_some, x_overPair x2 l2 hW hi hk]
        rw [if_neg (by omega), if_pos (by omega)]
        rfl
  · rintro f ν ⟨h2, h3⟩
    have l1 : LKr S (nn S) ν := hL.of h2 (by decide)
    simp (disch := omega) only [fX2_measure_L69, l1.1, ic_le, ic_lit, ic_add]
    rw [if_pos (by omega)]
    rfl
theorem x_mpairs (hW : WF S) (h : XS 1 S μ) (hL : LKr S (nn S) μ) : ∃ μ', (Fr [79, 80] μ μ' ∧ LG S μ') ∧ fX2_measure_L59 fu (ic 0) μ = bd (fX2_measureHeights μ') fun _ ν => bd (fX2_measureEarliest ν) fun _ ν' => some ((), ν') := by
  have hn := hW.n
  have key := lq_m fX2_measure_L59 (fun ν => bd (fX2_measureHeights ν) fun _ ν1 => bd (fX2_measureEarliest ν1) fun _ ν' => some ((), ν')) 0 (nn S) (fun k ν => Fr [79, 80] μ ν ∧ LGp S k 0 ν) (by omega) ?_ ?_ μ fu (fu_lt (by omega)) ⟨Fr.rfl', fun i' j' hc => by omega⟩
  · obtain ⟨ν, ⟨h2, h3⟩, h4⟩ := key
    exact ⟨ν, ⟨h2, (hL.of h2 (by decide)).1, fun i' j' h5 h6 => h3 i' j' (by omega) h5 h6⟩, h4⟩
  · rintro f k ν - hk ⟨h2, h3⟩
    have l1 : LKr S (nn S) ν := hL.of h2 (by decide)
    obtain ⟨ν', h6, h7⟩ := x_mpairs_in hW h hL (fX2_measure_L59 f) hk h2 h3
    refine ⟨ν', h6, ?_⟩
    simp (disch := omega) only [fX2_measure_L59, l1.1, ic_le, ic_lit]
    rw [if_neg (by omega)]
    exact h7
  · rintro f ν ⟨h2, h3⟩
    have l1 : LKr S (nn S) ν := hL.of h2 (by decide)
    simp (disch := omega) only [fX2_measure_L59, l1.1, ic_le]
    rw [if_pos (by omega)]
def XTp (S : Nat → Int) (k : Nat) (μ : Mem) : Prop := ∀ j, nn S - k ≤ j → j < nn S → μ 81 j = ic (hts S k j)
theorem x_heights_in (hW : WF S) (hG : LG S μ0) (K : Int32 → Mem → Option (Unit × Mem)) {k : Nat} (hk : k < nn S) (hF : Fr [81] μ0 μ) (hT : XTp S k μ) (h0 : μ 81 (nn S - 1 - k) = ic (la S (nn S - 1 - k))) : ∃ μ', (Fr [81] μ0 μ' ∧ XTp S (k + 1) μ') ∧ fX2_measureHeights_L27 K fu (ic ((nn S - 1 - k : Nat) : Int)) (ic ((nn S - 1 - k + 1 : Nat) : Int)) μ = K (ic (((nn S - 1 - k : Nat) : Int) + -1)) μ' := by
  have hn := hW.n
  obtain ⟨i, hi⟩ : ∃ i, i = nn S - 1 - k := ⟨_, rfl⟩
  rw [← hi] at h0 ⊢
  have key := lq_m (fun f v ν => fX2_measureHeights_L27 K f (ic (i : Int)) v ν) (fun ν => K (ic ((i : Int) + -1)) ν) (i + 1) (nn S) (fun j ν => Fr [81] μ0 ν ∧ XTp S k ν ∧ ν 81 i = ic (hacc S (hts S k) i j)) (by omega) ?_ ?_ μ fu (fu_lt (by omega)) ⟨hF, hT, by rw [h0, hacc_self _ _ _ (Nat.le_refl _)]⟩
  · obtain ⟨ν, ⟨h2, h3, h4⟩, h5⟩ := key
    refine ⟨ν, ⟨h2, fun j h6 h7 => ?_⟩, h5⟩
    simp only [hts]
    by_cases hj : j = i
    · rw [if_pos (by omega), hj, h4]
    · rw [if_neg (by omega)]
      exact h3 j (by omega) h7
  · rintro f j ν hj1 hj2 ⟨h2, h3, h4⟩
    have g1 : LG S ν := hG.of h2 (by decide)
    have e2 : (i : Int).toNat = i := by omega
    have e3 : (j : Int).toNat = j := by omega
    have t1 := h3 j (by omega) hj2
    have b1 := hacc_rg hW (f := hts S k) (i := i) (B := 6 * k) (by omega) (fun j _ => (hts_rg hW k j).2) j
    have b2 := hts_rg hW k j
    have b3 := nearT_rg hW i j
    by_cases hq : nearT S i j = -99
    · refine ⟨ν, ⟨h2, h3, ?_⟩, ?_⟩
      · simp only [hacc]
        rw [if_neg (by omega), if_pos hq, h4]
      · simp (disch := omega) only [fX2_measureHeights_L27, g1.1, ic_le, x_nearOf g1 hW, bd_some, ic_lit, ic_neg, ic_eq, fX2_measureHeights_L71, ic_add]
        rw [if_neg (by omega), if_pos (by omega)]
        rfl
    · refine ⟨mu ν 81 i (ic (max (hacc S (hts S k) i j) (nearT S i j + hts S k j))), ⟨h2.trans (Fr_mu (by decide)), ?_, ?_⟩, ?_⟩
      · intro j' h6 h7
        rw [mu_at, if_neg (by omega)]
        exact h3 j' h6 h7
      · rw [mu_at, if_pos ⟨rfl, rfl⟩]
        simp only [hacc]
        rw [if_neg (by omega), if_neg hq]
      · simp (disch := omega) only [fX2_measureHeights_L27, g1.1, ic_le, x_nearOf g1 hW, bd_some, ic_lit, ic_neg, ic_eq, fX2_measureHeights_L71, ic_add, ld_ic, e2, e3, t1, h4, Option.bind_some, jmax_ic, ast_ic]
        rw [if_neg (by omega), if_neg (by omega)]
        rfl
  · rintro f ν ⟨h2, h3⟩
    have g1 : LG S ν := hG.of h2 (by decide)
    simp (disch := omega) only [fX2_measureHeights_L27, g1.1, ic_le, ic_lit, ic_neg, ic_add]
    rw [if_pos (by omega)]
theorem x_heights (hW : WF S) (hG : LG S μ) (hL : LKr S (nn S) μ) : ∃ μ', (Fr [81] μ μ' ∧ ∀ i, i < nn S → μ' 81 i = ic (hgt S i)) ∧ fX2_measureHeights μ = some ((), μ') := by
  have hn := hW.n
  have key := lq_g fX2_measureHeights_L7 (fun ν => some ((), ν)) (fun k => ic ((nn S : Int) - 1 - k)) 0 (nn S) (fun k ν => Fr [81] μ ν ∧ XTp S k ν) (by omega) ?_ ?_ μ fu (fu_lt (by omega)) ⟨Fr.rfl', fun j hc => by omega⟩
  · obtain ⟨ν, ⟨h2, h3⟩, h4⟩ := key
    refine ⟨ν, ⟨h2, fun j hj => h3 j (by omega) hj⟩, ?_⟩
    simp only [fX2_measureHeights, hG.1, ic_lit, ic_sub]
    simpa using h4
  · rintro f k ν - hk ⟨h2, h3⟩
    have l1 : LKr S (nn S) ν := hL.of h2 (by decide)
    have e0 : (nn S : Int) - 1 - k = ((nn S - 1 - k : Nat) : Int) := by omega
    have e1 : ((nn S - 1 - k : Nat) : Int) + 1 = ((nn S - 1 - k + 1 : Nat) : Int) := by omega
    have e2 : ((nn S - 1 - k : Nat) : Int) + -1 = (nn S : Int) - 1 - ((k + 1 : Nat) : Int) := by omega
    have e3 : ((nn S - 1 - k : Nat) : Int).toNat = nn S - 1 - k := by omega
    obtain ⟨ν', h6, h7⟩ := x_heights_in hW hG (fX2_measureHeights_L7 f) hk (h2.trans (Fr_mu (by decide))) (μ := mu ν 81 (nn S - 1 - k) (ic (la S (nn S - 1 - k)))) (fun j h6 h7 => by
      rw [mu_at, if_neg (by omega)]
      exact h3 j h6 h7) (by rw [mu_at, if_pos ⟨rfl, rfl⟩])
    refine ⟨ν', h6, ?_⟩
    rw [e2] at h7
    rw [← h7, e0]
    simp (disch := omega) only [fX2_measureHeights_L7, ic_lit, ic_lt, l_la l1 hW, bd_some, ast_ic, Option.bind_some, e3, ic_add, e1]
    rw [if_neg (by omega)]
  · rintro f ν ⟨h2, h3⟩
    simp (disch := omega) only [fX2_measureHeights_L7, ic_lit, ic_lt]
    rw [if_pos (by omega)]
def XEp (S : Nat → Int) (k : Nat) (μ : Mem) : Prop := ∀ j, j < k → μ 82 j = ic (ets S k j)
theorem x_earliest_in (hW : WF S) (hG : LG S μ0) (K : Int32 → Mem → Option (Unit × Mem)) {k : Nat} (hk : k < nn S) (hF : Fr [82] μ0 μ) (hT : XEp S k μ) (h0 : μ 82 k = ic 0) : ∃ μ', (Fr [82] μ0 μ' ∧ XEp S (k + 1) μ') ∧ fX2_measureEarliest_L19 K fu (ic (k : Int)) (ic 0) μ = K (ic ((k + 1 : Nat) : Int)) μ' := by
  have hn := hW.n
  have key := lq_m (fun f v ν => fX2_measureEarliest_L19 K f (ic (k : Int)) v ν) (fun ν => K (ic ((k + 1 : Nat) : Int)) ν) 0 k (fun i ν => Fr [82] μ0 ν ∧ XEp S k ν ∧ ν 82 k = ic (eacc S (ets S k) k i)) (by omega) ?_ ?_ μ fu (fu_lt (by omega)) ⟨hF, hT, by rw [h0, eacc]⟩
  · obtain ⟨ν, ⟨h2, h3, h4⟩, h5⟩ := key
    refine ⟨ν, ⟨h2, fun j h6 => ?_⟩, h5⟩
    simp only [ets]
    by_cases hj : j = k
    · rw [if_pos (by omega), hj, h4]
    · rw [if_neg (by omega)]
      exact h3 j (by omega)
  · rintro f j ν hj1 hj2 ⟨h2, h3, h4⟩
    have g1 : LG S ν := hG.of h2 (by decide)
    have e2 : (k : Int).toNat = k := by omega
    have e3 : (j : Int).toNat = j := by omega
    have t1 := h3 j (by omega)
    have b1 := eacc_rg hW (f := ets S k) (j := k) (B := 6 * k) (by omega) (fun j _ => (ets_rg hW k j).2) j (by omega)
    have b2 := ets_rg hW k j
    have b3 := nearT_rg hW j k
    by_cases hq : nearT S j k = -99
    · refine ⟨ν, ⟨h2, h3, ?_⟩, ?_⟩
      · simp only [eacc]
        rw [if_pos hq, h4]
      · simp (disch := omega) only [fX2_measureEarliest_L19, ic_le, x_nearOf g1 hW, bd_some, ic_lit, ic_neg, ic_eq, fX2_measureEarliest_L60, ic_add]
        rw [if_neg (by omega), if_pos (by omega)]
        rfl
    · refine ⟨mu ν 82 k (ic (max (eacc S (ets S k) k j) (ets S k j + nearT S j k))), ⟨h2.trans (Fr_mu (by decide)), ?_, ?_⟩, ?_⟩
      · intro j' h6
        rw [mu_at, if_neg (by omega)]
        exact h3 j' h6
      · rw [mu_at, if_pos ⟨rfl, rfl⟩]
        simp only [eacc]
        rw [if_neg hq]
      · simp (disch := omega) only [fX2_measureEarliest_L19, ic_le, x_nearOf g1 hW, bd_some, ic_lit, ic_neg, ic_eq, fX2_measureEarliest_L60, ic_add, ld_ic, e2, e3, t1, h4, Option.bind_some, jmax_ic, ast_ic]
        rw [if_neg (by omega), if_neg (by omega)]
        rfl
  · rintro f ν ⟨h2, h3⟩
    simp (disch := omega) only [fX2_measureEarliest_L19, ic_le, ic_lit, ic_neg, ic_add]
    rw [if_pos (by omega)]
    rfl
theorem x_earliest (hW : WF S) (hG : LG S μ) : ∃ μ', (Fr [82] μ μ' ∧ ∀ i, i < nn S → μ' 82 i = ic (ear S i)) ∧ fX2_measureEarliest μ = some ((), μ') := by
  have hn := hW.n
  have key := lq_m fX2_measureEarliest_L2 (fun ν => some ((), ν)) 0 (nn S) (fun k ν => Fr [82] μ ν ∧ XEp S k ν) (by omega) ?_ ?_ μ fu (fu_lt (by omega)) ⟨Fr.rfl', fun j hc => by omega⟩
  · obtain ⟨ν, ⟨h2, h3⟩, h4⟩ := key
    refine ⟨ν, ⟨h2, fun j hj => h3 j hj⟩, ?_⟩
    simp only [fX2_measureEarliest, ic_lit]
    exact h4
  · rintro f k ν - hk ⟨h2, h3⟩
    have g1 : LG S ν := hG.of h2 (by decide)
    have e3 : (k : Int).toNat = k := by omega
    obtain ⟨ν', h6, h7⟩ := x_earliest_in hW hG (fX2_measureEarliest_L2 f) hk (h2.trans (Fr_mu (by decide))) (μ := mu ν 82 k (ic 0)) (fun j h6 => by
      rw [mu_at, if_neg (by omega)]
      exact h3 j h6) (by rw [mu_at, if_pos ⟨rfl, rfl⟩])
    refine ⟨ν', h6, ?_⟩
    rw [← h7]
    simp (disch := omega) only [fX2_measureEarliest_L2, g1.1, ic_lit, ic_le, bd_some, ast_ic, Option.bind_some, e3]
    rw [if_neg (by omega)]
  · rintro f ν ⟨h2, h3⟩
    have g1 : LG S ν := hG.of h2 (by decide)
    simp (disch := omega) only [fX2_measureEarliest_L2, g1.1, Option.bind_some, ic_lit, ic_le]
    rw [if_pos (by omega)]
theorem x_measure (hW : WF S) (h : XS 1 S μ) : ∃ μ', fX2_measure μ = some ((), μ') ∧ Fr [75, 76, 77, 78, 79, 80, 81, 82] μ μ' ∧ LK S μ' := by
  have hn := hW.n
  have f0 : Fr [75] μ (mu μ 75 0 (ic (nn S))) := Fr_mu (by decide)
  have x0 : XS 1 S (mu μ 75 0 (ic (nn S))) := h.fr f0 (by decide)
  obtain ⟨μ1, ⟨f1, h1⟩, c1⟩ := x_mrows hW x0 (by rw [mu_at, if_pos ⟨rfl, rfl⟩])
  obtain ⟨μ2, ⟨f2, h2⟩, c2⟩ := x_mpairs hW (x0.fr f1 (by decide)) h1
  have h1' := h1.of f2 (by decide)
  obtain ⟨μ3, ⟨f3, h3⟩, c3⟩ := x_heights hW h2 h1'
  obtain ⟨μ4, ⟨f4, h4⟩, c4⟩ := x_earliest hW (h2.of f3 (by decide))
  refine ⟨μ4, ?_, ((((f0.mono (by decide)).trans (f1.mono (by decide))).trans (f2.mono (by decide))).trans (f3.mono (by decide))).trans (f4.mono (by decide)), (h2.of f3 (by decide)).of f4 (by decide), (h1'.of f3 (by decide)).of f4 (by decide), ?_, h4⟩
  · simp only [fX2_measure, pt, Option.bind_some, x_n h hW, ic_lit]
    rw [c1, c2, c3, bd_some, c4, bd_some]
  · intro i hi
    rw [f4 81 (by decide)]
    exact h3 i hi
theorem x_greatestHeight (hW : WF S) (h : LK S μ) : fX2_greatestHeight μ = some (ic (mx0 (hgt S) (nn S)), μ) := by
  have hn := hW.n
  have key := loop_eq (fun f (s : Int32 × Int32) => fX2_greatestHeight_L4 f s.1 s.2 μ) 0 (nn S) (fun k => (ic (mx0 (hgt S) k), ic k)) (some (ic (mx0 (hgt S) (nn S)), μ)) (by omega) ?_ ?_ fu (fu_lt (by omega))
  · simp only [fX2_greatestHeight, ic_lit]
    exact key
  · intro f k _ hk
    have b1 := mx0_le (f := hgt S) (B := 120) (by omega) k fun k _ => (hgt_rg hW k).2
    have b2 := hgt_rg hW k
    have e3 : (k : Int).toNat = k := by omega
    simp (disch := omega) only [fX2_greatestHeight_L4, h.1.1, Option.bind_some, ic_le, ic_lit, ld_ic, e3, h.2.2.1 k hk, jmax_ic, ic_add]
    rw [if_neg (by omega)]
    rfl
  · intro f
    simp (disch := omega) only [fX2_greatestHeight_L4, h.1.1, ic_le]
    rw [if_pos (by omega)]
def las (S : Nat → Int) (k : Nat) : Int := ear S k + la S k
theorem x_lastResult (hW : WF S) (h : LK S μ) : fX2_lastResult μ = some (ic (mx0 (las S) (nn S)), μ) := by
  have hn := hW.n
  have key := loop_eq (fun f (s : Int32 × Int32) => fX2_lastResult_L4 f s.1 s.2 μ) 0 (nn S) (fun k => (ic (mx0 (las S) k), ic k)) (some (ic (mx0 (las S) (nn S)), μ)) (by omega) ?_ ?_ fu (fu_lt (by omega))
  · simp only [fX2_lastResult, ic_lit]
    exact key
  · intro f k _ hk
    have hl : ∀ k, 0 ≤ las S k ∧ las S k ≤ 126 := fun k => by
      have b2 := ear_rg hW k
      have b3 := la_rg hW k
      unfold las
      omega
    have b1 := mx0_le (f := las S) (B := 126) (by omega) k fun k _ => (hl k).2
    have b2 := hl k
    have e3 : (k : Int).toNat = k := by omega
    have e4 : ear S k + la S k = las S k := rfl
    simp (disch := omega) only [fX2_lastResult_L4, h.1.1, Option.bind_some, ic_le, ic_lit, ld_ic, e3, h.2.2.2 k hk, (h.2.1.2 k hk).2.2, jmax_ic, ic_add, e4]
    rw [if_neg (by omega)]
    rfl
  · intro f
    simp (disch := omega) only [fX2_lastResult_L4, h.1.1, ic_le]
    rw [if_pos (by omega)]
end XB

