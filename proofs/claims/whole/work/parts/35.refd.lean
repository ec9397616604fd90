def HT (S : Nat → Int) (μ : Mem) : Prop := ∀ j, j < nn S → μ 14 j = ic (hgt S j)
def ET (S : Nat → Int) (μ : Mem) : Prop := ∀ j, j < nn S → μ 15 j = ic (ear S j)
def ETp (S : Nat → Int) (k : Nat) (μ : Mem) : Prop := ∀ j, j < k → μ 15 j = ic (ets S k j)
section RF
variable {S : Nat → Int} {μ μ0 : Mem} {i j : Nat}
theorem r_heights (hW : WF S) (h : MS S μ) (hG : HG S μ) : ∃ μ', (Fr [14] μ μ' ∧ HT S μ') ∧ fX9_measures_L13 fu (ic ((nn S : Int) - 1)) μ = fX9_measures_L106 fu (ic 0) μ' := by
  have hn := hW.n
  have key := lq_g fX9_measures_L13 (fun ν => fX9_measures_L106 fu (ic 0) ν) (fun k => ic ((nn S : Int) - 1 - k)) 0 (nn S) (fun k ν => Fr [14] μ ν ∧ HTp S k ν) (by omega) ?_ ?_ μ fu (fu_lt (by omega)) ⟨Fr.rfl', fun j hc => by omega⟩
  · obtain ⟨ν, ⟨h2, h3⟩, h4⟩ := key
    exact ⟨ν, ⟨h2, fun j hj => h3 j (by omega) hj⟩, by simpa using h4⟩
  · rintro f k ν - hk ⟨h2, h3⟩
    have m1 : MS S ν := h.fr h2 (by decide)
    have e0 : (nn S : Int) - 1 - k = ((nn S - 1 - k : Nat) : Int) := by omega
    have e1 : ((nn S - 1 - k : Nat) : Int) + 1 = ((nn S - 1 - k + 1 : Nat) : Int) := by omega
    have e2 : ((nn S - 1 - k : Nat) : Int) + -1 = (nn S : Int) - 1 - ((k + 1 : Nat) : Int) := by omega
    have e3 : ((nn S - 1 - k : Nat) : Int).toNat = nn S - 1 - k := by omega
    obtain ⟨ν', h6, h7⟩ := r_heights_in hW h hG (fX9_measures_L13 f) hk (h2.trans (Fr_mu (by decide))) (μ := mu ν 14 (nn S - 1 - k) (ic (la S (nn S - 1 - k)))) (fun j h6 h7 => by
      rw [mu_at, if_neg (by omega)]
      exact h3 j h6 h7) (by rw [mu_at, if_pos ⟨rfl, rfl⟩])
    refine ⟨ν', h6, ?_⟩
    rw [e2] at h7
    rw [← h7, e0]
    simp (disch := omega) only [fX9_measures_L13, ic_lit, ic_lt, r_latency m1 hW, bd_some, ast_ic, Option.bind_some, e3, ic_add, e1]
    rw [if_neg (by omega)]
  · rintro f ν ⟨h2, h3⟩
    simp (disch := omega) only [fX9_measures_L13, ic_lit, ic_lt]
    rw [if_pos (by omega)]
theorem r_earliest_in (hW : WF S) (h : MS S μ0) (hG : HG S μ0) (K : Int32 → Mem → Option (Unit × Mem)) {k : Nat} (hk : k < nn S) (hF : Fr [15] μ0 μ) (hT : ETp S k μ) (h0 : μ 15 k = ic 0) : ∃ μ', (Fr [15] μ0 μ' ∧ ETp S (k + 1) μ') ∧ fX9_measures_L125 K fu (ic (k : Int)) (ic 0) μ = K (ic ((k + 1 : Nat) : Int)) μ' := by
  have hn := hW.n
  have key := lq_m (fun f v ν => fX9_measures_L125 K f (ic (k : Int)) v ν) (fun ν => K (ic ((k + 1 : Nat) : Int)) ν) 0 k (fun i ν => Fr [15] μ0 ν ∧ ETp S k ν ∧ ν 15 k = ic (eacc S (ets S k) k i)) (by omega) ?_ ?_ μ fu (fu_lt (by omega)) ⟨hF, hT, by rw [h0, eacc]⟩
  · obtain ⟨ν, ⟨h2, h3, h4⟩, h5⟩ := key
    refine ⟨ν, ⟨h2, fun j h6 => ?_⟩, h5⟩
    simp only [ets]
    by_cases hj : j = k
    · rw [if_pos (by omega), hj, h4]
    · rw [if_neg (by omega)]
      exact h3 j (by omega)
  · rintro f j ν hj1 hj2 ⟨h2, h3, h4⟩
    have m1 : MS S ν := h.fr h2 (by decide)
    have g1 := ((hG.of h2 (by decide) (by decide)) j k (by omega) hk).1
    have e1 : (20 * (j : Int) + k).toNat = 20 * j + k := by omega
    have e2 : (k : Int).toNat = k := by omega
    have e3 : (j : Int).toNat = j := by omega
    have t1 := h3 j (by omega)
    have b1 := eacc_rg hW (f := ets S k) (j := k) (B := 6 * k) (by omega) (fun j _ => (ets_rg hW k j).2) j (by omega)
    have b2 := ets_rg hW k j
    have b3 := nearT_rg hW j k
    by_cases hq : nearT S j k = -99
    · refine ⟨mu ν 15 k (ic (eacc S (ets S k) k j)), ⟨h2.trans (Fr_mu (by decide)), ?_, ?_⟩, ?_⟩
      · intro j' h6
        rw [mu_at, if_neg (by omega)]
        exact h3 j' h6
      · rw [mu_at, if_pos ⟨rfl, rfl⟩]
        simp only [eacc]
        rw [if_pos hq]
      · simp (disch := omega) only [fX9_measures_L125, Option.bind_some, ic_le, ic_lit, ic_mul, ic_add, ld_ic, e1, g1, ic_neg, ic_eq, e2, h4, fX9_measures_L179, ast_ic]
        rw [if_neg (by omega), if_pos (by omega)]
        rfl
    · refine ⟨mu ν 15 k (ic (max (eacc S (ets S k) k j) (ets S k j + nearT S j k))), ⟨h2.trans (Fr_mu (by decide)), ?_, ?_⟩, ?_⟩
      · intro j' h6
        rw [mu_at, if_neg (by omega)]
        exact h3 j' h6
      · rw [mu_at, if_pos ⟨rfl, rfl⟩]
        simp only [eacc]
        rw [if_neg hq]
      · simp (disch := omega) only [fX9_measures_L125, Option.bind_some, ic_le, ic_lit, ic_mul, ic_add, ld_ic, e1, g1, ic_neg, ic_eq, e2, e3, t1, h4, r_greater, bd_some, fX9_measures_L179, ast_ic]
        rw [if_neg (by omega), if_neg (by omega)]
        rfl
  · rintro f ν ⟨h2, h3⟩
    have m1 : MS S ν := h.fr h2 (by decide)
    simp (disch := omega) only [fX9_measures_L125, Option.bind_some, ic_le, ic_lit, ic_neg, ic_add]
    rw [if_pos (by omega)]
    rfl
theorem r_earliest (hW : WF S) (h : MS S μ) (hG : HG S μ) : ∃ μ', (Fr [15] μ μ' ∧ ET S μ') ∧ fX9_measures_L106 fu (ic 0) μ = some ((), μ') := by
  have hn := hW.n
  have key := lq_m fX9_measures_L106 (fun ν => some ((), ν)) 0 (nn S) (fun k ν => Fr [15] μ ν ∧ ETp S k ν) (by omega) ?_ ?_ μ fu (fu_lt (by omega)) ⟨Fr.rfl', fun j hc => by omega⟩
  · obtain ⟨ν, ⟨h2, h3⟩, h4⟩ := key
    exact ⟨ν, ⟨h2, fun j hj => h3 j hj⟩, h4⟩
  · rintro f k ν - hk ⟨h2, h3⟩
    have m1 : MS S ν := h.fr h2 (by decide)
    have e3 : (k : Int).toNat = k := by omega
    obtain ⟨ν', h6, h7⟩ := r_earliest_in hW h hG (fX9_measures_L106 f) hk (h2.trans (Fr_mu (by decide))) (μ := mu ν 15 k (ic 0)) (fun j h6 => by
      rw [mu_at, if_neg (by omega)]
      exact h3 j h6) (by rw [mu_at, if_pos ⟨rfl, rfl⟩])
    refine ⟨ν', h6, ?_⟩
    rw [← h7]
    simp (disch := omega) only [fX9_measures_L106, ms_n m1 hW, ic_lit, ic_le, bd_some, ast_ic, Option.bind_some, e3]
    rw [if_neg (by omega)]
  · rintro f ν ⟨h2, h3⟩
    have m1 : MS S ν := h.fr h2 (by decide)
    simp (disch := omega) only [fX9_measures_L106, ms_n m1 hW, Option.bind_some, ic_lit, ic_le]
    rw [if_pos (by omega)]
theorem r_measures (hW : WF S) (h : MS S μ) : ∃ μ', fX9_measures μ = some ((), μ') ∧ Fr [14, 15, 17, 18] μ μ' ∧ HG S μ' ∧ HT S μ' ∧ ET S μ' := by
  have hn := hW.n
  obtain ⟨μ1, h1, h2, h3⟩ := r_hangs hW h
  have m1 := h.fr h2 (by decide)
  obtain ⟨μ2, ⟨h4, h5⟩, h6⟩ := r_heights hW m1 h3
  obtain ⟨μ3, ⟨h7, h8⟩, h9⟩ := r_earliest hW (m1.fr h4 (by decide)) (h3.of h4 (by decide) (by decide))
  refine ⟨μ3, ?_, ((h2.mono (by decide)).trans (h4.mono (by decide))).trans (h7.mono (by decide)), (h3.of h4 (by decide) (by decide)).of h7 (by decide) (by decide), fun j hj => ?_, h8⟩
  · simp only [fX9_measures, h1, bd_some, ic_lit, ms_n m1 hW, Option.bind_some, ic_sub]
    rw [h6, h9]
  · rw [h7 14 (by decide)]
    exact h5 j hj
theorem r_span (hW : WF S) (h : MS S μ) : ∃ μ', fX9_span μ = some (ic (mx0 (hgt S) (nn S)), μ') ∧ Fr [14, 15, 17, 18] μ μ' := by
  have hn := hW.n
  obtain ⟨μ1, h1, h2, h3, h4, h5⟩ := r_measures hW h
  have m1 := h.fr h2 (by decide)
  refine ⟨μ1, ?_, h2⟩
  have key := loop_eq (fun f (s : Int32 × Int32) => fX9_span_L8 f s.1 s.2 μ1) 0 (nn S) (fun k => (ic (mx0 (hgt S) k), ic k)) (some (ic (mx0 (hgt S) (nn S)), μ1)) (by omega) ?_ ?_ fu (fu_lt (by omega))
  · simp only [fX9_span, h1, bd_some, ic_lit]
    exact key
  · intro f k _ hk
    have b1 := mx0_le (f := hgt S) (B := 120) (by omega) k fun k _ => (hgt_rg hW k).2
    have b2 := hgt_rg hW k
    have e3 : (k : Int).toNat = k := by omega
    simp (disch := omega) only [fX9_span_L8, ms_n m1 hW, Option.bind_some, ic_le, ic_lit, ld_ic, e3, h4 k hk, r_greater, bd_some, ic_add]
    rw [if_neg (by omega)]
    rfl
  · intro f
    simp (disch := omega) only [fX9_span_L8, ms_n m1 hW, Option.bind_some, ic_le, ic_lit]
    rw [if_pos (by omega)]
end RF
