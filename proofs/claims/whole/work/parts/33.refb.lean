section RF
variable {S : Nat → Int} {μ : Mem} {i j : Nat}
theorem r_isOfCells (h : MS S μ) (hW : WF S) (hi : i < nn S) : fX9_isOfCells μ (ic i) = some (b2 (isc S i), μ) := by
  have hn := hW.n
  have hk := hW.kd hi
  simp (disch := omega) only [fX9_isOfCells, ic_lit, r_its0 h, bd_some, ic_lt]
  unfold isc
  split <;> rename_i h1 <;> simp [h1, b2]
  omega
theorem r_areCells (h : MS S μ) (hW : WF S) (hi : i < nn S) (hj : j < nn S) : fX9_areCells μ (ic i) (ic j) = some (b2 (meet S i j), μ) := by
  have hn := hW.n
  have hk := hW.kd hi
  have hk2 := hW.kd hj
  simp (disch := omega) only [fX9_areCells, fX9_areCells_L38, ic_lit, r_isOfCells h hW, r_its0 h, bd_some, ic_eq, b2_0]
  unfold meet
  by_cases h1 : isc S i = false
  · simp [h1, b2]
  · by_cases h2 : isc S j = false
    · simp [h1, h2, b2]
    · by_cases h3 : kd S i = 6
      · simp [h1, h2, h3, b2]
      · by_cases h4 : kd S j = 6 <;> simp [h1, h2, h3, h4, b2]
theorem tmod12 (x : Int) : (if 0 ≤ x.tmod 12 then x.tmod 12 else x.tmod 12 + 12) = x % 12 := by
  have h1 := Int.tmod_add_tdiv_mul x 12
  by_cases hx : 0 ≤ x
  · rw [Int.tmod_eq_emod_of_nonneg hx, if_pos (by omega)]
  · have h2 : x.tmod 12 = -((-x) % 12) := by
      rw [← Int.tmod_eq_emod_of_nonneg (a := -x) (by omega), Int.neg_tmod, Int.neg_neg]
    rw [h2]
    split <;> omega
theorem tmod12r (x : Int) : -12 < x.tmod 12 ∧ x.tmod 12 < 12 := by
  by_cases hx : 0 ≤ x
  · rw [Int.tmod_eq_emod_of_nonneg hx]
    omega
  · have h2 : x.tmod 12 = -((-x) % 12) := by
      rw [← Int.tmod_eq_emod_of_nonneg (a := -x) (by omega), Int.neg_tmod, Int.neg_neg]
    omega
theorem r_cellBy {x : Int} (hx : -2147483648 ≤ x ∧ x < 2147483648) : fX9_cellBy μ (ic x) = some (ic (x % 12), μ) := by
  have h2 := tmod12r x
  simp (disch := omega) only [fX9_cellBy, ic_lit, rmd_ict, Option.bind_some, ic_le, ic_add]
  rw [← tmod12 x]
  split <;> rfl
theorem r_areApart (h : MS S μ) (hW : WF S) (hi : i < nn S) (hj : j < nn S) (hij : i ≤ j) : fX9_areApart μ (ic i) (ic j) = some (b2 (aprt S i j), μ) := by
  have hn := hW.n
  have h1 := hW.on hi
  have h2 := hW.on hj
  have h3 := hW.nb hi
  have h4 := hW.nb hj
  simp (disch := omega) only [fX9_areApart, ic_lit, r_its2 h, r_its4 h, bd_some, ic_eq, r_isWritten h hW, b2_0, r_cellBy]
  unfold aprt
  by_cases h5 : on S i = on S j
  · by_cases h6 : wrt S (on S i) i j = false
    · by_cases h7 : nb S i % 12 = nb S j % 12
      · rw [if_pos h5, if_pos h6, if_pos h7]
        simp [h7, b2]
      · rw [if_pos h5, if_pos h6, if_neg h7]
        rw [h5] at h6
        simp [h5, h6, h7, b2]
    · rw [if_pos h5, if_neg h6]
      rw [h5] at h6
      simp [h5, h6, b2]
  · simp [h5, b2]
theorem r_back (h : MS S μ) (hW : WF S) (hi : i < nn S) (hj : j < nn S) : fX9_back μ (ic i) (ic j) = some (ic (back S i j), μ) := by
  have hn := hW.n
  have h1 := wr_rg hW hi
  have h2 := wr_rg hW hj
  have h3 := la_rg hW i
  have h4 := la_rg hW j
  simp (disch := omega) only [fX9_back, fX9_back_L25, fX9_back_L52, fX9_back_L53, ic_lit, ic_neg, r_writes h hW, r_isRead h hW, bd_some, ic_eq, r_latency h hW, b2_0, r_greater, ic_sub, ic_add]
  unfold back
  dsimp only
  by_cases h5 : wr S j = -1
  · by_cases h6 : wr S i = -1 <;> simp [h5, h6]
  · by_cases h6 : bit (rd S i) (ic (wr S j)) = true
    · by_cases h7 : wr S i = wr S j
      · simp [h5, h6, h7]
      · by_cases h8 : wr S i = -1 <;> simp [h5, h6, h7, h8, show ¬(-1 = wr S j) from fun q => h5 q.symm]
    · by_cases h7 : wr S i = wr S j
      · simp [h5, h6, h7]
      · by_cases h8 : wr S i = -1 <;> simp [h5, h6, h7, h8, show ¬(-1 = wr S j) from fun q => h5 q.symm]
theorem r_apartBy (h : MS S μ) (hW : WF S) (hi : i < nn S) (hj : j < nn S) : fX9_apartBy μ (ic i) (ic j) = some (ic (nearT S i j), μ) := by
  have hn := hW.n
  have h1 := wr_rg hW hi
  have h3 := la_rg hW i
  have h4 := back_rg hW i j
  have h5 := hW.kd hi
  unfold nearT
  by_cases hij : i < j
  · have e1 : (i : Int) + 1 = ((i + 1 : Nat) : Int) := by omega
    simp (disch := omega) only [fX9_apartBy, fX9_apartBy_L55, fX9_apartBy_L89, ic_lit, ic_neg, r_back h hW, r_writes h hW, r_isRead h hW, bd_some, ic_eq, ic_lt, r_latency h hW, b2_0, r_greater, ic_add, e1, r_isWritten h hW, r_areCells h hW, r_areApart h hW, r_its0 h]
    rw [if_pos (show (i : Int) < j by omega), if_pos hij]
    unfold near hand
    dsimp only
    by_cases c1 : wr S i = -1 <;> by_cases c2 : bit (rd S j) (ic (wr S i)) = true <;> by_cases c3 : wrt S (wr S i) (i + 1) j = true <;> by_cases c4 : meet S i j = true <;> by_cases c5 : aprt S i j = true <;> by_cases c6 : kd S i = 5 <;> simp [c1, c2, c3, c4, c5, c6]
  · simp (disch := omega) only [fX9_apartBy, ic_lit, ic_neg, ic_lt]
    rw [if_neg (show ¬(i : Int) < j by omega), if_neg hij]
theorem r_carriedBy (h : MS S μ) (hW : WF S) (hi : i < nn S) (hj : j < nn S) : fX9_carriedBy μ (ic i) (ic j) = some (ic (over S i j), μ) := by
  have hn := hW.n
  have h1 := wr_rg hW hi
  have h3 := la_rg hW i
  have h4 := back_rg hW i j
  have h5 := hW.kd hi
  have e1 : (i : Int) + 1 = ((i + 1 : Nat) : Int) := by omega
  have e2 : ic (0 : Int) = ic ((0 : Nat) : Int) := rfl
  have e3 : fX9_isWritten μ (ic (wr S i)) (ic 0) (ic j) = some (b2 (wrt S (wr S i) 0 j), μ) := r_isWritten h hW h1 (a := 0) (by omega) (by omega)
  simp (disch := omega) only [fX9_carriedBy, fX9_carriedBy_L63, fX9_carriedBy_L88, ic_lit, ic_neg, r_back h hW, r_writes h hW, r_isRead h hW, bd_some, ic_eq, ic_lt, r_latency h hW, b2_0, r_greater, ic_add, e1, e3, r_isWritten h hW, r_areCells h hW, r_its0 h, ms_n h hW, Option.bind_some]
  unfold over hand
  dsimp only
  by_cases c1 : wr S i = -1 <;> by_cases c2 : bit (rd S j) (ic (wr S i)) = true <;> by_cases c3 : wrt S (wr S i) (i + 1) (nn S) = true <;> by_cases c4 : meet S i j = true <;> by_cases c5 : wrt S (wr S i) 0 j = true <;> by_cases c6 : kd S i = 5 <;> simp [c1, c2, c3, c4, c5, c6]
end RF
