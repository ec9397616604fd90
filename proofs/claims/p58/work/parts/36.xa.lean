/-! THE CLASS: a State of it that begins at the cell b -/
def XS (b : Nat) (S : Nat → Int) (μ : Mem) : Prop := μ b 0 = ic (S 0) ∧ μ b 10 = ic (S 1) ∧ (∀ u, u < 3 → μ (b + 8) u = ic (S (2 + u))) ∧ (∀ u, u < 3 → μ (b + 9) u = ic (S (5 + u))) ∧
  (∀ k, k < 24 → μ (b + 7) k = ic (S (8 + k))) ∧
  ∀ i, i < nn S → μ (b + 1) i = ic (kd S i) ∧ μ (b + 2) i = ic (tg S i) ∧ μ (b + 3) i = ic (on S i) ∧ μ (b + 4) i = ic (tw S i) ∧ μ (b + 5) i = ic (nb S i) ∧ μ (b + 6) i = ic (bu S i)
theorem XS.of {b : Nat} {S : Nat → Int} {μ μ' : Mem} (h : XS b S μ) (he : ∀ k, k < 10 → μ' (b + k) = μ (b + k)) : XS b S μ' := by
  unfold XS at *
  rw [he 8 (by omega), he 9 (by omega), he 7 (by omega), he 1 (by omega), he 2 (by omega), he 3 (by omega), he 4 (by omega), he 5 (by omega), he 6 (by omega), show μ' b = μ b from he 0 (by omega)]
  exact h
theorem XS.fr {b : Nat} {S : Nat → Int} {μ μ' : Mem} {l : List Nat} (h : XS b S μ) (hF : Fr l μ μ') (hl : ∀ k, k < 10 → b + k ∉ l) : XS b S μ' := h.of fun k hk => hF _ (hl k hk)
section XA
variable {S : Nat → Int} {μ : Mem} {i j : Nat}
theorem x_n (h : XS 1 S μ) (hW : WF S) : μ 1 0 = ic (nn S) := by
  rw [h.1, hW.nz]
theorem x_kd (h : XS 1 S μ) (hW : WF S) (hi : i < nn S) : ld 20 (μ 2) (ic i) = some (ic (kd S i)) := by
  have hn := hW.n
  rw [ld_k i rfl (by omega), (h.2.2.2.2.2 i hi).1]
theorem x_tg (h : XS 1 S μ) (hW : WF S) (hi : i < nn S) : ld 20 (μ 3) (ic i) = some (ic (tg S i)) := by
  have hn := hW.n
  rw [ld_k i rfl (by omega), (h.2.2.2.2.2 i hi).2.1]
theorem x_on (h : XS 1 S μ) (hW : WF S) (hi : i < nn S) : ld 20 (μ 4) (ic i) = some (ic (on S i)) := by
  have hn := hW.n
  rw [ld_k i rfl (by omega), (h.2.2.2.2.2 i hi).2.2.1]
theorem x_tw (h : XS 1 S μ) (hW : WF S) (hi : i < nn S) : ld 20 (μ 5) (ic i) = some (ic (tw S i)) := by
  have hn := hW.n
  rw [ld_k i rfl (by omega), (h.2.2.2.2.2 i hi).2.2.2.1]
theorem x_nb (h : XS 1 S μ) (hW : WF S) (hi : i < nn S) : ld 20 (μ 6) (ic i) = some (ic (nb S i)) := by
  have hn := hW.n
  rw [ld_k i rfl (by omega), (h.2.2.2.2.2 i hi).2.2.2.2.1]
theorem x_bu (h : XS 1 S μ) (hW : WF S) (hi : i < nn S) : ld 20 (μ 7) (ic i) = some (ic (bu S i)) := by
  have hn := hW.n
  rw [ld_k i rfl (by omega), (h.2.2.2.2.2 i hi).2.2.2.2.2]
theorem x_fi (h : XS 1 S μ) {k : Nat} (hk : k < 24) : μ 8 k = ic (S (8 + k)) := h.2.2.2.2.1 k hk
theorem x_sl (h : XS 1 S μ) {u : Nat} (hu : u < 3) : ld 3 (μ 9) (ic u) = some (ic (S (2 + u))) := by
  rw [ld_k u rfl (by omega), h.2.2.1 u hu]
theorem x_lt (h : XS 1 S μ) {u : Nat} (hu : u < 3) : ld 3 (μ 10) (ic u) = some (ic (S (5 + u))) := by
  rw [ld_k u rfl (by omega), h.2.2.2.1 u hu]
theorem x_usesCells (h : XS 1 S μ) (hW : WF S) (hi : i < nn S) : fX6_usesCells μ (ic i) = some (b2 (isc S i), μ) := by
  have hk := hW.kd hi
  simp (disch := omega) only [fX6_usesCells, fX6_usesCells_L21, ic_lit, x_kd h hW hi, Option.bind_some, ic_eq]
  unfold isc
  by_cases h1 : kd S i = 5
  · simp [h1, b2]
  · by_cases h2 : kd S i = 6
    · simp [h2, b2]
    · simp [h1, h2, b2, show ¬5 ≤ kd S i by omega]
theorem x_unitOf (h : XS 1 S μ) (hW : WF S) (hi : i < nn S) : fX6_unitOf μ (ic i) = some (ic (un S i), μ) := by
  have hk := hW.kd hi
  simp (disch := omega) only [fX6_unitOf, ic_lit, x_kd h hW hi, Option.bind_some, ic_eq, x_usesCells h hW hi, bd_some, b2_0]
  unfold un isc
  by_cases h1 : kd S i = 3
  · simp [h1]
  · by_cases h2 : 5 ≤ kd S i
    · simp [h1, h2, show ¬kd S i < 5 by omega]
    · simp [h1, h2, show kd S i < 5 by omega]
theorem x_lengthOf (h : XS 1 S μ) (hW : WF S) (hi : i < nn S) : fX6_lengthOf μ (ic i) = some (ic (la S i), μ) := by
  have hk := hW.kd hi
  simp (disch := omega) only [fX6_lengthOf, ic_lit, x_kd h hW hi, Option.bind_some, ic_eq, x_unitOf h hW hi, bd_some, x_lt h (un_lt S i)]
  unfold la
  split <;> rfl
theorem x_readsOf (h : XS 1 S μ) (hW : WF S) (hi : i < nn S) : fX6_readsOf μ (ic i) = some (rd S i, μ) := by
  have hk := hW.kd hi
  simp (disch := omega) only [fX6_readsOf, ic_lit, x_kd h hW hi, x_on h hW hi, x_tw h hW hi, Option.bind_some, ic_eq]
  unfold rd
  simp only [ic_lit]
  split
  · rfl
  · split <;> rfl
theorem x_writesOf (h : XS 1 S μ) (hW : WF S) (hi : i < nn S) : fX6_writesOf μ (ic i) = some (ic (wr S i), μ) := by
  have hk := hW.kd hi
  simp (disch := omega) only [fX6_writesOf, ic_lit, x_kd h hW hi, x_tg h hW hi, Option.bind_some, ic_eq, ic_neg]
  unfold wr
  split <;> rfl
/-- what is told of each step -/
def LKr (S : Nat → Int) (k : Nat) (μ : Mem) : Prop := μ 75 0 = ic (nn S) ∧ ∀ i, i < k → μ 76 i = rd S i ∧ μ 77 i = ic (wr S i) ∧ μ 78 i = ic (la S i)
theorem LKr.of {k : Nat} {μ' : Mem} {l : List Nat} (h : LKr S k μ) (hF : Fr l μ μ') (hl : 75 ∉ l ∧ 76 ∉ l ∧ 77 ∉ l ∧ 78 ∉ l) : LKr S k μ' := by
  unfold LKr
  rw [hF 75 hl.1, hF 76 hl.2.1, hF 77 hl.2.2.1, hF 78 hl.2.2.2]
  exact h
theorem l_rd (h : LKr S (nn S) μ) (hW : WF S) (hi : i < nn S) : ld 20 (μ 76) (ic i) = some (rd S i) := by
  have hn := hW.n
  rw [ld_k i rfl (by omega), (h.2 i hi).1]
theorem l_wr (h : LKr S (nn S) μ) (hW : WF S) (hi : i < nn S) : ld 20 (μ 77) (ic i) = some (ic (wr S i)) := by
  have hn := hW.n
  rw [ld_k i rfl (by omega), (h.2 i hi).2.1]
theorem l_la (h : LKr S (nn S) μ) (hW : WF S) (hi : i < nn S) : ld 20 (μ 78) (ic i) = some (ic (la S i)) := by
  have hn := hW.n
  rw [ld_k i rfl (by omega), (h.2 i hi).2.2]
theorem x_isWrittenFrom (h : LKr S (nn S) μ) (hW : WF S) {r : Int} (hr : -1 ≤ r ∧ r ≤ 11) {a b : Nat} (hab : a ≤ b) (hb : b ≤ nn S) : fX2_isWrittenFrom μ (ic a) (ic b) (ic r) = some (b2 (wrt S r a b), μ) := by
  have hn := hW.n
  have key := loop_up (fun f (s : Int32) => fX2_isWrittenFrom_L3 f (ic b) (ic r) s μ) a b (fun k s => s = ic (k : Int) ∧ wrt S r a k = false) (fun o => o = some (b2 (wrt S r a b), μ)) hab ?_ ?_ (ic (a : Int)) fu (fu_lt (by omega)) ⟨rfl, wrt_self S r a a (Nat.le_refl _)⟩
  · exact key
  · rintro f k s h1 hk ⟨rfl, h2⟩
    have hr2 := wr_rg hW (i := k) (by omega)
    simp (disch := omega) only [fX2_isWrittenFrom_L3, ic_le, h.1, l_wr h hW, Option.bind_some, ic_eq, ic_lit, ic_add]
    rw [if_neg (by omega), if_neg (by omega)]
    by_cases h3 : wr S k = r
    · right
      rw [if_pos h3]
      have h4 : ∀ m, k < m → m ≤ b → wrt S r a m = true := by
        intro m
        induction m with
        | zero => omega
        | succ m ih =>
          intro h5 h6
          rw [wrt]
          by_cases h7 : k < m
          · rw [ih h7 (by omega)]
            rfl
          · obtain rfl : k = m := by omega
            simp [h3, h1]
      rw [h4 b hk (Nat.le_refl _)]
      rfl
    · left
      refine ⟨ic ((k + 1 : Nat) : Int), ⟨rfl, ?_⟩, ?_⟩
      · rw [wrt, h2]
        simp [h3]
      · rw [if_neg h3]
        rfl
  · rintro f s ⟨rfl, h2⟩
    simp (disch := omega) only [fX2_isWrittenFrom_L3, ic_le]
    rw [if_pos (by omega), h2]
    rfl
theorem x_meet (h : XS 1 S μ) (hW : WF S) (hi : i < nn S) (hj : j < nn S) : fX2_meetInCells μ (ic i) (ic j) = some (b2 (meet S i j), μ) := by
  have hk := hW.kd hi
  have hk2 := hW.kd hj
  simp (disch := omega) only [fX2_meetInCells, fX2_meetInCells_L38, ic_lit, x_usesCells h hW, x_kd h hW, bd_some, Option.bind_some, ic_eq, b2_0]
  unfold meet
  by_cases h1 : isc S i = false
  · simp [h1, b2]
  · by_cases h2 : isc S j = false
    · simp [h1, h2, b2]
    · by_cases h3 : kd S i = 6
      · simp [h1, h2, h3, b2]
      · by_cases h4 : kd S j = 6 <;> simp [h1, h2, h3, h4, b2]
theorem floorMod12 {x : Int} (hx : -99 ≤ x ∧ x ≤ 99) : fJ9_floorMod_7cf53 μ (ic x) (ic 12) = some (ic (x % 12), μ) := by
  have h2 := tmod12r x
  have h3 := tmod12 x
  have hxx : (ic 0 ≤ ic x ^^^ ic 12) = (0 ≤ x) := by
    have key : ∀ k : Fin 199, (ic 0 ≤ ic ((k.1 : Int) - 99) ^^^ ic 12 ↔ 0 ≤ (k.1 : Int) - 99) := by decide +kernel
    have := key ⟨(x + 99).toNat, by omega⟩
    rw [show (((⟨(x + 99).toNat, by omega⟩ : Fin 199).1 : Nat) : Int) - 99 = x by dsimp only; omega] at this
    exact propext this
  simp (disch := omega) only [fJ9_floorMod_7cf53, hxx, rmd_ict, Option.bind_some, ic_lit, ic_eq, ic_add]
  by_cases h4 : 0 ≤ x
  · rw [if_pos h4, Int.tmod_eq_emod_of_nonneg h4]
  · rw [if_neg h4]
    by_cases h5 : x.tmod 12 = 0
    · rw [if_pos h5, ← h3, if_pos (by omega)]
    · rw [if_neg h5, ← h3]
      have h6 : x.tmod 12 ≤ 0 := by
        have := Int.neg_tmod (-x) 12
        rw [Int.neg_neg, Int.tmod_eq_emod_of_nonneg (a := -x) (by omega)] at this
        omega
      rw [if_neg (by omega)]
theorem x_areApart (h : XS 1 S μ) (hL : LKr S (nn S) μ) (hW : WF S) (hi : i < nn S) (hj : j < nn S) (hij : i ≤ j) : fX2_areApart μ (ic i) (ic j) = some (b2 (aprt S i j), μ) := by
  have h1 := hW.on hi
  have h2 := hW.on hj
  have h3 := hW.nb hi
  have h4 := hW.nb hj
  simp (disch := omega) only [fX2_areApart, ic_lit, x_on h hW, x_nb h hW, bd_some, Option.bind_some, ic_eq, x_isWrittenFrom hL hW, b2_0, floorMod12]
  unfold aprt
  by_cases h5 : on S i = on S j
  · by_cases h6 : wrt S (on S i) i j = false
    · by_cases h7 : nb S i % 12 = nb S j % 12
      · rw [if_pos h5, if_pos h6, if_pos h7]
        simp [h7, b2]
      · rw [if_pos h5, if_pos h6, if_neg h7]
        rw [h5] at h6
        simp [h5, h6, h7, b2]
    · rw [if_pos h5, if_neg h6]
      rw [h5] at h6
      simp [h5, h6, b2]
  · simp [h5, b2]
theorem x_writtenAgain (hL : LKr S (nn S) μ) (hW : WF S) (hi : i < nn S) (hj : j < nn S) : fX2_writtenAgain μ (ic i) (ic j) = some (ic (back S i j), μ) := by
  have h1 := wr_rg hW hi
  have h2 := wr_rg hW hj
  have h3 := la_rg hW i
  have h4 := la_rg hW j
  simp (disch := omega) only [fX2_writtenAgain, fX2_writtenAgain_L43, ic_lit, ic_neg, l_wr hL hW, l_rd hL hW, l_la hL hW, Option.bind_some, ic_eq, ic_sub, ic_add, jmax_ic]
  unfold back bit
  simp only [ic_lit, decide_eq_true_eq]
  split
  · rfl
  · split <;> split <;> rfl
theorem x_handsOver (hL : LKr S (nn S) μ) (hW : WF S) (hi : i < nn S) (hj : j < nn S) : fX2_handsOver μ (ic i) (ic j) = some (b2 (hand S i j), μ) := by
  have h1 := wr_rg hW hi
  simp (disch := omega) only [fX2_handsOver, ic_lit, ic_neg, l_wr hL hW, l_rd hL hW, Option.bind_some, ic_eq]
  unfold hand bit
  simp only [ic_lit]
  by_cases h1 : wr S i = -1
  · simp [h1, b2]
  · rw [if_neg h1]
    split <;> rename_i h2 <;> simp [h1, h2, b2]
theorem x_nearPair (h : XS 1 S μ) (hL : LKr S (nn S) μ) (hW : WF S) (hi : i < nn S) (hj : j < nn S) (hij : i < j) : fX2_nearPair μ (ic i) (ic j) = some (ic (near S i j), μ) := by
  have hn := hW.n
  have h1 := wr_rg hW hi
  have h3 := la_rg hW i
  have h4 := back_rg hW i j
  have h5 := hW.kd hi
  have e1 : (i : Int) + 1 = ((i + 1 : Nat) : Int) := by omega
  simp (disch := omega) only [fX2_nearPair, fX2_nearPair_L47, fX2_nearPair_L83, ic_lit, ic_neg, x_writtenAgain hL hW, x_handsOver hL hW, l_wr hL hW, l_la hL hW, Option.bind_some, bd_some, ic_eq, b2_0, jmax_ic, ic_add, e1, x_isWrittenFrom hL hW, x_meet h hW, x_areApart h hL hW, x_kd h hW]
  unfold near
  dsimp only
  by_cases c1 : hand S i j = true <;> by_cases c3 : wrt S (wr S i) (i + 1) j = true <;> by_cases c4 : meet S i j = true <;> by_cases c5 : aprt S i j = true <;> by_cases c6 : kd S i = 5 <;> simp [c1, c3, c4, c5, c6]
theorem x_overPair (h : XS 1 S μ) (hL : LKr S (nn S) μ) (hW : WF S) (hi : i < nn S) (hj : j < nn S) : fX2_overPair μ (ic i) (ic j) = some (ic (over S i j), μ) := by
  have hn := hW.n
  have h1 := wr_rg hW hi
  have h3 := la_rg hW i
  have h4 := back_rg hW i j
  have h5 := hW.kd hi
  have e1 : (i : Int) + 1 = ((i + 1 : Nat) : Int) := by omega
  have e3 : fX2_isWrittenFrom μ (ic 0) (ic j) (ic (wr S i)) = some (b2 (wrt S (wr S i) 0 j), μ) := x_isWrittenFrom hL hW h1 (a := 0) (by omega) (by omega)
  simp (disch := omega) only [fX2_overPair, fX2_overPair_L65, fX2_overPair_L91, ic_lit, ic_neg, x_writtenAgain hL hW, x_handsOver hL hW, l_wr hL hW, l_la hL hW, hL.1, Option.bind_some, bd_some, ic_eq, b2_0, jmax_ic, ic_add, e1, e3, x_isWrittenFrom hL hW, x_meet h hW, x_kd h hW]
  unfold over
  dsimp only
  by_cases c1 : hand S i j = true <;> by_cases c3 : wrt S (wr S i) (i + 1) (nn S) = true <;> by_cases c4 : meet S i j = true <;> by_cases c5 : wrt S (wr S i) 0 j = true <;> by_cases c6 : kd S i = 5 <;> simp [c1, c3, c4, c5, c6]
end XA

