/-- the class's own way to the lowest bundle that is too full -/
def crw (S : Nat → Int) (k : Nat) : Bool := decide (bu S k ≠ -1) && decide (S (2 + un S k) < cin S (bu S) (bu S k) (un S k) (nn S))
def lcw (S : Nat → Int) : Nat → Int
  | 0 => -1
  | k + 1 => if bu S k ≠ -1 ∧ (lcw S k = -1 ∨ bu S k < lcw S k) ∧ S (2 + un S k) < cin S (bu S) (bu S k) (un S k) (nn S) then bu S k else lcw S k
section XC
variable {S : Nat → Int} {μ μ0 : Mem} {i j : Nat} {p : Nat → Int}
theorem lcw_sp : ∀ {n : Nat}, (∀ k, k < n → -1 ≤ bu S k) → (lcw S n = -1 ∧ ∀ k, k < n → crw S k = false) ∨ (∃ k, k < n ∧ crw S k = true ∧ lcw S n = bu S k ∧ ∀ i, i < n → crw S i = true → bu S k ≤ bu S i)
  | 0, _ => Or.inl ⟨rfl, fun k hk => by omega⟩
  | n + 1, hb => by
    have hbn := hb n (by omega)
    rcases lcw_sp (n := n) (fun k hk => hb k (by omega)) with ⟨h1, h2⟩ | ⟨k, h1, h2, h3, h4⟩
    · by_cases hc : crw S n = true
      · have hc' := hc
        simp only [crw, Bool.and_eq_true, decide_eq_true_eq] at hc'
        right
        refine ⟨n, by omega, hc, ?_, ?_⟩
        · simp only [lcw]
          rw [if_pos ⟨hc'.1, Or.inl h1, hc'.2⟩]
        · intro i hi hci
          by_cases hin : i = n
          · rw [hin]
            omega
          · rw [h2 i (by omega)] at hci
            cases hci
      · left
        refine ⟨?_, ?_⟩
        · simp only [lcw]
          rw [if_neg, h1]
          rintro ⟨q1, _, q3⟩
          exact hc (by simp [crw, q1, q3])
        · intro i hi
          by_cases hin : i = n
          · rw [hin]
            simpa using hc
          · exact h2 i (by omega)
    · have h2' := h2
      simp only [crw, Bool.and_eq_true, decide_eq_true_eq] at h2'
      have hbk := hb k (by omega)
      right
      by_cases hc : crw S n = true
      · have hc' := hc
        simp only [crw, Bool.and_eq_true, decide_eq_true_eq] at hc'
        by_cases hlt : bu S n < bu S k
        · refine ⟨n, by omega, hc, ?_, ?_⟩
          · simp only [lcw]
            rw [if_pos ⟨hc'.1, Or.inr (by omega), hc'.2⟩]
          · intro i hi hci
            by_cases hin : i = n
            · rw [hin]
              omega
            · have := h4 i (by omega) hci
              omega
        · refine ⟨k, by omega, h2, ?_, ?_⟩
          · simp only [lcw]
            rw [if_neg, h3]
            rintro ⟨_, q2, _⟩
            rcases q2 with q2 | q2
            · exact h2'.1 (by omega)
            · omega
          · intro i hi hci
            by_cases hin : i = n
            · rw [hin]
              omega
            · exact h4 i (by omega) hci
      · refine ⟨k, by omega, h2, ?_, ?_⟩
        · simp only [lcw]
          rw [if_neg, h3]
          rintro ⟨q1, _, q3⟩
          exact hc (by simp [crw, q1, q3])
        · intro i hi hci
          by_cases hin : i = n
          · rw [hin] at hci
            exact absurd hci hc
          · exact h4 i (by omega) hci
theorem full_iff (hW : WF S) (b : Nat) : full S b = true ↔ ∃ k, k < nn S ∧ bu S k = b ∧ crw S k = true := by
  have e : full S b = true ↔ ∃ u, u < 3 ∧ S (2 + u) < cin S (bu S) b u (nn S) := by
    simp only [full, fullU, Bool.or_eq_true, decide_eq_true_eq, Bool.false_eq_true, false_or]
    constructor
    · rintro ((h | h) | h)
      · exact ⟨0, by omega, h⟩
      · exact ⟨1, by omega, h⟩
      · exact ⟨2, by omega, h⟩
    · rintro ⟨u, hu, h⟩
      obtain rfl | rfl | rfl : u = 0 ∨ u = 1 ∨ u = 2 := by omega
      · exact Or.inl (Or.inl h)
      · exact Or.inl (Or.inr h)
      · exact Or.inr h
  rw [e]
  constructor
  · rintro ⟨u, hu, h⟩
    have := hW.sl u hu
    obtain ⟨k, h1, h2, h3⟩ := cin_pos (S := S) (p := bu S) (b := b) (u := u) (n := nn S) (by omega)
    refine ⟨k, h1, h2, ?_⟩
    simp only [crw, Bool.and_eq_true, decide_eq_true_eq]
    rw [h2, h3]
    exact ⟨by omega, h⟩
  · rintro ⟨k, h1, h2, h3⟩
    simp only [crw, Bool.and_eq_true, decide_eq_true_eq] at h3
    rw [h2] at h3
    exact ⟨un S k, un_lt S k, h3.2⟩
theorem lcw_eq (hW : WF S) : lcw S (nn S) = wB S := by
  have hb := fun k hk => (hW.bu (i := k) hk).1
  rcases lcw_sp (n := nn S) hb with ⟨h1, h2⟩ | ⟨k, h1, h2, h3, h4⟩
  · rw [h1]
    unfold wB
    rw [fnd_no]
    intro b hbl
    cases hf : full S b
    · rfl
    · obtain ⟨k, h5, _, h7⟩ := (full_iff hW b).mp hf
      rw [h2 k h5] at h7
      cases h7
  · have h2' := h2
    simp only [crw, Bool.and_eq_true, decide_eq_true_eq] at h2'
    have hbk := hb k h1
    have e : bu S k = ((bu S k).toNat : Nat) := by omega
    have hm := mxm_ge (p := bu S) h1
    rw [h3, e]
    unfold wB
    refine (fnd_yes ?_ ?_ (by omega)).symm
    · intro b hbl
      cases hf : full S b
      · rfl
      · obtain ⟨i, h5, h6, h7⟩ := (full_iff hW b).mp hf
        have := h4 i h5 h7
        omega
    · exact (full_iff hW _).mpr ⟨k, h1, by omega, h2⟩
theorem x_setLaidIn (h : XS 1 S μ) (hW : WF S) {b : Int} (hb : 0 ≤ b ∧ b ≤ 199) : fX6_setLaidIn μ (ic b) = some (setS S b (nn S), μ) := by
  have hn := hW.n
  have key := loop_eq (fun f (s : Int32 × Int32) => fX6_setLaidIn_L4 f (ic b) s.1 s.2 μ) 0 (nn S) (fun k => (setS S b k, ic k)) (some (setS S b (nn S), μ)) (by omega) ?_ ?_ fu (fu_lt (by omega))
  · simp only [fX6_setLaidIn, ic_lit]
    exact key
  · intro f k _ hk
    have h3 := hW.bu hk
    simp (disch := omega) only [fX6_setLaidIn_L4, x_n h hW, Option.bind_some, ic_le, x_bu h hW hk, bd_some, ic_eq, fX6_setLaidIn_L28, ic_lit, ic_add]
    rw [if_neg (by omega)]
    simp only [setS]
    by_cases h5 : bu S k = b
    · simp [h5]
    · simp [h5]
  · intro f
    simp (disch := omega) only [fX6_setLaidIn_L4, x_n h hW, ic_le]
    rw [if_pos (by omega)]
theorem x_countLaid (h : XS 1 S μ) (hW : WF S) : fX6_countLaid μ = some (ic (laidS S (nn S)), μ) := by
  have hn := hW.n
  have key := loop_eq (fun f (s : Int32 × Int32) => fX6_countLaid_L4 f s.1 s.2 μ) 0 (nn S) (fun k => (ic (laidS S k), ic k)) (some (ic (laidS S (nn S)), μ)) (by omega) ?_ ?_ fu (fu_lt (by omega))
  · simp only [fX6_countLaid, ic_lit]
    exact key
  · intro f k _ hk
    have h3 := hW.bu hk
    simp (disch := omega) only [fX6_countLaid_L4, x_n h hW, Option.bind_some, ic_le, x_bu h hW hk, bd_some, ic_eq, fX6_countLaid_L25, ic_lit, ic_neg, ic_add]
    rw [if_neg (by omega)]
    simp only [laidS]
    by_cases h5 : bu S k = -1
    · simp [h5]
    · simp [h5]
  · intro f
    simp (disch := omega) only [fX6_countLaid_L4, x_n h hW, ic_le]
    rw [if_pos (by omega)]
theorem x_lowestNotLaid (h : XS 1 S μ) (hW : WF S) : fX6_lowestNotLaid μ = some (ic (wA S), μ) := by
  have hn := hW.n
  have key := loop_up (fun f s => fX6_lowestNotLaid_L2 f s μ) 0 (nn S) (fun k s => s = ic (k : Int) ∧ ∀ i, i < k → decide (bu S i = -1) = false) (fun o => o = some (ic (wA S), μ)) (by omega) ?_ ?_ (ic 0) fu (fu_lt (by omega)) ⟨rfl, fun i hi => by omega⟩
  · rw [fX6_lowestNotLaid]
    exact key
  · rintro f k s - hk ⟨rfl, h3⟩
    have b1 := hW.bu hk
    simp (disch := omega) only [fX6_lowestNotLaid_L2, x_n h hW, Option.bind_some, ic_le, ic_lit, x_bu h hW hk, ic_neg, ic_eq, ic_add]
    rw [if_neg (by omega)]
    by_cases q : bu S k = -1
    · right
      have hc : wA S = k := fnd_yes (P := fun k => decide (bu S k = -1)) h3 (by simpa using q) hk
      rw [if_pos q, hc]
    · left
      refine ⟨ic ((k + 1 : Nat) : Int), ⟨rfl, fun i hi => ?_⟩, ?_⟩
      · by_cases hik : i = k
        · rw [hik]
          simpa using q
        · exact h3 i (by omega)
      · rw [if_neg q]
        rfl
  · rintro f s ⟨rfl, h3⟩
    have hc : wA S = -1 := fnd_no (P := fun k => decide (bu S k = -1)) h3
    simp (disch := omega) only [fX6_lowestNotLaid_L2, x_n h hW, ic_le, ic_lit, ic_neg]
    rw [if_pos (by omega), hc]
theorem x_countBeside (h : XS 1 S μ) (hW : WF S) (hi : i < nn S) : fX6_countBeside μ (ic i) = some (ic (cin S (bu S) (bu S i) (un S i) (nn S)), μ) := by
  have hn := hW.n
  have key := loop_eq (fun f (s : Int32 × Int32) => fX6_countBeside_L4 f (ic i) s.1 s.2 μ) 0 (nn S) (fun k => (ic (cin S (bu S) (bu S i) (un S i) k), ic k)) (some (ic (cin S (bu S) (bu S i) (un S i) (nn S)), μ)) (by omega) ?_ ?_ fu (fu_lt (by omega))
  · simp only [fX6_countBeside, ic_lit]
    exact key
  · intro f k _ hk
    have h2 := un_lt S k
    have h2' := un_lt S i
    have h3 := hW.bu hk
    have h4 := hW.bu hi
    simp (disch := omega) only [fX6_countBeside_L4, x_n h hW, Option.bind_some, ic_le, x_bu h hW hk, x_bu h hW hi, ic_eq, x_unitOf h hW hk, x_unitOf h hW hi, bd_some, fX6_countBeside_L43, ic_lit, ic_add]
    rw [if_neg (by omega)]
    simp only [cin]
    by_cases h4 : bu S k = bu S i
    · by_cases h5 : un S k = un S i
      · simp [h4, h5]
      · simp [h4, h5, show ¬((un S k : Int) = (un S i : Int)) by omega]
    · simp [h4]
  · intro f
    simp (disch := omega) only [fX6_countBeside_L4, x_n h hW, ic_le]
    rw [if_pos (by omega)]
theorem lcw_rg (hW : WF S) : ∀ n : Nat, n ≤ nn S → -1 ≤ lcw S n ∧ lcw S n ≤ 199
  | 0, _ => by simp only [lcw]; omega
  | n + 1, h => by
    have h1 := lcw_rg hW n (by omega)
    have h2 := hW.bu (i := n) (by omega)
    simp only [lcw]
    split <;> omega
theorem x_lowestCrowded (h : XS 1 S μ) (hW : WF S) : fX6_lowestCrowded μ = some (ic (wB S), μ) := by
  have hn := hW.n
  have key := loop_eq (fun f (s : Int32 × Int32) => fX6_lowestCrowded_L4 f s.1 s.2 μ) 0 (nn S) (fun k => (ic (lcw S k), ic k)) (some (ic (lcw S (nn S)), μ)) (by omega) ?_ ?_ fu (fu_lt (by omega))
  · simp only [fX6_lowestCrowded, ic_lit, ic_neg]
    rw [← lcw_eq hW]
    exact key
  · intro f k _ hk
    have h2 := un_lt S k
    have h3 := hW.bu hk
    have h4 := lcw_rg hW k (by omega)
    have h5 := hW.sl (un S k) h2
    have h6 := cin_rg S (bu S) (bu S k) (un S k) (nn S)
    simp (disch := omega) only [fX6_lowestCrowded_L4, x_n h hW, Option.bind_some, ic_le, x_bu h hW hk, ic_eq, ic_lit, ic_neg, fX6_lowestCrowded_L54, fX6_lowestCrowded_L34, x_countBeside h hW hk, bd_some, x_unitOf h hW hk, x_sl h h2, ic_add]
    rw [if_neg (by omega)]
    simp only [lcw]
    by_cases q1 : bu S k = -1
    · simp [q1]
    · by_cases q2 : S (2 + un S k) < cin S (bu S) (bu S k) (un S k) (nn S)
      · have q3 : ¬ cin S (bu S) (bu S k) (un S k) (nn S) ≤ S (2 + un S k) := by omega
        by_cases q4 : lcw S k = -1
        · simp [q1, q2, q3, q4]
        · by_cases q5 : bu S k < lcw S k
          · simp [q1, q2, q3, q4, q5, show ¬ lcw S k ≤ bu S k by omega]
          · simp [q1, q2, q3, q4, q5, show lcw S k ≤ bu S k by omega]
      · have q3 : cin S (bu S) (bu S k) (un S k) (nn S) ≤ S (2 + un S k) := by omega
        simp [q1, q2, q3]
  · intro f
    simp (disch := omega) only [fX6_lowestCrowded_L4, x_n h hW, ic_le]
    rw [if_pos (by omega)]
theorem x_unitBeat_in (h : XS 1 S μ) (hW : WF S) (K : Int32 → Int32 → Mem → Option (Int32 × Mem)) {u : Nat} (hu : u < 3) : fX6_unitBeat_L22 K fu (ic (ub S u)) (ic u) (ic (cun S u 0)) (ic 0) μ = K (ic (ub S (u + 1))) (ic ((u + 1 : Nat) : Int)) μ := by
  have hn := hW.n
  have h2 := cun_rg S u (nn S)
  have h3 := hW.sl u hu
  have h4 := ub_rg hW u (by omega)
  have h5 := div_rg (a := cun S u (nn S) + S (2 + u) - 1) (b := S (2 + u)) (by omega) (by omega)
  have e : max 1 (S (2 + u)) = S (2 + u) := by omega
  have key := loop_eq (fun f (s : Int32 × Int32) => fX6_unitBeat_L22 K f (ic (ub S u)) (ic u) s.1 s.2 μ) 0 (nn S) (fun k => (ic (cun S u k), ic k)) (K (ic (ub S (u + 1))) (ic ((u + 1 : Nat) : Int)) μ) (by omega) ?_ ?_ fu (fu_lt (by omega))
  · exact key
  · intro f k _ hk
    have h2 := un_lt S k
    simp (disch := omega) only [fX6_unitBeat_L22, x_n h hW, Option.bind_some, ic_le, x_unitOf h hW hk, bd_some, ic_eq, fX6_unitBeat_L47, ic_lit, ic_add]
    rw [if_neg (by omega)]
    simp only [cun]
    by_cases h5 : un S k = u
    · simp [h5]
    · simp [h5, show ¬((un S k : Int) = (u : Int)) by omega]
  · intro f
    simp (disch := omega) only [fX6_unitBeat_L22, x_n h hW, ic_le, x_sl h hu, Option.bind_some, ic_lit, jmax_ic, e, ic_add, ic_sub, dv_ic]
    rw [if_pos (by omega)]
    rfl
theorem x_unitBeat (h : XS 1 S μ) (hW : WF S) : fX6_unitBeat μ = some (ic (ub S 3), μ) := by
  have key := loop_eq (fun f (s : Int32 × Int32) => fX6_unitBeat_L4 f s.1 s.2 μ) 0 3 (fun k => (ic (ub S k), ic k)) (some (ic (ub S 3), μ)) (by omega) ?_ ?_ fu (fu_lt (by omega))
  · simp only [fX6_unitBeat, ic_lit]
    exact key
  · intro f k _ hk
    have hin := x_unitBeat_in h hW (fX6_unitBeat_L4 f) hk
    simp (disch := omega) only [fX6_unitBeat_L4, ic_le, ic_lit, ic_eq, fX6_unitBeat_L18]
    rw [if_neg (by omega)]
    simp only [cun] at hin
    by_cases q : k = 0
    · rw [if_pos (by omega)]
      rw [if_pos q] at hin
      exact hin
    · rw [if_neg (by omega)]
      rw [if_neg q] at hin
      exact hin
  · intro f
    simp (disch := omega) only [fX6_unitBeat_L4, ic_le, ic_lit]
    rw [if_pos (by omega)]
theorem x_spanOf (hW : WF S) {a : Nat} (ha : ∀ k, k < nn S → μ a k = ic (p k)) (hp : ∀ k, k < nn S → -1 ≤ p k ∧ p k ≤ 10000) : fX8_spanOf μ a (ic (nn S)) = some (ic (mxm p (nn S) + 1), μ) := by
  have hn := hW.n
  have key := loop_eq (fun f (s : Int32 × Int32) => fX8_spanOf_L4 a f (ic (nn S)) s.1 s.2 μ) 0 (nn S) (fun k => (ic (mxm p k), ic k)) (some (ic (mxm p (nn S) + 1), μ)) (by omega) ?_ ?_ fu (fu_lt (by omega))
  · simp only [fX8_spanOf, ic_lit, ic_neg]
    exact key
  · intro f k _ hk
    have h3 := hp k hk
    have h4 := mxm_rg (p := p) (B := 10000) (by omega) k fun k' hk' => (hp k' (by omega)).2
    have e3 : (k : Int).toNat = k := by omega
    simp (disch := omega) only [fX8_spanOf_L4, ic_le, ic_lit, ld_ic, e3, ha k hk, Option.bind_some, jmax_ic, ic_add]
    rw [if_neg (by omega), if_neg (by omega)]
    rfl
  · intro f
    simp (disch := omega) only [fX8_spanOf_L4, fX8_spanOf_L29, ic_le, ic_lit, ic_add]
    rw [if_pos (by omega)]
theorem x_tooEarly_in (h : XS 1 S μ) (hG : LG S μ) (hW : WF S) (K : Int32 → Mem → Option (Int32 × Mem)) (hj : j < nn S) : fX2_lowestTooEarly_L12 K fu (ic j) (ic 0) μ = if early S j j = true then some (ic j, μ) else K (ic ((j + 1 : Nat) : Int)) μ := by
  have hn := hW.n
  have key := loop_up (fun f s => fX2_lowestTooEarly_L12 K f (ic j) s μ) 0 j (fun k s => s = ic (k : Int) ∧ early S j k = false) (fun o => o = if early S j j = true then some (ic j, μ) else K (ic ((j + 1 : Nat) : Int)) μ) (by omega) ?_ ?_ (ic 0) fu (fu_lt (by omega)) ⟨rfl, rfl⟩
  · exact key
  · rintro f k s - hk ⟨rfl, h3⟩
    have k1 : k < nn S := by omega
    have b1 := hW.bu k1
    have b2' := hW.bu hj
    have b3 := nearT_rg hW k j
    simp (disch := omega) only [fX2_lowestTooEarly_L12, fX2_lowestTooEarly_L52, ic_le, x_nearOf hG hW k1 hj, bd_some, ic_lit, ic_neg, ic_eq, x_bu h hW hj, x_bu h hW k1, Option.bind_some, ic_sub, ic_add]
    rw [if_neg (by omega)]
    by_cases q1 : nearT S k j = -99
    · left
      refine ⟨ic ((k + 1 : Nat) : Int), ⟨rfl, ?_⟩, ?_⟩
      · simp [early, h3, q1]
      · rw [if_pos q1]
        rfl
    · rw [if_neg q1]
      by_cases q2 : nearT S k j ≤ bu S j - bu S k
      · left
        refine ⟨ic ((k + 1 : Nat) : Int), ⟨rfl, ?_⟩, ?_⟩
        · simp [early, h3, show ¬ bu S j - bu S k < nearT S k j by omega]
        · rw [if_pos q2]
          rfl
      · right
        rw [if_neg q2, if_pos]
        have h4 : ∀ m, k < m → m ≤ j → early S j m = true := by
          intro m
          induction m with
          | zero => omega
          | succ m ih =>
            intro h5 h6
            rw [early]
            by_cases h7 : k < m
            · rw [ih h7 (by omega)]
              rfl
            · obtain rfl : k = m := by omega
              simp [q1, show bu S j - bu S k < nearT S k j by omega]
        exact h4 j hk (Nat.le_refl _)
  · rintro f s ⟨rfl, h3⟩
    simp (disch := omega) only [fX2_lowestTooEarly_L12, ic_le, ic_lit, ic_add]
    rw [if_pos (by omega), h3, if_neg (by decide)]
    rfl
theorem x_lowestTooEarly (h : XS 1 S μ) (hG : LG S μ) (hW : WF S) : fX2_lowestTooEarly μ = some (ic (wC S), μ) := by
  have hn := hW.n
  have key := loop_up (fun f s => fX2_lowestTooEarly_L2 f s μ) 0 (nn S) (fun k s => s = ic (k : Int) ∧ ∀ i, i < k → early S i i = false) (fun o => o = some (ic (wC S), μ)) (by omega) ?_ ?_ (ic 0) fu (fu_lt (by omega)) ⟨rfl, fun i hi => by omega⟩
  · rw [fX2_lowestTooEarly]
    exact key
  · rintro f k s - hk ⟨rfl, h3⟩
    have hin := x_tooEarly_in h hG hW (fX2_lowestTooEarly_L2 f) hk
    simp (disch := omega) only [fX2_lowestTooEarly_L2, hG.1, ic_le, ic_lit]
    rw [if_neg (by omega), hin]
    by_cases q : early S k k = true
    · right
      have hc : wC S = k := fnd_yes (P := fun j => early S j j) h3 q hk
      rw [if_pos q, hc]
    · left
      refine ⟨ic ((k + 1 : Nat) : Int), ⟨rfl, fun i hi => ?_⟩, ?_⟩
      · by_cases hik : i = k
        · rw [hik]
          simpa using q
        · exact h3 i (by omega)
      · rw [if_neg q]
  · rintro f s ⟨rfl, h3⟩
    have hc : wC S = -1 := fnd_no (P := fun j => early S j j) h3
    simp (disch := omega) only [fX2_lowestTooEarly_L2, hG.1, ic_le, ic_lit, ic_neg]
    rw [if_pos (by omega), hc]
end XC

