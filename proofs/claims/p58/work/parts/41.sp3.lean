/-! packing -/
def updI (p : Nat → Int) (s : Nat) (v : Int) : Nat → Int := fun k => if k = s then v else p k
def rdy (S : Nat → Int) (p : Nat → Int) (b : Int) (s : Nat) : Nat → Bool
  | 0 => true
  | i + 1 => rdy S p b s i && (decide (nearT S i s = -99) || (decide (p i ≠ -1) && decide (p i + nearT S i s ≤ b)))
def can (S : Nat → Int) (p : Nat → Int) (b : Int) (s : Nat) : Bool := decide (p s = -1) && (decide (cin S p b (un S s) (nn S) < S (2 + un S s)) && rdy S p b s s)
def bst (S : Nat → Int) (p : Nat → Int) (b : Int) : Nat → Int
  | 0 => -1
  | k + 1 => if can S p b k = true ∧ (bst S p b k = -1 ∨ hgt S (bst S p b k).toNat < hgt S k) then (k : Int) else bst S p b k
def fil (S : Nat → Int) (b : Int) : Nat → (Nat → Int) → Nat → Int
  | 0, p => p
  | f + 1, p => if bst S p b (nn S) = -1 then p else fil S b f (updI p (bst S p b (nn S)).toNat b)
def pk (S : Nat → Int) : Nat → Nat → Int
  | 0 => fun _ => -1
  | b + 1 => fil S b (nn S) (pk S b)
def ulc (p : Nat → Int) : Nat → Nat
  | 0 => 0
  | k + 1 => ulc p k + (if p k = -1 then 1 else 0)
section PK
variable {S : Nat → Int} {p : Nat → Int} {b : Int}
theorem bst_rg (n : Nat) : -1 ≤ bst S p b n ∧ bst S p b n < n := by
  induction n with
  | zero => simp only [bst]; omega
  | succ n ih =>
    simp only [bst]
    split <;> omega
theorem bst_can (n : Nat) : bst S p b n ≠ -1 → can S p b (bst S p b n).toNat = true := by
  induction n with
  | zero => intro h; exact absurd rfl h
  | succ n ih =>
    intro h
    simp only [bst] at h ⊢
    by_cases hc : can S p b n = true ∧ (bst S p b n = -1 ∨ hgt S (bst S p b n).toNat < hgt S n)
    · rw [if_pos hc]
      simpa using hc.1
    · rw [if_neg hc] at h ⊢
      exact ih h
theorem bst_no : ∀ {n : Nat}, bst S p b n = -1 → ∀ k, k < n → can S p b k = false
  | 0, _, k, hk => by omega
  | n + 1, h, k, hk => by
    have hr := bst_rg (S := S) (p := p) (b := b) n
    simp only [bst] at h
    by_cases hc : can S p b n = true ∧ (bst S p b n = -1 ∨ hgt S (bst S p b n).toNat < hgt S n)
    · rw [if_pos hc] at h
      omega
    · rw [if_neg hc] at h
      by_cases hkn : k = n
      · subst hkn
        cases hq : can S p b k
        · rfl
        · exact absurd ⟨hq, Or.inl h⟩ hc
      · exact bst_no h k (by omega)
theorem can_no {k : Nat} (h : can S p b k = true) : p k = -1 := by
  simp only [can, Bool.and_eq_true, decide_eq_true_eq] at h
  exact h.1
theorem ulc_le (p : Nat → Int) : ∀ n, ulc p n ≤ n
  | 0 => Nat.le_refl _
  | n + 1 => by
    have := ulc_le p n
    simp only [ulc]
    split <;> omega
theorem ulc_zero {p : Nat → Int} : ∀ {n : Nat}, ulc p n = 0 → ∀ k, k < n → p k ≠ -1
  | 0, _, k, hk => by omega
  | n + 1, h, k, hk => by
    simp only [ulc] at h
    split at h
    · omega
    · by_cases hkn : k = n
      · subst hkn
        assumption
      · exact ulc_zero (n := n) (by omega) k (by omega)
theorem ulc_congr {p q : Nat → Int} : ∀ {n : Nat}, (∀ k, k < n → p k = q k) → ulc p n = ulc q n
  | 0, _ => rfl
  | n + 1, h => by
    simp only [ulc]
    rw [ulc_congr fun k hk => h k (by omega), h n (by omega)]
theorem ulc_upd {p : Nat → Int} {s : Nat} {v : Int} (hs : p s = -1) (hv : v ≠ -1) : ∀ {n : Nat}, s < n → ulc (updI p s v) n + 1 = ulc p n
  | 0, h => by omega
  | n + 1, h => by
    simp only [ulc]
    by_cases hsn : s = n
    · subst hsn
      rw [ulc_congr (p := updI p s v) (q := p) fun k hk => by unfold updI; rw [if_neg (by omega)]]
      unfold updI
      rw [if_pos rfl, if_neg hv, if_pos hs]
    · have := ulc_upd (p := p) (v := v) hs hv (n := n) (by omega)
      have e : updI p s v n = p n := by
        unfold updI
        rw [if_neg (by omega)]
      rw [e]
      omega
theorem fil_sp (hb : 0 ≤ b) : ∀ (f : Nat) (p : Nat → Int), (∀ k, fil S b f p k = p k ∨ (p k = -1 ∧ fil S b f p k = b)) ∧ (ulc p (nn S) ≤ f → bst S (fil S b f p) b (nn S) = -1) ∧ ulc (fil S b f p) (nn S) ≤ ulc p (nn S) ∧
    (0 < f → bst S p b (nn S) ≠ -1 → ulc (fil S b f p) (nn S) < ulc p (nn S) ∧ ∃ k, k < nn S ∧ fil S b f p k = b)
  | 0, p => by
    refine ⟨fun k => Or.inl rfl, fun h => ?_, Nat.le_refl _, fun h => by omega⟩
    by_cases hq : bst S p b (nn S) = -1
    · exact hq
    · have h1 := bst_can (nn S) hq
      have h2 := bst_rg (S := S) (p := p) (b := b) (nn S)
      exact absurd (can_no h1) (ulc_zero (n := nn S) (by omega) _ (by omega))
  | f + 1, p => by
    simp only [fil]
    by_cases hq : bst S p b (nn S) = -1
    · rw [if_pos hq]
      exact ⟨fun k => Or.inl rfl, fun _ => hq, Nat.le_refl _, fun _ h => absurd hq h⟩
    · rw [if_neg hq]
      have h1 := can_no (bst_can (nn S) hq)
      have h2 := bst_rg (S := S) (p := p) (b := b) (nn S)
      obtain ⟨i1, i2, i3, i4⟩ := fil_sp hb f (updI p (bst S p b (nn S)).toNat b)
      have h3 := ulc_upd (v := b) h1 (by omega) (n := nn S) (by omega)
      refine ⟨fun k => ?_, fun h => i2 (by omega), by omega, fun _ _ => ⟨by omega, ⟨(bst S p b (nn S)).toNat, by omega, ?_⟩⟩⟩
      · rcases i1 k with h4 | ⟨h4, h5⟩
        · rw [h4]
          unfold updI
          by_cases hk : k = (bst S p b (nn S)).toNat
          · rw [if_pos hk, hk]
            exact Or.inr ⟨h1, rfl⟩
          · rw [if_neg hk]
            exact Or.inl rfl
        · unfold updI at h4
          by_cases hk : k = (bst S p b (nn S)).toNat
          · rw [if_pos hk] at h4
            omega
          · rw [if_neg hk] at h4
            exact Or.inr ⟨h4, h5⟩
      · rcases i1 (bst S p b (nn S)).toNat with h4 | ⟨_, h5⟩
        · rw [h4]
          unfold updI
          rw [if_pos rfl]
        · exact h5
theorem pk_rg : ∀ (b : Nat) (k : Nat), -1 ≤ pk S b k ∧ pk S b k < b
  | 0, k => by simp only [pk]; omega
  | b + 1, k => by
    have h1 := pk_rg b k
    rcases (fil_sp (S := S) (b := b) (by omega) (nn S) (pk S b)).1 k with h | ⟨_, h⟩
    · simp only [pk]
      omega
    · simp only [pk]
      omega
theorem rdy_of {s : Nat} : ∀ {i : Nat}, (∀ j, j < i → p j ≠ -1 ∧ p j + nearT S j s ≤ b) → rdy S p b s i = true
  | 0, _ => rfl
  | i + 1, h => by
    have h1 := h i (by omega)
    simp only [rdy]
    rw [rdy_of fun j hj => h j (by omega)]
    simp [h1.1, h1.2]
theorem mxm_ex {p : Nat → Int} : ∀ {n : Nat}, mxm p n = -1 ∨ ∃ k, k < n ∧ mxm p n = p k
  | 0 => Or.inl rfl
  | n + 1 => by
    simp only [mxm]
    by_cases h : mxm p n ≤ p n
    · exact Or.inr ⟨n, by omega, by omega⟩
    · rcases mxm_ex (p := p) (n := n) with h1 | ⟨k, h1, h2⟩
      · exact Or.inl (by omega)
      · exact Or.inr ⟨k, by omega, by omega⟩
theorem pk_T (hW : WF S) : ∀ b : Nat, ulc (pk S b) (nn S) = 0 ∨ (mxm (pk S b) (nn S) + 1 ≤ 7 * ((nn S : Int) - ulc (pk S b) (nn S)) ∧ (b : Int) ≤ mxm (pk S b) (nn S) + 1 + 6)
  | 0 => by
    have h1 := ulc_le (pk S 0) (nn S)
    have h2 : mxm (pk S 0) (nn S) = -1 := by
      rcases mxm_ex (p := pk S 0) (n := nn S) with h | ⟨k, _, h⟩
      · exact h
      · rw [h]
        rfl
    right
    rw [h2]
    omega
  | b + 1 => by
    have h0 := ulc_le (pk S b) (nn S)
    rcases pk_T hW b with h | ⟨h1, h2⟩
    · left
      have := (fil_sp (S := S) (b := b) (by omega) (nn S) (pk S b)).2.2.1
      simp only [pk]
      omega
    · by_cases hz : ulc (pk S b) (nn S) = 0
      · left
        have := (fil_sp (S := S) (b := b) (by omega) (nn S) (pk S b)).2.2.1
        simp only [pk]
        omega
      right
      have hlt := fun k => pk_rg (S := S) b k
      by_cases hq : bst S (pk S b) b (nn S) = -1
      · have e : pk S (b + 1) = pk S b := by
          simp only [pk]
          cases hn : nn S with
          | zero => rfl
          | succ m =>
            simp only [fil]
            rw [if_pos (by rw [hq])]
        rw [e]
        refine ⟨h1, ?_⟩
        by_cases hbb : (b : Int) = mxm (pk S b) (nn S) + 1 + 6
        · exfalso
          -- the lowest step that isn't laid
          have hex : fnd (fun k => decide (pk S b k = -1)) (nn S) ≠ -1 := by
            intro hf
            have := fnd_all hf
            apply hz
            have key : ∀ n, n ≤ nn S → ulc (pk S b) n = 0 := by
              intro n
              induction n with
              | zero => intro _; rfl
              | succ n ih =>
                intro hn
                have h9 := this n (by omega)
                simp only [decide_eq_false_iff_not] at h9
                simp only [ulc]
                rw [ih (by omega), if_neg h9]
            exact key _ (Nat.le_refl _)
          obtain ⟨s, hs1, _, hs2, hs3⟩ := fnd_some hex
          simp only [decide_eq_true_eq, decide_eq_false_iff_not] at hs2 hs3
          have hc : can S (pk S b) b s = true := by
            have hc0 : cin S (pk S b) b (un S s) (nn S) = 0 := by
              have h3 := cin_rg S (pk S b) b (un S s) (nn S)
              by_cases h4 : 0 < cin S (pk S b) b (un S s) (nn S)
              · obtain ⟨k, _, h5, _⟩ := cin_pos h4
                have := hlt k
                omega
              · omega
            have h5 := hW.sl (un S s) (un_lt S s)
            simp only [can, Bool.and_eq_true, decide_eq_true_eq]
            refine ⟨hs2, by omega, rdy_of fun j hj => ⟨hs3 j hj, ?_⟩⟩
            have h6 := mxm_ge (p := pk S b) (n := nn S) (k := j) (by omega)
            have h7 := nearT_rg hW j s
            omega
          have := bst_no hq s hs1
          rw [this] at hc
          cases hc
        · omega
      · have hn0 : 0 < nn S := by omega
        obtain ⟨i1, i2, i3, i4⟩ := fil_sp (S := S) (b := b) (by omega) (nn S) (pk S b)
        obtain ⟨h3, k, h4, h5⟩ := i4 hn0 hq
        have e : pk S (b + 1) = fil S b (nn S) (pk S b) := rfl
        rw [← e] at h3 h5
        have h6 := mxm_ge (p := pk S (b + 1)) h4
        have h7 := mxm_rg (p := pk S (b + 1)) (B := b) (by omega) (nn S) fun k _ => by
          have := pk_rg (S := S) (b + 1) k
          omega
        omega
theorem pk_end (hW : WF S) : ulc (pk S 146) (nn S) = 0 := by
  have hn := hW.n
  have h0 := ulc_le (pk S 146) (nn S)
  rcases pk_T hW 146 with h | ⟨h1, h2⟩
  · exact h
  · omega
theorem pk_stop {c : Nat} (h : ulc (pk S c) (nn S) = 0) : ∀ d, pk S (c + d) = pk S c
  | 0 => rfl
  | d + 1 => by
    have ih := pk_stop h d
    show fil S ((c + d : Nat) : Int) (nn S) (pk S (c + d)) = pk S c
    rw [ih]
    have hq : bst S (pk S c) ((c + d : Nat) : Int) (nn S) = -1 := by
      by_cases hq : bst S (pk S c) ((c + d : Nat) : Int) (nn S) = -1
      · exact hq
      · have h1 := bst_can (nn S) hq
        have h2 := bst_rg (S := S) (p := pk S c) (b := ((c + d : Nat) : Int)) (nn S)
        exact absurd (can_no h1) (ulc_zero h _ (by omega))
    cases hn : nn S with
    | zero => rfl
    | succ m =>
      simp only [fil]
      rw [if_pos hq]
/-- the packed plan -/
def pkS (S : Nat → Int) : Nat → Int := pk S 146
theorem pk_is (hW : WF S) {c : Nat} (h : ulc (pk S c) (nn S) = 0) : pk S c = pkS S := by
  unfold pkS
  by_cases hc : c ≤ 146
  · have := pk_stop h (146 - c)
    rw [show c + (146 - c) = 146 by omega] at this
    exact this.symm
  · have := pk_stop (pk_end hW) (c - 146)
    rw [show 146 + (c - 146) = c by omega] at this
    exact this
theorem pkS_rg (hW : WF S) : ∀ k, k < nn S → 0 ≤ pkS S k ∧ pkS S k ≤ 145 := fun k hk => by
  have h1 := pk_rg (S := S) 146 k
  have h2 := ulc_zero (pk_end hW) k hk
  unfold pkS
  omega
end PK

