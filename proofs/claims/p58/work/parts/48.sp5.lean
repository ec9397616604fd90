/-! circles: steps as a graph; it has no circle above 0 just where steps can be given places -/
def PotP (n : Nat) (E : Nat → Nat → Prop) (w : Nat → Nat → Int) (p : Nat → Int) : Prop := ∀ i j, i < n → j < n → E i j → p i + w i j ≤ p j
def cov (q : Nat → Nat) (y : Nat) : Nat → Bool
  | 0 => false
  | u + 1 => cov q y u || (decide (q u < y) && decide (y ≤ q u + 6))
def gcn (q : Nat → Nat) (n : Nat) : Nat → Nat
  | 0 => 0
  | x + 1 => gcn q n x + (if cov q (x + 1) n = true then 1 else 0)
theorem cov_of {q : Nat → Nat} {y u : Nat} (h : q u < y ∧ y ≤ q u + 6) : ∀ {n : Nat}, u < n → cov q y n = true
  | 0, hu => by omega
  | n + 1, hu => by
    simp only [cov]
    by_cases hun : u = n
    · subst hun
      simp [h.1, h.2]
    · rw [cov_of h (n := n) (by omega)]
      rfl
theorem gcn_add (q : Nat → Nat) (n x : Nat) : ∀ d, gcn q n x ≤ gcn q n (x + d) ∧ gcn q n (x + d) ≤ gcn q n x + d
  | 0 => ⟨Nat.le_refl _, Nat.le_refl _⟩
  | d + 1 => by
    have := gcn_add q n x d
    rw [← Nat.add_assoc]
    simp only [gcn]
    split <;> omega
theorem gcn_cov {q : Nat → Nat} {n u : Nat} (hu : u < n) : ∀ d, d ≤ 6 → gcn q n (q u + d) = gcn q n (q u) + d
  | 0, _ => rfl
  | d + 1, h => by
    have := gcn_cov (q := q) hu d (by omega)
    rw [← Nat.add_assoc]
    simp only [gcn]
    rw [cov_of (u := u) ⟨by omega, by omega⟩ hu, if_pos rfl, this]
    omega
theorem gcn_succ (q : Nat → Nat) (n : Nat) : ∀ x, gcn q (n + 1) x ≤ gcn q n x + min 6 (x - q n)
  | 0 => by simp [gcn]
  | x + 1 => by
    have ih := gcn_succ q n x
    have e : cov q (x + 1) (n + 1) = true ↔ cov q (x + 1) n = true ∨ (q n < x + 1 ∧ x + 1 ≤ q n + 6) := by simp [cov]
    simp only [gcn]
    by_cases h1 : cov q (x + 1) n = true
    · rw [if_pos (e.mpr (Or.inl h1)), if_pos h1]
      omega
    · by_cases h2 : q n < x + 1 ∧ x + 1 ≤ q n + 6
      · rw [if_pos (e.mpr (Or.inr h2)), if_neg h1]
        omega
      · rw [if_neg (fun z => (e.mp z).elim h1 h2), if_neg h1]
        omega
theorem gcn_le (q : Nat → Nat) : ∀ n x, gcn q n x ≤ 6 * n
  | 0, x => by
    have : ∀ x, gcn q 0 x = 0 := by
      intro x
      induction x with
      | zero => rfl
      | succ x ih =>
        simp only [gcn, cov]
        rw [ih]
        rfl
    rw [this]
    omega
  | n + 1, x => by
    have h1 := gcn_succ q n x
    have h2 := gcn_le q n x
    omega
theorem low_ex (p : Nat → Int) : ∀ n, ∃ B, ∀ k, k < n → B ≤ p k
  | 0 => ⟨0, fun k hk => by omega⟩
  | n + 1 => by
    obtain ⟨B, h⟩ := low_ex p n
    refine ⟨min B (p n), fun k hk => ?_⟩
    by_cases hkn : k = n
    · subst hkn
      omega
    · have := h k (by omega)
      omega
theorem pot_bd {n : Nat} {E : Nat → Nat → Prop} {w : Nat → Nat → Int} (hw : ∀ i j, w i j ≤ 6) {p : Nat → Int} (h : PotP n E w p) : ∃ q : Nat → Int, PotP n E w q ∧ ∀ i, 0 ≤ q i ∧ q i ≤ 6 * (n : Int) := by
  obtain ⟨B, hB⟩ := low_ex p n
  obtain ⟨q, hq⟩ : ∃ q : Nat → Nat, q = fun u => (p u - B).toNat := ⟨_, rfl⟩
  have hqp : ∀ u, u < n → (q u : Int) = p u - B := fun u hu => by
    have := hB u hu
    rw [hq]
    dsimp only
    omega
  refine ⟨fun u => (gcn q n (q u) : Nat), fun i j hi hj hE => ?_, fun i => ?_⟩
  · have h1 := h i j hi hj hE
    have h2 := hw i j
    have h3 := hqp i hi
    have h4 := hqp j hj
    dsimp only
    by_cases hc : 0 ≤ w i j
    · obtain ⟨d, hd⟩ : ∃ d : Nat, w i j = d := ⟨(w i j).toNat, by omega⟩
      have h5 := gcn_cov (q := q) hi d (by omega)
      have h6 := (gcn_add q n (q i + d) (q j - (q i + d))).1
      rw [show q i + d + (q j - (q i + d)) = q j by omega] at h6
      omega
    · obtain ⟨d, hd⟩ : ∃ d : Nat, w i j = -(d : Int) := ⟨(-(w i j)).toNat, by omega⟩
      by_cases h7 : q i ≤ q j
      · have h6 := (gcn_add q n (q i) (q j - q i)).1
        rw [show q i + (q j - q i) = q j by omega] at h6
        omega
      · have h6 := (gcn_add q n (q j) (q i - q j)).2
        rw [show q j + (q i - q j) = q i by omega] at h6
        omega
  · have := gcn_le q n (q i)
    dsimp only
    omega
/-! ways by way of more and more steps -/
def fw (w : Nat → Nat → Int) : Nat → Nat → Nat → Int
  | 0 => w
  | k + 1 => fun i j => max (fw w k i j) (fw w k i k + fw w k k j)
theorem mx0_ge {f : Nat → Int} : ∀ {n k : Nat}, k < n → f k ≤ mx0 f n
  | 0, k, h => by omega
  | n + 1, k, h => by
    simp only [mx0]
    by_cases hk : k = n
    · subst hk
      omega
    · have := mx0_ge (f := f) (n := n) (k := k) (by omega)
      omega
theorem mx0_ex {f : Nat → Int} : ∀ {n : Nat}, mx0 f n = 0 ∨ ∃ k, k < n ∧ mx0 f n = f k
  | 0 => Or.inl rfl
  | n + 1 => by
    simp only [mx0]
    by_cases h : mx0 f n ≤ f n
    · exact Or.inr ⟨n, by omega, by omega⟩
    · rcases mx0_ex (f := f) (n := n) with h1 | ⟨k, h1, h2⟩
      · exact Or.inl (by omega)
      · exact Or.inr ⟨k, by omega, by omega⟩
theorem mx0_nn {f : Nat → Int} : ∀ n, 0 ≤ mx0 f n
  | 0 => Int.le_refl _
  | n + 1 => by
    have := mx0_nn (f := f) n
    simp only [mx0]
    omega
section FW
variable {n : Nat} {w : Nat → Nat → Int}
theorem fw_up (m : Nat) (i j : Nat) : ∀ d, fw w m i j ≤ fw w (m + d) i j
  | 0 => Int.le_refl _
  | d + 1 => by
    have := fw_up m i j d
    rw [← Nat.add_assoc]
    simp only [fw]
    omega
theorem fw_cl : ∀ k, (∀ a, a < k → fw w a a a ≤ 0) → ∀ i j a, a < k → fw w k i a + fw w k a j ≤ fw w k i j
  | 0, _, i, j, a, ha => by omega
  | k + 1, h, i, j, a, ha => by
    have ih := fw_cl k fun b hb => h b (by omega)
    have hk := h k (by omega)
    simp only [fw]
    by_cases hak : a = k
    · subst hak
      omega
    · have h1 := ih i j a (by omega)
      have h2 := ih k j a (by omega)
      have h3 := ih i k a (by omega)
      have h4 := ih k k a (by omega)
      omega
theorem fw_le {p : Nat → Int} (h : PotP n (fun _ _ => True) w p) : ∀ k, k ≤ n → ∀ i j, i < n → j < n → p i + fw w k i j ≤ p j
  | 0, _, i, j, hi, hj => h i j hi hj trivial
  | k + 1, hk, i, j, hi, hj => by
    have h1 := fw_le h k (by omega) i j hi hj
    have h2 := fw_le h k (by omega) i k hi (by omega)
    have h3 := fw_le h k (by omega) k j (by omega) hj
    simp only [fw]
    omega
/-- places out of the closed table -/
theorem fw_pot {k : Nat} (h : ∀ a, a < k → fw w a a a ≤ 0) : PotP k (fun _ _ => True) w (fun j => mx0 (fun i => fw w k i j) k) := by
  intro a b ha hb _
  have hab : w a b ≤ fw w k a b := by
    have := fw_up (w := w) 0 a b k
    rwa [Nat.zero_add] at this
  have h1 := mx0_ge (f := fun i => fw w k i b) ha
  dsimp only at h1 ⊢
  rcases mx0_ex (f := fun i => fw w k i a) (n := k) with h2 | ⟨i, hi, h2⟩
  · rw [h2]
    omega
  · rw [h2]
    have h3 := fw_cl k h i b a ha
    have h4 := mx0_ge (f := fun i => fw w k i b) hi
    omega
theorem fw_bd (hw : ∀ i j, w i j ≤ 6) {k : Nat} (h : ∀ a, a < k → fw w a a a ≤ 0) (i j : Nat) : fw w k i j ≤ 6 * (k : Int) + 12 := by
  obtain ⟨q, h1, h2⟩ := pot_bd hw (fw_pot h)
  have key : ∀ m, m ≤ k → ∀ i j, (if i < k then q i else -6) + fw w m i j ≤ (if j < k then q j else 6 * (k : Int) + 6) := by
    intro m
    induction m with
    | zero =>
      intro _ i j
      have h3 := hw i j
      have h4 := h2 i
      have h5 := h2 j
      simp only [fw]
      by_cases hi : i < k
      · by_cases hj : j < k
        · have := h1 i j hi hj trivial
          rw [if_pos hi, if_pos hj]
          exact this
        · rw [if_pos hi, if_neg hj]
          omega
      · by_cases hj : j < k
        · rw [if_neg hi, if_pos hj]
          omega
        · rw [if_neg hi, if_neg hj]
          omega
    | succ m ih =>
      intro hm i j
      have h3 := ih (by omega) i j
      have h4 := ih (by omega) i m
      have h5 := ih (by omega) m j
      rw [if_pos (show m < k by omega)] at h4 h5
      simp only [fw]
      omega
  have h6 := key k (Nat.le_refl _) i j
  have h7 := h2 i
  have h8 := h2 j
  split at h6 <;> split at h6 <;> omega
end FW
/-! the steps' graph -/
def gw (S : Nat → Int) (b : Int) (i j : Nat) : Int := if over S i j = -99 then (if nearT S i j = -99 then -9999 else nearT S i j) else max (if nearT S i j = -99 then -9999 else nearT S i j) (over S i j - b)
def gE (S : Nat → Int) (i j : Nat) : Prop := nearT S i j ≠ -99 ∨ over S i j ≠ -99
def Pot (S : Nat → Int) (b : Int) : Prop := ∃ p, PotP (nn S) (gE S) (gw S b) p
section GW
variable {S : Nat → Int} {b : Int}
theorem gw_rg (hW : WF S) (hb : 1 ≤ b ∧ b ≤ 200) (i j : Nat) : -9999 ≤ gw S b i j ∧ gw S b i j ≤ 6 ∧ (gE S i j → -299 ≤ gw S b i j) ∧ (¬ gE S i j → gw S b i j = -9999) := by
  have h1 := nearT_rg hW i j
  have h2 := over_rg hW i j
  unfold gw gE
  by_cases c1 : nearT S i j = -99
  · by_cases c2 : over S i j = -99
    · rw [if_pos c2, if_pos c1]
      exact ⟨by omega, by omega, fun q => by omega, fun _ => rfl⟩
    · rw [if_neg c2, if_pos c1]
      exact ⟨by omega, by omega, fun q => by omega, fun q => by omega⟩
  · by_cases c2 : over S i j = -99
    · rw [if_pos c2, if_neg c1]
      exact ⟨by omega, by omega, fun q => by omega, fun q => by omega⟩
    · rw [if_neg c2, if_neg c1]
      exact ⟨by omega, by omega, fun q => by omega, fun q => by omega⟩
theorem pot_all (hW : WF S) (hb : 1 ≤ b ∧ b ≤ 200) (h : Pot S b) : ∃ p : Nat → Int, PotP (nn S) (fun _ _ => True) (gw S b) p ∧ ∀ i, 0 ≤ p i ∧ p i ≤ 120 := by
  have hn := hW.n
  obtain ⟨p, h0⟩ := h
  obtain ⟨q, h1, h2⟩ := pot_bd (fun i j => (gw_rg hW hb i j).2.1) h0
  refine ⟨q, fun i j hi hj _ => ?_, fun i => ?_⟩
  · by_cases hE : gE S i j
    · exact h1 i j hi hj hE
    · have := (gw_rg hW hb i j).2.2.2 hE
      have h3 := h2 i
      have h4 := h2 j
      omega
  · have h3 := h2 i
    omega
theorem pot_diag (hW : WF S) (hb : 1 ≤ b ∧ b ≤ 200) (h : Pot S b) {k : Nat} (hk : k ≤ nn S) {i : Nat} (hi : i < nn S) : fw (gw S b) k i i ≤ 0 := by
  obtain ⟨p, h1, _⟩ := pot_all hW hb h
  have := fw_le h1 k hk i i hi hi
  omega
theorem diag_pot (h : ∀ a, a < nn S → fw (gw S b) a a a ≤ 0) : Pot S b := ⟨_, fun i j hi hj _ => fw_pot h i j hi hj trivial⟩
theorem pot_mono {c : Int} (hbc : b ≤ c) (h : Pot S b) : Pot S c := by
  obtain ⟨p, h0⟩ := h
  refine ⟨p, fun i j hi hj hE => ?_⟩
  have h1 := h0 i j hi hj hE
  have h2 : gw S c i j ≤ gw S b i j := by
    unfold gw
    split <;> omega
  omega
theorem pot_120 (hW : WF S) : Pot S 120 := by
  have hn := hW.n
  refine ⟨fun i => 6 * (i : Int), fun i j hi hj hE => ?_⟩
  have h1 := nearT_rg hW i j
  have h2 := over_rg hW i j
  have h3 : nearT S i j ≠ -99 → i < j := fun q => by
    by_cases hij : i < j
    · exact hij
    · exact absurd (nearT_ge hij) q
  unfold gE at hE
  unfold gw
  show 6 * (i : Int) + _ ≤ 6 * (j : Int)
  by_cases c1 : nearT S i j = -99
  · rw [if_pos c1]
    split <;> omega
  · have := h3 c1
    rw [if_neg c1]
    split <;> omega
theorem least_nat (P : Nat → Prop) : ∀ m, P m → ∃ k, P k ∧ ∀ i, i < k → ¬ P i := by
  intro m
  induction m using Nat.strongRecOn with
  | ind m ih =>
    intro h
    by_cases hc : ∃ i, i < m ∧ P i
    · obtain ⟨i, h1, h2⟩ := hc
      exact ih i h1 h2
    · exact ⟨m, h, fun i hi hp => hc ⟨i, hi, hp⟩⟩
end GW
/-- the least beat by circles -/
def isLb (S : Nat → Int) (k : Nat) : Prop := 1 ≤ k ∧ Pot S k ∧ ∀ i : Nat, 1 ≤ i → i < k → ¬ Pot S i
theorem lb_ex {S : Nat → Int} (hW : WF S) : ∃ k, isLb S k ∧ k ≤ 120 := by
  obtain ⟨k, h1, h2⟩ := least_nat (fun k => 1 ≤ k ∧ Pot S (k : Nat)) 120 ⟨by omega, pot_120 hW⟩
  refine ⟨k, ⟨h1.1, h1.2, fun i hi hik hp => h2 i hik ⟨hi, hp⟩⟩, ?_⟩
  by_cases hk : k ≤ 120
  · exact hk
  · exact absurd ⟨by omega, pot_120 hW⟩ (h2 120 (by omega))
theorem lb_iff {S : Nat → Int} {k : Nat} (h : isLb S k) {b : Nat} (hb : 1 ≤ b) : Pot S b ↔ k ≤ b := by
  constructor
  · intro hp
    by_cases hkb : k ≤ b
    · exact hkb
    · exact absurd hp (h.2.2 b hb (by omega))
  · intro hkb
    exact pot_mono (by omega) h.2.1

