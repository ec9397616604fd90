/-! finding, counting, the last -/
def fnd (P : Nat → Bool) : Nat → Int
  | 0 => -1
  | k + 1 => if fnd P k = -1 then (if P k then (k : Int) else -1) else fnd P k
theorem fnd_rg (P : Nat → Bool) : ∀ n : Nat, -1 ≤ fnd P n ∧ fnd P n < (n : Int)
  | 0 => by simp only [fnd]; omega
  | n + 1 => by
    have := fnd_rg P n
    simp only [fnd]
    split
    · split <;> omega
    · omega
theorem fnd_no {P : Nat → Bool} : ∀ {n : Nat}, (∀ k, k < n → P k = false) → fnd P n = -1
  | 0, _ => rfl
  | n + 1, h => by
    simp only [fnd]
    rw [fnd_no fun k hk => h k (by omega), if_pos rfl, h n (by omega)]
    rfl
theorem fnd_yes {P : Nat → Bool} {k : Nat} (h1 : ∀ i, i < k → P i = false) (h2 : P k = true) : ∀ {n : Nat}, k < n → fnd P n = k
  | 0, h => by omega
  | n + 1, h => by
    simp only [fnd]
    by_cases hk : k = n
    · subst hk
      rw [fnd_no h1, if_pos rfl, if_pos h2]
    · have hf := fnd_yes h1 h2 (n := n) (by omega)
      rw [hf, if_neg (by omega)]
theorem fnd_all {P : Nat → Bool} : ∀ {n : Nat}, fnd P n = -1 → ∀ k, k < n → P k = false
  | 0, _, k, hk => by omega
  | n + 1, h, k, hk => by
    have hr := fnd_rg P n
    simp only [fnd] at h
    split at h
    · next h1 =>
      by_cases hkn : k = n
      · subst hkn
        cases hp : P k
        · rfl
        · rw [hp] at h
          simp at h
      · exact fnd_all h1 k (by omega)
    · next h1 => exact absurd h h1
/-- where it finds something -/
theorem fnd_some {P : Nat → Bool} : ∀ {n : Nat}, fnd P n ≠ -1 → ∃ k, k < n ∧ fnd P n = k ∧ P k = true ∧ ∀ i, i < k → P i = false
  | 0, h => absurd rfl h
  | n + 1, h => by
    by_cases h1 : fnd P n = -1
    · simp only [fnd] at h ⊢
      rw [if_pos h1] at h ⊢
      cases hp : P n
      · rw [hp] at h
        exact absurd rfl h
      · exact ⟨n, by omega, by simp, hp, fun i hi => fnd_all h1 i hi⟩
    · obtain ⟨k, h2, h3, h4, h5⟩ := fnd_some h1
      exact ⟨k, by omega, by simp only [fnd]; rw [if_neg h1, h3], h4, h5⟩
theorem fnd_congr {P Q : Nat → Bool} : ∀ {n : Nat}, (∀ k, k < n → P k = Q k) → fnd P n = fnd Q n
  | 0, _ => rfl
  | n + 1, h => by
    simp only [fnd]
    rw [fnd_congr fun k hk => h k (by omega), h n (by omega)]
def cin (S : Nat → Int) (p : Nat → Int) (b : Int) (u : Nat) : Nat → Int
  | 0 => 0
  | k + 1 => cin S p b u k + (if p k = b ∧ un S k = u then 1 else 0)
theorem cin_rg (S : Nat → Int) (p : Nat → Int) (b : Int) (u : Nat) : ∀ n : Nat, 0 ≤ cin S p b u n ∧ cin S p b u n ≤ n
  | 0 => by simp [cin]
  | n + 1 => by
    have := cin_rg S p b u n
    simp only [cin]
    split <;> omega
theorem cin_pos {S : Nat → Int} {p : Nat → Int} {b : Int} {u : Nat} : ∀ {n : Nat}, 0 < cin S p b u n → ∃ k, k < n ∧ p k = b ∧ un S k = u
  | 0, h => by simp [cin] at h
  | n + 1, h => by
    simp only [cin] at h
    split at h
    · next h1 => exact ⟨n, by omega, h1⟩
    · obtain ⟨k, h2, h3⟩ := cin_pos (S := S) (p := p) (b := b) (u := u) (n := n) (by omega)
      exact ⟨k, by omega, h3⟩
def mxm (p : Nat → Int) : Nat → Int
  | 0 => -1
  | k + 1 => max (mxm p k) (p k)
theorem mxm_rg {p : Nat → Int} {B : Int} (hB : -1 ≤ B) : ∀ n, (∀ k, k < n → p k ≤ B) → -1 ≤ mxm p n ∧ mxm p n ≤ B
  | 0, _ => by simp only [mxm]; omega
  | n + 1, h => by
    have h1 := mxm_rg hB n fun k hk => h k (by omega)
    have h2 := h n (by omega)
    simp only [mxm]
    omega
theorem mxm_ge {p : Nat → Int} : ∀ {n k : Nat}, k < n → p k ≤ mxm p n
  | 0, k, h => by omega
  | n + 1, k, h => by
    simp only [mxm]
    by_cases hk : k = n
    · subst hk
      omega
    · have := mxm_ge (p := p) (n := n) (k := k) (by omega)
      omega
theorem mxm_congr {p q : Nat → Int} : ∀ {n : Nat}, (∀ k, k < n → p k = q k) → mxm p n = mxm q n
  | 0, _ => rfl
  | n + 1, h => by
    simp only [mxm]
    rw [mxm_congr fun k hk => h k (by omega), h n (by omega)]
def fullU (S : Nat → Int) (b : Nat) : Nat → Bool
  | 0 => false
  | u + 1 => fullU S b u || decide (S (2 + u) < cin S (bu S) b u (nn S))
def full (S : Nat → Int) (b : Nat) : Bool := fullU S b 3
def early (S : Nat → Int) (j : Nat) : Nat → Bool
  | 0 => false
  | i + 1 => early S j i || (decide (nearT S i j ≠ -99) && decide (bu S j - bu S i < nearT S i j))
def wA (S : Nat → Int) : Int := fnd (fun k => decide (bu S k = -1)) (nn S)
def wB (S : Nat → Int) : Int := fnd (full S) (mxm (bu S) (nn S) + 1).toNat
def wC (S : Nat → Int) : Int := fnd (fun j => early S j j) (nn S)
def whyS (S : Nat → Int) : Int := if wA S ≠ -1 then 1 else if wB S ≠ -1 then 2 else if wC S ≠ -1 then 3 else 0
def wheS (S : Nat → Int) : Int := if wA S ≠ -1 then wA S else if wB S ≠ -1 then wB S else wC S
def setS (S : Nat → Int) (b : Int) : Nat → Int32
  | 0 => ic 0
  | k + 1 => if bu S k = b then setS S b k ||| (ic 1 <<< (ic (k : Int) &&& ic 31)) else setS S b k
def laidS (S : Nat → Int) : Nat → Int
  | 0 => 0
  | k + 1 => laidS S k + (if bu S k = -1 then 0 else 1)
theorem laidS_rg (S : Nat → Int) : ∀ n : Nat, 0 ≤ laidS S n ∧ laidS S n ≤ n
  | 0 => by simp [laidS]
  | n + 1 => by
    have := laidS_rg S n
    simp only [laidS]
    split <;> omega
/-- how many steps of a unit -/
def cun (S : Nat → Int) (u : Nat) : Nat → Int
  | 0 => if u = 0 then 1 else 0
  | k + 1 => cun S u k + (if un S k = u then 1 else 0)
theorem cun_rg (S : Nat → Int) (u : Nat) : ∀ n : Nat, 0 ≤ cun S u n ∧ cun S u n ≤ n + 1
  | 0 => by simp only [cun]; split <;> omega
  | n + 1 => by
    have := cun_rg S u n
    simp only [cun]
    split <;> omega
def ub (S : Nat → Int) : Nat → Int
  | 0 => 1
  | u + 1 => max (ub S u) ((cun S u (nn S) + S (2 + u) - 1) / S (2 + u))
theorem div_rg {a b : Int} (ha : 0 ≤ a) (hb : 1 ≤ b) : 0 ≤ a / b ∧ a / b ≤ a := by
  refine ⟨Int.ediv_nonneg ha (by omega), ?_⟩
  exact Int.ediv_le_self _ ha
theorem ub_rg {S : Nat → Int} (hW : WF S) : ∀ u, u ≤ 3 → 1 ≤ ub S u ∧ ub S u ≤ 24
  | 0, _ => by simp only [ub]; omega
  | u + 1, hu => by
    have h1 := ub_rg hW u (by omega)
    have h2 := cun_rg S u (nn S)
    have h3 := hW.n
    have h4 := hW.sl u (by omega)
    have h5 := div_rg (a := cun S u (nn S) + S (2 + u) - 1) (b := S (2 + u)) (by omega) (by omega)
    simp only [ub]
    omega

