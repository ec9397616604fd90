/-! the loop's plan -/
def akd (S : Nat → Int) (β : Int) (s : Nat → Int) (j : Nat) : Nat → Int
  | 0 => 0
  | i + 1 =>
    let a := if nearT S i j = -99 then akd S β s j i else max (akd S β s j i) (s i + nearT S i j)
    if over S i j = -99 then a else max a (s i + over S i j - β)
def hlo (S : Nat → Int) (β : Int) (s : Nat → Int) (j : Nat) (t : Int) : Nat → Bool
  | 0 => true
  | k + 1 => hlo S β s j t k && (decide (over S j k = -99) || decide (over S j k ≤ s k + β - t))
def hld (S : Nat → Int) (β : Int) (s : Nat → Int) (j : Nat) (t : Int) : Bool := decide (over S j j ≤ β) && hlo S β s j t j
def okP (S : Nat → Int) (β : Int) (s : Nat → Int) (tk : Nat → Nat → Int) (j : Nat) (a : Int) (d : Nat) : Bool := decide (tk (un S j) ((a + d) % β).toNat < S (2 + un S j)) && hld S β s j (a + d)
def tk0 (S : Nat → Int) (β : Int) : Nat → Nat → Int := fun u x => if u = 0 ∧ x = ((β - 1 - S 1) % β).toNat then 1 else 0
def tkup (tk : Nat → Nat → Int) (u x : Nat) : Nat → Nat → Int := fun u' x' => if u' = u ∧ x' = x then tk u x + 1 else tk u' x'
def fd (S : Nat → Int) (β : Int) (s : Nat → Int) (tk : Nat → Nat → Int) (j : Nat) : Int := fnd (okP S β s tk j (akd S β s j j)) β.toNat
def lyS (S : Nat → Int) (β : Int) : Nat → (Nat → Int) × (Nat → Nat → Int) × Bool
  | 0 => ((fun _ => 0), tk0 S β, true)
  | j + 1 =>
    let r := lyS S β j
    if r.2.2 = false then r else
    if fd S β r.1 r.2.1 j = -1 then (r.1, r.2.1, false) else
    (updI r.1 j (akd S β r.1 j j + fd S β r.1 r.2.1 j), tkup r.2.1 (un S j) ((akd S β r.1 j j + fd S β r.1 r.2.1 j) % β).toNat, true)
def lyok (S : Nat → Int) (β : Int) : Bool := (lyS S β (nn S)).2.2
def lsb (S : Nat → Int) (lb : Nat) : Int := max (max (ub S 3) lb) (S 1 + 1)
section LY
variable {S : Nat → Int} {β : Int}
theorem akd_rg (hW : WF S) (hβ : 1 ≤ β) {s : Nat → Int} {j : Nat} {B : Int} (hB : 0 ≤ B) (hs : ∀ k, k < j → s k ≤ B) : ∀ i, i ≤ j → 0 ≤ akd S β s j i ∧ akd S β s j i ≤ B + 6
  | 0, _ => by simp only [akd]; omega
  | i + 1, hi => by
    have h1 := akd_rg hW hβ hB hs i (by omega)
    have h2 := hs i (by omega)
    have h3 := nearT_rg hW i j
    have h4 := over_rg hW i j
    simp only [akd]
    split
    · split <;> omega
    · split <;> omega
theorem fd_rg (hβ : 1 ≤ β) (s : Nat → Int) (tk : Nat → Nat → Int) (j : Nat) : -1 ≤ fd S β s tk j ∧ fd S β s tk j < β := by
  have := fnd_rg (okP S β s tk j (akd S β s j j)) β.toNat
  unfold fd
  omega
theorem ly_rg (hW : WF S) (hβ : 1 ≤ β ∧ β ≤ 120) : ∀ j, j ≤ 20 → (∀ k, 0 ≤ (lyS S β j).1 k ∧ (lyS S β j).1 k ≤ 125 * (j : Int)) ∧ ∀ u, u < 3 → ∀ x, 0 ≤ (lyS S β j).2.1 u x ∧ (lyS S β j).2.1 u x ≤ S (2 + u)
  | 0, _ => by
    refine ⟨fun k => ⟨Int.le_refl _, Int.le_refl _⟩, fun u hu x => ?_⟩
    have := hW.sl u hu
    simp only [lyS, tk0]
    split <;> omega
  | j + 1, hj => by
    obtain ⟨i1, i2⟩ := ly_rg hW hβ j (by omega)
    simp only [lyS]
    by_cases c1 : (lyS S β j).2.2 = false
    · rw [if_pos c1]
      exact ⟨fun k => by have := i1 k; omega, i2⟩
    · rw [if_neg c1]
      by_cases c2 : fd S β (lyS S β j).1 (lyS S β j).2.1 j = -1
      · rw [if_pos c2]
        exact ⟨fun k => by have := i1 k; dsimp only; omega, i2⟩
      · rw [if_neg c2]
        have h1 := akd_rg hW hβ.1 (s := (lyS S β j).1) (j := j) (B := 125 * j) (by omega) (fun k _ => (i1 k).2) j (Nat.le_refl _)
        have h2 := fd_rg (S := S) hβ.1 (lyS S β j).1 (lyS S β j).2.1 j
        refine ⟨fun k => ?_, fun u hu x => ?_⟩
        · have := i1 k
          dsimp only
          unfold updI
          split <;> omega
        · have h3 := i2 u hu x
          dsimp only
          unfold tkup
          split
          · next hq =>
            obtain ⟨d, hd1, hd2, hd3, _⟩ := fnd_some (P := okP S β (lyS S β j).1 (lyS S β j).2.1 j (akd S β (lyS S β j).1 j j)) (n := β.toNat) c2
            have e : fd S β (lyS S β j).1 (lyS S β j).2.1 j = d := hd2
            simp only [okP, Bool.and_eq_true, decide_eq_true_eq] at hd3
            rw [e] at hq ⊢
            obtain ⟨rfl, rfl⟩ := hq
            omega
          · exact h3
theorem ly_ok : ∀ j, (lyS S β (j + 1)).2.2 = true → (lyS S β j).2.2 = true ∧ fd S β (lyS S β j).1 (lyS S β j).2.1 j ≠ -1 := by
  intro j h
  simp only [lyS] at h
  by_cases c1 : (lyS S β j).2.2 = false
  · rw [if_pos c1, c1] at h
    cases h
  · rw [if_neg c1] at h
    by_cases c2 : fd S β (lyS S β j).1 (lyS S β j).2.1 j = -1
    · rw [if_pos c2] at h
      cases h
    · exact ⟨by simpa using c1, c2⟩
theorem ly_bad : ∀ d j, (lyS S β j).2.2 = false → (lyS S β (j + d)).2.2 = false
  | 0, _, h => h
  | d + 1, j, h => by
    have ih := ly_bad d j h
    rw [← Nat.add_assoc]
    simp only [lyS]
    rw [if_pos ih]
    exact ih
/-- with the beat 120 it is laid at once -/
theorem ly120 (hW : WF S) : ∀ j, j ≤ nn S → (lyS S 120 j).2.2 = true ∧ (∀ k, (lyS S 120 j).1 k ≤ 6 * ((j - 1 : Nat) : Int)) ∧ ∀ u x, (j = 0 ∨ 6 * j - 5 ≤ x) → x < 116 → (lyS S 120 j).2.1 u x = 0
  | 0, _ => by
    have h1 := hW.dl
    refine ⟨rfl, fun k => Int.le_refl _, fun u x h2 h3 => ?_⟩
    simp only [lyS, tk0]
    rw [if_neg]
    rintro ⟨_, h4⟩
    omega
  | j + 1, hj => by
    have hn := hW.n
    obtain ⟨i1, i2, i3⟩ := ly120 hW j (by omega)
    obtain ⟨s, hs⟩ : ∃ s, s = (lyS S 120 j).1 := ⟨_, rfl⟩
    obtain ⟨tk, htk⟩ : ∃ tk, tk = (lyS S 120 j).2.1 := ⟨_, rfl⟩
    have h0 := (ly_rg hW (β := 120) (by omega) j (by omega)).1
    rw [← hs] at i2 h0
    rw [← htk] at i3
    obtain ⟨a, ha⟩ : ∃ a, a = akd S 120 s j j := ⟨_, rfl⟩
    have h1 : 0 ≤ a ∧ a ≤ 6 * (j : Int) := by
      by_cases hj0 : j = 0
      · subst hj0
        rw [ha]
        simp only [akd]
        omega
      · have := akd_rg hW (β := 120) (by omega) (s := s) (j := j) (B := 6 * ((j - 1 : Nat) : Int)) (by omega) (fun k _ => i2 k) j (Nat.le_refl _)
        omega
    -- a place that is free
    obtain ⟨t, ht⟩ : ∃ t : Int, t = max a (6 * (j : Int) - 5) := ⟨_, rfl⟩
    have hok : okP S 120 s tk j a (t - a).toNat = true := by
      have e1 : a + ((t - a).toNat : Int) = t := by omega
      simp only [okP, Bool.and_eq_true, decide_eq_true_eq]
      rw [e1]
      refine ⟨?_, ?_⟩
      · have e2 : t % 120 = t := Int.emod_eq_of_lt (by omega) (by omega)
        rw [e2, i3 (un S j) t.toNat (by omega) (by omega)]
        have := hW.sl (un S j) (un_lt S j)
        omega
      · simp only [hld, Bool.and_eq_true, decide_eq_true_eq]
        have h4 := over_rg hW j j
        refine ⟨by omega, ?_⟩
        have key : ∀ k, k ≤ j → hlo S 120 s j t k = true := by
          intro k
          induction k with
          | zero => intro _; rfl
          | succ k ih =>
            intro hk
            have h5 := over_rg hW j k
            have h6 := h0 k
            simp only [hlo, Bool.and_eq_true, Bool.or_eq_true, decide_eq_true_eq]
            exact ⟨ih (by omega), Or.inr (by omega)⟩
        exact key j (Nat.le_refl _)
    have hf : fd S 120 s tk j ≠ -1 := by
      intro hq
      have := fnd_all (P := okP S 120 s tk j (akd S 120 s j j)) (n := (120 : Int).toNat) hq (t - a).toNat (by omega)
      rw [← ha, hok] at this
      cases this
    obtain ⟨d, hd1, hd2, hd3, hd4⟩ := fnd_some (P := okP S 120 s tk j (akd S 120 s j j)) (n := (120 : Int).toNat) hf
    have e : fd S 120 s tk j = d := hd2
    have hdt : d ≤ (t - a).toNat := by
      by_cases hlt : (t - a).toNat < d
      · have := hd4 _ hlt
        rw [← ha, hok] at this
        cases this
      · omega
    simp only [lyS]
    rw [if_neg (by rw [i1]; decide), ← hs, ← htk, if_neg hf, e, ← ha]
    refine ⟨rfl, fun k => ?_, fun u x hx1 hx2 => ?_⟩
    · have := i2 k
      dsimp only
      unfold updI
      split <;> omega
    · dsimp only
      unfold tkup
      have e2 : (a + (d : Int)) % 120 = a + d := Int.emod_eq_of_lt (by omega) (by omega)
      rw [e2, if_neg (by omega)]
      exact i3 u x (by omega) hx2
theorem lyok120 (hW : WF S) : lyok S 120 = true := (ly120 hW (nn S) (Nat.le_refl _)).1
theorem lsb_rg (hW : WF S) {lb : Nat} (hl : 1 ≤ lb ∧ lb ≤ 120) : 1 ≤ lsb S lb ∧ lsb S lb ≤ 120 ∧ S 1 + 1 ≤ lsb S lb := by
  have h1 := ub_rg hW 3 (by omega)
  have h2 := hW.dl
  unfold lsb
  omega
end LY
/-- the beat of the loop, over the least one by circles -/
def isBt (S : Nat → Int) (lb k : Nat) : Prop := lsb S lb ≤ k ∧ lyok S k = true ∧ ∀ i : Nat, lsb S lb ≤ i → i < k → lyok S i = false
theorem bt_ex {S : Nat → Int} (hW : WF S) {lb : Nat} (hl : 1 ≤ lb ∧ lb ≤ 120) : ∃ k, isBt S lb k ∧ 1 ≤ k ∧ k ≤ 120 := by
  have h0 := lsb_rg hW hl
  obtain ⟨k, h1, h2⟩ := least_nat (fun k : Nat => lsb S lb ≤ k ∧ lyok S k = true) 120 ⟨by omega, lyok120 hW⟩
  refine ⟨k, ⟨h1.1, h1.2, fun i hi hik => ?_⟩, by omega, ?_⟩
  · cases hq : lyok S i
    · rfl
    · exact absurd ⟨hi, hq⟩ (h2 i hik)
  · by_cases hk : k ≤ 120
    · exact hk
    · exact absurd ⟨by omega, lyok120 hW⟩ (h2 120 (by omega))

