/-! THE TEXT: what both sides ask of a sign -/
def isL (c : Int) : Bool := decide (97 ≤ c ∧ c ≤ 108)
def isD (c : Int) : Bool := decide (48 ≤ c ∧ c ≤ 57)
def isB (c : Int) : Bool := decide (c = 43 ∨ c = 45 ∨ c = 42 ∨ c = 94)
def dNum (c : Int) : Int := if c = 48 then 5 else if isD c = true then 4 else -1
def dRt (c : Int) : Int := if c = 45 then 3 else if c = 91 then 8 else if isL c = true then 6 else dNum c
def dLd (m c : Int) : Int :=
  if m = 8 then if isL c = true then 9 else -1
  else if m = 9 then if c = 43 then 10 else -1
  else if m = 10 then if c = 49 then 11 else if isD c = true then 12 else -1
  else if m = 11 then if c = 48 then 12 else if c = 49 then 12 else if c = 93 then 5 else -1
  else if m = 12 then if c = 93 then 5 else -1
  else -1
def dSt (m c : Int) : Int :=
  if m = 13 then if isL c = true then 14 else -1
  else if m = 14 then if c = 43 then 15 else -1
  else if m = 15 then if c = 49 then 16 else if isD c = true then 17 else -1
  else if m = 16 then if c = 48 then 17 else if c = 49 then 17 else if c = 93 then 18 else -1
  else if m = 17 then if c = 93 then 18 else -1
  else -1
def dst (m c : Int) : Int :=
  if m = 0 then if c = 91 then 13 else if isL c = true then 1 else -1
  else if m = 1 then if c = 61 then 2 else -1
  else if m = 2 then dRt c
  else if m = 3 then dNum c
  else if m = 4 then if isD c = true then 5 else if c = 59 then 0 else -1
  else if m = 5 then if c = 59 then 0 else -1
  else if m = 6 then if isB c = true then 7 else -1
  else if m = 7 then if isL c = true then 5 else -1
  else if m = 18 then if c = 61 then 19 else -1
  else if m = 19 then if isL c = true then 5 else -1
  else if 13 ≤ m then dSt m c else dLd m c
def run (t : Nat → Int) (m : Int) (s : Nat) : Nat → Int
  | 0 => m
  | d + 1 => dst (run t m s d) (t (s + d))
theorem dst_rg {m c : Int} (hm : -1 ≤ m ∧ m ≤ 19) : -1 ≤ dst m c ∧ dst m c ≤ 19 := by
  unfold dst dSt dLd dRt dNum
  repeat' split
  all_goals omega
theorem dst_bad (c : Int) : dst (-1) c = -1 := rfl
theorem dst_0 (m : Int) : dst m 0 = -1 := by
  unfold dst dSt dLd dRt dNum isL isD isB
  simp only [decide_eq_true_eq]
  repeat' split
  all_goals omega
theorem run_rg {t : Nat → Int} {m : Int} {s : Nat} (hm : -1 ≤ m ∧ m ≤ 19) : ∀ d, -1 ≤ run t m s d ∧ run t m s d ≤ 19
  | 0 => hm
  | d + 1 => dst_rg (run_rg hm d)
theorem run_add {t : Nat → Int} {m : Int} {s d : Nat} : ∀ e, run t m s (d + e) = run t (run t m s d) (s + d) e
  | 0 => rfl
  | e + 1 => by
    have := run_add (t := t) (m := m) (s := s) (d := d) e
    rw [← Nat.add_assoc]
    simp only [run]
    rw [this, Nat.add_assoc]
theorem run_bad {t : Nat → Int} {s : Nat} : ∀ e, run t (-1) s e = -1
  | 0 => rfl
  | e + 1 => by
    simp only [run]
    rw [run_bad e, dst_bad]
def isFb (t : Nat → Int) (i : Nat) : Prop := run t 0 0 i ≠ -1 ∧ run t 0 0 (i + 1) = -1
theorem fb_lt {t : Nat → Int} {i j : Nat} (hi : run t 0 0 (i + 1) = -1) (hj : run t 0 0 j ≠ -1) : j ≤ i := by
  by_cases h : j ≤ i
  · exact h
  · exfalso
    have := run_add (t := t) (m := 0) (s := 0) (d := i + 1) (j - (i + 1))
    rw [hi, run_bad, show i + 1 + (j - (i + 1)) = j by omega] at this
    exact hj this
theorem fb_eq {t : Nat → Int} {i j : Nat} (hi : isFb t i) (hj : isFb t j) : i = j := by
  have := fb_lt hi.2 hj.1
  have := fb_lt hj.2 hi.1
  omega
/-- the text, of L signs, in both memories -/
def TX (t : Nat → Int) (L : Nat) : Prop := L ≤ 60 ∧ (∀ i, i < L → 33 ≤ t i ∧ t i ≤ 126) ∧ ∀ i, L ≤ i → t i = 0
def XT (t : Nat → Int) (L : Nat) (μ : Mem) : Prop := μ 73 1 = ic L ∧ ∀ i, i < L → μ 74 i = ic (t i)
theorem TX.rg {t : Nat → Int} {L : Nat} (h : TX t L) (i : Nat) : 0 ≤ t i ∧ t i ≤ 126 := by
  by_cases hi : i < L
  · have := h.2.1 i hi
    omega
  · rw [h.2.2 i (by omega)]
    omega
section TXT1
variable {t : Nat → Int} {L : Nat} {μ : Mem}
theorem x_signAt (hT : TX t L) (h : XT t L μ) {i : Nat} (hi : i ≤ 1000) : fX7_signAt μ (ic i) = some (ic (t i), μ) := by
  have hL := hT.1
  unfold fX7_signAt
  simp only [ic_lit]
  rw [if_neg (by rw [ic_lt (by omega)]; omega), h.1]
  by_cases hc : L ≤ i
  · rw [if_pos (by rw [ic_le (by omega)]; omega), hT.2.2 i hc]
  · rw [if_neg (by rw [ic_le (by omega)]; omega), if_neg (by rw [ic_le (by omega)]; omega), ld_k i rfl (by omega), Option.bind_some, h.2 i (by omega)]
theorem x_isLetter {c : Int} (hc : 0 ≤ c ∧ c ≤ 1000) : fX7_isLetter μ (ic c) = some (b2 (isL c), μ) := by
  unfold fX7_isLetter isL b2
  simp only [ic_lit, decide_eq_true_eq]
  simp (disch := omega) only [ic_lt]
  by_cases h1 : c < 97
  · rw [if_pos h1, if_neg (by omega)]
  · rw [if_neg h1]
    by_cases h2 : 108 < c
    · rw [if_pos h2, if_neg (by omega)]
    · rw [if_neg h2, if_pos (by omega)]
theorem x_isDigit {c : Int} (hc : 0 ≤ c ∧ c ≤ 1000) : fX7_isDigit μ (ic c) = some (b2 (isD c), μ) := by
  unfold fX7_isDigit isD b2
  simp only [ic_lit, decide_eq_true_eq]
  simp (disch := omega) only [ic_lt]
  by_cases h1 : c < 48
  · rw [if_pos h1, if_neg (by omega)]
  · rw [if_neg h1]
    by_cases h2 : 57 < c
    · rw [if_pos h2, if_neg (by omega)]
    · rw [if_neg h2, if_pos (by omega)]
theorem b2_if {β : Type} {b : Bool} {x y : β} : (if b2 b = 0 then x else y) = if b = true then y else x := by
  cases b <;> rfl
theorem x_isBetween {c : Int} (hc : 0 ≤ c ∧ c ≤ 1000) : fX7_isBetween μ (ic c) = some (b2 (isB c), μ) := by
  unfold fX7_isBetween fX7_isBetween_L24 isB b2
  simp only [ic_lit, decide_eq_true_eq]
  simp (maxSteps := 2000000) (disch := omega) only [ic_eq]
  repeat' split
  all_goals first | rfl | omega
theorem x_modeInNumber {c : Int} (hc : 0 ≤ c ∧ c ≤ 1000) : fX7_modeInNumber μ (ic c) = some (ic (dNum c), μ) := by
  unfold fX7_modeInNumber dNum
  rw [x_isDigit hc, bd_some, b2_if]
  simp only [ic_lit]
  simp (maxSteps := 2000000) (disch := omega) only [ic_eq]
  repeat' split
  all_goals rfl
theorem x_modeOnRight {c : Int} (hc : 0 ≤ c ∧ c ≤ 1000) : fX7_modeOnRight μ (ic c) = some (ic (dRt c), μ) := by
  unfold fX7_modeOnRight dRt
  rw [x_isLetter hc, bd_some, b2_if, x_modeInNumber hc, bd_some]
  simp only [ic_lit]
  simp (maxSteps := 2000000) (disch := omega) only [ic_eq]
  repeat' split
  all_goals rfl
theorem x_modeInLoad {m c : Int} (hm : -1 ≤ m ∧ m ≤ 19) (hc : 0 ≤ c ∧ c ≤ 1000) : fX7_modeInLoad μ (ic m) (ic c) = some (ic (dLd m c), μ) := by
  unfold fX7_modeInLoad fX7_modeInLoad_L100 dLd
  rw [x_isLetter hc, bd_some, b2_if, x_isDigit hc, bd_some, b2_if]
  simp only [ic_lit]
  simp (maxSteps := 2000000) (disch := omega) only [ic_eq]
  repeat' split
  all_goals rfl
theorem x_modeInStore {m c : Int} (hm : -1 ≤ m ∧ m ≤ 19) (hc : 0 ≤ c ∧ c ≤ 1000) : fX7_modeInStore μ (ic m) (ic c) = some (ic (dSt m c), μ) := by
  unfold fX7_modeInStore fX7_modeInStore_L100 dSt
  rw [x_isLetter hc, bd_some, b2_if, x_isDigit hc, bd_some, b2_if]
  simp only [ic_lit]
  simp (maxSteps := 2000000) (disch := omega) only [ic_eq]
  repeat' split
  all_goals rfl
theorem ici {p : Prop} [Decidable p] {a b : Int} : some (ic (if p then a else b), μ) = if p then some (ic a, μ) else some (ic b, μ) := by
  split <;> rfl
theorem x_modeBehind {m c : Int} (hm : -1 ≤ m ∧ m ≤ 19) (hc : 0 ≤ c ∧ c ≤ 1000) : fX7_modeBehind μ (ic m) (ic c) = some (ic (dst m c), μ) := by
  unfold fX7_modeBehind dst
  rw [x_isLetter hc, bd_some, b2_if, x_modeOnRight hc, bd_some, x_modeInNumber hc, bd_some, x_isDigit hc, bd_some, b2_if, x_isBetween hc, bd_some, b2_if, bd_some, b2_if, x_modeInStore hm hc, bd_some, x_modeInLoad hm hc, bd_some]
  simp only [ic_lit, ici, ic_neg]
  simp (maxSteps := 2000000) (disch := omega) only [ic_eq, ic_le]
theorem x_firstBad (hT : TX t L) (h : XT t L μ) : ∃ i, i ≤ L ∧ isFb t i ∧ fX7_firstBad μ = some (ic (i : Int), μ) := by
  have hL := hT.1
  have key := loop_up (fun f (s : Int32 × Int32) => fX7_firstBad_L4 f s.1 s.2 μ) 0 L (fun k s => s = (ic (run t 0 0 k), ic (k : Int)) ∧ run t 0 0 k ≠ -1) (fun o => ∃ i, i ≤ L ∧ isFb t i ∧ o = some (ic (i : Int), μ)) (by omega) ?_ ?_ (ic 0, ic 0) fu (fu_lt (by omega)) ⟨rfl, fun q => by simp only [run] at q; omega⟩
  · exact key
  · rintro f k s h1 h2 ⟨rfl, h3⟩
    have hr := run_rg (t := t) (s := 0) (m := 0) (by omega) k
    have hg := hT.rg k
    have e1 : fX7_firstBad_L4 (f + 1) (ic (run t 0 0 k)) (ic (k : Int)) μ = if run t 0 0 (k + 1) = -1 then some (ic (k : Int), μ) else fX7_firstBad_L4 f (ic (run t 0 0 (k + 1))) (ic ((k + 1 : Nat) : Int)) μ := by
      have hr2 := run_rg (t := t) (s := 0) (m := 0) (by omega) (k + 1)
      rw [fX7_firstBad_L4]
      rw [if_neg (by rw [h.1, ic_le (by omega)]; omega), x_signAt hT h (by omega), bd_some, x_modeBehind hr (by omega), bd_some]
      have e2 : dst (run t 0 0 k) (t k) = run t 0 0 (k + 1) := by
        simp only [run]
        rw [Nat.zero_add]
      rw [e2, show (-1 : Int32) = ic (-1) from rfl, show (1 : Int32) = ic 1 from rfl, ic_add]
      simp (disch := omega) only [ic_eq]
      rfl
    by_cases hb : run t 0 0 (k + 1) = -1
    · right
      exact ⟨k, by omega, ⟨h3, hb⟩, by dsimp only; rw [e1, if_pos hb]⟩
    · left
      exact ⟨_, ⟨rfl, hb⟩, by dsimp only; rw [e1, if_neg hb]⟩
  · rintro f s ⟨rfl, h3⟩
    refine ⟨L, by omega, ⟨h3, ?_⟩, ?_⟩
    · simp only [run]
      rw [hT.2.2 _ (by omega), dst_0]
    · dsimp only
      rw [fX7_firstBad_L4]
      rw [if_pos (by rw [h.1, ic_le (by omega)]; omega), h.1]
end TXT1

