/-! THE REFERENCE'S READING: its memory while it reads, by the spot and what it tells -/
def PM (μ : Mem) (K s : Nat) (f : Nat → Int) : Mem := fun a k => if a = 0 ∧ k = 23 then ic s else if a = 20 ∧ 5 * K ≤ k ∧ k < 5 * K + 5 then ic (f (k - 5 * K)) else μ a k
def updf (f : Nat → Int) (k : Nat) (v : Int) : Nat → Int := fun j => if j = k then v else f j
def RB (t : Nat → Int) (L K : Nat) (μ : Mem) : Prop := μ 0 6 = ic L ∧ (∀ i, i < L → μ 4 i = ic (t i)) ∧ μ 0 25 = ic K ∧ K ≤ 20
theorem pm_congr {μ : Mem} {K s : Nat} {f g : Nat → Int} (h : ∀ k, k < 5 → f k = g k) : PM μ K s f = PM μ K s g := by
  funext a k
  unfold PM
  by_cases h1 : a = 0 ∧ k = 23
  · rw [if_pos h1, if_pos h1]
  · rw [if_neg h1, if_neg h1]
    by_cases h2 : a = 20 ∧ 5 * K ≤ k ∧ k < 5 * K + 5
    · rw [if_pos h2, if_pos h2, h _ (by omega)]
    · rw [if_neg h2, if_neg h2]
theorem pm_23 {μ : Mem} {K s : Nat} {f : Nat → Int} : PM μ K s f 0 23 = ic s := by
  unfold PM
  rw [if_pos ⟨rfl, rfl⟩]
theorem pmt_0 {μ : Mem} {K s k : Nat} {f : Nat → Int} (h : k ≠ 23) : PM μ K s f 0 k = μ 0 k := by
  unfold PM
  rw [if_neg (by omega), if_neg (by omega)]
theorem pm_ne {μ : Mem} {K s a : Nat} {f : Nat → Int} (h : a ≠ 0 ∧ a ≠ 20) : PM μ K s f a = μ a := by
  funext k
  unfold PM
  rw [if_neg (by omega), if_neg (by omega)]
theorem pmt_20 {μ : Mem} {K s k : Nat} {f : Nat → Int} (h : k < 5) : PM μ K s f 20 (5 * K + k) = ic (f k) := by
  unfold PM
  rw [if_neg (by omega), if_pos (by omega), show 5 * K + k - 5 * K = k by omega]
theorem pm_20n {μ : Mem} {K s k : Nat} {f : Nat → Int} (h : k < 5 * K ∨ 5 * K + 5 ≤ k) : PM μ K s f 20 k = μ 20 k := by
  unfold PM
  rw [if_neg (by omega), if_neg (by omega)]
theorem pm_mu23 {μ : Mem} {K s s' : Nat} {f : Nat → Int} : mu (PM μ K s f) 0 23 (ic s') = PM μ K s' f := by
  funext a k
  rw [mu_at]
  unfold PM
  by_cases h1 : a = 0 ∧ k = 23
  · rw [if_pos h1, if_pos h1]
  · rw [if_neg h1, if_neg h1, if_neg h1]
theorem pm_mu20 {μ : Mem} {K s j : Nat} {f : Nat → Int} {v : Int} (h : j < 5) : mu (PM μ K s f) 20 (5 * K + j) (ic v) = PM μ K s (updf f j v) := by
  funext a k
  rw [mu_at]
  unfold PM updf
  by_cases h1 : a = 20 ∧ k = 5 * K + j
  · rw [if_pos h1, if_neg (by omega), if_pos (by omega), if_pos (by omega)]
  · rw [if_neg h1]
    by_cases h2 : a = 0 ∧ k = 23
    · rw [if_pos h2, if_pos h2]
    · rw [if_neg h2, if_neg h2]
      by_cases h3 : a = 20 ∧ 5 * K ≤ k ∧ k < 5 * K + 5
      · rw [if_pos h3, if_pos h3, if_neg (by omega)]
      · rw [if_neg h3, if_neg h3]
theorem b2_ifc {β : Type} {b : Bool} {x y : β} : (if b2 b = ic 0 then x else y) = if b = true then y else x := by
  cases b <;> rfl
section TXT4
variable {t : Nat → Int} {L K s : Nat} {μ : Mem} {f : Nat → Int}
theorem p_sign (hT : TX t L) (h : RB t L K μ) (hs : s ≤ 60) : fX9_sign (PM μ K s f) = some (ic (t s), PM μ K s f) := by
  have hL := hT.1
  unfold fX9_sign
  rw [pm_23, pmt_0 (by omega), h.1, pm_ne (by omega)]
  by_cases hc : L ≤ s
  · rw [if_pos (by rw [ic_le (by omega)]; omega), hT.2.2 s hc]
    rfl
  · rw [if_neg (by rw [ic_le (by omega)]; omega), ld_k s rfl (by omega), Option.bind_some, h.2.1 s (by omega)]
theorem p_in {a lo hi : Int} (ha : -1000 ≤ a ∧ a ≤ 1000) (hl : -1000 ≤ lo ∧ lo ≤ 1000) (hh : -1000 ≤ hi ∧ hi ≤ 1000) : fX9_in μ (ic a) (ic lo) (ic hi) = some (b2 (decide (lo ≤ a ∧ a ≤ hi)), μ) := by
  unfold fX9_in b2
  simp only [ic_lit, decide_eq_true_eq]
  simp (disch := omega) only [ic_lt]
  repeat' split
  all_goals first | rfl | omega
theorem p_isL (hT : TX t L) (i : Nat) : fX9_in μ (ic (t i)) (ic 97) (ic 108) = some (b2 (isL (t i)), μ) := by
  have hg := hT.rg i
  exact p_in (by omega) (by omega) (by omega)
theorem p_sees (hT : TX t L) (h : RB t L K μ) (hs : s ≤ 60) {c : Int} (hc : 1 ≤ c ∧ c ≤ 126) : fX9_sees (PM μ K s f) (ic c) = some (b2 (decide (t s = c)), PM μ K (if t s = c then s + 1 else s) f) := by
  have hg := hT.rg s
  unfold fX9_sees fX9_sees_L13 fX9_sees_L28
  rw [p_sign hT h hs, bd_some]
  simp only [ic_lit, pt, pm_23, ic_add, Option.bind_some]
  by_cases he : t s = c
  · rw [if_pos (by rw [he]), if_neg (by decide), decide_eq_true he, if_pos he]
    rw [show (s : Int) + 1 = ((s + 1 : Nat) : Int) from rfl, pm_mu23]
    rfl
  · rw [if_neg (by rw [ic_eq (by omega)]; exact he), if_pos trivial, decide_eq_false he, if_neg he]
    rw [Int.add_zero, pm_mu23]
    rfl
theorem p_tell (h : RB t L K μ) {k : Nat} (hk : k < 5) (v : Int) : fX9_tell (PM μ K s f) (ic k) (ic v) = some ((), PM μ K s (updf f k v)) := by
  have hK := h.2.2.2
  unfold fX9_tell
  rw [pmt_0 (by omega), h.2.2.1]
  simp only [ic_lit]
  rw [ic_mul, ic_add, ast_k (5 * K + k) (by omega) (by omega), Option.bind_some, pm_mu20 hk]
theorem p_isRegister (hT : TX t L) (h : RB t L K μ) (hs : s ≤ 60) {k : Nat} (hk : k < 5) : fX9_isRegister (PM μ K s f) (ic k) = some (b2 (isL (t s)), PM μ K (if isL (t s) = true then s + 1 else s) (updf f k (regv (t s)))) := by
  unfold fX9_isRegister
  rw [p_sign hT h hs, bd_some]
  rw [show (97 : Int32) = ic 97 from rfl, show (108 : Int32) = ic 108 from rfl, p_isL hT, bd_some, b2_if, p_sign hT h hs, bd_some]
  unfold fX9_isRegister_L29 fX9_isRegister_L46 regv
  rw [ic_sub, p_tell h hk, bd_some, show (0 : Int32) = ic 0 from rfl, p_tell h hk, bd_some]
  simp only [pt, pm_23, show (1 : Int32) = ic 1 from rfl, ic_add, Option.bind_some]
  cases hb : isL (t s)
  · rw [if_neg (by decide), if_pos (by rfl), Int.add_zero, pm_mu23]
    rfl
  · rw [if_pos rfl, if_neg (by decide), show (s : Int) + 1 = ((s + 1 : Nat) : Int) from rfl, pm_mu23]
    rfl
def nN (t : Nat → Int) (p : Nat) (B : Int) : Nat := if t p = 48 then 1 else if isD (t (p + 1)) = true ∧ 10 * (t p - 48) + t (p + 1) - 48 ≤ B then 2 else 1
def vN (t : Nat → Int) (p : Nat) (B : Int) : Int := if nN t p B = 2 then 10 * (t p - 48) + t (p + 1) - 48 else t p - 48
theorem p_isNumber0 (hT : TX t L) (h : RB t L K μ) (hs : s ≤ 60) {B : Int32} (hd : isD (t s) = false) : fX9_isNumber (PM μ K s f) B = some (0, PM μ K s f) := by
  have hg := hT.rg s
  unfold fX9_isNumber
  rw [p_sign hT h hs, bd_some, show (48 : Int32) = ic 48 from rfl, show (0 : Int32) = ic 0 from rfl, show (9 : Int32) = ic 9 from rfl, ic_sub, p_in (by omega) (by omega) (by omega), bd_some]
  have e1 : decide ((0 : Int) ≤ t s - 48 ∧ t s - 48 ≤ 9) = false := by
    have := of_decide_eq_false hd
    exact decide_eq_false (by omega)
  rw [e1, if_pos (by rfl)]
theorem p_isNumber1 (hT : TX t L) (h : RB t L K μ) (hs : s < 60) {B : Int} (hB : 0 ≤ B ∧ B ≤ 99) (hd : isD (t s) = true) : fX9_isNumber (PM μ K s f) (ic B) = some (1, PM μ K (s + nN t s B) (updf f 4 (vN t s B))) := by
  have hr := isD_rg hd
  have hg1 := hT.rg (s + 1)
  unfold fX9_isNumber fX9_isNumber_L87
  rw [p_sign hT h (by omega), bd_some, show (48 : Int32) = ic 48 from rfl, show (0 : Int32) = ic 0 from rfl, show (9 : Int32) = ic 9 from rfl, ic_sub, p_in (by omega) (by omega) (by omega), bd_some]
  have e1 : decide ((0 : Int) ≤ t s - 48 ∧ t s - 48 ≤ 9) = true := decide_eq_true (by omega)
  rw [e1, if_neg (by decide)]
  simp only [pt, pm_23, show (1 : Int32) = ic 1 from rfl, show (4 : Int32) = ic ((4 : Nat) : Int) from rfl, show (57 : Int32) = ic 57 from rfl, show (10 : Int32) = ic 10 from rfl, ic_add, Option.bind_some]
  rw [show (s : Int) + 1 = ((s + 1 : Nat) : Int) from rfl, pm_mu23]
  unfold vN nN
  by_cases h48 : t s = 48
  · rw [if_pos (by rw [ic_le (by omega)]; omega), if_pos h48, if_neg (by omega), p_tell h (by omega), bd_some]
  · rw [if_neg (by rw [ic_le (by omega)]; omega), if_neg h48, p_sign hT h (by omega), bd_some, p_in (by omega) (by omega) (by omega), bd_some]
    have e2 : decide ((48 : Int) ≤ t (s + 1) ∧ t (s + 1) ≤ 57) = isD (t (s + 1)) := rfl
    rw [e2, b2_ifc, p_sign hT h (by omega), bd_some, ic_mul, ic_add, ic_sub]
    cases hd1 : isD (t (s + 1))
    · rw [if_neg (by decide), if_neg (by rintro ⟨q, _⟩; cases q), if_neg (by omega), p_tell h (by omega), bd_some]
    · have hr1 := isD_rg hd1
      rw [if_pos rfl]
      by_cases hv : 10 * (t s - 48) + t (s + 1) - 48 ≤ B
      · rw [if_neg (by rw [ic_lt (by omega)]; omega), if_pos ⟨rfl, hv⟩, if_pos rfl, p_sign hT h (by omega), bd_some, pm_23, ic_add, show ((s + 1 : Nat) : Int) + 1 = ((s + 2 : Nat) : Int) from rfl, pm_mu23, ic_add, ic_sub, p_tell h (by omega), bd_some]
      · rw [if_pos (by rw [ic_lt (by omega)]; omega), if_neg (by omega), if_neg (by omega), p_tell h (by omega), bd_some]
end TXT4
