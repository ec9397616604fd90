/-! the class's reading of a whole text -/
def whole (t : Nat → Int) (L : Nat) : Bool := decide (run t 0 0 L = 5 ∨ run t 0 0 L = 4)
def cnt (t : Nat → Int) : Nat → Nat
  | 0 => 0
  | k + 1 => cnt t k + (if t k = 59 then 1 else 0)
theorem cnt_le {t : Nat → Int} : ∀ k, cnt t k ≤ k
  | 0 => Nat.le_refl _
  | k + 1 => by
    have := cnt_le (t := t) k
    simp only [cnt]
    split <;> omega
def regv (c : Int) : Int := if isL c = true then c - 97 else 0
theorem regv_rg (c : Int) : 0 ≤ regv c ∧ regv c ≤ 11 := by
  unfold regv isL
  simp only [decide_eq_true_eq]
  split <;> omega
/-- one or two figures at p, nd of them, of value v, and no figure behind -/
def Nu (t : Nat → Int) (p nd : Nat) (v : Int) : Prop := isD (t p) = true ∧ ((nd = 1 ∧ v = t p - 48 ∧ isD (t (p + 1)) = false) ∨ (nd = 2 ∧ isD (t (p + 1)) = true ∧ v = 10 * (t p - 48) + t (p + 1) - 48 ∧ isD (t (p + 2)) = false))
theorem isD_rg {c : Int} (h : isD c = true) : 48 ≤ c ∧ c ≤ 57 := of_decide_eq_true h
theorem isL_rg {c : Int} (h : isL c = true) : 97 ≤ c ∧ c ≤ 108 := of_decide_eq_true h
theorem Nu.rg {t : Nat → Int} {p nd : Nat} {v : Int} (h : Nu t p nd v) : 0 ≤ v ∧ v ≤ 99 ∧ 1 ≤ nd ∧ nd ≤ 2 := by
  obtain ⟨h1, ⟨h2, h3, h4⟩ | ⟨h2, h3, h4, h5⟩⟩ := h
  · have := isD_rg h1
    omega
  · have := isD_rg h1
    have := isD_rg h3
    omega
section TXT2
variable {t : Nat → Int} {L : Nat} {μ : Mem}
theorem x_isWhole33 {m : Int} (hm : -1 ≤ m ∧ m ≤ 19) : fX7_isWhole_L33 (ic m) μ = some (b2 (decide (m = 5 ∨ m = 4)), μ) := by
  unfold fX7_isWhole_L33 fX7_isWhole_L43 b2
  simp only [ic_lit, decide_eq_true_eq]
  simp (disch := omega) only [ic_eq]
  repeat' split
  all_goals first | rfl | omega
theorem x_isWhole (hT : TX t L) (h : XT t L μ) : fX7_isWhole μ = some (b2 (whole t L), μ) := by
  have hL := hT.1
  refine loop_up (fun f (s : Int32 × Int32) => fX7_isWhole_L4 f s.1 s.2 μ) 0 L (fun k s => s = (ic (run t 0 0 k), ic (k : Int))) (fun o => o = some (b2 (whole t L), μ)) (by omega) ?_ ?_ (ic 0, ic 0) fu (fu_lt (by omega)) rfl
  · rintro f k s h1 h2 rfl
    have hr := run_rg (t := t) (s := 0) (m := 0) (by omega) k
    have hg := hT.rg k
    dsimp only
    rw [fX7_isWhole_L4]
    rw [if_neg (by rw [h.1, ic_le (by omega)]; omega), show (-1 : Int32) = ic (-1) from rfl]
    by_cases hb : run t 0 0 k = -1
    · right
      rw [if_pos (by rw [hb]), x_isWhole33 hr]
      have e1 := run_add (t := t) (m := 0) (s := 0) (d := k) (L - k)
      rw [hb, run_bad, show k + (L - k) = L by omega] at e1
      unfold whole
      rw [e1, hb]
    · left
      refine ⟨_, rfl, ?_⟩
      rw [if_neg (by rw [ic_eq (by omega)]; exact hb), x_signAt hT h (by omega), bd_some, x_modeBehind hr (by omega), bd_some, show (1 : Int32) = ic 1 from rfl, ic_add]
      dsimp only [run]
      rw [Nat.zero_add]
      rfl
  · rintro f s rfl
    have hr := run_rg (t := t) (s := 0) (m := 0) (by omega) L
    dsimp only
    rw [fX7_isWhole_L4]
    rw [if_pos (by rw [h.1, ic_le (by omega)]; omega), x_isWhole33 hr]
    rfl
theorem x_countOfSteps (hT : TX t L) (h : XT t L μ) : fX7_countOfSteps μ = some (ic ((1 + cnt t L : Nat) : Int), μ) := by
  have hL := hT.1
  refine loop_eq (fun f (s : Int32 × Int32) => fX7_countOfSteps_L4 f s.1 s.2 μ) 0 L (fun k => (ic ((1 + cnt t k : Nat) : Int), ic (k : Int))) _ (by omega) ?_ ?_ fu (fu_lt (by omega))
  · intro f k h1 h2
    have hg := hT.rg k
    dsimp only
    rw [fX7_countOfSteps_L4]
    rw [if_neg (by rw [h.1, ic_le (by omega)]; omega), x_signAt hT h (by omega), bd_some]
    simp only [ic_lit, fX7_countOfSteps_L28, cnt]
    by_cases hc : t k = 59
    · rw [if_pos (by rw [hc]), if_pos hc, ic_add, ic_add]
      rfl
    · rw [if_neg (by rw [ic_eq (by omega)]; exact hc), if_neg hc, ic_add, ic_add, Int.add_zero]
      rfl
  · intro f
    dsimp only
    rw [fX7_countOfSteps_L4]
    rw [if_pos (by rw [h.1, ic_le (by omega)]; omega)]
theorem x_registerOf (hT : TX t L) (h : XT t L μ) {i : Nat} (hi : i ≤ 1000) : fX7_registerOf μ (ic i) = some (ic (regv (t i)), μ) := by
  have hg := hT.rg i
  unfold fX7_registerOf regv
  rw [x_signAt hT h hi, bd_some, x_isLetter (by omega), bd_some, b2_if]
  simp only [ic_lit, ic_sub, ici]
theorem TX.lt (hT : TX t L) {i : Nat} (h : t i ≠ 0) : i < L := by
  by_cases hi : i < L
  · exact hi
  · exact absurd (hT.2.2 i (by omega)) h
theorem x_num_go (hT : TX t L) (h : XT t L μ) {p : Nat} (hp : p ≤ 900) (hd : isD (t p) = true) (f : Nat) (s : Int32) (v : Int) : fX7_numberOf_L31 (f + 1) s (ic v) (ic p) μ = fX7_numberOf_L31 f s (ic (10 * v + t p - 48)) (ic ((p + 1 : Nat) : Int)) μ := by
  have hg := hT.rg p
  have hr := isD_rg hd
  have hl := hT.lt (i := p) (by omega)
  have hL := hT.1
  rw [fX7_numberOf_L31]
  rw [x_signAt hT h (by omega), bd_some, x_isDigit (by omega), bd_some, b2_if, if_pos hd, if_neg (by rw [h.1, ic_le (by omega)]; omega), x_signAt hT h (by omega), bd_some]
  simp only [ic_lit]
  rw [ic_mul, ic_add, ic_sub, ic_add, Int.mul_comm v]
  rfl
theorem x_num_end (hT : TX t L) (h : XT t L μ) {p : Nat} (hp : p ≤ 900) (hd : isD (t p) = false) (f : Nat) (s : Int32) (v : Int32) : fX7_numberOf_L31 (f + 1) s v (ic p) μ = fX7_numberOf_L73 s v μ := by
  have hg := hT.rg p
  rw [fX7_numberOf_L31]
  rw [x_signAt hT h (by omega), bd_some, x_isDigit (by omega), bd_some, b2_if, if_neg (by rw [hd]; exact Bool.false_ne_true)]
theorem x_num (hT : TX t L) (h : XT t L μ) {p nd : Nat} {v : Int} (hp : p ≤ 800) (hv : Nu t p nd v) (s : Int32) : fX7_numberOf_L31 fu s (ic 0) (ic p) μ = fX7_numberOf_L73 s (ic v) μ := by
  have e0 : fu = 4997 + 1 + 1 + 1 := rfl
  obtain ⟨h1, ⟨h2, h3, h4⟩ | ⟨h2, h3, h4, h5⟩⟩ := hv
  · rw [e0, x_num_go hT h (by omega) h1, x_num_end hT h (by omega) h4, h3, show 10 * 0 + t p - 48 = t p - 48 by omega]
  · rw [e0, x_num_go hT h (by omega) h1, x_num_go hT h (by omega) h3, x_num_end hT h (by omega) h5, h4, show 10 * (10 * 0 + t p - 48) + t (p + 1) - 48 = 10 * (t p - 48) + t (p + 1) - 48 by omega]
theorem x_numberOf (hT : TX t L) (h : XT t L μ) {p nd : Nat} {v : Int} (hp : p ≤ 700) (hv : Nu t p nd v) : fX7_numberOf μ (ic p) = some (ic v, μ) := by
  have hr := isD_rg hv.1
  have hg := hT.rg p
  unfold fX7_numberOf
  rw [x_signAt hT h (by omega), bd_some, show (45 : Int32) = ic 45 from rfl, if_neg (by rw [ic_eq (by omega)]; omega)]
  unfold fX7_numberOf_L15 fX7_numberOf_L29
  rw [if_pos rfl]
  refine (x_num hT h (by omega) hv 0).trans ?_
  unfold fX7_numberOf_L73
  rw [if_pos rfl]
theorem x_numberOf_neg (hT : TX t L) (h : XT t L μ) {p nd : Nat} {v : Int} (hp : p ≤ 700) (h45 : t p = 45) (hv : Nu t (p + 1) nd v) : fX7_numberOf μ (ic p) = some (ic (-v), μ) := by
  unfold fX7_numberOf
  rw [x_signAt hT h (by omega), bd_some, h45, if_pos (by rfl)]
  unfold fX7_numberOf_L15 fX7_numberOf_L29
  rw [if_neg (by decide), show (1 : Int32) = ic 1 from rfl, ic_add]
  refine (x_num hT h (p := p + 1) (by omega) hv (ic 1)).trans ?_
  unfold fX7_numberOf_L73
  rw [if_neg (by decide), ic_neg]
theorem x_kindFor {c k : Int} (hc : (c = 43 ∧ k = 1) ∨ (c = 45 ∧ k = 2) ∨ (c = 42 ∧ k = 3) ∨ (c = 94 ∧ k = 4)) : fX7_kindFor μ (ic c) = some (ic k, μ) := by
  rcases hc with ⟨rfl, rfl⟩ | ⟨rfl, rfl⟩ | ⟨rfl, rfl⟩ | ⟨rfl, rfl⟩ <;> rfl
end TXT2

