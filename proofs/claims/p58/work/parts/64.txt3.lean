/-! THE SHAPES OF A STEP in the text: from s to e, with what it tells -/
def tl5 (a b c d e : Int) : Nat → Int := fun k => if k = 0 then a else if k = 1 then b else if k = 2 then c else if k = 3 then d else if k = 4 then e else -1
def opk (c k : Int) : Prop := (c = 43 ∧ k = 1) ∨ (c = 45 ∧ k = 2) ∨ (c = 42 ∧ k = 3) ∨ (c = 94 ∧ k = 4)
def shA (t : Nat → Int) (s e : Nat) (c : Nat → Int) : Prop := ∃ nd v, t s = 91 ∧ isL (t (s + 1)) = true ∧ t (s + 2) = 43 ∧ Nu t (s + 3) nd v ∧ v ≤ 11 ∧ t (s + 3 + nd) = 93 ∧ t (s + 4 + nd) = 61 ∧ isL (t (s + 5 + nd)) = true ∧ e = s + 6 + nd ∧ c = tl5 6 0 (t (s + 1) - 97) (t (s + 5 + nd) - 97) v
def shB (t : Nat → Int) (s e : Nat) (c : Nat → Int) : Prop := ∃ nd v, isL (t s) = true ∧ t (s + 1) = 61 ∧ t (s + 2) = 91 ∧ isL (t (s + 3)) = true ∧ t (s + 4) = 43 ∧ Nu t (s + 5) nd v ∧ v ≤ 11 ∧ t (s + 5 + nd) = 93 ∧ e = s + 6 + nd ∧ c = tl5 5 (t s - 97) (t (s + 3) - 97) 0 v
def shC (t : Nat → Int) (s e : Nat) (c : Nat → Int) : Prop := ∃ nd v, isL (t s) = true ∧ t (s + 1) = 61 ∧ ((Nu t (s + 2) nd v ∧ e = s + 2 + nd ∧ c = tl5 0 (t s - 97) 0 0 v) ∨ (t (s + 2) = 45 ∧ Nu t (s + 3) nd v ∧ e = s + 3 + nd ∧ c = tl5 0 (t s - 97) 0 0 (-v)))
def shD (t : Nat → Int) (s e : Nat) (c : Nat → Int) : Prop := ∃ k, isL (t s) = true ∧ t (s + 1) = 61 ∧ isL (t (s + 2)) = true ∧ opk (t (s + 3)) k ∧ isL (t (s + 4)) = true ∧ e = s + 5 ∧ c = tl5 k (t s - 97) (t (s + 2) - 97) (t (s + 4) - 97) 0
def Sh (t : Nat → Int) (s e : Nat) (c : Nat → Int) : Prop := shA t s e c ∨ shB t s e c ∨ shC t s e c ∨ shD t s e c
theorem regv_L {c : Int} (h : isL c = true) : regv c = c - 97 := if_pos h
theorem ck_tl5 {a b c d e : Int} (ha : 0 ≤ a ∧ a ≤ 6) (hb : 0 ≤ b ∧ b ≤ 11) (hc : 0 ≤ c ∧ c ≤ 11) (hd : 0 ≤ d ∧ d ≤ 11) (he : -99 ≤ e ∧ e ≤ 99) : CK (tl5 a b c d e) := ⟨ha, hb, hc, hd, he, rfl⟩
theorem sh_ck {t : Nat → Int} {s e : Nat} {c : Nat → Int} (h : Sh t s e c) : CK c ∧ c 5 = -1 ∧ s + 3 ≤ e := by
  rcases h with ⟨nd, v, h1, h2, h3, h4, h5, h6, h7, h8, h9, rfl⟩ | ⟨nd, v, h1, h2, h3, h4, h5, h6, h7, h8, h9, rfl⟩ | ⟨nd, v, h1, h2, ⟨h3, h4, rfl⟩ | ⟨h3, h4, h5, rfl⟩⟩ | ⟨k, h1, h2, h3, h4, h5, h6, rfl⟩
  · have := isL_rg h2
    have := isL_rg h8
    have := h4.rg
    exact ⟨ck_tl5 (by omega) (by omega) (by omega) (by omega) (by omega), rfl, by omega⟩
  · have := isL_rg h1
    have := isL_rg h4
    have := h6.rg
    exact ⟨ck_tl5 (by omega) (by omega) (by omega) (by omega) (by omega), rfl, by omega⟩
  · have := isL_rg h1
    have := h3.rg
    exact ⟨ck_tl5 (by omega) (by omega) (by omega) (by omega) (by omega), rfl, by omega⟩
  · have := isL_rg h1
    have := h4.rg
    exact ⟨ck_tl5 (by omega) (by omega) (by omega) (by omega) (by omega), rfl, by omega⟩
  · have := isL_rg h1
    have := isL_rg h3
    have := isL_rg h5
    have : 1 ≤ k ∧ k ≤ 4 := by
      unfold opk at h4
      omega
    exact ⟨ck_tl5 (by omega) (by omega) (by omega) (by omega) (by omega), rfl, by omega⟩
section TXT3
variable {t : Nat → Int} {L : Nat} {μ : Mem} {S : Nat → Int}
theorem x_putStep (hT : TX t L) (h : XT t L μ) (hX : XS 1 S μ) (hW : WF S) (hn : nn S < 20) {s e : Nat} {c : Nat → Int} (hs : s ≤ 60) (he : e ≤ 100) (hS : Sh t s e c) : ∃ μ', fX7_putStep μ (ic s) (ic e) = some ((), μ') ∧ Fr [1, 2, 3, 4, 5, 6, 7] μ μ' ∧ XS 1 (insS S (nn S) c) μ' := by
  obtain ⟨hck, h5, _⟩ := sh_ck hS
  obtain ⟨μ', e1, f1, x1⟩ := x_putIn hX hW (p := nn S) (by omega) hn c h5
  refine ⟨μ', ?_, f1, x1⟩
  have h0 : μ 1 0 = ic (nn S) := x_n hX hW
  have a1 : ∀ k : Nat, ic (s : Int) + ic (k : Int) = ic ((s + k : Nat) : Int) := fun k => by rw [ic_add]; rfl
  unfold fX7_putStep
  rw [x_signAt hT h (by omega), bd_some]
  rcases hS with ⟨nd, v, g1, g2, g3, g4, g5, g6, g7, g8, g9, rfl⟩ | ⟨nd, v, g1, g2, g3, g4, g5, g6, g7, g8, g9, rfl⟩ | ⟨nd, v, g1, g2, hC⟩ | ⟨k, g1, g2, g3, g4, g5, g6, rfl⟩
  · have r1 := a1 1
    have r3 := a1 3
    have e2 : ic (e : Int) - ic 1 = ic ((s + 5 + nd : Nat) : Int) := by rw [ic_sub, show (e : Int) - 1 = ((s + 5 + nd : Nat) : Int) by omega]
    rw [if_pos (by rw [g1]; rfl), show (1 : Int32) = ic 1 from rfl, show (3 : Int32) = ic 3 from rfl]
    rw [show ic (s : Int) + ic 1 = ic ((s + 1 : Nat) : Int) from r1, show ic (s : Int) + ic 3 = ic ((s + 3 : Nat) : Int) from r3, e2]
    have := g4.rg
    rw [x_registerOf hT h (by omega), bd_some, x_registerOf hT h (by omega), bd_some, x_numberOf hT h (by omega) g4, bd_some, h0, regv_L g2, regv_L g8]
    rw [show (6 : Int32) = ic 6 from rfl, show (0 : Int32) = ic 0 from rfl]
    rw [show fX6_putIn μ (ic (nn S)) (ic 6) (ic 0) (ic (t (s + 1) - 97)) (ic (t (s + 5 + nd) - 97)) (ic v) = some ((), μ') from e1]
    rfl
  · have hL := isL_rg g1
    have := g6.rg
    rw [show (91 : Int32) = ic 91 from rfl, if_neg (by rw [ic_eq (by omega)]; omega), x_registerOf hT h (by omega), bd_some]
    rw [show (2 : Int32) = ic 2 from rfl, show (3 : Int32) = ic 3 from rfl, show (5 : Int32) = ic 5 from rfl]
    rw [show ic (s : Int) + ic 2 = ic ((s + 2 : Nat) : Int) from a1 2, show ic (s : Int) + ic 3 = ic ((s + 3 : Nat) : Int) from a1 3, show ic (s : Int) + ic 5 = ic ((s + 5 : Nat) : Int) from a1 5]
    rw [x_signAt hT h (by omega), bd_some, if_pos (by rw [g3]), x_registerOf hT h (by omega), bd_some, x_numberOf hT h (by omega) g6, bd_some, h0, regv_L g1, regv_L g4]
    rw [show (0 : Int32) = ic 0 from rfl]
    rw [show fX6_putIn μ (ic (nn S)) (ic 5) (ic (t s - 97)) (ic (t (s + 3) - 97)) (ic 0) (ic v) = some ((), μ') from e1]
    rfl
  · have hL := isL_rg g1
    have hN : ∃ w, fX7_numberOf μ (ic ((s + 2 : Nat) : Int)) = some (ic w, μ) ∧ c = tl5 0 (t s - 97) 0 0 w ∧ t (s + 2) ≠ 91 ∧ isL (t (s + 2)) = false := by
      rcases hC with ⟨k1, k2, k3⟩ | ⟨k1, k2, k3, k4⟩
      · have := isD_rg k1.1
        exact ⟨v, x_numberOf hT h (by omega) k1, k3, by omega, decide_eq_false (by omega)⟩
      · exact ⟨-v, x_numberOf_neg hT h (by omega) k1 k2, k4, by omega, decide_eq_false (by omega)⟩
    obtain ⟨w, n1, rfl, n2, n3⟩ := hN
    have hg := hT.rg (s + 2)
    rw [show (91 : Int32) = ic 91 from rfl, if_neg (by rw [ic_eq (by omega)]; omega), x_registerOf hT h (by omega), bd_some]
    rw [show (2 : Int32) = ic 2 from rfl]
    rw [show ic (s : Int) + ic 2 = ic ((s + 2 : Nat) : Int) from a1 2]
    rw [x_signAt hT h (by omega), bd_some, if_neg (by rw [ic_eq (by omega)]; exact n2), x_signAt hT h (by omega), bd_some, x_isLetter (by omega), bd_some, b2_if, if_neg (by rw [n3]; exact Bool.false_ne_true), n1, bd_some, h0, regv_L g1]
    rw [show (0 : Int32) = ic 0 from rfl]
    rw [show fX6_putIn μ (ic (nn S)) (ic 0) (ic (t s - 97)) (ic 0) (ic 0) (ic w) = some ((), μ') from e1]
    rfl
  · have hL := isL_rg g1
    have hL2 := isL_rg g3
    rw [show (91 : Int32) = ic 91 from rfl, if_neg (by rw [ic_eq (by omega)]; omega), x_registerOf hT h (by omega), bd_some]
    rw [show (2 : Int32) = ic 2 from rfl, show (3 : Int32) = ic 3 from rfl, show (4 : Int32) = ic 4 from rfl]
    rw [show ic (s : Int) + ic 2 = ic ((s + 2 : Nat) : Int) from a1 2, show ic (s : Int) + ic 3 = ic ((s + 3 : Nat) : Int) from a1 3, show ic (s : Int) + ic 4 = ic ((s + 4 : Nat) : Int) from a1 4]
    rw [x_signAt hT h (by omega), bd_some, if_neg (by rw [ic_eq (by omega)]; omega), x_signAt hT h (by omega), bd_some, x_isLetter (by omega), bd_some, b2_if, if_pos g3, x_signAt hT h (by omega), bd_some, x_kindFor g4, bd_some, x_registerOf hT h (by omega), bd_some, x_registerOf hT h (by omega), bd_some, h0, regv_L g1, regv_L g3, regv_L g5]
    rw [show (0 : Int32) = ic 0 from rfl]
    rw [show fX6_putIn μ (ic (nn S)) (ic k) (ic (t s - 97)) (ic (t (s + 2) - 97)) (ic (t (s + 4) - 97)) (ic 0) = some ((), μ') from e1]
    rfl
end TXT3

