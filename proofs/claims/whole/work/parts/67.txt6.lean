/-! a step told, by the reference, beside the modes -/
section TXT6
variable {t : Nat → Int} {L K s : Nat} {μ : Mem} {f : Nat → Int}
theorem p_see1 (hT : TX t L) (h : RB t L K μ) (hs : s ≤ 60) {c : Int} (hc : 1 ≤ c ∧ c ≤ 126) (he : t s = c) : fX9_sees (PM μ K s f) (ic c) = some (1, PM μ K (s + 1) f) := by
  rw [p_sees hT h hs hc, decide_eq_true he, if_pos he]
  rfl
theorem p_see0 (hT : TX t L) (h : RB t L K μ) (hs : s ≤ 60) {c : Int} (hc : 1 ≤ c ∧ c ≤ 126) (he : t s ≠ c) : fX9_sees (PM μ K s f) (ic c) = some (0, PM μ K s f) := by
  rw [p_sees hT h hs hc, decide_eq_false he, if_neg he]
  rfl
theorem p_reg1 (hT : TX t L) (h : RB t L K μ) (hs : s ≤ 60) {k : Nat} (hk : k < 5) (hb : isL (t s) = true) : fX9_isRegister (PM μ K s f) (ic k) = some (1, PM μ K (s + 1) (updf f k (t s - 97))) := by
  rw [p_isRegister hT h hs hk, regv_L hb, hb, if_pos rfl]
  rfl
theorem p_reg0 (hT : TX t L) (h : RB t L K μ) (hs : s ≤ 60) {k : Nat} (hk : k < 5) (hb : isL (t s) = false) : fX9_isRegister (PM μ K s f) (ic k) = some (0, PM μ K s (updf f k (regv (t s)))) := by
  rw [p_isRegister hT h hs hk, hb, if_neg (by decide)]
  rfl
theorem cm_m {m me : Int} (h : Cm m me) : 8 ≤ m ∧ m ≤ 13 ∧ 5 ≤ me := by
  unfold Cm at h
  omega
theorem p_cell (hT : TX t L) (h : RB t L K μ) {m0 m me : Int} (hm : Cm m me) {s0 : Nat} (hR : Rn t m0 s0 m (s + 1)) (h91 : t s = 91) (hs0 : s0 ≤ L) : ∃ ok e f', fX9_isCell (PM μ K s f) = some (b2 ok, PM μ K e f') ∧ (ok = false → Bd t m0 s0 e) ∧ (ok = true → ∃ nd v, isL (t (s + 1)) = true ∧ t (s + 2) = 43 ∧ Nu t (s + 3) nd v ∧ v ≤ 11 ∧ t (s + 3 + nd) = 93 ∧ e = s + 4 + nd ∧ f' = updf (updf f 2 (t (s + 1) - 97)) 4 v ∧ Rn t m0 s0 me e) := by
  have hL := hT.1
  have hmm := cm_m hm
  have l1 := rn_le hT hR hs0 (by omega)
  unfold fX9_isCell
  rw [show (91 : Int32) = ic 91 from rfl, show (2 : Int32) = ic ((2 : Nat) : Int) from rfl, show (43 : Int32) = ic 43 from rfl, show (11 : Int32) = ic 11 from rfl, show (93 : Int32) = ic 93 from rfl]
  rw [p_see1 hT h (by omega) (by omega) h91, bd_some, if_neg (by decide)]
  cases hb : isL (t (s + 1))
  · rw [p_reg0 hT h (by omega) (by omega) hb, bd_some, if_pos rfl]
    refine ⟨false, s + 1, _, rfl, fun _ => ⟨m, hR, by omega, ?_⟩, fun q => by cases q⟩
    rw [cm_a hm, if_neg (by rw [hb]; decide)]
  · rw [p_reg1 hT h (by omega) (by omega) hb, bd_some, if_neg (by decide)]
    have hr1 := isL_rg hb
    have R2 : Rn t m0 s0 (m + 1) (s + 2) := rn_step hR (by rw [cm_a hm, if_pos hb]) (by omega)
    have l2 := rn_le hT R2 hs0 (by omega)
    by_cases h43 : t (s + 2) = 43
    · rw [show s + 1 + 1 = s + 2 from rfl, p_see1 hT h (by omega) (by omega) h43, bd_some, if_neg (by decide)]
      have R3 : Rn t m0 s0 (m + 2) (s + 3) := rn_step R2 (by rw [cm_b hm, if_pos h43]) (by omega)
      have l3 := rn_le hT R3 hs0 (by omega)
      cases hd : isD (t (s + 3))
      · rw [show s + 2 + 1 = s + 3 from rfl, p_isNumber0 hT h (by omega) hd, bd_some, if_pos rfl]
        refine ⟨false, s + 3, _, rfl, fun _ => ⟨m + 2, R3, by omega, ?_⟩, fun q => by cases q⟩
        have hd' := of_decide_eq_false hd
        rw [cm_c hm, if_neg (by omega), if_neg (by rw [hd]; decide)]
      · have hr3 := isD_rg hd
        have l3' := hT.lt (i := s + 3) (by omega)
        obtain ⟨q, R4, hq, hdq, hN⟩ := num_11 hm R3 hd
        have l4 := rn_le hT R4 hs0 (by omega)
        rw [show s + 2 + 1 = s + 3 from rfl, p_isNumber1 hT h (by omega) (by omega) hd, bd_some, if_neg (by decide)]
        by_cases h93 : t (s + 3 + nN t (s + 3) 11) = 93
        · rw [p_see1 hT h (by omega) (by omega) h93, bd_some, if_neg (by decide)]
          refine ⟨true, s + 3 + nN t (s + 3) 11 + 1, _, rfl, fun q => (by cases q), fun _ => ⟨nN t (s + 3) 11, vN t (s + 3) 11, rfl, h43, (hN h93).1, (hN h93).2, h93, by omega, rfl, rn_step R4 (by rw [hdq, if_pos h93]) (by omega)⟩⟩
        · rw [p_see0 hT h (by omega) (by omega) h93, bd_some, if_pos rfl]
          refine ⟨false, s + 3 + nN t (s + 3) 11, _, rfl, fun _ => ⟨q, R4, by omega, by rw [hdq, if_neg h93]⟩, fun q => by cases q⟩
    · rw [show s + 1 + 1 = s + 2 from rfl, p_see0 hT h (by omega) (by omega) h43, bd_some, if_pos rfl]
      refine ⟨false, s + 2, _, rfl, fun _ => ⟨m + 1, R2, by omega, ?_⟩, fun q => by cases q⟩
      rw [cm_b hm, if_neg h43]
theorem p_operation (hT : TX t L) (h : RB t L K μ) {m0 : Int} {s0 : Nat} (hR : Rn t m0 s0 6 s) (hs0 : s0 ≤ L) : ∃ ok e f', fX9_isOperation (PM μ K s f) = some (b2 ok, PM μ K e f') ∧ (ok = false → Bd t m0 s0 e) ∧ (ok = true → ∃ k, opk (t s) k ∧ isL (t (s + 1)) = true ∧ e = s + 2 ∧ f' = updf (updf f 0 k) 3 (t (s + 1) - 97) ∧ Rn t m0 s0 5 e) := by
  have hL := hT.1
  have hg := hT.rg s
  have l1 := rn_le hT hR hs0 (by omega)
  have key : (∃ k, opk (t s) k ∧ fX9_isOperation (PM μ K s f) = fX9_isOperation_L46 (ic k) (PM μ K s f)) ∨ (isB (t s) = false ∧ fX9_isOperation (PM μ K s f) = fX9_isOperation_L46 (ic 0) (PM μ K s f)) := by
    unfold fX9_isOperation
    rw [p_sign hT h (by omega), bd_some]
    rw [show (43 : Int32) = ic 43 from rfl, show (45 : Int32) = ic 45 from rfl, show (42 : Int32) = ic 42 from rfl, show (94 : Int32) = ic 94 from rfl]
    by_cases c1 : t s = 43
    · left
      exact ⟨1, Or.inl ⟨c1, rfl⟩, by rw [if_pos (by rw [c1])]; rfl⟩
    · rw [if_neg (by rw [ic_eq (by omega)]; exact c1)]
      by_cases c2 : t s = 45
      · left
        exact ⟨2, Or.inr (Or.inl ⟨c2, rfl⟩), by rw [if_pos (by rw [c2])]; rfl⟩
      · rw [if_neg (by rw [ic_eq (by omega)]; exact c2)]
        by_cases c3 : t s = 42
        · left
          exact ⟨3, Or.inr (Or.inr (Or.inl ⟨c3, rfl⟩)), by rw [if_pos (by rw [c3])]; rfl⟩
        · rw [if_neg (by rw [ic_eq (by omega)]; exact c3)]
          by_cases c4 : t s = 94
          · left
            exact ⟨4, Or.inr (Or.inr (Or.inr ⟨c4, rfl⟩)), by rw [if_pos (by rw [c4])]; rfl⟩
          · right
            exact ⟨decide_eq_false (by omega), by rw [if_neg (by rw [ic_eq (by omega)]; exact c4)]; rfl⟩
  rcases key with ⟨k, hk, e1⟩ | ⟨hB, e1⟩
  · have hk2 : 1 ≤ k ∧ k ≤ 4 ∧ isB (t s) = true ∧ t s ≠ 59 := by
      unfold opk at hk
      refine ⟨by omega, by omega, decide_eq_true (by omega), by omega⟩
    have R2 : Rn t m0 s0 7 (s + 1) := rn_step hR (by rw [d_6, if_pos hk2.2.2.1]) hk2.2.2.2
    have l2 := rn_le hT R2 hs0 (by omega)
    rw [e1]
    unfold fX9_isOperation_L46 fX9_isOperation_L67
    rw [show (0 : Int32) = ic ((0 : Nat) : Int) from rfl, p_tell h (by omega), bd_some, if_neg (by rw [ic_eq (by omega)]; omega)]
    simp only [pt, pm_23, show (1 : Int32) = ic 1 from rfl, ic_add, Option.bind_some]
    rw [show (s : Int) + 1 = ((s + 1 : Nat) : Int) from rfl, pm_mu23, if_neg (by rw [ic_le (by omega)]; omega), show (3 : Int32) = ic ((3 : Nat) : Int) from rfl]
    cases hb : isL (t (s + 1))
    · rw [p_reg0 hT h (by omega) (by omega) hb, bd_some, if_pos (by rfl)]
      refine ⟨false, s + 1, _, rfl, fun _ => ⟨7, R2, by omega, ?_⟩, fun q => by cases q⟩
      rw [d_7, if_neg (by rw [hb]; decide)]
    · have hr1 := isL_rg hb
      rw [p_reg1 hT h (by omega) (by omega) hb, bd_some, if_neg (by decide)]
      exact ⟨true, s + 2, _, rfl, fun q => (by cases q), fun _ => ⟨k, hk, rfl, rfl, rfl, rn_step R2 (by rw [d_7, if_pos hb]) (by omega)⟩⟩
  · rw [e1]
    unfold fX9_isOperation_L46 fX9_isOperation_L67
    rw [show (0 : Int32) = ic ((0 : Nat) : Int) from rfl, p_tell h (by omega), bd_some, if_pos (by rfl)]
    simp only [pt, pm_23, ic_add, Option.bind_some]
    rw [show (s : Int) + ((0 : Nat) : Int) = (s : Int) by omega, pm_mu23, if_pos (by rw [ic_le (by omega)]; omega)]
    refine ⟨false, s, _, rfl, fun _ => ⟨6, hR, by omega, ?_⟩, fun q => by cases q⟩
    rw [d_6, if_neg (by rw [hB]; decide)]
end TXT6
