/-! the reference's reading beside the class's modes -/
def Rn (t : Nat → Int) (m : Int) (s : Nat) (q : Int) (e : Nat) : Prop := s ≤ e ∧ run t m s (e - s) = q ∧ ∀ i, s ≤ i → i < e → t i ≠ 59
def Bd (t : Nat → Int) (m : Int) (s e : Nat) : Prop := ∃ q, Rn t m s q e ∧ (q ≠ -1 ∧ q ≠ 4 ∧ q ≠ 5) ∧ dst q (t e) = -1
theorem rn0 {t : Nat → Int} {m : Int} {s : Nat} : Rn t m s m s := ⟨Nat.le_refl _, by rw [Nat.sub_self]; rfl, fun i h1 h2 => absurd h1 (by omega)⟩
theorem rn_step {t : Nat → Int} {m q q' : Int} {s e : Nat} (h : Rn t m s q e) (hd : dst q (t e) = q') (hc : t e ≠ 59) : Rn t m s q' (e + 1) := by
  obtain ⟨h1, h2, h3⟩ := h
  refine ⟨by omega, ?_, fun i h4 h5 => ?_⟩
  · rw [show e + 1 - s = (e - s) + 1 by omega]
    simp only [run]
    rw [h2, show s + (e - s) = e by omega, hd]
  · by_cases hi : i = e
    · rw [hi]
      exact hc
    · exact h3 i h4 (by omega)
theorem rn_le {t : Nat → Int} {L : Nat} {m q : Int} {s e : Nat} (hT : TX t L) (h : Rn t m s q e) (hs : s ≤ L) (hq : q ≠ -1) : e ≤ L := by
  by_cases he : e ≤ L
  · exact he
  · exfalso
    have h1 := h.1
    have e1 := run_add (t := t) (m := m) (s := s) (d := L - s + 1) (e - L - 1)
    rw [show L - s + 1 + (e - L - 1) = e - s by omega, h.2.1] at e1
    have e2 : run t m s (L - s + 1) = -1 := by
      simp only [run]
      rw [hT.2.2 _ (by omega), dst_0]
    rw [e2, run_bad] at e1
    exact hq e1
theorem d_0 (c : Int) : dst 0 c = if c = 91 then 13 else if isL c = true then 1 else -1 := rfl
theorem d_1 (c : Int) : dst 1 c = if c = 61 then 2 else -1 := rfl
theorem d_2 (c : Int) : dst 2 c = dRt c := rfl
theorem d_3 (c : Int) : dst 3 c = dNum c := rfl
theorem d_4 (c : Int) : dst 4 c = if isD c = true then 5 else if c = 59 then 0 else -1 := rfl
theorem d_5 (c : Int) : dst 5 c = if c = 59 then 0 else -1 := rfl
theorem d_6 (c : Int) : dst 6 c = if isB c = true then 7 else -1 := rfl
theorem d_7 (c : Int) : dst 7 c = if isL c = true then 5 else -1 := rfl
theorem d_8 (c : Int) : dst 8 c = if isL c = true then 9 else -1 := rfl
theorem d_9 (c : Int) : dst 9 c = if c = 43 then 10 else -1 := rfl
theorem d_10 (c : Int) : dst 10 c = if c = 49 then 11 else if isD c = true then 12 else -1 := rfl
theorem d_11 (c : Int) : dst 11 c = if c = 48 then 12 else if c = 49 then 12 else if c = 93 then 5 else -1 := rfl
theorem d_12 (c : Int) : dst 12 c = if c = 93 then 5 else -1 := rfl
theorem d_13 (c : Int) : dst 13 c = if isL c = true then 14 else -1 := rfl
theorem d_14 (c : Int) : dst 14 c = if c = 43 then 15 else -1 := rfl
theorem d_15 (c : Int) : dst 15 c = if c = 49 then 16 else if isD c = true then 17 else -1 := rfl
theorem d_16 (c : Int) : dst 16 c = if c = 48 then 17 else if c = 49 then 17 else if c = 93 then 18 else -1 := rfl
theorem d_17 (c : Int) : dst 17 c = if c = 93 then 18 else -1 := rfl
theorem d_18 (c : Int) : dst 18 c = if c = 61 then 19 else -1 := rfl
theorem d_19 (c : Int) : dst 19 c = if isL c = true then 5 else -1 := rfl
/-- the four modes of a cell's reading, in a load or in a store -/
def Cm (m me : Int) : Prop := (m = 8 ∧ me = 5) ∨ (m = 13 ∧ me = 18)
theorem cm_a {m me : Int} (h : Cm m me) (c : Int) : dst m c = if isL c = true then m + 1 else -1 := by
  rcases h with ⟨rfl, rfl⟩ | ⟨rfl, rfl⟩ <;> rfl
theorem cm_b {m me : Int} (h : Cm m me) (c : Int) : dst (m + 1) c = if c = 43 then m + 2 else -1 := by
  rcases h with ⟨rfl, rfl⟩ | ⟨rfl, rfl⟩ <;> rfl
theorem cm_c {m me : Int} (h : Cm m me) (c : Int) : dst (m + 2) c = if c = 49 then m + 3 else if isD c = true then m + 4 else -1 := by
  rcases h with ⟨rfl, rfl⟩ | ⟨rfl, rfl⟩ <;> rfl
theorem cm_d {m me : Int} (h : Cm m me) (c : Int) : dst (m + 3) c = if c = 48 then m + 4 else if c = 49 then m + 4 else if c = 93 then me else -1 := by
  rcases h with ⟨rfl, rfl⟩ | ⟨rfl, rfl⟩ <;> rfl
theorem cm_e {m me : Int} (h : Cm m me) (c : Int) : dst (m + 4) c = if c = 93 then me else -1 := by
  rcases h with ⟨rfl, rfl⟩ | ⟨rfl, rfl⟩ <;> rfl
theorem nN_rg {t : Nat → Int} {p : Nat} {B : Int} : 1 ≤ nN t p B ∧ nN t p B ≤ 2 := by
  unfold nN
  repeat' split
  all_goals omega
/-- a number in a cell -/
theorem num_11 {t : Nat → Int} {m0 m me : Int} {s p : Nat} (hm : Cm m me) (h : Rn t m0 s (m + 2) p) (hd : isD (t p) = true) : ∃ q, Rn t m0 s q (p + nN t p 11) ∧ (q = m + 3 ∨ q = m + 4) ∧ dst q (t (p + nN t p 11)) = (if t (p + nN t p 11) = 93 then me else -1) ∧ (t (p + nN t p 11) = 93 → Nu t p (nN t p 11) (vN t p 11) ∧ vN t p 11 ≤ 11) := by
  have hr := isD_rg hd
  have e1 := cm_c hm (t p)
  by_cases h48 : t p = 48
  · have n1 : nN t p 11 = 1 := by
      unfold nN
      rw [if_pos h48]
    have v1 : vN t p 11 = t p - 48 := by
      unfold vN
      rw [n1, if_neg (by omega)]
    rw [n1, v1]
    rw [if_neg (by omega), if_pos hd] at e1
    refine ⟨m + 4, rn_step h e1 (by omega), Or.inr rfl, cm_e hm _, fun h93 => ⟨⟨hd, Or.inl ⟨rfl, rfl, ?_⟩⟩, by omega⟩⟩
    rw [h93]
    rfl
  · by_cases h49 : t p = 49
    · rw [if_pos h49] at e1
      have h3 := rn_step h e1 (by omega)
      by_cases h2 : t (p + 1) = 48 ∨ t (p + 1) = 49
      · have hd1 : isD (t (p + 1)) = true := decide_eq_true (by omega)
        have n1 : nN t p 11 = 2 := by
          unfold nN
          rw [if_neg h48, if_pos ⟨hd1, by omega⟩]
        have v1 : vN t p 11 = 10 * (t p - 48) + t (p + 1) - 48 := by
          unfold vN
          rw [n1, if_pos rfl]
        rw [n1, v1]
        have e2 : dst (m + 3) (t (p + 1)) = m + 4 := by
          rw [cm_d hm]
          split
          · rfl
          · rw [if_pos (by omega)]
        refine ⟨m + 4, rn_step h3 e2 (by omega), Or.inr rfl, cm_e hm _, fun h93 => ⟨⟨hd, Or.inr ⟨rfl, hd1, rfl, ?_⟩⟩, by omega⟩⟩
        rw [h93]
        rfl
      · have n1 : nN t p 11 = 1 := by
          unfold nN
          rw [if_neg h48, if_neg]
          rintro ⟨a1, a2⟩
          have := isD_rg a1
          omega
        have v1 : vN t p 11 = t p - 48 := by
          unfold vN
          rw [n1, if_neg (by omega)]
        rw [n1, v1]
        refine ⟨m + 3, h3, Or.inl rfl, ?_, fun h93 => ⟨⟨hd, Or.inl ⟨rfl, rfl, ?_⟩⟩, by omega⟩⟩
        · rw [cm_d hm, if_neg (by omega), if_neg (by omega)]
        · rw [h93]
          rfl
    · have n1 : nN t p 11 = 1 := by
        unfold nN
        rw [if_neg h48, if_neg]
        rintro ⟨a1, a2⟩
        have := isD_rg a1
        omega
      have v1 : vN t p 11 = t p - 48 := by
        unfold vN
        rw [n1, if_neg (by omega)]
      rw [n1, v1]
      rw [if_neg h49, if_pos hd] at e1
      refine ⟨m + 4, rn_step h e1 (by omega), Or.inr rfl, cm_e hm _, fun h93 => ⟨⟨hd, Or.inl ⟨rfl, rfl, ?_⟩⟩, by omega⟩⟩
      rw [h93]
      rfl
/-- a number that is set -/
theorem num_99 {t : Nat → Int} {m0 m : Int} {s p : Nat} (h : Rn t m0 s m p) (hm : dst m (t p) = dNum (t p)) (hd : isD (t p) = true) : ∃ q, Rn t m0 s q (p + nN t p 99) ∧ (q = 5 ∨ (q = 4 ∧ isD (t (p + nN t p 99)) = false)) ∧ (isD (t (p + nN t p 99)) = false → Nu t p (nN t p 99) (vN t p 99)) := by
  have hr := isD_rg hd
  unfold dNum at hm
  by_cases h48 : t p = 48
  · have n1 : nN t p 99 = 1 := by
      unfold nN
      rw [if_pos h48]
    have v1 : vN t p 99 = t p - 48 := by
      unfold vN
      rw [n1, if_neg (by omega)]
    rw [n1, v1]
    rw [if_pos h48] at hm
    exact ⟨5, rn_step h hm (by omega), Or.inl rfl, fun h93 => ⟨hd, Or.inl ⟨rfl, rfl, h93⟩⟩⟩
  · rw [if_neg h48, if_pos hd] at hm
    have h3 := rn_step h hm (by omega)
    cases hd1 : isD (t (p + 1))
    · have n1 : nN t p 99 = 1 := by
        unfold nN
        rw [if_neg h48, if_neg (by rw [hd1]; rintro ⟨q, _⟩; cases q)]
      have v1 : vN t p 99 = t p - 48 := by
        unfold vN
        rw [n1, if_neg (by omega)]
      rw [n1, v1]
      exact ⟨4, h3, Or.inr ⟨rfl, hd1⟩, fun h93 => ⟨hd, Or.inl ⟨rfl, rfl, h93⟩⟩⟩
    · have hr1 := isD_rg hd1
      have n1 : nN t p 99 = 2 := by
        unfold nN
        rw [if_neg h48, if_pos ⟨hd1, by omega⟩]
      have v1 : vN t p 99 = 10 * (t p - 48) + t (p + 1) - 48 := by
        unfold vN
        rw [n1, if_pos rfl]
      rw [n1, v1]
      have e2 : dst 4 (t (p + 1)) = 5 := by
        rw [d_4, if_pos hd1]
      exact ⟨5, rn_step h3 e2 (by omega), Or.inl rfl, fun h93 => ⟨hd, Or.inr ⟨rfl, hd1, rfl, h93⟩⟩⟩

