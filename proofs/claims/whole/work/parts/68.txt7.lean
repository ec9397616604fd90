/-! a whole step told -/
def TOK (t : Nat → Int) (s e : Nat) (c : Nat → Int) : Prop := (∃ q, Rn t 0 s q e ∧ (q = 5 ∨ (q = 4 ∧ isD (t e) = false))) ∧ (isD (t e) = false → Sh t s e c)
section TXT7
variable {t : Nat → Int} {L K s : Nat} {μ : Mem} {f : Nat → Int}
theorem p_told_step (h : RB t L K μ) {i : Nat} (hi : i < 5) (n : Nat) : fX9_isTold_L2 (n + 1) (ic (i : Int)) (PM μ K s f) = fX9_isTold_L2 n (ic ((i + 1 : Nat) : Int)) (PM μ K s (updf f i 0)) := by
  rw [fX9_isTold_L2]
  rw [show (5 : Int32) = ic 5 from rfl, if_neg (by rw [ic_le (by omega)]; omega), show (0 : Int32) = ic 0 from rfl, p_tell h hi, bd_some, show (1 : Int32) = ic 1 from rfl, ic_add]
  rfl
theorem p_told_num (hT : TX t L) (h : RB t L K μ) {p : Nat} {m : Int} {neg : Int32} {sg : Int} (hn : (neg = 0 ∧ sg = 1) ∨ (neg = 1 ∧ sg = -1)) (hR : Rn t 0 s m p) (hm : m = 2 ∨ m = 3) (hd : dst m (t p) = dNum (t p)) (hsL : s ≤ L) : ∃ ok e c, (bd (fX9_isNumber (PM μ K p f) (ic 99)) fun r56 μ55 => if r56 = 0 then fX9_isTold_L186 r56 (0 : Int32) (4 : Int32) μ55 else if neg = 0 then fX9_isTold_L168 r56 (1 : Int32) (4 : Int32) μ55 else fX9_isTold_L168 r56 (-1 : Int32) (4 : Int32) μ55) = some (b2 ok, PM μ K e c) ∧ (ok = false → Bd t 0 s e) ∧ (ok = true → ∃ nd v, e = p + nd ∧ c = updf (updf f 4 v) 4 (sg * v) ∧ (∃ q, Rn t 0 s q e ∧ (q = 5 ∨ (q = 4 ∧ isD (t e) = false))) ∧ (isD (t e) = false → Nu t p nd v)) := by
  have hL := hT.1
  have hK := h.2.2.2
  have l1 := rn_le hT hR hsL (by omega)
  cases hb : isD (t p)
  · rw [p_isNumber0 hT h (by omega) hb, bd_some, if_pos rfl]
    unfold fX9_isTold_L186
    rw [show (0 : Int32) = ic 0 from rfl, show (4 : Int32) = ic ((4 : Nat) : Int) from rfl, p_tell h (by omega), bd_some]
    refine ⟨false, p, _, rfl, fun _ => ⟨m, hR, by omega, ?_⟩, fun q => by cases q⟩
    have hb' := of_decide_eq_false hb
    rw [hd]
    unfold dNum
    rw [if_neg (by omega), if_neg (by rw [hb]; decide)]
  · have hr := isD_rg hb
    have l2 := hT.lt (i := p) (by omega)
    have hN := nN_rg (t := t) (p := p) (B := 99)
    obtain ⟨q, R2, hq, hN2⟩ := num_99 hR hd hb
    rw [p_isNumber1 hT h (by omega) (by omega) hb, bd_some, if_neg (by decide)]
    have e1 : ∀ g : Int, fX9_isTold_L168 1 (ic g) 4 (PM μ K (p + nN t p 99) (updf f 4 (vN t p 99))) = some (1, PM μ K (p + nN t p 99) (updf (updf f 4 (vN t p 99)) 4 (g * vN t p 99))) := fun g => by
      unfold fX9_isTold_L168 fX9_isTold_L186
      rw [pmt_0 (by omega), h.2.2.1, show (5 : Int32) = ic 5 from rfl, show (4 : Int32) = ic ((4 : Nat) : Int) from rfl, ic_mul, ic_add, ld_k (5 * K + 4) (by omega) (by omega), Option.bind_some, pmt_20 (by omega), ic_mul, p_tell h (by omega), bd_some]
      rfl
    rcases hn with ⟨rfl, rfl⟩ | ⟨rfl, rfl⟩
    · have e2 := e1 1
      rw [show ic 1 = (1 : Int32) from rfl] at e2
      rw [if_pos rfl, e2]
      exact ⟨true, _, _, rfl, fun q => (by cases q), fun _ => ⟨_, _, rfl, rfl, ⟨q, R2, hq⟩, hN2⟩⟩
    · have e2 := e1 (-1)
      rw [show ic (-1) = (-1 : Int32) from rfl] at e2
      rw [if_neg (by decide), e2]
      exact ⟨true, _, _, rfl, fun q => (by cases q), fun _ => ⟨_, _, rfl, rfl, ⟨q, R2, hq⟩, hN2⟩⟩
theorem updf_4 {v w : Int} {g : Nat → Int} : updf (updf g 4 v) 4 w = updf g 4 w := by
  funext j
  unfold updf
  split <;> rfl
theorem tl_0 {a b c d e v : Int} : updf (tl5 a b c d e) 0 v = tl5 v b c d e := by
  funext j
  unfold updf tl5
  repeat' split
  all_goals first | rfl | omega
theorem tl_1 {a b c d e v : Int} : updf (tl5 a b c d e) 1 v = tl5 a v c d e := by
  funext j
  unfold updf tl5
  repeat' split
  all_goals first | rfl | omega
theorem tl_2 {a b c d e v : Int} : updf (tl5 a b c d e) 2 v = tl5 a b v d e := by
  funext j
  unfold updf tl5
  repeat' split
  all_goals first | rfl | omega
theorem tl_3 {a b c d e v : Int} : updf (tl5 a b c d e) 3 v = tl5 a b c v e := by
  funext j
  unfold updf tl5
  repeat' split
  all_goals first | rfl | omega
theorem tl_4 {a b c d e v : Int} : updf (tl5 a b c d e) 4 v = tl5 a b c d v := by
  funext j
  unfold updf tl5
  repeat' split
  all_goals first | rfl | omega
theorem p_told5 (hT : TX t L) (h : RB t L K μ) (hsL : s ≤ L) (n : Nat) : ∃ ok e c, fX9_isTold_L2 (n + 1) (ic 5) (PM μ K s (tl5 0 0 0 0 0)) = some (b2 ok, PM μ K e c) ∧ (ok = false → Bd t 0 s e) ∧ (ok = true → TOK t s e c) := by
  have hL := hT.1
  have hg := hT.rg s
  have hg2 := hT.rg (s + 2)
  rw [fX9_isTold_L2]
  rw [show (5 : Int32) = ic 5 from rfl, if_pos (by rw [ic_le (by omega)]; omega), p_sign hT h (by omega), bd_some]
  rw [show (91 : Int32) = ic 91 from rfl, show (61 : Int32) = ic 61 from rfl, show (3 : Int32) = ic ((3 : Nat) : Int) from rfl, show (6 : Int32) = ic 6 from rfl, show (97 : Int32) = ic 97 from rfl, show (108 : Int32) = ic 108 from rfl, show (45 : Int32) = ic 45 from rfl, show (99 : Int32) = ic 99 from rfl]
  by_cases h91 : t s = 91
  · have R1 : Rn t 0 s 13 (s + 1) := rn_step rn0 (by rw [d_0, if_pos h91]) (by omega)
    obtain ⟨ok, e, f', e1, b1, k1⟩ := p_cell (f := updf (tl5 0 0 0 0 0) 0 6) hT h (Or.inr ⟨rfl, rfl⟩ : Cm 13 18) R1 h91 hsL
    rw [if_pos (by rw [h91]), show fX9_tell (PM μ K s (tl5 0 0 0 0 0)) 0 (ic 6) = some ((), PM μ K s (updf (tl5 0 0 0 0 0) 0 6)) from p_tell (k := 0) h (by omega) 6, bd_some, e1, bd_some]
    cases ok
    · rw [if_pos (by rfl)]
      exact ⟨false, e, f', rfl, b1, fun q => by cases q⟩
    · rw [if_neg (by decide)]
      obtain ⟨nd, v, g2, g3, g4, g5, g6, g7, rfl, R2⟩ := k1 rfl
      have l2 := rn_le hT R2 hsL (by omega)
      by_cases h61 : t e = 61
      · rw [p_see1 hT h (by omega) (by omega) h61, bd_some, if_neg (by decide)]
        have R3 : Rn t 0 s 19 (e + 1) := rn_step R2 (by rw [d_18, if_pos h61]) (by omega)
        have l3 := rn_le hT R3 hsL (by omega)
        cases hb : isL (t (e + 1))
        · rw [p_reg0 hT h (by omega) (by omega) hb, bd_some, if_pos rfl]
          exact ⟨false, e + 1, _, rfl, fun _ => ⟨19, R3, by omega, by rw [d_19, if_neg (by rw [hb]; decide)]⟩, fun q => by cases q⟩
        · have hr := isL_rg hb
          rw [p_reg1 hT h (by omega) (by omega) hb, bd_some, if_neg (by decide)]
          refine ⟨true, e + 2, _, rfl, fun q => (by cases q), fun _ => ⟨⟨5, rn_step R3 (by rw [d_19, if_pos hb]) (by omega), Or.inl rfl⟩, fun _ => Or.inl ⟨nd, v, h91, g2, g3, g4, g5, g6, ?_, ?_, by omega, ?_⟩⟩⟩
          · rw [show s + 4 + nd = e by omega]
            exact h61
          · rw [show s + 5 + nd = e + 1 by omega]
            exact hb
          · rw [tl_0, tl_2, tl_4, tl_3, show s + 5 + nd = e + 1 by omega]
      · rw [p_see0 hT h (by omega) (by omega) h61, bd_some, if_pos rfl]
        exact ⟨false, e, _, rfl, fun _ => ⟨18, R2, by omega, by rw [d_18, if_neg h61]⟩, fun q => by cases q⟩
  · rw [if_neg (by rw [ic_eq (by omega)]; exact h91), show (1 : Int32) = ic ((1 : Nat) : Int) from rfl]
    cases hb : isL (t s)
    · rw [p_reg0 hT h (by omega) (by omega) hb, bd_some, if_pos rfl]
      exact ⟨false, s, _, rfl, fun _ => ⟨0, rn0, by omega, by rw [d_0, if_neg h91, if_neg (by rw [hb]; decide)]⟩, fun q => by cases q⟩
    · have hr := isL_rg hb
      rw [p_reg1 hT h (by omega) (by omega) hb, bd_some, if_neg (by decide), tl_1]
      have R1 : Rn t 0 s 1 (s + 1) := rn_step rn0 (by rw [d_0, if_neg h91, if_pos hb]) (by omega)
      have l1 := rn_le hT R1 hsL (by omega)
      by_cases h61 : t (s + 1) = 61
      · rw [p_see1 hT h (by omega) (by omega) h61, bd_some, if_neg (by decide)]
        have R2 : Rn t 0 s 2 (s + 2) := rn_step R1 (by rw [d_1, if_pos h61]) (by omega)
        have l2 := rn_le hT R2 hsL (by omega)
        rw [show s + 1 + 1 = s + 2 from rfl, p_sign hT h (by omega), bd_some]
        by_cases hc : t (s + 2) = 91
        · have R3 : Rn t 0 s 8 (s + 3) := rn_step R2 (by rw [hc]; rfl) (by omega)
          obtain ⟨ok, e, f', e1, b1, k1⟩ := p_cell (f := updf (tl5 0 (t s - 97) 0 0 0) 0 5) hT h (Or.inl ⟨rfl, rfl⟩ : Cm 8 5) R3 hc hsL
          rw [if_pos (by rw [hc]), show fX9_tell (PM μ K (s + 2) (tl5 0 (t s - 97) 0 0 0)) 0 (ic 5) = some ((), PM μ K (s + 2) (updf (tl5 0 (t s - 97) 0 0 0) 0 5)) from p_tell (k := 0) h (by omega) 5, bd_some, e1, bd_some]
          cases ok
          · exact ⟨false, e, f', rfl, b1, fun q => by cases q⟩
          · obtain ⟨nd, v, g2, g3, g4, g5, g6, g7, rfl, R4⟩ := k1 rfl
            refine ⟨true, e, _, rfl, fun q => (by cases q), fun _ => ⟨⟨5, R4, Or.inl rfl⟩, fun _ => Or.inr (Or.inl ⟨nd, v, hb, h61, hc, g2, g3, g4, g5, ?_, by omega, ?_⟩)⟩⟩
            · exact g6
            · rw [tl_0, tl_2, tl_4]
        · rw [if_neg (by rw [ic_eq (by omega)]; exact hc), p_sign hT h (by omega), bd_some, p_isL hT, bd_some, b2_if]
          cases hb2 : isL (t (s + 2))
          · rw [if_neg (by decide)]
            by_cases h45 : t (s + 2) = 45
            · have R3 : Rn t 0 s 3 (s + 3) := rn_step R2 (by rw [h45]; rfl) (by omega)
              rw [p_see1 hT h (by omega) (by omega) h45, bd_some]
              obtain ⟨ok, e, c, e1, b1, k1⟩ := p_told_num (f := tl5 0 (t s - 97) 0 0 0) hT h (Or.inr ⟨rfl, rfl⟩ : ((1 : Int32) = 0 ∧ (-1 : Int) = 1) ∨ ((1 : Int32) = 1 ∧ (-1 : Int) = -1)) R3 (Or.inr rfl) (d_3 _) hsL
              refine ⟨ok, e, c, e1, b1, fun hk => ?_⟩
              obtain ⟨nd, v, rfl, rfl, hq, hN⟩ := k1 hk
              exact ⟨hq, fun hD => Or.inr (Or.inr (Or.inl ⟨nd, v, hb, h61, Or.inr ⟨h45, hN hD, rfl, by rw [updf_4, tl_4, show -1 * v = -v by omega]⟩⟩))⟩
            · rw [p_see0 hT h (by omega) (by omega) h45, bd_some]
              have hd2 : dst 2 (t (s + 2)) = dNum (t (s + 2)) := by
                rw [d_2]
                unfold dRt
                rw [if_neg h45, if_neg hc, if_neg (by rw [hb2]; decide)]
              obtain ⟨ok, e, c, e1, b1, k1⟩ := p_told_num (f := tl5 0 (t s - 97) 0 0 0) hT h (Or.inl ⟨rfl, rfl⟩ : ((0 : Int32) = 0 ∧ (1 : Int) = 1) ∨ ((0 : Int32) = 1 ∧ (1 : Int) = -1)) R2 (Or.inl rfl) hd2 hsL
              refine ⟨ok, e, c, e1, b1, fun hk => ?_⟩
              obtain ⟨nd, v, rfl, rfl, hq, hN⟩ := k1 hk
              exact ⟨hq, fun hD => Or.inr (Or.inr (Or.inl ⟨nd, v, hb, h61, Or.inl ⟨hN hD, rfl, by rw [updf_4, tl_4, Int.one_mul]⟩⟩))⟩
          · have hr2 := isL_rg hb2
            have R3 : Rn t 0 s 6 (s + 3) := rn_step R2 (by
              rw [d_2]
              unfold dRt
              rw [if_neg (by omega), if_neg hc, if_pos hb2]) (by omega)
            rw [if_pos rfl, show (2 : Int32) = ic ((2 : Nat) : Int) from rfl, p_reg1 hT h (by omega) (by omega) hb2, bd_some, if_neg (by decide), tl_2]
            obtain ⟨ok, e, f', e1, b1, k1⟩ := p_operation (f := tl5 0 (t s - 97) (t (s + 2) - 97) 0 0) hT h R3 hsL
            rw [show s + 2 + 1 = s + 3 from rfl, e1, bd_some]
            cases ok
            · rw [if_pos (by rfl)]
              exact ⟨false, e, f', rfl, b1, fun q => by cases q⟩
            · rw [if_neg (by decide)]
              obtain ⟨k, g1, g2, rfl, rfl, R4⟩ := k1 rfl
              exact ⟨true, _, _, rfl, fun q => (by cases q), fun _ => ⟨⟨5, R4, Or.inl rfl⟩, fun _ => Or.inr (Or.inr (Or.inr ⟨k, hb, h61, hb2, g1, g2, rfl, by rw [tl_0, tl_3]⟩))⟩⟩
      · rw [p_see0 hT h (by omega) (by omega) h61, bd_some, if_pos rfl]
        exact ⟨false, s + 1, _, rfl, fun _ => ⟨1, R1, by omega, by rw [d_1, if_neg h61]⟩, fun q => by cases q⟩
theorem p_isTold (hT : TX t L) (h : RB t L K μ) (hsL : s ≤ L) : ∃ ok e c, fX9_isTold (PM μ K s f) = some (b2 ok, PM μ K e c) ∧ (ok = false → Bd t 0 s e) ∧ (ok = true → TOK t s e c) := by
  have e0 : fu = 4994 + 1 + 1 + 1 + 1 + 1 + 1 := rfl
  unfold fX9_isTold
  rw [e0, show (0 : Int32) = ic ((0 : Nat) : Int) from rfl, p_told_step h (by omega), p_told_step h (by omega), p_told_step h (by omega), p_told_step h (by omega), p_told_step h (by omega)]
  rw [pm_congr (g := tl5 0 0 0 0 0) (fun k hk => by
    unfold updf tl5
    repeat' split
    all_goals first | rfl | omega)]
  exact p_told5 hT h hsL 4994
end TXT7
