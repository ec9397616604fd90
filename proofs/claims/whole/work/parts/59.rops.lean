section RO
variable {S : Nat → Int} {μ : Mem}
theorem r_itsw (h : MS S μ) {i w : Nat} (hi : i < 20) (hw : w < 6) : fX9_its μ (ic i) (ic (w : Int)) = some (ic (S (32 + 6 * i + w)), μ) := by
  simp only [fX9_its, ic_lit, ic_mul, ic_add]
  rw [ms_ld h (32 + 6 * i + w) (by omega) (by omega)]
  rfl
theorem r_setsw {i w : Nat} (hi : i < 20) (hw : w < 6) (v : Int32) : fX9_sets μ (ic i) (ic (w : Int)) v = some ((), mu μ 1 (32 + 6 * i + w) v) := by
  simp only [fX9_sets, ic_lit, ic_mul, ic_add]
  rw [ast_k (32 + 6 * i + w) (by omega) (by omega)]
  rfl
theorem ms_set (h : MS S μ) (k : Nat) (v : Int) : MS (updI S k v) (mu μ 1 k (ic v)) := fun q hq => by
  rw [mu_at]
  unfold updI
  by_cases hc : q = k
  · simp [hc]
  · rw [if_neg (by omega), if_neg hc]
    exact h q hq
theorem ms_congr {S' : Nat → Int} (h : MS S μ) (he : ∀ k, k < 152 → S' k = S k) : MS S' μ := fun k hk => by rw [he k hk]; exact h k hk
def cpS (S : Nat → Int) (a b : Nat) : Nat → Int := fun k => if 32 ≤ k ∧ (k - 32) / 6 = b then S (32 + 6 * a + (k - 32) % 6) else S k
theorem r_moves (h : MS S μ) {a b : Nat} (ha : a < 20) (hb : b < 20) (hab : a ≠ b) : ∃ μ', fX9_moves μ (ic a) (ic b) = some ((), μ') ∧ Fr [1] μ μ' ∧ MS (cpS S a b) μ' := by
  have key := lq_m (fun f v ν => fX9_moves_L2 f (ic a) (ic b) v ν) (fun ν => some ((), ν)) 0 6 (fun w ν => Fr [1] μ ν ∧ MS (fun k => if 32 ≤ k ∧ (k - 32) / 6 = b ∧ (k - 32) % 6 < w then S (32 + 6 * a + (k - 32) % 6) else S k) ν) (by omega) ?_ ?_ μ fu (fu_lt (by omega)) ⟨Fr.rfl', ms_congr h fun k _ => by rw [if_neg (by omega)]⟩
  · obtain ⟨ν, ⟨h2, h3⟩, h4⟩ := key
    refine ⟨ν, ?_, h2, ms_congr h3 fun k _ => ?_⟩
    · rw [fX9_moves]
      exact h4
    · unfold cpS
      by_cases hc : 32 ≤ k ∧ (k - 32) / 6 = b
      · rw [if_pos hc, if_pos ⟨hc.1, hc.2, by omega⟩]
      · rw [if_neg hc, if_neg (by omega)]
  · rintro f w ν - hw ⟨h2, h3⟩
    refine ⟨mu ν 1 (32 + 6 * b + w) (ic (S (32 + 6 * a + w))), ⟨h2.trans (Fr_mu (by decide)), ms_congr (ms_set h3 _ _) fun k _ => ?_⟩, ?_⟩
    · unfold updI
      dsimp only
      by_cases hq : k = 32 + 6 * b + w
      · rw [if_pos hq, if_pos (by omega)]
        congr 1
        omega
      · rw [if_neg hq]
        by_cases hc : 32 ≤ k ∧ (k - 32) / 6 = b ∧ (k - 32) % 6 < w
        · rw [if_pos hc, if_pos (by omega)]
        · rw [if_neg hc, if_neg (by omega)]
    · have e := r_itsw h3 (i := a) (w := w) ha hw
      rw [if_neg (by omega)] at e
      simp (disch := omega) only [fX9_moves_L2, ic_le, ic_lit, e, bd_some, r_setsw hb hw, ic_add]
      rw [if_neg (by omega)]
      rfl
  · rintro f ν ⟨h2, h3⟩
    simp (disch := omega) only [fX9_moves_L2, ic_le, ic_lit]
    rw [if_pos (by omega)]
def insP (S : Nat → Int) (k : Nat) : Nat → Int := fun q => if 32 ≤ q ∧ k < (q - 32) / 6 ∧ (q - 32) / 6 ≤ nn S then S (q - 6) else S q
theorem r_inserts (h : MS S μ) (hW : WF S) {p : Nat} (hp : p ≤ nn S) (hn : nn S < 20) (c : Nat → Int) (hc5 : c 5 = -1) : ∃ μ', fX9_inserts μ (ic p) (ic (c 0)) (ic (c 1)) (ic (c 2)) (ic (c 3)) (ic (c 4)) = some ((), μ') ∧ Fr [1] μ μ' ∧ MS (insS S p c) μ' := by
  have hz := hW.n
  have key := lq_g (fun f v ν => fX9_inserts_L8 f (ic p) (ic (c 0)) (ic (c 1)) (ic (c 2)) (ic (c 3)) (ic (c 4)) v ν) (fun ν => fX9_inserts_L8 (0 + 1) (ic p) (ic (c 0)) (ic (c 1)) (ic (c 2)) (ic (c 3)) (ic (c 4)) (ic p) ν) (fun t => ic ((nn S : Int) - t)) 0 (nn S - p) (fun t ν => Fr [1] μ ν ∧ MS (insP S (nn S - t)) ν) (by omega) ?_ ?_ μ fu (fu_lt (by omega)) ⟨Fr.rfl', ms_congr h fun k _ => by unfold insP; rw [if_neg (by omega)]⟩
  · obtain ⟨ν, ⟨h2, h3⟩, h4⟩ := key
    rw [show nn S - (nn S - p) = p by omega] at h3
    have s0 : ∀ {ν : Mem} (v : Int32), fX9_sets ν (ic p) (ic 0) v = some ((), mu ν 1 (32 + 6 * p + 0) v) := fun v => r_setsw (i := p) (w := 0) (by omega) (by omega) v
    have s1 : ∀ {ν : Mem} (v : Int32), fX9_sets ν (ic p) (ic 1) v = some ((), mu ν 1 (32 + 6 * p + 1) v) := fun v => r_setsw (i := p) (w := 1) (by omega) (by omega) v
    have s2 : ∀ {ν : Mem} (v : Int32), fX9_sets ν (ic p) (ic 2) v = some ((), mu ν 1 (32 + 6 * p + 2) v) := fun v => r_setsw (i := p) (w := 2) (by omega) (by omega) v
    have s3 : ∀ {ν : Mem} (v : Int32), fX9_sets ν (ic p) (ic 3) v = some ((), mu ν 1 (32 + 6 * p + 3) v) := fun v => r_setsw (i := p) (w := 3) (by omega) (by omega) v
    have s4 : ∀ {ν : Mem} (v : Int32), fX9_sets ν (ic p) (ic 4) v = some ((), mu ν 1 (32 + 6 * p + 4) v) := fun v => r_setsw (i := p) (w := 4) (by omega) (by omega) v
    have s5 : ∀ {ν : Mem} (v : Int32), fX9_sets ν (ic p) (ic 5) v = some ((), mu ν 1 (32 + 6 * p + 5) v) := fun v => r_setsw (i := p) (w := 5) (by omega) (by omega) v
    have m1 := ms_set (ms_set (ms_set (ms_set (ms_set (ms_set h3 (32 + 6 * p + 0) (c 0)) (32 + 6 * p + 1) (c 1)) (32 + 6 * p + 2) (c 2)) (32 + 6 * p + 3) (c 3)) (32 + 6 * p + 4) (c 4)) (32 + 6 * p + 5) (-1)
    have e0 := ms_ld m1 0 (i := 0) (by omega) (by omega)
    have e1 : (updI (updI (updI (updI (updI (updI (insP S p) (32 + 6 * p + 0) (c 0)) (32 + 6 * p + 1) (c 1)) (32 + 6 * p + 2) (c 2)) (32 + 6 * p + 3) (c 3)) (32 + 6 * p + 4) (c 4)) (32 + 6 * p + 5) (-1)) 0 = S 0 := by
      unfold updI insP
      repeat rw [if_neg (by omega)]
    rw [e1] at e0
    refine ⟨_, ?_, ?_, ms_congr (ms_set m1 0 (S 0 + 1)) ?_⟩
    · rw [fX9_inserts]
      simp only [ic_lit]
      rw [ms_n h hW, Option.bind_some]
      have h4' : fX9_inserts_L8 fu (ic p) (ic (c 0)) (ic (c 1)) (ic (c 2)) (ic (c 3)) (ic (c 4)) (ic ((nn S : Int) - ((0 : Nat) : Int))) μ = fX9_inserts_L8 (0 + 1) (ic p) (ic (c 0)) (ic (c 1)) (ic (c 2)) (ic (c 3)) (ic (c 4)) (ic p) ν := h4
      rw [show ((nn S : Int) - ((0 : Nat) : Int)) = (nn S : Int) by omega] at h4'
      rw [h4', fX9_inserts_L8]
      simp only [ic_lit, ic_neg]
      rw [if_pos (Int32.le_refl _), s0, bd_some, s1, bd_some, s2, bd_some, s3, bd_some, s4, bd_some, s5, bd_some, e0, Option.bind_some, ic_add, ast_k 0 (by omega) (by omega), Option.bind_some]
    · exact h2.trans (((((((Fr_mu (by decide)).trans (Fr_mu (by decide))).trans (Fr_mu (by decide))).trans (Fr_mu (by decide))).trans (Fr_mu (by decide))).trans (Fr_mu (by decide))).trans (Fr_mu (by decide)))
    · intro k hk
      unfold updI insS insP
      by_cases k0 : k = 0
      · rw [if_pos k0, if_pos k0]
      · rw [if_neg k0, if_neg k0]
        by_cases k1 : k < 32
        · rw [if_pos k1]
          repeat rw [if_neg (by omega)]
        · rw [if_neg k1]
          by_cases k2 : (k - 32) / 6 < p
          · rw [if_pos k2]
            repeat rw [if_neg (by omega)]
          · rw [if_neg k2]
            by_cases k3 : (k - 32) / 6 = p
            · rw [if_pos k3]
              obtain ⟨w, hw⟩ : ∃ w, w = (k - 32) % 6 := ⟨_, rfl⟩
              have hk' : k = 32 + 6 * p + w := by omega
              rw [← hw]
              have hw6 : w < 6 := by omega
              subst hk'
              obtain rfl | rfl | rfl | rfl | rfl | rfl : w = 0 ∨ w = 1 ∨ w = 2 ∨ w = 3 ∨ w = 4 ∨ w = 5 := by omega
              all_goals simp
              exact hc5
            · rw [if_neg k3]
              rw [if_neg (show ¬ k = 32 + 6 * p + 5 by omega), if_neg (show ¬ k = 32 + 6 * p + 4 by omega), if_neg (show ¬ k = 32 + 6 * p + 3 by omega), if_neg (show ¬ k = 32 + 6 * p + 2 by omega), if_neg (show ¬ k = 32 + 6 * p + 1 by omega), if_neg (show ¬ k = 32 + 6 * p + 0 by omega)]
              by_cases k4 : (k - 32) / 6 ≤ nn S
              · rw [if_pos k4, if_pos (by omega)]
              · rw [if_neg k4, if_neg (by omega)]
  · rintro f t ν - ht ⟨h2, h3⟩
    have e1 : (nn S : Int) - t = ((nn S - t : Nat) : Int) := by omega
    have e2 : ((nn S - t : Nat) : Int) - 1 = ((nn S - t - 1 : Nat) : Int) := by omega
    have e3 : ((nn S - t : Nat) : Int) + -1 = (nn S : Int) - ((t + 1 : Nat) : Int) := by omega
    obtain ⟨ν', g1, g2, g3⟩ := r_moves h3 (a := nn S - t - 1) (b := nn S - t) (by omega) (by omega) (by omega)
    refine ⟨ν', ⟨h2.trans g2, ms_congr g3 fun k hk => ?_⟩, ?_⟩
    · unfold cpS insP
      by_cases hc : 32 ≤ k ∧ (k - 32) / 6 = nn S - t
      · rw [if_pos hc, if_pos (by omega), if_neg (by omega)]
        congr 1
        omega
      · rw [if_neg hc]
        by_cases hd : 32 ≤ k ∧ nn S - t < (k - 32) / 6 ∧ (k - 32) / 6 ≤ nn S
        · rw [if_pos hd, if_pos (by omega)]
        · rw [if_neg hd, if_neg (by omega)]
    · rw [e1, fX9_inserts_L8]
      simp only [ic_lit, ic_neg]
      rw [if_neg (by rw [ic_le (by omega)]; omega), ic_sub, e2, g1, bd_some, ic_add, e3]
  · rintro f ν ⟨h2, h3⟩
    have e1 : (nn S : Int) - ((nn S - p : Nat) : Int) = (p : Int) := by omega
    show fX9_inserts_L8 (f + 1) (ic p) (ic (c 0)) (ic (c 1)) (ic (c 2)) (ic (c 3)) (ic (c 4)) (ic ((nn S : Int) - ((nn S - p : Nat) : Int))) ν = _
    rw [e1, fX9_inserts_L8, fX9_inserts_L8, if_pos (Int32.le_refl _), if_pos (Int32.le_refl _)]
def remP (S : Nat → Int) (p k : Nat) : Nat → Int := fun q => if q = 0 then S 0 - 1 else if 32 ≤ q ∧ p ≤ (q - 32) / 6 ∧ (q - 32) / 6 < k then S (q + 6) else S q
theorem r_remloop {p : Nat} (h : MS (remP S p p) μ) (hW : WF S) (hp : p < nn S) : ∃ μ', fX9_remove_L42 fu (ic p) μ = some (ic ((nn S : Int) - 1), μ') ∧ Fr [1] μ μ' ∧ MS (remS S p) μ' := by
  have hz := hW.n
  have hc : ∀ k, ∀ ν, MS (remP S p k) ν → ld 152 (ν 1) (ic 0) = some (ic ((nn S : Int) - 1)) := fun k ν hν => by
    rw [ms_ld hν 0 (i := 0) (by omega) (by omega)]
    unfold remP
    rw [if_pos rfl, hW.nz]
  have key := lq_m (fun f v ν => fX9_remove_L42 f v ν) (fun ν => some (ic ((nn S : Int) - 1), ν)) p (nn S - 1) (fun k ν => Fr [1] μ ν ∧ MS (remP S p k) ν) (by omega) ?_ ?_ μ fu (fu_lt (by omega)) ⟨Fr.rfl', h⟩
  · obtain ⟨ν, ⟨h2, h3⟩, h4⟩ := key
    refine ⟨ν, h4, h2, ms_congr h3 fun k _ => ?_⟩
    unfold remS remP
    by_cases k0 : k = 0
    · rw [if_pos k0, if_pos k0]
    · rw [if_neg k0, if_neg k0]
      by_cases k1 : k < 32
      · rw [if_pos k1, if_neg (by omega)]
      · rw [if_neg k1]
        by_cases k2 : p ≤ (k - 32) / 6 ∧ (k - 32) / 6 + 1 < nn S
        · rw [if_pos k2, if_pos (by omega)]
        · rw [if_neg k2, if_neg (by omega)]
  · rintro f k ν hk1 hk2 ⟨h2, h3⟩
    obtain ⟨ν', g1, g2, g3⟩ := r_moves h3 (a := k + 1) (b := k) (by omega) (by omega) (by omega)
    refine ⟨ν', ⟨h2.trans g2, ms_congr g3 fun q _ => ?_⟩, ?_⟩
    · unfold cpS remP
      by_cases hcc : 32 ≤ q ∧ (q - 32) / 6 = k
      · rw [if_neg (by omega), if_pos (by omega), if_pos hcc, if_neg (by omega), if_neg (by omega)]
        congr 1
        omega
      · rw [if_neg hcc]
        by_cases q0 : q = 0
        · rw [if_pos q0, if_pos q0]
        · rw [if_neg q0, if_neg q0]
          by_cases hd : 32 ≤ q ∧ p ≤ (q - 32) / 6 ∧ (q - 32) / 6 < k
          · rw [if_pos hd, if_pos (by omega)]
          · rw [if_neg hd, if_neg (by omega)]
    · rw [fX9_remove_L42]
      simp only [ic_lit]
      rw [hc k ν h3, Option.bind_some, if_neg (by rw [ic_le (by omega)]; omega), ic_add]
      have g1' : fX9_moves ν (ic ((k : Int) + 1)) (ic k) = some ((), ν') := g1
      rw [g1', bd_some]
      rfl
  · rintro f ν ⟨h2, h3⟩
    rw [fX9_remove_L42]
    simp only [ic_lit]
    rw [hc _ ν h3, Option.bind_some, if_pos (by rw [ic_le (by omega)]; omega), Option.bind_some]
theorem r_swaploop (h : MS S μ) (hW : WF S) {a b : Nat} (ha : a < nn S) (hb : b < nn S) : ∃ μ', fX9_exchange_L40 fu (ic a) (ic b) (ic 0) μ = (if (b : Int) ≤ a then fX9_exchange_L91 (ic a) (ic b) (ic b) μ' else fX9_exchange_L91 (ic a) (ic b) (ic a) μ') ∧ Fr [1] μ μ' ∧ MS (swpS S a b) μ' := by
  have hz := hW.n
  have key := lq_m (fun f v ν => fX9_exchange_L40 f (ic a) (ic b) v ν) (fun ν => if (b : Int) ≤ a then fX9_exchange_L91 (ic a) (ic b) (ic b) ν else fX9_exchange_L91 (ic a) (ic b) (ic a) ν) 0 6 (fun w ν => Fr [1] μ ν ∧ MS (fun k => if (k - 32) % 6 < w then swpS S a b k else S k) ν) (by omega) ?_ ?_ μ fu (fu_lt (by omega)) ⟨Fr.rfl', ms_congr h fun k _ => by rw [if_neg (by omega)]⟩
  · obtain ⟨ν, ⟨h2, h3⟩, h4⟩ := key
    refine ⟨ν, h4, h2, ms_congr h3 fun k _ => ?_⟩
    rw [if_pos (by omega)]
  · rintro f w ν - hw ⟨h2, h3⟩
    have e1 := r_itsw h3 (i := a) (w := w) (by omega) hw
    have e2 := r_itsw h3 (i := b) (w := w) (by omega) hw
    rw [if_neg (by omega)] at e1 e2
    refine ⟨mu (mu ν 1 (32 + 6 * a + w) (ic (S (32 + 6 * b + w)))) 1 (32 + 6 * b + w) (ic (S (32 + 6 * a + w))), ⟨h2.trans ((Fr_mu (by decide)).trans (Fr_mu (by decide))), ms_congr (ms_set (ms_set h3 _ _) _ _) fun k _ => ?_⟩, ?_⟩
    · unfold updI
      dsimp only
      by_cases hq : k = 32 + 6 * b + w
      · subst hq
        rw [if_pos rfl, if_pos (by omega), swpS_f (by omega)]
        by_cases hab : b = a
        · rw [if_pos hab, hab]
        · rw [if_neg hab, if_pos rfl]
      · rw [if_neg hq]
        by_cases hq2 : k = 32 + 6 * a + w
        · subst hq2
          rw [if_pos rfl, if_pos (by omega), swpS_f (by omega), if_pos rfl]
        · rw [if_neg hq2]
          by_cases hc : (k - 32) % 6 < w
          · rw [if_pos hc, if_pos (by omega)]
          · rw [if_neg hc]
            split
            · unfold swpS
              by_cases k1 : k < 32
              · rw [if_pos k1]
              · rw [if_neg k1, if_neg (by omega), if_neg (by omega)]
            · rfl
    · rw [fX9_exchange_L40]
      simp only [ic_lit]
      rw [if_neg (by rw [ic_le (by omega)]; omega), e1, bd_some, e2, bd_some, r_setsw (by omega) hw, bd_some, r_setsw (by omega) hw, bd_some, ic_add]
      rfl
  · rintro f ν ⟨h2, h3⟩
    rw [fX9_exchange_L40]
    simp (disch := omega) only [ic_lit, ic_le]
    rw [if_pos (by omega)]
/-- the saved states -/
def psh (HS : Nat → Nat → Int) (m : Nat) (S : Nat → Int) : Nat → Nat → Int := fun r => if m = 5 then (if r = 4 then S else HS (r + 1)) else if r = m then S else HS r
def pm (m : Nat) : Nat := if m = 5 then 5 else m + 1
def MH (HS : Nat → Nat → Int) (m : Nat) (μ : Mem) : Prop := μ 0 2 = ic m ∧ m ≤ 5 ∧ ∀ r k, r < m → k < 152 → μ 2 (152 * r + k) = ic (HS r k)
theorem r_lays0 {a0 a2 n0 n2 : Nat} (h0 : (shM a0).2.1 = n0) (h2 : (shM a2).2.1 = n2) (hne : a0 ≠ a2) {x y : Nat} (hx : x + 152 ≤ n0) (hy : y + 152 ≤ n2) (hb : n0 ≤ 1000 ∧ n2 ≤ 1000) : ∃ μ', fX9_lays μ a0 (ic x) a2 (ic y) = some ((), μ') ∧ Fr [a2] μ μ' ∧ (∀ k, k < 152 → μ' a2 (y + k) = μ a0 (x + k)) ∧ ∀ j, j < y ∨ y + 152 ≤ j → μ' a2 j = μ a2 j := by
  have key := lq_m (fun f v ν => fX9_lays_L3 a0 a2 f (ic x) (ic y) v ν) (fun ν => some ((), ν)) 0 152 (fun k ν => Fr [a2] μ ν ∧ (∀ q, q < k → ν a2 (y + q) = μ a0 (x + q)) ∧ ∀ j, j < y ∨ y + k ≤ j → ν a2 j = μ a2 j) (by omega) ?_ ?_ μ fu (fu_lt (by omega)) ⟨Fr.rfl', fun q hq => by omega, fun j _ => rfl⟩
  · obtain ⟨ν, h3, h4⟩ := key
    refine ⟨ν, ?_, h3⟩
    rw [fX9_lays]
    exact h4
  · rintro f k ν - hk ⟨h3, h4, h5⟩
    refine ⟨mu ν a2 (y + k) (μ a0 (x + k)), ⟨h3.trans (Fr_mu (by simp)), fun q hq => ?_, fun j hj => ?_⟩, ?_⟩
    · rw [mu_at]
      by_cases hqk : q = k
      · rw [hqk, if_pos ⟨rfl, rfl⟩]
      · rw [if_neg (by omega)]
        exact h4 q (by omega)
    · rw [mu_at, if_neg (by omega)]
      exact h5 j (by omega)
    · have e1 : ν a0 = μ a0 := h3 a0 (by simpa using hne)
      rw [fX9_lays_L3]
      simp only [ic_lit]
      rw [if_neg (by rw [ic_le (by omega)]; omega), ic_add, ic_add, h0, h2, ld_k (x + k) (by omega) (by omega), Option.bind_some, e1, ast_k (y + k) (by omega) (by omega), Option.bind_some, ic_add]
      rfl
  · rintro f ν ⟨h3, h4, h5⟩
    rw [fX9_lays_L3]
    simp only [ic_lit]
    rw [if_pos (by rw [ic_le (by omega)]; omega)]
theorem r_saves49 {HS : Nat → Nat → Int} {m : Nat} (h : MS S μ) (h0 : μ 0 2 = ic m) (hm : m ≤ 4) (hH : ∀ r k, r < m → k < 152 → μ 2 (152 * r + k) = ic (HS r k)) : ∃ μ', fX9_saves_L49 μ = some ((), μ') ∧ (∀ a, a ≠ 0 → a ≠ 2 → μ' a = μ a) ∧ (∀ k, k ≠ 2 → μ' 0 k = μ 0 k) ∧ MH (fun r => if r = m then S else HS r) (m + 1) μ' := by
  obtain ⟨ν, e1, f1, g1, g2⟩ := r_lays0 (μ := μ) (a0 := 1) (a2 := 2) (n0 := 152) (n2 := 760) rfl rfl (by omega) (x := 0) (y := 152 * m) (by omega) (by omega) (by omega)
  have n0 : ν 0 2 = ic m := by rw [f1 0 (by decide), h0]
  refine ⟨mu ν 0 2 (ic ((m : Int) + 1)), ?_, fun a h1 h2 => ?_, fun k hk => ?_, ?_, by omega, fun r k hr hk => ?_⟩
  · unfold fX9_saves_L49
    simp only [ic_lit, pt]
    rw [h0, ic_mul]
    have e1' : fX9_lays μ 1 (ic 0) 2 (ic (152 * (m : Int))) = some ((), ν) := by
      rw [← e1]
      congr 2
    rw [e1', bd_some, n0, Option.bind_some, ic_add]
  · rw [mu_ne h1]
    exact f1 a (by simpa using h2)
  · rw [mu_at, if_neg (by omega), f1 0 (by decide)]
  · rw [mu_at, if_pos ⟨rfl, rfl⟩]
    rfl
  · rw [mu_ne (by decide)]
    dsimp only
    by_cases hrm : r = m
    · rw [if_pos hrm, hrm, g1 k hk, Nat.zero_add, h k hk]
    · rw [if_neg hrm, g2 _ (by omega)]
      exact hH r k (by omega) hk
theorem r_saves {HS : Nat → Nat → Int} {m : Nat} (h : MS S μ) (hH : MH HS m μ) : ∃ μ', fX9_saves μ = some ((), μ') ∧ (∀ a, a ≠ 0 → a ≠ 2 → μ' a = μ a) ∧ (∀ k, k ≠ 2 → μ' 0 k = μ 0 k) ∧ MH (psh HS m S) (pm m) μ' := by
  obtain ⟨h0, hm, hH⟩ := hH
  by_cases h5 : m = 5
  · subst h5
    have key := lq_m (fun f v ν => fX9_saves_L10 f v ν) (fun ν => fX9_saves_L49 (mu ν 0 2 (ic 4))) 0 608 (fun k ν => Fr [2] μ ν ∧ ∀ q, q < 760 → ν 2 q = if q < k then μ 2 (q + 152) else μ 2 q) (by omega) ?_ ?_ μ fu (fu_lt (by omega)) ⟨Fr.rfl', fun q hq => by rw [if_neg (by omega)]⟩
    · obtain ⟨ν, ⟨f1, g1⟩, e1⟩ := key
      obtain ⟨μ', e2, k1, k2, k3⟩ := r_saves49 (S := S) (μ := mu ν 0 2 (ic 4)) (HS := fun r => HS (r + 1)) (m := 4) ((h.fr f1 (by decide)).of (mu_ne (by decide))) (by rw [mu_at, if_pos ⟨rfl, rfl⟩]; rfl) (by omega) (fun r k hr hk => by
        rw [mu_ne (by decide), g1 _ (by omega), if_pos (by omega), show 152 * r + k + 152 = 152 * (r + 1) + k by omega]
        exact hH (r + 1) k (by omega) hk)
      refine ⟨μ', ?_, fun a h1 h2 => ?_, fun k hk => ?_, ?_⟩
      · rw [fX9_saves]
        simp only [ic_lit]
        rw [if_pos (by rw [h0]; rfl)]
        exact e1.trans e2
      · rw [k1 a h1 h2, mu_ne h1]
        exact f1 a (by simpa using h2)
      · rw [k2 k hk, mu_at, if_neg (by omega), f1 0 (by decide)]
      · refine ⟨k3.1, by decide, fun r k hr hk => ?_⟩
        have := k3.2.2 r k (by unfold pm at hr; simpa using hr) hk
        rw [this]
        unfold psh
        dsimp only
        rw [if_pos rfl]
    · rintro f k ν - hk ⟨f1, g1⟩
      have e3 : (k : Int).toNat = k := by omega
      refine ⟨mu ν 2 k (μ 2 (k + 152)), ⟨f1.trans (Fr_mu (by decide)), fun q hq => ?_⟩, ?_⟩
      · rw [mu_at]
        by_cases hqk : q = k
        · rw [if_pos ⟨rfl, hqk⟩, if_pos (by omega), hqk]
        · rw [if_neg (by omega), g1 q hq]
          by_cases hc : q < k
          · rw [if_pos hc, if_pos (by omega)]
          · rw [if_neg hc, if_neg (by omega)]
      · have e4 : ν 2 (k + 152) = μ 2 (k + 152) := by rw [g1 _ (by omega), if_neg (by omega)]
        rw [fX9_saves_L10]
        simp only [ic_lit]
        rw [if_neg (by rw [ic_le (by omega)]; omega), ic_add, ld_k (k + 152) (by omega) (by omega), Option.bind_some, e4, ast_k k rfl (by omega), Option.bind_some, ic_add]
        rfl
    · rintro f ν ⟨f1, g1⟩
      have e5 : ν 0 2 = ic 5 := by rw [f1 0 (by decide), h0]; rfl
      rw [fX9_saves_L10]
      simp only [ic_lit, pt]
      rw [if_pos (by rw [ic_le (by omega)]; omega), e5, ic_sub, Option.bind_some]
      rfl
  · obtain ⟨μ', e2, k1, k2, k3⟩ := r_saves49 h h0 (by omega) hH
    refine ⟨μ', ?_, k1, k2, ?_⟩
    · rw [fX9_saves]
      simp only [ic_lit]
      rw [if_neg (by rw [h0, ic_eq (by omega)]; omega)]
      exact e2
    · have e6 : psh HS m S = fun r => if r = m then S else HS r := by
        unfold psh
        funext r
        rw [if_neg h5]
      have e7 : pm m = m + 1 := by
        unfold pm
        rw [if_neg h5]
      rw [e6, e7]
      exact k3
end RO
