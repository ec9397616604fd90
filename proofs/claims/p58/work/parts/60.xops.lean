theorem ms_ne' {μ : Mem} {a : Nat} {f : Nat → Int32} {b : Nat} (h : b ≠ a) : ms μ a f b = μ b := by
  unfold ms
  rw [if_neg h]
theorem ms_eq' {μ : Mem} {a : Nat} {f : Nat → Int32} : ms μ a f a = f := by
  unfold ms
  rw [if_pos rfl]
theorem cpy0 {f g : Nat → Int32} {n k : Nat} (h : k < n) : va_cpy f g 0 0 n k = f k := by
  unfold va_cpy
  rw [if_pos (by omega), show 0 + (k - 0) = k by omega]
section XO
variable {S : Nat → Int} {μ : Mem}
theorem acp20 {a0 a1 : Nat} : acp 20 20 μ a0 (ic 0) a1 (ic 0) (ic 20) = some (ms μ a1 (va_cpy (μ a0) (μ a1) 0 0 20)) := acp_ic (sp := 0) (dp := 0) (n := 20) (by omega)
theorem acp24 {a0 a1 : Nat} : acp 24 24 μ a0 (ic 0) a1 (ic 0) (ic 24) = some (ms μ a1 (va_cpy (μ a0) (μ a1) 0 0 24)) := acp_ic (sp := 0) (dp := 0) (n := 24) (by omega)
theorem acp3 {a0 a1 : Nat} : acp 3 3 μ a0 (ic 0) a1 (ic 0) (ic 3) = some (ms μ a1 (va_cpy (μ a0) (μ a1) 0 0 3)) := acp_ic (sp := 0) (dp := 0) (n := 3) (by omega)
def rlen (i : Nat) : Nat := if i ≤ 6 then 20 else if i = 7 then 24 else 3
def CPq (a b j : Nat) (μ ν : Mem) : Prop := (∀ c, c < a ∨ a + 10 ≤ c → ν c = μ c) ∧ ν a 0 = μ b 0 ∧ ∀ i, 1 ≤ i → i ≤ j → ∀ k, k < rlen i → ν (a + i) k = μ (b + i) k
theorem cpq_step {a b j m n : Nat} {ν : Mem} (hd : a + 10 ≤ b ∨ b + 10 ≤ a) (h : CPq a b j μ ν) (hm : m = j + 1) (hj : m ≤ 9) (hn : n = rlen m) : CPq a b m μ (ms ν (a + m) (va_cpy (ν (b + m)) (ν (a + m)) 0 0 n)) := by
  subst hm
  obtain ⟨h1, h2, h3⟩ := h
  refine ⟨fun c hc => ?_, ?_, fun i hi1 hi2 k hk => ?_⟩
  · rw [ms_ne' (by omega)]
    exact h1 c hc
  · rw [ms_ne' (by omega)]
    exact h2
  · by_cases hij : i = j + 1
    · subst hij
      rw [ms_eq', cpy0 (by omega), h1 _ (by omega)]
    · rw [ms_ne' (by omega)]
      exact h3 i hi1 (by omega) k hk
theorem x_copyFrom9 {a b : Nat} (hd : a + 10 ≤ b ∨ b + 10 ≤ a) : ∃ ν, fX6_copyFrom μ a b = some ((), mu ν a 10 (ν b 10)) ∧ CPq a b 9 μ ν := by
  have c0 : CPq a b 0 μ (mu μ a 0 (μ b 0)) := by
    refine ⟨fun c hc => mu_ne (by omega), by rw [mu_at, if_pos ⟨rfl, rfl⟩], fun i h1 h2 => by omega⟩
  have c1 := cpq_step hd c0 (m := 1) (n := 20) rfl (by omega) rfl
  have c2 := cpq_step hd c1 (m := 2) (n := 20) rfl (by omega) rfl
  have c3 := cpq_step hd c2 (m := 3) (n := 20) rfl (by omega) rfl
  have c4 := cpq_step hd c3 (m := 4) (n := 20) rfl (by omega) rfl
  have c5 := cpq_step hd c4 (m := 5) (n := 20) rfl (by omega) rfl
  have c6 := cpq_step hd c5 (m := 6) (n := 20) rfl (by omega) rfl
  have c7 := cpq_step hd c6 (m := 7) (n := 24) rfl (by omega) rfl
  have c8 := cpq_step hd c7 (m := 8) (n := 3) rfl (by omega) rfl
  have c9 := cpq_step hd c8 (m := 9) (n := 3) rfl (by omega) rfl
  refine ⟨_, ?_, c9⟩
  unfold fX6_copyFrom
  simp only [ic_lit, pt]
  rw [Option.bind_some, acp20, Option.bind_some, acp20, Option.bind_some, acp20, Option.bind_some, acp20, Option.bind_some, acp20, Option.bind_some, acp20, Option.bind_some, acp24, Option.bind_some, acp3, Option.bind_some, acp3, Option.bind_some, Option.bind_some]
theorem x_copyFrom {a b : Nat} (hd : a + 10 ≤ b ∨ b + 10 ≤ a) : ∃ μ', fX6_copyFrom μ a b = some ((), μ') ∧ (∀ c, c < a ∨ a + 10 ≤ c → μ' c = μ c) ∧ ∀ S, XS b S μ → WF S → XS a S μ' := by
  obtain ⟨ν, e, g1, g2, g3⟩ := x_copyFrom9 (μ := μ) hd
  refine ⟨_, e, fun c hc => ?_, fun S hX hW => ?_⟩
  · rw [mu_ne (by omega)]
    exact g1 c hc
  · have hn := hW.n
    obtain ⟨x1, x2, x3, x4, x5, x6⟩ := hX
    refine ⟨?_, ?_, fun u hu => ?_, fun u hu => ?_, fun k hk => ?_, fun i hi => ?_⟩
    · rw [mu_at, if_neg (by omega)]
      exact g2.trans x1
    · rw [mu_at, if_pos ⟨rfl, rfl⟩]
      exact (congrFun (g1 b (by omega)) 10).trans x2
    · rw [mu_ne (by omega)]
      exact (g3 8 (by omega) (by omega) u hu).trans (x3 u hu)
    · rw [mu_ne (by omega)]
      exact (g3 9 (by omega) (by omega) u hu).trans (x4 u hu)
    · rw [mu_ne (by omega)]
      exact (g3 7 (by omega) (by omega) k hk).trans (x5 k hk)
    · obtain ⟨y1, y2, y3, y4, y5, y6⟩ := x6 i hi
      rw [mu_ne (by omega), mu_ne (by omega), mu_ne (by omega), mu_ne (by omega), mu_ne (by omega), mu_ne (by omega)]
      have hl : ∀ w, w ≤ 6 → i < rlen w := fun w hw => by
        unfold rlen
        rw [if_pos hw]
        omega
      exact ⟨(g3 1 (by omega) (by omega) i (hl _ (by omega))).trans y1, (g3 2 (by omega) (by omega) i (hl _ (by omega))).trans y2, (g3 3 (by omega) (by omega) i (hl _ (by omega))).trans y3, (g3 4 (by omega) (by omega) i (hl _ (by omega))).trans y4, (g3 5 (by omega) (by omega) i (hl _ (by omega))).trans y5, (g3 6 (by omega) (by omega) i (hl _ (by omega))).trans y6⟩
/-! rows of steps -/
theorem x_putInRow {n p : Nat} (h0 : μ 1 0 = ic n) (hp : p ≤ n) (hn : n < 20) {a : Nat} (v : Int32) : ∃ μ', fX6_putInRow μ a (ic p) v = some ((), μ') ∧ Fr [a] μ μ' ∧ ∀ k, μ' a k = if k = p then v else if p < k ∧ k ≤ n then μ a (k - 1) else μ a k := by
  have e1 := acp_ic (μ := μ) (n0 := 20) (n1 := 20) (a0 := a) (a1 := a) (sp := p) (dp := p + 1) (n := n - p) (by omega)
  rw [show ((n - p : Nat) : Int) = (n : Int) - p by omega, show ((p + 1 : Nat) : Int) = (p : Int) + 1 by omega] at e1
  refine ⟨mu (ms μ a (va_cpy (μ a) (μ a) p (p + 1) (n - p))) a p v, ?_, (Fr_ms (by simp)).trans (Fr_mu (by simp)), fun k => ?_⟩
  · unfold fX6_putInRow
    simp only [ic_lit]
    rw [h0, ic_add, ic_sub, e1, Option.bind_some, ast_k p rfl (by omega), Option.bind_some]
  · rw [mu_at]
    by_cases hk : k = p
    · rw [if_pos ⟨rfl, hk⟩, if_pos hk]
    · rw [if_neg (by omega), if_neg hk, ms_eq']
      unfold va_cpy
      by_cases hc : p < k ∧ k ≤ n
      · rw [if_pos (by omega), if_pos hc]
        congr 1
        omega
      · rw [if_neg (by omega), if_neg hc]
theorem x_takeRow {n p : Nat} (h0 : μ 1 0 = ic n) (hp : p < n) (hn : n ≤ 20) {a : Nat} : ∃ μ', fX6_takeFromRow μ a (ic p) = some ((), μ') ∧ Fr [a] μ μ' ∧ ∀ k, μ' a k = if p ≤ k ∧ k + 1 < n then μ a (k + 1) else μ a k := by
  have e1 := acp_ic (μ := μ) (n0 := 20) (n1 := 20) (a0 := a) (a1 := a) (sp := p + 1) (dp := p) (n := n - 1 - p) (by omega)
  rw [show ((n - 1 - p : Nat) : Int) = (n : Int) - 1 - p by omega, show ((p + 1 : Nat) : Int) = (p : Int) + 1 by omega] at e1
  refine ⟨ms μ a (va_cpy (μ a) (μ a) (p + 1) p (n - 1 - p)), ?_, Fr_ms (by simp), fun k => ?_⟩
  · unfold fX6_takeFromRow
    simp only [ic_lit]
    rw [h0, ic_add, ic_sub, ic_sub, e1, Option.bind_some]
  · rw [ms_eq']
    unfold va_cpy
    by_cases hc : p ≤ k ∧ k + 1 < n
    · rw [if_pos (by omega), if_pos hc]
      congr 1
      omega
    · rw [if_neg (by omega), if_neg hc]
theorem x_swapRow {i j : Nat} (hi : i < 20) (hj : j < 20) {a : Nat} : ∃ μ', fX6_swapInRow μ a (ic i) (ic j) = some ((), μ') ∧ Fr [a] μ μ' ∧ ∀ k, μ' a k = if k = i then μ a j else if k = j then μ a i else μ a k := by
  refine ⟨mu (mu μ a i (μ a j)) a j (μ a i), ?_, (Fr_mu (by simp)).trans (Fr_mu (by simp)), fun k => ?_⟩
  · unfold fX6_swapInRow
    rw [ld_k i rfl (by omega), Option.bind_some, ld_k j rfl (by omega), Option.bind_some, ast_k i rfl (by omega), Option.bind_some, ast_k j rfl (by omega), Option.bind_some]
  · rw [mu_at, mu_at]
    by_cases h1 : k = j
    · rw [if_pos ⟨rfl, h1⟩]
      by_cases h2 : k = i
      · rw [if_pos h2, ← h1, h2]
      · rw [if_neg h2, if_pos h1]
    · rw [if_neg (by omega)]
      by_cases h2 : k = i
      · rw [if_pos ⟨rfl, h2⟩, if_pos h2]
      · rw [if_neg (by omega), if_neg h2, if_neg h1]
theorem x_putIn (h : XS 1 S μ) (hW : WF S) {p : Nat} (hp : p ≤ nn S) (hn : nn S < 20) (c : Nat → Int) (hc5 : c 5 = -1) : ∃ μ', fX6_putIn μ (ic p) (ic (c 0)) (ic (c 1)) (ic (c 2)) (ic (c 3)) (ic (c 4)) = some ((), μ') ∧ Fr [1, 2, 3, 4, 5, 6, 7] μ μ' ∧ XS 1 (insS S p c) μ' := by
  have hz := hW.n
  have n0 := x_n h hW
  obtain ⟨μ1, e1, f1, g1⟩ := x_putInRow n0 hp hn (a := 2) (ic (c 0))
  have n1 : μ1 1 0 = ic (nn S) := by rw [f1 1 (by decide), n0]
  obtain ⟨μ2, e2, f2, g2⟩ := x_putInRow n1 hp hn (a := 3) (ic (c 1))
  have n2 : μ2 1 0 = ic (nn S) := by rw [f2 1 (by decide), n1]
  obtain ⟨μ3, e3, f3, g3⟩ := x_putInRow n2 hp hn (a := 4) (ic (c 2))
  have n3 : μ3 1 0 = ic (nn S) := by rw [f3 1 (by decide), n2]
  obtain ⟨μ4, e4, f4, g4⟩ := x_putInRow n3 hp hn (a := 5) (ic (c 3))
  have n4 : μ4 1 0 = ic (nn S) := by rw [f4 1 (by decide), n3]
  obtain ⟨μ5, e5, f5, g5⟩ := x_putInRow n4 hp hn (a := 6) (ic (c 4))
  have n5 : μ5 1 0 = ic (nn S) := by rw [f5 1 (by decide), n4]
  obtain ⟨μ6, e6, f6, g6⟩ := x_putInRow n5 hp hn (a := 7) (ic (-1))
  have n6 : μ6 1 0 = ic (nn S) := by rw [f6 1 (by decide), n5]
  have F : Fr [2, 3, 4, 5, 6, 7] μ μ6 := (((((f1.mono (by decide)).trans (f2.mono (by decide))).trans (f3.mono (by decide))).trans (f4.mono (by decide))).trans (f5.mono (by decide))).trans (f6.mono (by decide))
  refine ⟨mu μ6 1 0 (ic ((nn S : Int) + 1)), ?_, (F.mono (by decide)).trans (Fr_mu (by decide)), ?_⟩
  · unfold fX6_putIn
    simp only [ic_lit, ic_neg, pt]
    rw [if_neg (by rw [ic_lt (by omega)]; omega), n0, if_neg (by rw [ic_lt (by omega)]; omega), if_pos (by rw [ic_lt (by omega)]; omega), e1, bd_some, e2, bd_some, e3, bd_some, e4, bd_some, e5, bd_some, e6, bd_some, n6, ic_add, Option.bind_some]
  · obtain ⟨x1, x2, x3, x4, x5, x6⟩ := h
    refine ⟨?_, ?_, fun u hu => ?_, fun u hu => ?_, fun k hk => ?_, fun i hi => ?_⟩
    · rw [mu_at, if_pos ⟨rfl, rfl⟩, insS_l (by omega), if_pos rfl, hW.nz]
    · rw [mu_at, if_neg (by omega), F 1 (by decide), x2, insS_l (by omega), if_neg (by omega)]
    · rw [mu_ne (by decide), F 9 (by decide), x3 u hu, insS_l (by omega), if_neg (by omega)]
    · rw [mu_ne (by decide), F 10 (by decide), x4 u hu, insS_l (by omega), if_neg (by omega)]
    · rw [mu_ne (by decide), F 8 (by decide), x5 k hk, insS_l (by omega), if_neg (by omega)]
    · rw [insS_n hW] at hi
      have r2 : μ6 2 i = if i = p then ic (c 0) else if p < i ∧ i ≤ nn S then μ 2 (i - 1) else μ 2 i := by rw [f6 2 (by decide), f5 2 (by decide), f4 2 (by decide), f3 2 (by decide), f2 2 (by decide)]; exact g1 i
      have r3 : μ6 3 i = if i = p then ic (c 1) else if p < i ∧ i ≤ nn S then μ 3 (i - 1) else μ 3 i := by rw [f6 3 (by decide), f5 3 (by decide), f4 3 (by decide), f3 3 (by decide), g2 i, f1 3 (by decide)]
      have r4 : μ6 4 i = if i = p then ic (c 2) else if p < i ∧ i ≤ nn S then μ 4 (i - 1) else μ 4 i := by rw [f6 4 (by decide), f5 4 (by decide), f4 4 (by decide), g3 i, f2 4 (by decide), f1 4 (by decide)]
      have r5 : μ6 5 i = if i = p then ic (c 3) else if p < i ∧ i ≤ nn S then μ 5 (i - 1) else μ 5 i := by rw [f6 5 (by decide), f5 5 (by decide), g4 i, f3 5 (by decide), f2 5 (by decide), f1 5 (by decide)]
      have r6 : μ6 6 i = if i = p then ic (c 4) else if p < i ∧ i ≤ nn S then μ 6 (i - 1) else μ 6 i := by rw [f6 6 (by decide), g5 i, f4 6 (by decide), f3 6 (by decide), f2 6 (by decide), f1 6 (by decide)]
      have r7 : μ6 7 i = if i = p then ic (-1) else if p < i ∧ i ≤ nn S then μ 7 (i - 1) else μ 7 i := by rw [g6 i, f5 7 (by decide), f4 7 (by decide), f3 7 (by decide), f2 7 (by decide), f1 7 (by decide)]
      rw [mu_ne (by decide), mu_ne (by decide), mu_ne (by decide), mu_ne (by decide), mu_ne (by decide), mu_ne (by decide), r2, r3, r4, r5, r6, r7]
      unfold kd tg on tw nb bu
      rw [insS_f0, insS_f (w := 1) (by omega), insS_f (w := 2) (by omega), insS_f (w := 3) (by omega), insS_f (w := 4) (by omega), insS_f (w := 5) (by omega)]
      by_cases h2 : i = p
      · have h1 : ¬ i < p := by omega
        simp only [h2, h1, if_true, if_false, hc5, Nat.lt_irrefl]
        simp
      · by_cases h1 : i < p
        · have h3 : ¬ (p < i ∧ i ≤ nn S) := by omega
          simp only [h1, h2, h3, if_true, if_false]
          exact x6 i (by omega)
        · have h3 : p < i ∧ i ≤ nn S := by omega
          have h4 : i ≤ nn S := h3.2
          simp only [h1, h2, h3, h4, if_true, if_false, and_self]
          exact x6 (i - 1) (by omega)
theorem x_takeAway (h : XS 1 S μ) (hW : WF S) {p : Nat} (hp : p < nn S) : ∃ μ', fX6_takeAway μ (ic p) = some ((), μ') ∧ Fr [1, 2, 3, 4, 5, 6, 7] μ μ' ∧ XS 1 (remS S p) μ' := by
  have hz := hW.n
  have n0 := x_n h hW
  obtain ⟨μ1, e1, f1, g1⟩ := x_takeRow n0 hp hz.1 (a := 2)
  have n1 : μ1 1 0 = ic (nn S) := by rw [f1 1 (by decide), n0]
  obtain ⟨μ2, e2, f2, g2⟩ := x_takeRow n1 hp hz.1 (a := 3)
  have n2 : μ2 1 0 = ic (nn S) := by rw [f2 1 (by decide), n1]
  obtain ⟨μ3, e3, f3, g3⟩ := x_takeRow n2 hp hz.1 (a := 4)
  have n3 : μ3 1 0 = ic (nn S) := by rw [f3 1 (by decide), n2]
  obtain ⟨μ4, e4, f4, g4⟩ := x_takeRow n3 hp hz.1 (a := 5)
  have n4 : μ4 1 0 = ic (nn S) := by rw [f4 1 (by decide), n3]
  obtain ⟨μ5, e5, f5, g5⟩ := x_takeRow n4 hp hz.1 (a := 6)
  have n5 : μ5 1 0 = ic (nn S) := by rw [f5 1 (by decide), n4]
  obtain ⟨μ6, e6, f6, g6⟩ := x_takeRow n5 hp hz.1 (a := 7)
  have n6 : μ6 1 0 = ic (nn S) := by rw [f6 1 (by decide), n5]
  have F : Fr [2, 3, 4, 5, 6, 7] μ μ6 := (((((f1.mono (by decide)).trans (f2.mono (by decide))).trans (f3.mono (by decide))).trans (f4.mono (by decide))).trans (f5.mono (by decide))).trans (f6.mono (by decide))
  refine ⟨mu μ6 1 0 (ic ((nn S : Int) - 1)), ?_, (F.mono (by decide)).trans (Fr_mu (by decide)), ?_⟩
  · unfold fX6_takeAway
    simp only [ic_lit, pt]
    rw [if_neg (by rw [ic_lt (by omega)]; omega), n0, if_pos (by rw [ic_lt (by omega)]; omega), e1, bd_some, e2, bd_some, e3, bd_some, e4, bd_some, e5, bd_some, e6, bd_some, n6, ic_sub, Option.bind_some]
  · obtain ⟨x1, x2, x3, x4, x5, x6⟩ := h
    refine ⟨?_, ?_, fun u hu => ?_, fun u hu => ?_, fun k hk => ?_, fun i hi => ?_⟩
    · rw [mu_at, if_pos ⟨rfl, rfl⟩, remS_l (by omega), if_pos rfl, hW.nz]
    · rw [mu_at, if_neg (by omega), F 1 (by decide), x2, remS_l (by omega), if_neg (by omega)]
    · rw [mu_ne (by decide), F 9 (by decide), x3 u hu, remS_l (by omega), if_neg (by omega)]
    · rw [mu_ne (by decide), F 10 (by decide), x4 u hu, remS_l (by omega), if_neg (by omega)]
    · rw [mu_ne (by decide), F 8 (by decide), x5 k hk, remS_l (by omega), if_neg (by omega)]
    · rw [remS_n hW hp] at hi
      have r2 : μ6 2 i = if p ≤ i ∧ i + 1 < nn S then μ 2 (i + 1) else μ 2 i := by rw [f6 2 (by decide), f5 2 (by decide), f4 2 (by decide), f3 2 (by decide), f2 2 (by decide)]; exact g1 i
      have r3 : μ6 3 i = if p ≤ i ∧ i + 1 < nn S then μ 3 (i + 1) else μ 3 i := by rw [f6 3 (by decide), f5 3 (by decide), f4 3 (by decide), f3 3 (by decide), g2 i, f1 3 (by decide)]
      have r4 : μ6 4 i = if p ≤ i ∧ i + 1 < nn S then μ 4 (i + 1) else μ 4 i := by rw [f6 4 (by decide), f5 4 (by decide), f4 4 (by decide), g3 i, f2 4 (by decide), f1 4 (by decide)]
      have r5 : μ6 5 i = if p ≤ i ∧ i + 1 < nn S then μ 5 (i + 1) else μ 5 i := by rw [f6 5 (by decide), f5 5 (by decide), g4 i, f3 5 (by decide), f2 5 (by decide), f1 5 (by decide)]
      have r6 : μ6 6 i = if p ≤ i ∧ i + 1 < nn S then μ 6 (i + 1) else μ 6 i := by rw [f6 6 (by decide), g5 i, f4 6 (by decide), f3 6 (by decide), f2 6 (by decide), f1 6 (by decide)]
      have r7 : μ6 7 i = if p ≤ i ∧ i + 1 < nn S then μ 7 (i + 1) else μ 7 i := by rw [g6 i, f5 7 (by decide), f4 7 (by decide), f3 7 (by decide), f2 7 (by decide), f1 7 (by decide)]
      rw [mu_ne (by decide), mu_ne (by decide), mu_ne (by decide), mu_ne (by decide), mu_ne (by decide), mu_ne (by decide), r2, r3, r4, r5, r6, r7]
      unfold kd tg on tw nb bu
      rw [remS_f0, remS_f (w := 1) (by omega), remS_f (w := 2) (by omega), remS_f (w := 3) (by omega), remS_f (w := 4) (by omega), remS_f (w := 5) (by omega)]
      by_cases h1 : p ≤ i ∧ i + 1 < nn S
      · simp only [h1, if_true, and_self]
        exact x6 (i + 1) (by omega)
      · simp only [h1, if_false]
        exact x6 i (by omega)
theorem x_swapSteps (h : XS 1 S μ) (hW : WF S) {a b : Nat} (ha : a < nn S) (hb : b < nn S) : ∃ μ', fX6_swapSteps μ (ic a) (ic b) = some ((), μ') ∧ Fr [2, 3, 4, 5, 6, 7] μ μ' ∧ XS 1 (swpS S a b) μ' := by
  have hz := hW.n
  have n0 := x_n h hW
  obtain ⟨μ1, e1, f1, g1⟩ := x_swapRow (μ := μ) (i := a) (j := b) (by omega) (by omega) (a := 2)
  obtain ⟨μ2, e2, f2, g2⟩ := x_swapRow (μ := μ1) (i := a) (j := b) (by omega) (by omega) (a := 3)
  obtain ⟨μ3, e3, f3, g3⟩ := x_swapRow (μ := μ2) (i := a) (j := b) (by omega) (by omega) (a := 4)
  obtain ⟨μ4, e4, f4, g4⟩ := x_swapRow (μ := μ3) (i := a) (j := b) (by omega) (by omega) (a := 5)
  obtain ⟨μ5, e5, f5, g5⟩ := x_swapRow (μ := μ4) (i := a) (j := b) (by omega) (by omega) (a := 6)
  obtain ⟨μ6, e6, f6, g6⟩ := x_swapRow (μ := μ5) (i := a) (j := b) (by omega) (by omega) (a := 7)
  have F : Fr [2, 3, 4, 5, 6, 7] μ μ6 := (((((f1.mono (by decide)).trans (f2.mono (by decide))).trans (f3.mono (by decide))).trans (f4.mono (by decide))).trans (f5.mono (by decide))).trans (f6.mono (by decide))
  refine ⟨μ6, ?_, F, ?_⟩
  · unfold fX6_swapSteps
    simp only [ic_lit]
    rw [if_neg (by rw [ic_lt (by omega)]; omega), n0, if_neg (by rw [ic_le (by omega)]; omega), if_neg (by rw [ic_lt (by omega)]; omega), if_pos (by rw [ic_lt (by omega)]; omega), e1, bd_some, e2, bd_some, e3, bd_some, e4, bd_some, e5, bd_some, e6, bd_some]
  · obtain ⟨x1, x2, x3, x4, x5, x6⟩ := h
    refine ⟨?_, ?_, fun u hu => ?_, fun u hu => ?_, fun k hk => ?_, fun i hi => ?_⟩
    · rw [F 1 (by decide), swpS_l (by omega)]
      exact x1
    · rw [F 1 (by decide), x2, swpS_l (by omega)]
    · rw [F 9 (by decide), x3 u hu, swpS_l (by omega)]
    · rw [F 10 (by decide), x4 u hu, swpS_l (by omega)]
    · rw [F 8 (by decide), x5 k hk, swpS_l (by omega)]
    · have hnn : nn (swpS S a b) = nn S := by unfold nn; rw [swpS_l (by omega)]
      rw [hnn] at hi
      have r2 : μ6 2 i = if i = a then μ 2 b else if i = b then μ 2 a else μ 2 i := by rw [f6 2 (by decide), f5 2 (by decide), f4 2 (by decide), f3 2 (by decide), f2 2 (by decide)]; exact g1 i
      have r3 : μ6 3 i = if i = a then μ 3 b else if i = b then μ 3 a else μ 3 i := by rw [f6 3 (by decide), f5 3 (by decide), f4 3 (by decide), f3 3 (by decide), g2 i, f1 3 (by decide)]
      have r4 : μ6 4 i = if i = a then μ 4 b else if i = b then μ 4 a else μ 4 i := by rw [f6 4 (by decide), f5 4 (by decide), f4 4 (by decide), g3 i, f2 4 (by decide), f1 4 (by decide)]
      have r5 : μ6 5 i = if i = a then μ 5 b else if i = b then μ 5 a else μ 5 i := by rw [f6 5 (by decide), f5 5 (by decide), g4 i, f3 5 (by decide), f2 5 (by decide), f1 5 (by decide)]
      have r6 : μ6 6 i = if i = a then μ 6 b else if i = b then μ 6 a else μ 6 i := by rw [f6 6 (by decide), g5 i, f4 6 (by decide), f3 6 (by decide), f2 6 (by decide), f1 6 (by decide)]
      have r7 : μ6 7 i = if i = a then μ 7 b else if i = b then μ 7 a else μ 7 i := by rw [g6 i, f5 7 (by decide), f4 7 (by decide), f3 7 (by decide), f2 7 (by decide), f1 7 (by decide)]
      show μ6 2 i = _ ∧ μ6 3 i = _ ∧ μ6 4 i = _ ∧ μ6 5 i = _ ∧ μ6 6 i = _ ∧ μ6 7 i = _
      rw [r2, r3, r4, r5, r6, r7]
      unfold kd tg on tw nb bu
      rw [swpS_f0, swpS_f (w := 1) (by omega), swpS_f (w := 2) (by omega), swpS_f (w := 3) (by omega), swpS_f (w := 4) (by omega), swpS_f (w := 5) (by omega)]
      by_cases h1 : i = a
      · simp only [h1, if_true]
        exact x6 b hb
      · simp only [h1, if_false]
        by_cases h2 : i = b
        · simp only [h2, if_true]
          exact x6 a ha
        · simp only [h2, if_false]
          exact x6 i hi
end XO

