/-! THE RELATION of the two memories, and what adds a whole text -/
def Cf : Type := (Nat → Int) × (Nat → Nat → Int) × Nat × Bool × (Nat → Int) × (Nat → Int) × Nat
def Cf.S (c : Cf) : Nat → Int := c.1
def Cf.HS (c : Cf) : Nat → Nat → Int := c.2.1
def Cf.m (c : Cf) : Nat := c.2.2.1
def Cf.hk (c : Cf) : Bool := c.2.2.2.1
def Cf.SK (c : Cf) : Nat → Int := c.2.2.2.2.1
def Cf.t (c : Cf) : Nat → Int := c.2.2.2.2.2.1
def Cf.L (c : Cf) : Nat := c.2.2.2.2.2.2
def GC (c : Cf) : Prop := WF c.S ∧ (∀ r, r < c.m → WF (c.HS r)) ∧ (c.hk = true → WF c.SK) ∧ TX c.t c.L
def XC (c : Cf) (μ : Mem) : Prop := CQ c.S μ ∧ XH c.HS c.m μ ∧ μ 0 3 = b2 c.hk ∧ (c.hk = true → XS 63 c.SK μ) ∧ XT c.t c.L μ
def MC (c : Cf) (μ : Mem) : Prop := MS c.S μ ∧ MH c.HS c.m μ ∧ μ 0 4 = b2 c.hk ∧ (c.hk = true → ∀ k, k < 152 → μ 3 k = ic (c.SK k)) ∧ RT c.t c.L μ
theorem MC.of {c : Cf} {μ μ' : Mem} (h : MC c μ) (h1 : ∀ a, 1 ≤ a → a ≤ 4 → μ' a = μ a) (h0 : ∀ k, k = 2 ∨ k = 4 ∨ k = 6 → μ' 0 k = μ 0 k) : MC c μ' := by
  obtain ⟨a1, ⟨b1, b2, b3⟩, a3, a4, a5, a6⟩ := h
  refine ⟨fun k hk => by rw [h1 1 (by omega) (by omega)]; exact a1 k hk, ⟨by rw [h0 2 (by omega)]; exact b1, b2, fun r k hr hk => by rw [h1 2 (by omega) (by omega)]; exact b3 r k hr hk⟩, by rw [h0 4 (by omega)]; exact a3, fun q k hk => by rw [h1 3 (by omega) (by omega)]; exact a4 q k hk, by rw [h0 6 (by omega)]; exact a5, fun i hi => by rw [h1 4 (by omega) (by omega)]; exact a6 i hi⟩
theorem XC.fx {c : Cf} {μ μ' : Mem} (h : XC c μ) (hQ : CQ c.S μ') (hF : Fx μ μ') : XC c μ' := by
  obtain ⟨_, a2, a3, a4, a5, a6⟩ := h
  refine ⟨hQ, a2.of fun a h1 h2 => hF.1 a (by omega) (by omega), by rw [hF.2 3 (by omega) (by omega)]; exact a3, fun q => (a4 q).of fun k hk => hF.1 _ (by omega) (by omega), by rw [hF.1 73 (by omega) (by omega)]; exact a5, fun i hi => by rw [hF.1 74 (by omega) (by omega)]; exact a6 i hi⟩
theorem cnt_add {t : Nat → Int} {a : Nat} : ∀ d, (∀ i, a ≤ i → i < a + d → t i ≠ 59) → cnt t (a + d) = cnt t a
  | 0, _ => rfl
  | d + 1, h => by
    have := cnt_add (t := t) (a := a) d (fun i h1 h2 => h i h1 (by omega))
    show cnt t (a + d + 1) = cnt t a
    simp only [cnt]
    rw [this, if_neg (h (a + d) (by omega) (by omega))]
    rfl
theorem ws_cnt {t : Nat → Int} {sp : Nat → Nat} {cs : Nat → Nat → Int} {K : Nat} (h : WS t K sp cs) : ∀ k, k < K → cnt t (sp k) = k ∧ cnt t (sp (k + 1) - 1) = k
  | k, hk => by
    have h0 : cnt t (sp k) = k := by
      cases k with
      | zero =>
        rw [h.1]
        rfl
      | succ j =>
        have h1 := (ws_cnt h j (by omega)).2
        obtain ⟨h2, h3, h4, h5⟩ := h.2 j (by omega)
        rw [show sp (j + 1) = (sp (j + 1) - 1) + 1 by omega]
        simp only [cnt]
        rw [h1, if_pos (h5 hk)]
    obtain ⟨h2, h3, h4, h5⟩ := h.2 k hk
    refine ⟨h0, ?_⟩
    have := cnt_add (t := t) (a := sp k) (sp (k + 1) - 1 - sp k) (fun i a b => h4 i a (by omega))
    rw [show sp k + (sp (k + 1) - 1 - sp k) = sp (k + 1) - 1 by omega, h0] at this
    exact this
theorem ws_count {t : Nat → Int} {sp : Nat → Nat} {cs : Nat → Nat → Int} {K L : Nat} (h : WS t K sp cs) (hK : 0 < K) (hs : sp K = L + 1) : 1 + cnt t L = K := by
  have := (ws_cnt h (K - 1) (by omega)).2
  rw [show K - 1 + 1 = K by omega, hs, show L + 1 - 1 = L by omega] at this
  omega
section REL
variable {t : Nat → Int} {L : Nat} {μ : Mem} {S : Nat → Int} {HS : Nat → Nat → Int} {m : Nat}
theorem x_spoil : ∃ μ', fX8_spoil μ = some ((), μ') ∧ (∀ a, a ≠ 0 → μ' a = μ a) ∧ (∀ k, k ≠ 6 → k ≠ 10 → μ' 0 k = μ 0 k) ∧ μ' 0 6 = ic 0 ∧ μ' 0 10 = ic 0 := by
  refine ⟨mu (mu μ 0 6 (ic 0)) 0 10 (ic 0), ?_, fun a ha => ?_, fun k h1 h2 => ?_, ?_, ?_⟩
  · unfold fX8_spoil
    simp only [pt, ic_lit, Option.bind_some]
  · rw [mu_ne ha, mu_ne ha]
  · rw [mu_at, if_neg (by omega), mu_at, if_neg (by omega)]
  · rw [mu_at, if_neg (by omega), mu_at, if_pos ⟨rfl, rfl⟩]
  · rw [mu_at, if_pos ⟨rfl, rfl⟩]
theorem x_save (hX : XS 1 S μ) (hW : WF S) (hH : XH HS m μ) : ∃ μ', fX8_save μ = some ((), μ') ∧ (∀ a, a ≠ 0 → a < 11 ∨ 63 ≤ a → μ' a = μ a) ∧ (∀ k, k ≠ 6 → k ≠ 10 → μ' 0 k = μ 0 k) ∧ μ' 0 6 = ic 0 ∧ μ' 0 10 = ic 0 ∧ XH (psh HS m S) (pm m) μ' := by
  obtain ⟨μ1, e1, f1, H1⟩ := x_push hH hX hW
  obtain ⟨μ2, e2, f2, g2, a2, b2⟩ := x_spoil (μ := μ1)
  refine ⟨μ2, ?_, fun a ha hb => by rw [f2 a ha, f1 a hb], fun k h1 h2 => by rw [g2 k h1 h2, f1 0 (by omega)], a2, b2, H1.of fun a h1 h2 => f2 a (by omega)⟩
  unfold fX8_save
  rw [e1, bd_some, e2, bd_some]
theorem x_addAll0 (hT : TX t L) (h : XT t L μ) (hw : whole t L = false) : fX8_addAll μ = some (.inr 2, μ) := by
  unfold fX8_addAll
  rw [x_isWhole hT h, hw, bd_some, if_pos (by rfl)]
theorem x_addAll1 (hT : TX t L) (h : XT t L μ) (hX : XS 1 S μ) (hW : WF S) (hw : whole t L = true) {K : Nat} {cs : Nat → Nat → Int} {sp : Nat → Nat} (hS : WS t K sp cs) (hK : 0 < K) (hsp : sp K = L + 1) (hn : 20 < nn S + K) : fX8_addAll μ = some (.inr 3, μ) := by
  have hc := ws_count hS hK hsp
  have h20 := hW.n
  have hk15 := ws_len hS K (Nat.le_refl _)
  have hL := hT.1
  unfold fX8_addAll
  rw [x_isWhole hT h, hw, bd_some, if_neg (by decide), x_countOfSteps hT h, bd_some, hc, x_n hX hW, ic_add, show (20 : Int32) = ic 20 from rfl, if_neg (by rw [ic_le (by omega)]; omega)]
theorem x_addAll2 (hT : TX t L) (h : XT t L μ) (hX : XS 1 S μ) (hW : WF S) (hH : XH HS m μ) (hw : whole t L = true) {K : Nat} {cs : Nat → Nat → Int} {sp : Nat → Nat} (hS : WS t K sp cs) (hK : 0 < K) (hsp : sp K = L + 1) (hn : nn S + K ≤ 20) : ∃ μ', fX8_addAll μ = some (.inl (ic ((nn S + K : Nat) : Int)), μ') ∧ (∀ a, 63 ≤ a → a ≠ 73 → μ' a = μ a) ∧ (∀ k, k ≠ 6 → k ≠ 10 → μ' 0 k = μ 0 k) ∧ μ' 0 6 = ic 0 ∧ μ' 0 10 = ic 0 ∧ XH (psh HS m S) (pm m) μ' ∧ XS 1 (addS S cs K) μ' ∧ XT (fun _ => 0) 0 μ' := by
  have hc := ws_count hS hK hsp
  have h20 := hW.n
  obtain ⟨μ1, e1, f1, g1, a1, b1, H1⟩ := x_save hX hW hH
  have X1 : XS 1 S μ1 := hX.of fun k hk => f1 _ (by omega) (by omega)
  have T1 : XT t L μ1 := ⟨by rw [f1 73 (by omega) (by omega)]; exact h.1, fun i hi => by rw [f1 74 (by omega) (by omega)]; exact h.2 i hi⟩
  obtain ⟨μ2, e2, f2, x2⟩ := x_putInto hT T1 X1 hW hS hK hsp hn
  have f2' : ∀ a, 8 ≤ a → μ2 a = μ1 a := fun a ha => f2 a (by simp only [List.mem_cons, List.not_mem_nil, or_false]; omega)
  obtain ⟨w3, n3⟩ := addS_wf hW hS hn K (Nat.le_refl _)
  have x3 : XS 1 (addS S cs K) (mu μ2 73 1 (ic 0)) := x2.of fun k hk => mu_ne (by omega)
  refine ⟨mu μ2 73 1 (ic 0), ?_, fun a ha hb => ?_, fun k h1 h2 => ?_, ?_, ?_, ?_, x3, ?_, fun i hi => absurd hi (by omega)⟩
  · unfold fX8_addAll
    rw [x_isWhole hT h, hw, bd_some, if_neg (by decide), x_countOfSteps hT h, bd_some, hc, x_n hX hW, ic_add, show (20 : Int32) = ic 20 from rfl, if_pos (by rw [ic_le (by omega)]; omega), e1, bd_some, e2, bd_some]
    simp only [pt, show (0 : Int32) = ic 0 from rfl, Option.bind_some]
    rw [x_n x3 w3, n3]
  · rw [mu_ne hb, f2' a (by omega), f1 a (by omega) (by omega)]
  · rw [mu_ne (by decide), f2 0 (by decide), g1 k h1 h2]
  · rw [mu_ne (by decide), f2 0 (by decide), a1]
  · rw [mu_ne (by decide), f2 0 (by decide), b1]
  · exact H1.of fun a h1 h2 => by rw [mu_ne (by omega), f2' a (by omega)]
  · rw [mu_at, if_pos ⟨rfl, rfl⟩]
    rfl
end REL

