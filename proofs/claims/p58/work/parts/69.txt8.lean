/-! a whole text read, by the reference -/
def FW (μ μ' : Mem) : Prop := (∀ a, a ≠ 0 → a ≠ 20 → μ' a = μ a) ∧ ∀ k, k ≠ 23 → k ≠ 25 → μ' 0 k = μ 0 k
/-- K steps read from the sign 0 on; the k-th goes from sp k to the sign before sp (k + 1) - 1 -/
def WS (t : Nat → Int) (K : Nat) (sp : Nat → Nat) (cs : Nat → Nat → Int) : Prop := sp 0 = 0 ∧ ∀ k, k < K → Sh t (sp k) (sp (k + 1) - 1) (cs k) ∧ sp k < sp (k + 1) ∧ (∀ i, sp k ≤ i → i < sp (k + 1) - 1 → t i ≠ 59) ∧ (k + 1 < K → t (sp (k + 1) - 1) = 59)
def TM (K : Nat) (cs : Nat → Nat → Int) (μ : Mem) : Prop := ∀ k j, k < K → j < 5 → μ 20 (5 * k + j) = ic (cs k j)
theorem pm_self {μ : Mem} {K s : Nat} (h : μ 0 23 = ic s) : μ = PM μ K s (fun k => (μ 20 (5 * K + k)).toInt) := by
  funext a k
  unfold PM
  by_cases h1 : a = 0 ∧ k = 23
  · rw [if_pos h1, h1.1, h1.2, h]
  · rw [if_neg h1]
    by_cases h2 : a = 20 ∧ 5 * K ≤ k ∧ k < 5 * K + 5
    · rw [if_pos h2, ic_of, show 5 * K + (k - 5 * K) = k by omega, h2.1]
    · rw [if_neg h2]
theorem fw_pm {μ : Mem} {K s : Nat} {f : Nat → Int} : FW μ (PM μ K s f) := ⟨fun a h1 h2 => pm_ne ⟨h1, h2⟩, fun k h1 h2 => pmt_0 h1⟩
theorem FW.trans {μ μ1 μ2 : Mem} (h1 : FW μ μ1) (h2 : FW μ1 μ2) : FW μ μ2 := ⟨fun a h3 h4 => (h2.1 a h3 h4).trans (h1.1 a h3 h4), fun k h3 h4 => (h2.2 k h3 h4).trans (h1.2 k h3 h4)⟩
theorem fw_25 {μ : Mem} {v : Int32} : FW μ (mu μ 0 25 v) := ⟨fun a h1 h2 => mu_ne h1, fun k h1 h2 => by rw [mu_at, if_neg (by omega)]⟩
theorem fw_23 {μ : Mem} {v : Int32} : FW μ (mu μ 0 23 v) := ⟨fun a h1 h2 => mu_ne h1, fun k h1 h2 => by rw [mu_at, if_neg (by omega)]⟩
def RT (t : Nat → Int) (L : Nat) (μ : Mem) : Prop := μ 0 6 = ic L ∧ ∀ i, i < L → μ 4 i = ic (t i)
theorem RT.fw {t : Nat → Int} {L : Nat} {μ μ' : Mem} (h : RT t L μ) (hF : FW μ μ') : RT t L μ' := ⟨by rw [hF.2 6 (by omega) (by omega)]; exact h.1, fun i hi => by rw [hF.1 4 (by omega) (by omega)]; exact h.2 i hi⟩
theorem ws_len {t : Nat → Int} {sp : Nat → Nat} {cs : Nat → Nat → Int} {K : Nat} (h : WS t K sp cs) : ∀ k, k ≤ K → 4 * k ≤ sp k
  | 0, _ => Nat.zero_le _
  | k + 1, hk => by
    have h1 := ws_len h k (by omega)
    obtain ⟨h2, h3, _⟩ := h.2 k (by omega)
    have := (sh_ck h2).2.2
    omega
section TXT8
variable {t : Nat → Int} {L : Nat} {μ : Mem}
/-- the reading as it stands before the K-th step -/
def WI (t : Nat → Int) (L K : Nat) (μ ν : Mem) : Prop := FW μ ν ∧ ∃ (s : Nat) (sp : Nat → Nat) (cs : Nat → Nat → Int), ν 0 23 = ic s ∧ ν 0 25 = ic K ∧ s ≤ L ∧ run t 0 0 s = 0 ∧ WS t K sp cs ∧ sp K = s ∧ (0 < K → t (s - 1) = 59) ∧ TM K cs ν
def WE (t : Nat → Int) (L : Nat) (μ μ' : Mem) (w : Bool) : Prop := FW μ μ' ∧ w = whole t L ∧ (w = false → ∃ i : Nat, isFb t i ∧ i ≤ L ∧ μ' 0 23 = ic i) ∧ (w = true → isFb t L ∧ ∃ (K : Nat) (sp : Nat → Nat) (cs : Nat → Nat → Int), μ' 0 25 = ic K ∧ 0 < K ∧ WS t K sp cs ∧ sp K = L + 1 ∧ TM K cs μ')
theorem run_to {s e : Nat} {q : Int} (h0 : run t 0 0 s = 0) (h : Rn t 0 s q e) : run t 0 0 e = q := by
  have := run_add (t := t) (m := 0) (s := 0) (d := s) (e - s)
  have h1 := h.1
  rw [h0, Nat.zero_add, show s + (e - s) = e by omega, h.2.1] at this
  exact this
theorem bad_fb {s e : Nat} {q : Int} (h0 : run t 0 0 s = 0) (h : Rn t 0 s q e) (hq : q ≠ -1) (hd : dst q (t e) = -1) : isFb t e := by
  have e1 := run_to h0 h
  refine ⟨by rw [e1]; exact hq, ?_⟩
  simp only [run]
  rw [e1, Nat.zero_add, hd]
theorem fb_whole {i : Nat} (hT : TX t L) (h : isFb t i) (hl : i ≤ L) (hq : i = L → run t 0 0 i ≠ 4 ∧ run t 0 0 i ≠ 5) : whole t L = false := by
  unfold whole
  by_cases hi : i = L
  · have := hq hi
    rw [hi] at this
    exact decide_eq_false (by omega)
  · have := run_add (t := t) (m := 0) (s := 0) (d := i + 1) (L - (i + 1))
    rw [h.2, run_bad, show i + 1 + (L - (i + 1)) = L by omega] at this
    rw [this]
    rfl
theorem ws_snoc {K s e : Nat} {sp : Nat → Nat} {cs : Nat → Nat → Int} {c : Nat → Int} (h : WS t K sp cs) (hs : sp K = s) (hS : Sh t s e c) (hN : ∀ i, s ≤ i → i < e → t i ≠ 59) (h59 : 0 < K → t (s - 1) = 59) : WS t (K + 1) (fun k => if k = K + 1 then e + 1 else sp k) (fun k => if k = K then c else cs k) := by
  have hl := (sh_ck hS).2.2
  refine ⟨by dsimp only; rw [if_neg (by omega)]; exact h.1, fun k hk => ?_⟩
  dsimp only
  by_cases hc : k = K
  · rw [hc, if_neg (by omega), if_pos rfl, if_pos rfl, hs]
    exact ⟨hS, by omega, hN, fun q => absurd q (by omega)⟩
  · rw [if_neg (by omega), if_neg (by omega), if_neg hc]
    obtain ⟨h2, h3, h4, h5⟩ := h.2 k (by omega)
    refine ⟨h2, h3, h4, fun q => ?_⟩
    by_cases hk2 : k + 1 < K
    · exact h5 hk2
    · rw [show k + 1 = K by omega, hs]
      exact h59 (by omega)
end TXT8

