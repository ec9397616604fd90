/-! a whole text: both sides -/
section TXT9
variable {t : Nat → Int} {L : Nat} {μ : Mem} {S : Nat → Int}
/-- the steps told are put in at the end, one by one -/
def addS (S : Nat → Int) (cs : Nat → Nat → Int) : Nat → Nat → Int
  | 0 => S
  | k + 1 => insS (addS S cs k) (nn (addS S cs k)) (cs k)
theorem addS_wf (hW : WF S) {K : Nat} {cs : Nat → Nat → Int} {sp : Nat → Nat} (hS : WS t K sp cs) (hn : nn S + K ≤ 20) : ∀ k, k ≤ K → WF (addS S cs k) ∧ nn (addS S cs k) = nn S + k
  | 0, _ => ⟨hW, rfl⟩
  | k + 1, hk => by
    obtain ⟨h1, h2⟩ := addS_wf hW hS hn k (by omega)
    refine ⟨wf_ins h1 (by omega) (by omega) (sh_ck (hS.2 k (by omega)).1).1, ?_⟩
    simp only [addS]
    rw [insS_n h1, h2]
    omega
theorem ws_mono {K k : Nat} {cs : Nat → Nat → Int} {sp : Nat → Nat} (hS : WS t K sp cs) (hk : k < K) : sp (k + 1) ≤ sp K := by
  have mono : ∀ d, k + 1 + d ≤ K → sp (k + 1) ≤ sp (k + 1 + d) := by
    intro d
    induction d with
    | zero =>
      intro _
      exact Nat.le_refl _
    | succ d ih =>
      intro hd
      have := ih (by omega)
      have := (hS.2 (k + 1 + d) (by omega)).2.1
      show sp (k + 1) ≤ sp (k + 1 + d + 1)
      omega
  have := mono (K - (k + 1)) (by omega)
  rw [show k + 1 + (K - (k + 1)) = K by omega] at this
  exact this
theorem x_putInto (hT : TX t L) (h : XT t L μ) (hX : XS 1 S μ) (hW : WF S) {K : Nat} {cs : Nat → Nat → Int} {sp : Nat → Nat} (hS : WS t K sp cs) (hK : 0 < K) (hsp : sp K = L + 1) (hn : nn S + K ≤ 20) : ∃ μ', fX7_putInto μ = some ((), μ') ∧ Fr [1, 2, 3, 4, 5, 6, 7] μ μ' ∧ XS 1 (addS S cs K) μ' := by
  have hL := hT.1
  have key := loop_to (fun f (s : Int32 × Int32 × Mem) => fX7_putInto_L4 f s.1 s.2.1 s.2.2) (fun s => some ((), s.2.2)) 0 (L + 1) (fun i s => ∃ k, s.2.1 = ic (i : Int) ∧ Fr [1, 2, 3, 4, 5, 6, 7] μ s.2.2 ∧ XS 1 (addS S cs k) s.2.2 ∧ ((k < K ∧ s.1 = ic (sp k : Int) ∧ sp k ≤ i ∧ i < sp (k + 1)) ∨ (k = K ∧ i = L + 1))) (by omega) ?_ ?_ (ic 0, ic 0, μ) fu (fu_lt (by omega)) ⟨0, rfl, Fr.rfl', hX, Or.inl ⟨hK, by rw [hS.1]; rfl, by rw [hS.1]; omega, by have := (hS.2 0 hK).2.1; omega⟩⟩
  · obtain ⟨⟨a, b, ν⟩, ⟨k, -, f1, x1, hk⟩, e1⟩ := key
    have hkK : k = K := by
      rcases hk with ⟨h1, h2, h3, h4⟩ | ⟨h1, h2⟩
      · exfalso
        have := ws_mono hS (k := k) h1
        omega
      · exact h1
    rw [hkK] at x1
    exact ⟨ν, e1, f1, x1⟩
  · rintro f i ⟨v2, v3, ν⟩ h1 h2 ⟨k, h3, f1, x1, hk⟩
    dsimp only at h3 f1 x1 hk ⊢
    have hkK : k < K ∧ v2 = ic (sp k : Int) ∧ sp k ≤ i ∧ i < sp (k + 1) := by
      rcases hk with h | ⟨_, h⟩
      · exact h
      · omega
    obtain ⟨g1, g2, g3, g4⟩ := hkK
    obtain ⟨s1, s2, s3, s4⟩ := hS.2 k g1
    obtain ⟨w1, n1⟩ := addS_wf hW hS hn k (by omega)
    have hν : XT t L ν := ⟨by rw [f1 73 (by decide)]; exact h.1, fun i hi => by rw [f1 74 (by decide)]; exact h.2 i hi⟩
    subst g2 h3
    by_cases hend : i = sp (k + 1) - 1
    · obtain ⟨ν', e2, f2, x2⟩ := x_putStep hT hν x1 w1 (by omega) (s := sp k) (e := i) (by omega) (by omega) (by rw [hend]; exact s1)
      refine ⟨(ic ((i + 1 : Nat) : Int), ic ((i + 1 : Nat) : Int), ν'), ⟨k + 1, rfl, f1.trans f2, x2, ?_⟩, ?_⟩
      · by_cases hc : k + 1 = K
        · right
          have := hsp
          rw [← hc] at this
          exact ⟨hc, by omega⟩
        · left
          have := (hS.2 (k + 1) (by omega)).2.1
          exact ⟨by omega, by dsimp only; rw [show sp (k + 1) = i + 1 by omega], by omega, by omega⟩
      · dsimp only
        rw [fX7_putInto_L4]
        unfold fX7_putInto_L30 fX7_putInto_L41
        rw [if_neg (by rw [hν.1, ic_lt (by omega)]; omega), e2, bd_some]
        simp only [show (1 : Int32) = ic 1 from rfl, ic_add]
        by_cases hc : i = L
        · rw [if_pos (by rw [hν.1, hc])]
          rfl
        · rw [if_neg (by rw [hν.1, ic_eq (by omega)]; omega), x_signAt hT hν (by omega), bd_some]
          have hkk : k + 1 < K := by
            by_cases hkk : k + 1 < K
            · exact hkk
            · exfalso
              rw [show k + 1 = K by omega, hsp] at hend
              omega
          have := s4 hkk
          rw [← hend] at this
          rw [if_pos (by rw [this]; rfl), e2, bd_some]
          rfl
    · have hn59 := s3 i g3 (by omega)
      have hil : i < L := by
        by_cases hil : i < L
        · exact hil
        · exfalso
          have := ws_mono hS g1
          omega
      refine ⟨(ic (sp k : Int), ic ((i + 1 : Nat) : Int), ν), ⟨k, rfl, f1, x1, Or.inl ⟨g1, rfl, by omega, by omega⟩⟩, ?_⟩
      dsimp only
      have hg := hT.rg i
      rw [fX7_putInto_L4]
      unfold fX7_putInto_L41
      rw [if_neg (by rw [hν.1, ic_lt (by omega)]; omega), if_neg (by rw [hν.1, ic_eq (by omega)]; omega), x_signAt hT hν (by omega), bd_some, show (59 : Int32) = ic 59 from rfl, if_neg (by rw [ic_eq (by omega)]; exact hn59)]
      simp only [show (1 : Int32) = ic 1 from rfl, ic_add]
      rfl
  · rintro f ⟨v2, v3, ν⟩ ⟨k, h3, f1, x1, hk⟩
    dsimp only at h3 f1 x1 hk ⊢
    subst h3
    rw [fX7_putInto_L4]
    rw [if_pos (by rw [f1 73 (by decide), h.1, ic_lt (by omega)]; omega)]
end TXT9

