/-! ANSWERS ALIKE: saved states, the snapshot, a whole text added -/
def cfS (c : Cf) (S : Nat → Int) (HS : Nat → Nat → Int) (m : Nat) : Cf := (S, HS, m, c.hk, c.SK, c.t, c.L)
def cd1 (_ : Nat) : Int := 1
theorem xc_state {c : Cf} {X X' : Mem} {S : Nat → Int} {HS : Nat → Nat → Int} {m : Nat} (h : XC c X) (hX : XS 1 S X') (hW : WF S) (h6 : X' 0 6 = ic 0) (h10 : X' 0 10 = ic 0) (h0 : ∀ k, k ≠ 6 → k ≠ 10 → X' 0 k = X 0 k) (hF : ∀ a, 63 ≤ a → X' a = X a) (hH : XH HS m X') : XC (cfS c S HS m) X' := by
  obtain ⟨a1, a2, a3, a4, a5, a6⟩ := h
  exact ⟨⟨hX, hW, Or.inl h6, Or.inl h10⟩, hH, by rw [h0 3 (by omega) (by omega)]; exact a3, fun q => (a4 q).of fun k hk => hF _ (by omega), by rw [hF 73 (by omega)]; exact a5, fun i hi => by rw [hF 74 (by omega)]; exact a6 i hi⟩
theorem mc_state {c : Cf} {M M' : Mem} {S : Nat → Int} {HS : Nat → Nat → Int} {m : Nat} (h : MC c M) (hS : MS S M') (hH : MH HS m M') (h0 : ∀ k, k = 4 ∨ k = 6 → M' 0 k = M 0 k) (hF : ∀ a, a = 3 ∨ a = 4 → M' a = M a) : MC (cfS c S HS m) M' := by
  obtain ⟨a1, a2, a3, a4, a5, a6⟩ := h
  exact ⟨hS, hH, by rw [h0 4 (by omega)]; exact a3, fun q k hk => by rw [hF 3 (by omega)]; exact a4 q k hk, by rw [h0 6 (by omega)]; exact a5, fun i hi => by rw [hF 4 (by omega)]; exact a6 i hi⟩
theorem wf_psh {S : Nat → Int} {HS : Nat → Nat → Int} {m : Nat} (hW : WF S) (hm : m ≤ 5) (hH : ∀ r, r < m → WF (HS r)) : ∀ r, r < pm m → WF (psh HS m S r) := fun r hr => by
  unfold pm at hr
  unfold psh
  by_cases h5 : m = 5
  · rw [if_pos h5] at hr ⊢
    by_cases h4 : r = 4
    · rw [if_pos h4]
      exact hW
    · rw [if_neg h4]
      exact hH _ (by omega)
  · rw [if_neg h5] at hr ⊢
    by_cases h4 : r = m
    · rw [if_pos h4]
      exact hW
    · rw [if_neg h4]
      exact hH _ (by omega)
theorem b2_z {b : Bool} : (b2 b = 0) = (b = false) := by
  cases b
  · exact propext ⟨fun _ => rfl, fun _ => rfl⟩
  · exact propext ⟨fun q => absurd q (by decide), fun q => by cases q⟩
section ANS2
variable {c : Cf} {X M : Mem}
theorem a_savedStates (hG : GC c) (hX : XC c X) (hM : MC c M) : AgrI (fX8_savedStates X) (fX9_savedStates M) := by
  refine ⟨c, X, mu M 0 22 (ic 0), hG, hX, mc_thr _ hM, ic c.m, ?_, ?_, mus⟩
  · unfold fX8_savedStates
    rw [hX.2.1.1]
  · unfold fX9_savedStates
    simp only [pt, Option.bind_some]
    rw [show (0 : Int32) = ic 0 from rfl, muk (by decide), hM.2.1.1]
theorem a_undo (hG : GC c) (hX : XC c X) (hM : MC c M) : Agr cd1 (fX8_undo X) (fX9_undo M) := by
  have hm5 := hM.2.1.2.1
  by_cases hm : c.m = 0
  · refine ⟨c, X, mu M 0 22 (ic 1), hG, hX, mc_thr _ hM, Or.inr ⟨3, 0, ?_, ?_, mus, by decide, by decide⟩⟩
    · unfold fX8_undo
      rw [hX.2.1.1, hm, if_pos (by rfl)]
    · unfold fX9_undo fX9_undo_L13
      rw [hM.2.1.1, hm, if_pos (by rfl), show (1 : Int32) = ic 1 from rfl]
      simp only [pt, Option.bind_some]
      rw [mus, if_neg (by decide)]
  · have hWm := hG.2.1 (c.m - 1) (by omega)
    obtain ⟨X1, e1, f1, x1, H1⟩ := x_popInto hX.2.1 (by omega) hWm
    obtain ⟨X2, e2, f2, g2, a2, b2'⟩ := x_spoil (μ := X1)
    obtain ⟨M1, e3, f3, g3, k3⟩ := r_lays0 (μ := mu (mu M 0 22 (ic 0)) 0 2 (ic ((c.m - 1 : Nat) : Int))) (a0 := 2) (a2 := 1) (n0 := 760) (n2 := 152) rfl rfl (by omega) (x := 152 * (c.m - 1)) (y := 0) (by omega) (by omega) (by omega)
    have M2 : M1 2 = M 2 := by rw [f3 2 (by decide), mu_ne (by decide), mu_ne (by decide)]
    have M0 : M1 0 2 = ic ((c.m - 1 : Nat) : Int) := by rw [f3 0 (by decide), mus]
    have hMS : MS (c.HS (c.m - 1)) M1 := fun k hk => by
      have := g3 k hk
      rw [Nat.zero_add] at this
      rw [this, mu_ne (by decide), mu_ne (by decide)]
      exact hM.2.1.2.2 (c.m - 1) k (by omega) hk
    have H2 : XH c.HS (c.m - 1) X2 := H1.of fun a h1 h2 => f2 a (by omega)
    refine ⟨cfS c (c.HS (c.m - 1)) c.HS (c.m - 1), X2, M1, ⟨hWm, fun r hr => hG.2.1 r ?_, hG.2.2.1, hG.2.2.2⟩, xc_state hX (x1.of fun k hk => f2 _ (by omega)) hWm a2 b2' (fun k h1 h2 => by rw [g2 k h1 h2, f1 0 (by omega) (by omega)]) (fun a ha => by rw [f2 a (by omega), f1 a (by omega) (by omega)]) H2, mc_state hM hMS ⟨M0, by omega, fun r k hr hk => by rw [M2]; exact hM.2.1.2.2 r k (by omega) hk⟩ (fun k hk => by rw [f3 0 (by decide), muk (by omega), muk (by omega)]) (fun a ha => by rw [f3 a (by simp only [List.mem_cons, List.not_mem_nil, or_false]; omega), mu_ne (by omega), mu_ne (by omega)]), Or.inl ⟨ic ((c.m - 1 : Nat) : Int), ?_, ?_, ?_⟩⟩
    · have hr' : r < c.m - 1 := hr
      omega
    · unfold fX8_undo
      rw [hX.2.1.1, if_neg (by rw [show (0 : Int32) = ic 0 from rfl, ic_eq (by omega)]; omega), e1, bd_some, e2, bd_some, H2.1]
    · unfold fX9_undo fX9_undo_L13
      rw [hM.2.1.1, show (0 : Int32) = ic 0 from rfl, if_neg (by rw [ic_eq (by omega)]; omega)]
      simp only [pt, Option.bind_some]
      rw [mus, if_pos (by decide), muk (by decide), hM.2.1.1, show (1 : Int32) = ic 1 from rfl, ic_sub, show (c.m : Int) - 1 = ((c.m - 1 : Nat) : Int) by omega, mus, show (152 : Int32) = ic 152 from rfl, ic_mul, show (152 : Int) * ((c.m - 1 : Nat) : Int) = ((152 * (c.m - 1) : Nat) : Int) by omega]
      rw [show ic 0 = ic ((0 : Nat) : Int) from rfl] at e3 ⊢
      rw [e3, bd_some, M0]
    · rw [f3 0 (by decide), muk (by decide), mus]
theorem a_keep (hG : GC c) (hX : XC c X) (hM : MC c M) : AgrI (fX8_keep X) (fX9_keep M) := by
  have hW := hG.1
  obtain ⟨X1, e1, f1, x1⟩ := x_copyFrom (μ := X) (a := 63) (b := 1) (by omega)
  obtain ⟨M1, e3, f3, g3, k3⟩ := r_lays0 (μ := mu M 0 22 (ic 0)) (a0 := 1) (a2 := 3) (n0 := 152) (n2 := 152) rfl rfl (by omega) (x := 0) (y := 0) (by omega) (by omega) (by omega)
  have fM : ∀ a, a ≠ 0 → a ≠ 3 → M1 a = M a := fun a h1 h2 => by rw [f3 a (by simpa using h2), mu_ne h1]
  have x2 := x1 c.S hX.1.1 hW
  have hX1 : XS 1 c.S X1 := hX.1.1.of fun k hk => f1 _ (by omega)
  have hMS : MS c.S M1 := fun k hk => by rw [fM 1 (by omega) (by omega)]; exact hM.1 k hk
  refine ⟨(c.S, c.HS, c.m, true, c.S, c.t, c.L), mu X1 0 3 (ic 1), mu M1 0 4 (ic 1), ⟨hW, hG.2.1, fun _ => hW, hG.2.2.2⟩, ⟨?_, ?_, mus, fun _ => x2.of fun k hk => mu_ne (by omega), ?_, fun i hi => ?_⟩, ⟨fun k hk => by rw [mu_ne (by decide)]; exact hMS k hk, ⟨?_, hM.2.1.2.1, fun r k hr hk => ?_⟩, mus, fun _ k hk => ?_, ?_, fun i hi => ?_⟩, ic (nn c.S), ?_, ?_, ?_⟩
  · exact cq_of3 hX.1 (fun a h1 h2 => by rw [mu_ne (by omega), f1 a (by omega)]) (by rw [muk (by decide), f1 0 (by omega)]) (by rw [muk (by decide), f1 0 (by omega)])
  · exact hX.2.1.of fun a h1 h2 => by rw [mu_ne (by omega), f1 a (by omega)]
  · rw [mu_ne (by decide), f1 73 (by omega)]
    exact hX.2.2.2.2.1
  · rw [mu_ne (by decide), f1 74 (by omega)]
    exact hX.2.2.2.2.2 i hi
  · rw [muk (by decide), f3 0 (by decide), muk (by decide)]
    exact hM.2.1.1
  · rw [mu_ne (by decide), fM 2 (by omega) (by omega)]
    exact hM.2.1.2.2 r k hr hk
  · have := g3 k hk
    rw [Nat.zero_add] at this
    rw [mu_ne (by decide), this, mu_ne (by decide)]
    exact hM.1 k hk
  · rw [muk (by decide), f3 0 (by decide), muk (by decide)]
    exact hM.2.2.2.2.1
  · rw [mu_ne (by decide), fM 4 (by omega) (by omega)]
    exact hM.2.2.2.2.2 i hi
  · unfold fX8_keep
    rw [e1, bd_some]
    simp only [pt, Option.bind_some]
    rw [mu_ne (by decide), x_n hX1 hW]
    rfl
  · unfold fX9_keep
    simp only [pt, Option.bind_some]
    rw [show (0 : Int32) = ic ((0 : Nat) : Int) from rfl] at *
    rw [show mu M 0 22 (ic ((0 : Nat) : Int)) = mu M 0 22 (ic 0) from rfl, e3, bd_some, mu_ne (by decide), ms_ld hMS 0 rfl (by omega), Option.bind_some, hW.nz]
    rfl
  · rw [muk (by decide), f3 0 (by decide), mus]
end ANS2
