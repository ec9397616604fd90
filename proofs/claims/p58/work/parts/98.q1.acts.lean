/-! ONE DRAWN ACT: it answers and its change is told, or it is refused and nothing changed -/
/-- the registers at first are within 0..7 -/
def Fb (S : Nat → Int) : Prop := ∀ i, i < 12 → 0 ≤ S (8 + i) ∧ S (8 + i) ≤ 7
def AA (c : Cf) (o : Option (Int32 × Mem)) : Prop :=
  (∃ (v : Int) (S' : Nat → Int) (X' : Mem), o = some (ic v, X') ∧ (-1999 ≤ v ∧ v < 2147483648) ∧ KC (nx c S') X' ∧ Fb S') ∨ (∃ (k : Nat) (X' : Mem), o = some (cxk k, X') ∧ KC c X')
theorem Fb_set {S : Nat → Int} (h : Fb S) {k : Nat} {v : Int} (hk : (8 ≤ k ∧ k < 20) → 0 ≤ v ∧ v ≤ 7) : Fb (updI S k v) := fun i hi => by
  unfold updI
  split
  · next h1 => exact hk (by omega)
  · exact h i hi
theorem Fb_low {S S' : Nat → Int} (h : Fb S) (hl : ∀ k, 8 ≤ k → k < 20 → S' k = S k) : Fb S' := fun i hi => by
  rw [hl _ (by omega) (by omega)]
  exact h i hi
section ACTS
variable {c : Cf} {X : Mem}
theorem a_x {k : Nat} {o : Option ((Int32 ⊕ Nat) × Mem)} (h : QX c k o) : AA c (clo o) := by
  obtain ⟨X', e, h'⟩ := clo_x h
  exact Or.inr ⟨k, X', e, h'⟩
theorem a_y {v : Int} {S' : Nat → Int} {o : Option ((Int32 ⊕ Nat) × Mem)} (h : ∃ X', o = some (.inl (ic v), X') ∧ KC (nx c S') X') (hv : -1999 ≤ v ∧ v < 2147483648) (hF : Fb S') : AA c (clo o) := by
  obtain ⟨X', e, h'⟩ := h
  exact Or.inl ⟨v, S', X', clo_a e, hv, h', hF⟩
theorem act_insert (h : KC c X) (hF : Fb c.S) (a1 a2 a3 a4 a5 a6 : Int32) : AA c (clo (fX8_insert X a1 a2 a3 a4 a5 a6)) := by
  obtain ⟨p, rfl, rp⟩ := i32_ex a1
  obtain ⟨k, rfl, rk⟩ := i32_ex a2
  obtain ⟨x, rfl, rx⟩ := i32_ex a3
  obtain ⟨y, rfl, ry⟩ := i32_ex a4
  obtain ⟨z, rfl, rz⟩ := i32_ex a5
  obtain ⟨v, rfl, rv⟩ := i32_ex a6
  have hn := h.1.1.n.1
  by_cases g1 : (0 ≤ p ∧ p ≤ nn c.S) ∧ (0 ≤ x ∧ x ≤ 11) ∧ (0 ≤ y ∧ y ≤ 11) ∧ (0 ≤ z ∧ z ≤ 11)
  · by_cases g2 : (0 ≤ k ∧ k ≤ 6) ∧ -99 ≤ v ∧ v ≤ 99
    · by_cases g3 : nn c.S = 20
      · exact a_x (n_insert3 h g1.1 g2.1 g1.2.1 g1.2.2.1 g1.2.2.2 g2.2 g3)
      · obtain ⟨n, rfl⟩ : ∃ n : Nat, p = n := ⟨p.toNat, by omega⟩
        have hn1 : n ≤ nn c.S := by omega
        have hn2 : nn c.S < 20 := by omega
        exact a_y (y_insert h hn1 hn2 g2.1 g1.2.1 g1.2.2.1 g1.2.2.2 g2.2 (fun _ _ => rfl) (wf_ins h.1.1 hn1 hn2 (ck_tl5 g2.1 g1.2.1 g1.2.2.1 g1.2.2.2 g2.2))) (by omega) (Fb_low hF fun k h1 h2 => by rw [insS_l (by omega), if_neg (by omega)])
    · exact a_x (n_insert2 h g1.1 rk g1.2.1 g1.2.2.1 g1.2.2.2 rv g2)
  · exact a_x (n_insert1 h rp rk rx ry rz rv g1)
theorem act_remove (h : KC c X) (hF : Fb c.S) (a1 : Int32) : AA c (clo (fX8_remove X a1)) := by
  obtain ⟨p, rfl, rp⟩ := i32_ex a1
  have hn := h.1.1.n.1
  by_cases g1 : 0 ≤ p ∧ p ≤ (nn c.S : Int) - 1
  · obtain ⟨n, rfl⟩ : ∃ n : Nat, p = n := ⟨p.toNat, by omega⟩
    have hn1 : n < nn c.S := by omega
    exact a_y (y_remove h hn1 (fun _ _ => rfl) (wf_rem h.1.1 hn1)) (by omega) (Fb_low hF fun k h1 h2 => by rw [remS_l (by omega), if_neg (by omega)])
  · exact a_x (n_remove rp g1 h)
theorem act_exchange (h : KC c X) (hF : Fb c.S) (a1 a2 : Int32) : AA c (clo (fX8_exchange X a1 a2)) := by
  obtain ⟨p, rfl, rp⟩ := i32_ex a1
  obtain ⟨q, rfl, rq⟩ := i32_ex a2
  have hn := h.1.1.n.1
  by_cases g1 : 0 ≤ p ∧ p ≤ (nn c.S : Int) - 1
  · obtain ⟨n, rfl⟩ : ∃ n : Nat, p = n := ⟨p.toNat, by omega⟩
    have hn1 : n < nn c.S := by omega
    by_cases g2 : 0 ≤ q ∧ q ≤ (nn c.S : Int) - 1
    · obtain ⟨m, rfl⟩ : ∃ n : Nat, q = n := ⟨q.toNat, by omega⟩
      have hm1 : m < nn c.S := by omega
      have hW := wf_swp h.1.1 hn1 hm1
      have r := nearT_rg hW (min n m) (max n m)
      exact a_y (y_exchange h hn1 hm1 (fun _ _ => rfl) hW) (by omega) (Fb_low hF fun k h1 h2 => swpS_l (by omega))
    · exact a_x (n_exchange2 rq g2 h hn1)
  · exact a_x (n_exchange rp g1 h _)
theorem act_setSlots (h : KC c X) (hF : Fb c.S) (a1 a2 : Int32) : AA c (clo (fX8_setSlots X a1 a2)) := by
  obtain ⟨p, rfl, rp⟩ := i32_ex a1
  obtain ⟨q, rfl, rq⟩ := i32_ex a2
  by_cases g1 : 0 ≤ p ∧ p ≤ 2
  · by_cases g2 : 1 ≤ q ∧ q ≤ 4
    · obtain ⟨n, rfl⟩ : ∃ n : Nat, p = n := ⟨p.toNat, by omega⟩
      have hn1 : n ≤ 2 := by omega
      have r := h.1.1.2.2.1 n (by omega)
      exact a_y (y_setSlots h hn1 g2 (fun _ _ => rfl) (wf_set h.1.1 (by omega))) (by omega) (Fb_set hF (by omega))
    · exact a_x (n_setSlots2 rq g2 h g1)
  · exact a_x (n_setSlots rp g1 h _)
theorem act_setLatency (h : KC c X) (hF : Fb c.S) (a1 a2 : Int32) : AA c (clo (fX8_setLatency X a1 a2)) := by
  obtain ⟨p, rfl, rp⟩ := i32_ex a1
  obtain ⟨q, rfl, rq⟩ := i32_ex a2
  by_cases g1 : 0 ≤ p ∧ p ≤ 2
  · by_cases g2 : 1 ≤ q ∧ q ≤ 6
    · obtain ⟨n, rfl⟩ : ∃ n : Nat, p = n := ⟨p.toNat, by omega⟩
      have hn1 : n ≤ 2 := by omega
      have r := h.1.1.2.2.2.1 n (by omega)
      exact a_y (y_setLatency h hn1 g2 (fun _ _ => rfl) (wf_set h.1.1 (by omega))) (by omega) (Fb_set hF (by omega))
    · exact a_x (n_setLatency2 rq g2 h g1)
  · exact a_x (n_setLatency rp g1 h _)
theorem act_setDelay (h : KC c X) (hF : Fb c.S) (a1 : Int32) : AA c (clo (fX8_setDelay X a1)) := by
  obtain ⟨p, rfl, rp⟩ := i32_ex a1
  have r := h.1.1.2.1
  by_cases g1 : 0 ≤ p ∧ p ≤ 3
  · exact a_y (y_setDelay h g1 (fun _ _ => rfl) (wf_set h.1.1 (Or.inl ⟨rfl, g1⟩))) (by omega) (Fb_set hF (by omega))
  · exact a_x (n_setDelay rp g1 h)
theorem act_lay (h : KC c X) (hF : Fb c.S) (a1 a2 : Int32) : AA c (clo (fX8_lay X a1 a2)) := by
  obtain ⟨p, rfl, rp⟩ := i32_ex a1
  obtain ⟨q, rfl, rq⟩ := i32_ex a2
  have hn := h.1.1.n.1
  by_cases g1 : 0 ≤ p ∧ p ≤ (nn c.S : Int) - 1
  · obtain ⟨n, rfl⟩ : ∃ n : Nat, p = n := ⟨p.toNat, by omega⟩
    have hn1 : n < nn c.S := by omega
    by_cases g2 : 0 ≤ q ∧ q ≤ 199
    · have r := (h.1.1.2.2.2.2.2 n hn1).2.2.2.2.2
      exact a_y (y_lay h hn1 g2 (fun _ _ => rfl) (wf_set h.1.1 (Or.inr (Or.inr (Or.inr (Or.inr ⟨n, rfl, by omega⟩)))))) (by omega) (Fb_set hF (by omega))
    · exact a_x (n_lay2 rq g2 h hn1)
  · exact a_x (n_lay rp g1 h _)
theorem act_takeOut (h : KC c X) (hF : Fb c.S) (a1 : Int32) : AA c (clo (fX8_takeOut X a1)) := by
  obtain ⟨p, rfl, rp⟩ := i32_ex a1
  have hn := h.1.1.n.1
  by_cases g1 : 0 ≤ p ∧ p ≤ (nn c.S : Int) - 1
  · obtain ⟨n, rfl⟩ : ∃ n : Nat, p = n := ⟨p.toNat, by omega⟩
    have hn1 : n < nn c.S := by omega
    have r := (h.1.1.2.2.2.2.2 n hn1).2.2.2.2.2
    by_cases g2 : bu c.S n = -1
    · exact a_x (n_takeOut3 h hn1 g2)
    · exact a_y (y_takeOut h hn1 g2 (fun _ _ => rfl) (wf_set h.1.1 (Or.inr (Or.inr (Or.inr (Or.inr ⟨n, rfl, by omega⟩)))))) (by omega) (Fb_set hF (by omega))
  · exact a_x (n_takeOut rp g1 h)
theorem act_goBack (h : KC c X) (hk : c.hk = true) (hF : Fb c.SK) : AA c (clo (fX8_goBack X)) := by
  have hn := (h.1.2.2.1 hk).n.1
  exact a_y (y_goBack h hk) (by omega) hF
theorem act_pack (h : KC c X) (hF : Fb c.S) : AA c (fX8_pack X) := by
  have hW := h.1.1
  have r := pkS_rg hW
  obtain ⟨X', e, h'⟩ := y_pack h (fun _ _ => rfl) (wf_pck hW fun k hk => by have := r k hk; omega)
  refine Or.inl ⟨_, _, X', e, ?_, h', Fb_low hF fun k h1 h2 => pckS_l (by omega)⟩
  rcases mxm_ex (p := pkS c.S) (n := nn c.S) with h1 | ⟨k, h1, h2⟩
  · rw [h1]
    omega
  · have := r k h1
    rw [h2]
    omega
theorem act_setRegister (h : KC c X) (hF : Fb c.S) {n : Nat} (hn : n ≤ 11) {v : Int} (hv : 0 ≤ v ∧ v ≤ 7) : ∃ (u : Int) (S' : Nat → Int) (X' : Mem), fX8_setRegister X (ic n) (ic v) = some (.inl (ic u), X') ∧ (-1999 ≤ u ∧ u < 2147483648) ∧ KC (nx c S') X' ∧ Fb S' := by
  obtain ⟨X', e, h'⟩ := y_setRegister h hn (v := v) (by omega) (fun _ _ => rfl) (wf_set h.1.1 (by omega))
  have r := hF n (by omega)
  exact ⟨_, _, X', e, by omega, h', Fb_set hF fun _ => hv⟩
end ACTS
