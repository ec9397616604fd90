section ANS10
variable {c : Cf} {X M : Mem}
theorem op_agr (hG : GC c) (hX : XC c X) (hM : MC c M) {S' : Nat → Int} (hW' : WF S') {r : Int32} {cd : Nat → Int} {o : Option ((Int32 ⊕ Nat) × Mem)} {p : Option (Int32 × Mem)} (ho : ∀ X1, XS 1 c.S X1 → fX8_save X = some ((), X1) → ∃ X2, o = some (.inl r, X2) ∧ Fr [1, 2, 3, 4, 5, 6, 7] X1 X2 ∧ XS 1 S' X2) (hp : ∀ M1, MS c.S M1 → fX9_saves (mu M 0 22 (ic 0)) = some ((), M1) → ∃ M2, p = some (r, M2) ∧ Fr [1] M1 M2 ∧ MS S' M2) : Agr cd o p := by
  have hW := hG.1
  obtain ⟨X1, e1, f1, g1, a1, b1, H1⟩ := x_save hX.1.1 hW hX.2.1
  have x1 : XS 1 c.S X1 := hX.1.1.of fun k hk => f1 _ (by omega) (by omega)
  obtain ⟨M1, e3, f3, g3, H3⟩ := r_saves (μ := mu M 0 22 (ic 0)) (S := c.S) (HS := c.HS) (m := c.m) (mc_thr (ic 0) hM).1 (mc_thr (ic 0) hM).2.1
  have m1 : MS c.S M1 := fun k hk => by rw [f3 1 (by omega) (by omega), mu_ne (by decide)]; exact hM.1 k hk
  obtain ⟨X2, e2, f2, x2⟩ := ho X1 x1 e1
  obtain ⟨M2, e4, f4, m2⟩ := hp M1 m1 e3
  have f2' : ∀ a, a = 0 ∨ 8 ≤ a → X2 a = X1 a := fun a ha => f2 a (by simp only [List.mem_cons, List.not_mem_nil, or_false]; omega)
  have f4' : ∀ a, a ≠ 1 → M2 a = M1 a := fun a ha => f4 a (by simp only [List.mem_cons, List.not_mem_nil, or_false]; omega)
  exact ⟨cfS c S' (psh c.HS c.m c.S) (pm c.m), X2, M2, ⟨hW', wf_psh hW hM.2.1.2.1 hG.2.1, hG.2.2.1, hG.2.2.2⟩, xc_state hX x2 hW' (by rw [f2' 0 (by omega), a1]) (by rw [f2' 0 (by omega), b1]) (fun k h1 h2 => by rw [f2' 0 (by omega), g1 k h1 h2]) (fun b hb => by rw [f2' b (by omega), f1 b (by omega) (by omega)]) (H1.of fun b h1 h2 => f2' b (by omega)), mc_state hM m2 ⟨by rw [f4' 0 (by omega)]; exact H3.1, H3.2.1, fun r q hr hq => by rw [f4' 2 (by omega)]; exact H3.2.2 r q hr hq⟩ (fun q hq => by rw [f4' 0 (by omega), g3 q (by omega), muk (by omega)]) (fun b hb => by rw [f4' b (by omega), f3 b (by omega) (by omega), mu_ne (by omega)]), Or.inl ⟨r, e2, e4, by rw [f4' 0 (by omega), g3 22 (by omega), mus]⟩⟩
theorem a_stepsIn (hG : GC c) (hX : XC c X) (hM : MC c M) (a : Int32) : Agr cd1 (fX8_stepsIn X a) (fX9_stepsIn M a) := by
  obtain ⟨v, rfl, hv⟩ := i32_ex a
  unfold fX8_stepsIn fX9_stepsIn fX9_stepsIn_L17
  rw [x_checkBundle hv, show (199 : Int32) = ic 199 from rfl, show (0 : Int32) = ic 0 from rfl, p_in2 hv (by omega) (by omega), bd_some, b2_ifc]
  simp only [pt, Option.bind_some, bd_id]
  by_cases h : 0 ≤ v ∧ v ≤ 199
  · rw [if_pos h, if_pos (decide_eq_true h), bx_l, mus, if_pos (by decide), x_setLaidIn hX.1.1 hG.1 h, bd_some, r_setIn (ms0 hM) hG.1 h]
    exact ⟨c, X, _, hG, hX, mc_thr _ hM, Or.inl ⟨_, rfl, rfl, mus⟩⟩
  · rw [if_neg h, if_neg (by rw [decide_eq_false h]; decide), bx_r, show (1 : Int32) = ic 1 from rfl, mus, if_neg (by decide)]
    exact agr_thr hG hX hM (k := 2) (e := 1) rfl rfl rfl (by omega)
theorem a_remove (hG : GC c) (hX : XC c X) (hM : MC c M) (a : Int32) : Agr cd1 (fX8_remove X a) (fX9_remove M a) := by
  have hW := hG.1
  have h20 := hW.n
  obtain ⟨u, rfl, hu⟩ := i32_ex a
  unfold fX8_remove fX9_remove fX9_remove_L14
  rw [x_checkStep hX hW hu, r_isStep hM hW hu, bd_some, b2_if]
  simp only [pt, Option.bind_some]
  by_cases h : 0 ≤ u ∧ u ≤ (nn c.S : Int) - 1
  · rw [if_pos h, if_pos (decide_eq_true h), bx_l, thr0]
    obtain ⟨n, rfl⟩ : ∃ n : Nat, u = n := ⟨u.toNat, by omega⟩
    have hn : n < nn c.S := by omega
    refine op_agr hG hX hM (S' := remS c.S n) (wf_rem hW hn) (r := ic ((nn c.S : Int) - 1)) (fun X1 x1 e1 => ?_) (fun M1 m1 e3 => ?_)
    · obtain ⟨X2, e2, f2, x2⟩ := x_takeAway x1 hW hn
      refine ⟨X2, ?_, f2, x2⟩
      rw [e1, bd_some, e2, bd_some, x_n x2 (wf_rem hW hn), remS_n hW hn, show ((nn c.S - 1 : Nat) : Int) = (nn c.S : Int) - 1 by omega]
    · have mp : MS (remP c.S n n) (mu M1 1 0 (ic ((nn c.S : Int) - 1))) := fun k hk => by
        rw [mu_at]
        unfold remP
        by_cases hc : k = 0
        · rw [if_pos ⟨rfl, hc⟩, if_pos hc, hW.nz]
        · rw [if_neg (by omega), if_neg hc, if_neg (by omega)]
          exact m1 k hk
      obtain ⟨M2, e4, f4, m4⟩ := r_remloop mp hW hn
      refine ⟨M2, ?_, (Fr_mu (by decide)).trans f4, m4⟩
      rw [show mu M 0 22 0 = mu M 0 22 (ic 0) from rfl, e3, bd_some, show (0 : Int32) = ic 0 from rfl, ms_ld m1 0 (i := (0 : Int)) rfl (by omega), Option.bind_some, show (1 : Int32) = ic 1 from rfl, ic_sub, hW.nz, ast_k 0 (i := (0 : Int)) rfl (by omega), Option.bind_some, e4]
  · rw [if_neg h, if_neg (by rw [decide_eq_false h]; decide), bx_r, thr1]
    exact agr_thr hG hX hM (k := 1) (e := 1) rfl rfl rfl (by omega)
end ANS10
