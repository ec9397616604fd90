section ANS3
variable {c : Cf} {X M : Mem}
theorem a_goBack (hG : GC c) (hX : XC c X) (hM : MC c M) : Agr cd1 (fX8_goBack X) (fX9_goBack M) := by
  have hW := hG.1
  cases hk : c.hk
  · refine ⟨c, X, mu M 0 22 (ic 1), hG, hX, mc_thr _ hM, Or.inr ⟨3, 0, ?_, ?_, mus, by decide, by decide⟩⟩
    · unfold fX8_goBack
      rw [hX.2.2.1, hk, if_pos (by rfl)]
    · unfold fX9_goBack fX9_goBack_L13
      rw [hM.2.2.1, hk, if_pos (by rfl), show (1 : Int32) = ic 1 from rfl]
      simp only [pt, Option.bind_some]
      rw [mus, if_neg (by decide)]
  · have hWK := hG.2.2.1 hk
    obtain ⟨X1, e1, f1, g1, a1, b1, H1⟩ := x_save hX.1.1 hW hX.2.1
    obtain ⟨X2, e2, f2, x2⟩ := x_copyFrom (μ := X1) (a := 1) (b := 63) (by omega)
    have K1 : XS 63 c.SK X1 := (hX.2.2.2.1 hk).of fun k hk => f1 _ (by omega) (by omega)
    have X2S := x2 c.SK K1 hWK
    obtain ⟨M1, e3, f3, g3, H3⟩ := r_saves (μ := mu M 0 22 (ic 0)) (S := c.S) (HS := c.HS) (m := c.m) (mc_thr (ic 0) hM).1 (mc_thr (ic 0) hM).2.1
    obtain ⟨M2, e4, f4, g4, k4⟩ := r_lays0 (μ := M1) (a0 := 3) (a2 := 1) (n0 := 152) (n2 := 152) rfl rfl (by omega) (x := 0) (y := 0) (by omega) (by omega) (by omega)
    have hMS : MS c.SK M2 := fun k hk2 => by
      have := g4 k hk2
      rw [Nat.zero_add] at this
      rw [this, f3 3 (by omega) (by omega), mu_ne (by decide)]
      exact hM.2.2.2.1 hk k hk2
    refine ⟨cfS c c.SK (psh c.HS c.m c.S) (pm c.m), X2, M2, ⟨hWK, wf_psh hW hM.2.1.2.1 hG.2.1, hG.2.2.1, hG.2.2.2⟩, xc_state hX X2S hWK (by rw [f2 0 (by omega), a1]) (by rw [f2 0 (by omega), b1]) (fun k h1 h2 => by rw [f2 0 (by omega), g1 k h1 h2]) (fun a ha => by rw [f2 a (by omega), f1 a (by omega) (by omega)]) (H1.of fun a h1 h2 => f2 a (by omega)), mc_state hM hMS ⟨by rw [f4 0 (by decide)]; exact H3.1, H3.2.1, fun r k hr hk => by rw [f4 2 (by decide)]; exact H3.2.2 r k hr hk⟩ (fun k hk => by rw [f4 0 (by decide), g3 k (by omega), muk (by omega)]) (fun a ha => by rw [f4 a (by simp only [List.mem_cons, List.not_mem_nil, or_false]; omega), f3 a (by omega) (by omega), mu_ne (by omega)]), Or.inl ⟨ic (nn c.SK), ?_, ?_, ?_⟩⟩
    · unfold fX8_goBack
      rw [hX.2.2.1, hk, if_neg (by decide), e1, bd_some, e2, bd_some, x_n X2S hWK]
    · unfold fX9_goBack fX9_goBack_L13
      rw [hM.2.2.1, hk, if_neg (by decide)]
      simp only [pt, Option.bind_some]
      rw [show (0 : Int32) = ic 0 from rfl, mus, if_pos (by decide), e3, bd_some]
      rw [show fX9_lays M1 3 (ic 0) 1 (ic 0) = some ((), M2) from e4, bd_some, ms_ld hMS 0 (i := (0 : Int)) rfl (by omega), Option.bind_some, hWK.nz]
    · rw [f4 0 (by decide), g3 22 (by omega), mus]
theorem a_addAll (hG : GC c) (hX : XC c X) (hM : MC c M) : Agr cdA (fX8_addAll X) (fX9_addAll M) := by
  have hW := hG.1
  have h20 := hW.n
  obtain ⟨M1, w, e1, hF, hw, _, hw1⟩ := r_isWhole hG.2.2.2 hM.2.2.2.2
  have hM1 : MC c M1 := hM.of (fun a h1 h2 => hF.1 a (by omega) (by omega)) (fun k hk => hF.2 k (by omega) (by omega))
  have e2 : ∀ k : Int, 1 ≤ k → k ≤ 3 → fX9_addAll_L33 (ic k) M1 = some (0, mu M1 0 22 (ic k)) := fun k h1 h2 => by
    unfold fX9_addAll_L33
    simp only [pt, Option.bind_some]
    rw [mus, if_neg (by rw [show (0 : Int32) = ic 0 from rfl, ic_le (by omega)]; omega)]
  cases w
  · refine ⟨c, X, mu M1 0 22 (ic 1), hG, hX, mc_thr _ hM1, Or.inr ⟨2, 0, x_addAll0 hG.2.2.2 hX.2.2.2.2 hw.symm, ?_, mus, by decide, by decide⟩⟩
    unfold fX9_addAll
    rw [e1, bd_some, if_pos (by rfl)]
    exact e2 1 (by omega) (by omega)
  · obtain ⟨_, K, sp, cs, h25, hK, hS, hsp, hTM⟩ := hw1 rfl
    have hk15 := ws_len hS K (Nat.le_refl _)
    have hL := hG.2.2.2.1
    have e3 : fX9_addAll M = if nn c.S + K ≤ 20 then fX9_addAll_L33 (ic 0) M1 else fX9_addAll_L33 (ic 2) M1 := by
      unfold fX9_addAll
      rw [e1, bd_some, if_neg (by decide), show (0 : Int32) = ic 0 from rfl, ms_ld hM1.1 0 (i := (0 : Int)) rfl (by omega), Option.bind_some, h25, ic_add, hW.nz, show (20 : Int32) = ic 20 from rfl]
      by_cases hn : nn c.S + K ≤ 20
      · rw [if_pos hn, if_pos (by rw [ic_le (by omega)]; omega)]
      · rw [if_neg hn, if_neg (by rw [ic_le (by omega)]; omega)]
        rfl
    rw [e3]
    by_cases hn : nn c.S + K ≤ 20
    · rw [if_pos hn]
      obtain ⟨X1, d1, d2, d3, d4, d5, d6, d7, d8⟩ := x_addAll2 hG.2.2.2 hX.2.2.2.2 hX.1.1 hW hX.2.1 hw.symm hS hK hsp hn
      obtain ⟨M2, e4, f4, g4, H4⟩ := r_saves (μ := mu M1 0 22 (ic 0)) (S := c.S) (HS := c.HS) (m := c.m) (mc_thr (ic 0) hM1).1 (mc_thr (ic 0) hM1).2.1
      have m2 : MS c.S M2 := fun k hk => by rw [f4 1 (by omega) (by omega), mu_ne (by decide)]; exact hM1.1 k hk
      obtain ⟨M3, e5, f5, m5⟩ := r_addLoop m2 hW hS hn (fun k j h1 h2 => by rw [f4 20 (by omega) (by omega), mu_ne (by decide)]; exact hTM k j h1 h2) (by rw [g4 25 (by omega), muk (by decide)]; exact h25)
      obtain ⟨w3, n3⟩ := addS_wf hW hS hn K (Nat.le_refl _)
      obtain ⟨a1, a2, a3, a4, a5⟩ := hX
      refine ⟨(addS c.S cs K, psh c.HS c.m c.S, pm c.m, c.hk, c.SK, fun _ => 0, 0), X1, mu M3 0 6 (ic 0), ⟨w3, wf_psh hW hM.2.1.2.1 hG.2.1, hG.2.2.1, by show 0 ≤ 60; omega, fun i hi => absurd hi (Nat.not_lt_zero _), fun i hi => rfl⟩, ⟨⟨d7, w3, Or.inl d4, Or.inl d5⟩, d6, by rw [d3 3 (by omega) (by omega)]; exact a3, fun q => (a4 q).of fun k hk => d2 _ (by omega) (by omega), d8⟩, ⟨fun k hk => by rw [mu_ne (by decide)]; exact m5 k hk, ⟨?_, H4.2.1, fun r k hr hk => ?_⟩, ?_, fun q k hk => ?_, ?_, fun i hi => absurd hi (Nat.not_lt_zero _)⟩, Or.inl ⟨ic ((nn c.S + K : Nat) : Int), d1, ?_, ?_⟩⟩
      · rw [muk (by decide), f5 0 (by decide)]
        exact H4.1
      · rw [mu_ne (by decide), f5 2 (by decide)]
        exact H4.2.2 r k hr hk
      · rw [muk (by decide), f5 0 (by decide), g4 4 (by omega), muk (by decide)]
        exact hM1.2.2.1
      · rw [mu_ne (by decide), f5 3 (by decide), f4 3 (by omega) (by omega), mu_ne (by decide)]
        exact hM1.2.2.2.1 q k hk
      · exact mus
      · unfold fX9_addAll_L33
        simp only [pt, Option.bind_some]
        rw [mus, if_pos (by decide), e4, bd_some]
        exact e5
      · rw [muk (by decide), f5 0 (by decide), g4 22 (by omega), mus]
    · rw [if_neg hn]
      exact ⟨c, X, mu M1 0 22 (ic 2), hG, hX, mc_thr _ hM1, Or.inr ⟨3, 0, x_addAll1 hG.2.2.2 hX.2.2.2.2 hX.1.1 hW hw.symm hS hK hsp (by omega), e2 2 (by omega) (by omega), mus, by decide, by decide⟩⟩
end ANS3
