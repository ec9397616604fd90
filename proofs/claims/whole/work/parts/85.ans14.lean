/-! ANSWERS ALIKE: exchange, pack -/
section ANS14
variable {c : Cf} {X M : Mem}
theorem op_rel (hG : GC c) (hX : XC c X) (hM : MC c M) {S' : Nat → Int} (hW' : WF S') : ∃ X1 M1, fX8_save X = some ((), X1) ∧ fX9_saves (mu M 0 22 (ic 0)) = some ((), M1) ∧ XS 1 c.S X1 ∧ MS c.S M1 ∧ (∀ a, 75 ≤ a → X1 a = X a) ∧ GC (cfS c S' (psh c.HS c.m c.S) (pm c.m)) ∧ ∀ X2 M2, Fr [1, 2, 3, 4, 5, 6, 7] X1 X2 → XS 1 S' X2 → (∀ a, a = 0 ∨ (2 ≤ a ∧ a ≤ 4) → M2 a = M1 a) → MS S' M2 → XC (cfS c S' (psh c.HS c.m c.S) (pm c.m)) X2 ∧ MC (cfS c S' (psh c.HS c.m c.S) (pm c.m)) M2 ∧ M2 0 22 = ic 0 := by
  have hW := hG.1
  obtain ⟨X1, e1, f1, g1, a1, b1, H1⟩ := x_save hX.1.1 hW hX.2.1
  have x1 : XS 1 c.S X1 := hX.1.1.of fun k hk => f1 _ (by omega) (by omega)
  obtain ⟨M1, e3, f3, g3, H3⟩ := r_saves (μ := mu M 0 22 (ic 0)) (S := c.S) (HS := c.HS) (m := c.m) (mc_thr (ic 0) hM).1 (mc_thr (ic 0) hM).2.1
  have m1 : MS c.S M1 := fun k hk => by rw [f3 1 (by omega) (by omega), mu_ne (by decide)]; exact hM.1 k hk
  refine ⟨X1, M1, e1, e3, x1, m1, fun a ha => f1 a (by omega) (by omega), ⟨hW', wf_psh hW hM.2.1.2.1 hG.2.1, hG.2.2.1, hG.2.2.2⟩, fun X2 M2 f2 x2 f4' m2 => ?_⟩
  have f2' : ∀ a, a = 0 ∨ 8 ≤ a → X2 a = X1 a := fun a ha => f2 a (by simp only [List.mem_cons, List.not_mem_nil, or_false]; omega)
  refine ⟨xc_state hX x2 hW' (by rw [f2' 0 (by omega), a1]) (by rw [f2' 0 (by omega), b1]) (fun k h1 h2 => by rw [f2' 0 (by omega), g1 k h1 h2]) (fun b hb => by rw [f2' b (by omega), f1 b (by omega) (by omega)]) (H1.of fun b h1 h2 => f2' b (by omega)), mc_state hM m2 ⟨by rw [f4' 0 (by omega)]; exact H3.1, H3.2.1, fun r q hr hq => by rw [f4' 2 (by omega)]; exact H3.2.2 r q hr hq⟩ (fun q hq => by rw [f4' 0 (by omega), g3 q (by omega), muk (by omega)]) (fun b hb => by rw [f4' b (by omega), f3 b (by omega) (by omega), mu_ne (by omega)]), ?_⟩
  rw [f4' 0 (by omega), g3 22 (by omega), mus]
theorem a_exchange (hG : GC c) (hX : XC c X) (hM : MC c M) (a b : Int32) : Agr cd1 (fX8_exchange X a b) (fX9_exchange M a b) := by
  have hW := hG.1
  have h20 := hW.n
  obtain ⟨u, rfl, hu⟩ := i32_ex a
  obtain ⟨v, rfl, hv⟩ := i32_ex b
  have e1 : fX9_exchange_L22 (ic u) (ic v) 1 M = some (0, mu M 0 22 (ic 1)) := by
    unfold fX9_exchange_L22
    simp only [pt, Option.bind_some]
    rw [thr1]
    rfl
  unfold fX8_exchange fX9_exchange fX9_exchange_L21
  rw [x_checkStep hX hW hu, r_isStep hM hW hu, bd_some, b2_if]
  by_cases h : 0 ≤ u ∧ u ≤ (nn c.S : Int) - 1
  · rw [if_pos h, if_pos (decide_eq_true h), bx_l, x_checkStep hX hW hv, r_isStep hM hW hv, bd_some, b2_if]
    by_cases h' : 0 ≤ v ∧ v ≤ (nn c.S : Int) - 1
    · rw [if_pos h', if_pos (decide_eq_true h'), bx_l]
      obtain ⟨n, rfl⟩ : ∃ n : Nat, u = n := ⟨u.toNat, by omega⟩
      obtain ⟨m, rfl⟩ : ∃ n : Nat, v = n := ⟨v.toNat, by omega⟩
      have hW' := wf_swp hW (a := n) (b := m) (by omega) (by omega)
      have hnn : nn (swpS c.S n m) = nn c.S := by unfold nn; rw [swpS_l (by omega)]
      obtain ⟨X1, M1, s1, s2, x1, m1, _, g', hr⟩ := op_rel hG hX hM hW'
      obtain ⟨X2, e2, f2, x2⟩ := x_swapSteps x1 hW (a := n) (b := m) (by omega) (by omega)
      obtain ⟨M2, e4, f4, m2⟩ := r_swaploop m1 hW (a := n) (b := m) (by omega) (by omega)
      obtain ⟨hX2, hM2, ht⟩ := hr X2 M2 (f2.mono (by decide)) x2 (fun a ha => f4 a (by simp only [List.mem_cons, List.not_mem_nil, or_false]; omega)) m2
      obtain ⟨X3, e3, q3, k3, _, f3, _⟩ := x8_freshLinks hX2.1
      refine ⟨_, X3, M2, g', hX2.fx q3 f3, hM2, Or.inl ⟨ic (nearT (swpS c.S n m) (min n m) (max n m)), ?_, ?_, ht⟩⟩
      · rw [s1, bd_some, e2, bd_some, e3, bd_some, jmin_ic (by omega), jmax_ic (by omega), show min (n : Int) m = ((min n m : Nat) : Int) by omega, show max (n : Int) m = ((max n m : Nat) : Int) by omega]
        have hk := x_nearOf (i := min n m) (j := max n m) k3.1 hW' (by show _ < nn (swpS c.S n m); omega) (by show _ < nn (swpS c.S n m); omega)
        rw [show fX2_nearOf X3 (ic ((min n m : Nat) : Int)) (ic ((max n m : Nat) : Int)) = _ from hk, bd_some]
        rfl
      · unfold fX9_exchange_L22
        simp only [pt, Option.bind_some]
        rw [thr0, show mu M 0 22 0 = mu M 0 22 (ic 0) from rfl, s2, bd_some, show (0 : Int32) = ic 0 from rfl, e4]
        have hk := r_apartBy (i := min n m) (j := max n m) m2 hW' (by omega) (by omega)
        have e91 : ∀ s : Int, s = ((min n m : Nat) : Int) → fX9_exchange_L91 (ic n) (ic m) (ic s) M2 = some (ic (nearT (swpS c.S n m) (min n m) (max n m)), M2) := fun s hs => by
          unfold fX9_exchange_L91
          rw [r_greater (by omega), bd_some, hs, show max (n : Int) m = ((max n m : Nat) : Int) by omega, hk, bd_some]
        by_cases hc : (m : Int) ≤ n
        · rw [if_pos hc]
          exact e91 m (by omega)
        · rw [if_neg hc]
          exact e91 n (by omega)
    · rw [if_neg h', if_neg (by rw [decide_eq_false h']; decide), bx_r]
      exact agr_thr hG hX hM (k := 1) (e := 1) rfl e1 rfl (by omega)
  · rw [if_neg h, if_neg (by rw [decide_eq_false h]; decide), bx_r]
    exact agr_thr hG hX hM (k := 1) (e := 1) rfl e1 rfl (by omega)
def pckW (S : Nat → Int) (p : Nat → Int) (w : Nat) : Nat → Int := fun k => if k < 32 then S k else if (k - 32) % 6 = 5 ∧ (k - 32) / 6 < w then p ((k - 32) / 6) else S k
theorem r_packloop {S : Nat → Int} {μ : Mem} {p : Nat → Int} (h : MS S μ) (hW : WF S) (hA : AT S p μ) (r : Int32) : ∃ μ', fX9_pack_L16 fu r (ic 0) μ = some (r, μ') ∧ Fr [1] μ μ' ∧ MS (pckS S p) μ' := by
  have hz := hW.n
  have key := lq_m (fun f v ν => fX9_pack_L16 f r v ν) (fun ν => some (r, ν)) 0 (nn S) (fun w ν => Fr [1] μ ν ∧ MS (pckW S p w) ν) (by omega) ?_ ?_ μ fu (fu_lt (by omega)) ⟨Fr.rfl', ms_congr h fun k _ => by unfold pckW; split; rfl; rw [if_neg (by omega)]⟩
  · obtain ⟨ν, ⟨h2, h3⟩, h4⟩ := key
    exact ⟨ν, h4, h2, h3⟩
  · rintro f w ν - hw ⟨h2, h3⟩
    have n0 : pckW S p w 0 = S 0 := by unfold pckW; rw [if_pos (by omega)]
    refine ⟨mu ν 1 (32 + 6 * w + 5) (ic (p w)), ⟨h2.trans (Fr_mu (by decide)), ms_congr (ms_set h3 _ _) fun k _ => ?_⟩, ?_⟩
    · unfold updI pckW
      by_cases hq : k = 32 + 6 * w + 5
      · subst hq
        rw [if_neg (by omega), if_pos (by omega), if_pos rfl]
        congr 1
        omega
      · rw [if_neg hq]
        by_cases k1 : k < 32
        · rw [if_pos k1, if_pos k1]
        · rw [if_neg k1, if_neg k1]
          by_cases hc : (k - 32) % 6 = 5 ∧ (k - 32) / 6 < w
          · rw [if_pos hc, if_pos (by omega)]
          · rw [if_neg hc, if_neg (by omega)]
    · rw [fX9_pack_L16]
      rw [show (0 : Int32) = ic 0 from rfl, ms_ld h3 0 (i := (0 : Int)) rfl (by omega), Option.bind_some, n0, hW.nz, if_neg (by rw [ic_le (by omega)]; omega), a_ld (hA.of h2 (by decide)) hW hw, Option.bind_some]
      have e5 := r_setsw (μ := ν) (i := w) (w := 5) (by omega) (by omega) (ic (p w))
      rw [show (5 : Int32) = ic ((5 : Nat) : Int) from rfl, e5, bd_some, show (1 : Int32) = ic 1 from rfl, ic_add]
      rfl
  · rintro f ν ⟨h2, h3⟩
    have n0 : pckW S p (nn S) 0 = S 0 := by unfold pckW; rw [if_pos (by omega)]
    rw [fX9_pack_L16]
    rw [show (0 : Int32) = ic 0 from rfl, ms_ld h3 0 (i := (0 : Int)) rfl (by omega), Option.bind_some, n0, hW.nz, if_pos (by rw [ic_le (by omega)]; omega)]
theorem a_pack (hG : GC c) (hX : XC c X) (hM : MC c M) : AgrI (fX8_pack X) (fX9_pack M) := by
  have hW := hG.1
  have h20 := hW.n
  obtain ⟨X1, e1, q1, k1, _, f1, _⟩ := x8_freshLinks hX.1
  obtain ⟨X2, e2, f2, p2⟩ := x_makePlan hW q1.1 k1
  have hX2 : XC c X2 := hX.fx (q1.of f2 (by decide)) (f1.trans (Fx.of f2 (by decide)))
  have hrg := pkS_rg hW
  have hW' := wf_pck hW (p := pkS c.S) (fun k hk => by have := hrg k hk; omega)
  obtain ⟨X3, M1, s1, s2, x3, m1, h75, g', hr⟩ := op_rel hG hX2 hM hW'
  obtain ⟨M2, e4, f4, a4, m2⟩ := r_packs hW m1
  obtain ⟨M3, e5, f5, m3⟩ := r_packloop m2 hW a4 (ic (mxm (pkS c.S) (nn c.S) + 1))
  have p3 : PL c.S (pkS c.S) X3 := fun k hk => by rw [h75 84 (by omega)]; exact p2 k hk
  have ea : acp 20 20 X3 84 (ic 0) 7 (ic 0) (ic (nn c.S)) = some (ms X3 7 (va_cpy (X3 84) (X3 7) 0 0 (nn c.S))) := acp_ic (sp := 0) (dp := 0) (n := nn c.S) (by omega)
  have f6 : Fr [7] X3 (ms X3 7 (va_cpy (X3 84) (X3 7) 0 0 (nn c.S))) := Fr_ms (by decide)
  have g6 : ∀ k, k < nn c.S → ms X3 7 (va_cpy (X3 84) (X3 7) 0 0 (nn c.S)) 7 k = ic (pkS c.S k) := fun k hk => by
    rw [ms_eq']
    unfold va_cpy
    rw [if_pos (by omega), show 0 + (k - 0) = k by omega]
    exact p3 k hk
  have x6 : XS 1 (pckS c.S (pkS c.S)) (ms X3 7 (va_cpy (X3 84) (X3 7) 0 0 (nn c.S))) := by
    obtain ⟨y1, y2, y3, y4, y5, y6⟩ := x3
    refine ⟨?_, ?_, fun u hu => ?_, fun u hu => ?_, fun k hk => ?_, fun i hi => ?_⟩
    · rw [f6 1 (by decide), y1, pckS_l (by omega)]
    · rw [f6 1 (by decide), y2, pckS_l (by omega)]
    · rw [f6 9 (by decide), y3 u hu, pckS_l (by omega)]
    · rw [f6 10 (by decide), y4 u hu, pckS_l (by omega)]
    · rw [f6 8 (by decide), y5 k hk, pckS_l (by omega)]
    · rw [pckS_n] at hi
      obtain ⟨z1, z2, z3, z4, z5, z6⟩ := y6 i hi
      unfold kd tg on tw nb bu at *
      rw [pckS_f0, pckS_f (by omega), pckS_f (by omega), pckS_f (by omega), pckS_f (by omega), pckS_f (by omega), if_neg (by omega), if_neg (by omega), if_neg (by omega), if_neg (by omega), if_pos ⟨rfl, hi⟩]
      exact ⟨by rw [f6 2 (by decide)]; exact z1, by rw [f6 3 (by decide)]; exact z2, by rw [f6 4 (by decide)]; exact z3, by rw [f6 5 (by decide)]; exact z4, by rw [f6 6 (by decide)]; exact z5, g6 i hi⟩
  obtain ⟨hX6, hM3, ht⟩ := hr _ M3 (f6.mono (by decide)) x6 (fun a ha => by rw [f5 a (by simp only [List.mem_cons, List.not_mem_nil, or_false]; omega), f4 a (by simp only [List.mem_cons, List.not_mem_nil, or_false]; omega)]) m3
  refine ⟨_, _, M3, g', hX6, hM3, ic (mxm (pkS c.S) (nn c.S) + 1), ?_, ?_, ht⟩
  · unfold fX8_pack
    rw [e1, bd_some, e2, bd_some, s1, bd_some, x_n x3 hW, show (0 : Int32) = ic 0 from rfl, ea, Option.bind_some, x_n x6 hW', pckS_n]
    have hs := x_spanOf hW (a := 7) (p := pkS c.S) g6 (fun k hk => by have := hrg k hk; omega)
    rw [hs, bd_some]
  · unfold fX9_pack
    simp only [pt, Option.bind_some]
    rw [show mu M 0 22 0 = mu M 0 22 (ic 0) from rfl, s2, bd_some, e4, bd_some, show (0 : Int32) = ic 0 from rfl, e5]
end ANS14
