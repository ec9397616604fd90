section ANS7
variable {c : Cf} {X M : Mem}
theorem a_bundles (hG : GC c) (hX : XC c X) (hM : MC c M) : AgrI (fX8_bundles X) (fX9_bundles M) := by
  obtain ⟨M', e2, f2, _⟩ := r_many (ms0 hM) hG.1
  refine agrI_q hG hX hM ⟨X, x8_bundles hX.1, hX.1, Fx.rfl'⟩ ⟨M', ?_, f2⟩ (by decide)
  unfold fX9_bundles
  simp only [pt, Option.bind_some, bd_id]
  exact e2
theorem a_beatByCircles (hG : GC c) (hX : XC c X) (hM : MC c M) : AgrI (fX8_beatByCircles X) (fX9_beatByCircles M) := by
  obtain ⟨X', e1, q1, k1, _, f1, _⟩ := x8_freshLoop hX.1
  obtain ⟨M', e2, f2⟩ := r_circles (ms0 hM) hG.1
  refine agrI_q hG hX hM (r := ic (LB c.S)) ⟨X', ?_, q1, f1⟩ ⟨M', ?_, f2⟩ (by decide)
  · unfold fX8_beatByCircles
    rw [e1, bd_some, k1.1]
  · unfold fX9_beatByCircles
    simp only [pt, Option.bind_some, bd_id]
    exact e2
theorem a_beat (hG : GC c) (hX : XC c X) (hM : MC c M) : AgrI (fX8_beat X) (fX9_beat M) := by
  obtain ⟨X', e1, q1, k1, _, f1, _⟩ := x8_freshLoop hX.1
  obtain ⟨M', e2, f2, _⟩ := r_lays (ms0 hM) hG.1
  refine agrI_q hG hX hM (r := ic (BT c.S)) ⟨X', ?_, q1, f1⟩ ⟨M', ?_, f2⟩ (by decide)
  · unfold fX8_beat
    rw [e1, bd_some, k1.2.1]
  · unfold fX9_beat
    simp only [pt, Option.bind_some, bd_id]
    exact e2
theorem a_jumpBundle (hG : GC c) (hX : XC c X) (hM : MC c M) : AgrI (fX8_jumpBundle X) (fX9_jumpBundle M) := by
  obtain ⟨X', e1, q1, k1, _, f1, _⟩ := x8_freshLoop hX.1
  obtain ⟨M', e2, f2, _, m2⟩ := r_lays (ms0 hM) hG.1
  refine agrI_q hG hX hM (r := ic ((BT c.S : Int) - 1 - c.S 1)) ⟨X', ?_, q1, f1⟩ ⟨M', ?_, f2⟩ (by decide)
  · unfold fX8_jumpBundle
    rw [e1, bd_some, k1.2.1, q1.1.2.1, show (1 : Int32) = ic 1 from rfl, ic_sub, ic_sub]
  · unfold fX9_jumpBundle
    simp only [pt, Option.bind_some]
    rw [show (0 : Int32) = ic 0 from rfl, show (1 : Int32) = ic 1 from rfl, e2, bd_some, ms_ld m2 1 (i := (1 : Int)) rfl (by omega), Option.bind_some, ic_sub, ic_sub]
theorem a_whyWrong (hG : GC c) (hX : XC c X) (hM : MC c M) : AgrI (fX8_whyWrong X) (fX9_whyWrong M) := by
  obtain ⟨X', e1, q1, f1, _⟩ := x8_whyWrong hX.1
  obtain ⟨M', e2, f2, _⟩ := r_wrong (ms0 hM) hG.1
  have hr := wABC_rg hG.1
  have hw : 0 ≤ wrS c.S ∧ wrS c.S < 2147483648 := by
    unfold wrS
    repeat' split
    all_goals omega
  refine agrI_q hG hX hM ⟨X', e1, q1, f1⟩ ⟨M', ?_, f2⟩ (by decide)
  unfold fX9_whyWrong
  simp only [pt, Option.bind_some]
  rw [show (0 : Int32) = ic 0 from rfl, e2, bd_some, show (4 : Int32) = ic 4 from rfl, rmd_ic (by omega), Option.bind_some, wrS_mod hG.1]
/-- a question that asks for a step: the class and the reference -/
theorem agr_step (hG : GC c) (hX : XC c X) (hM : MC c M) (a : Int32) {o : Option ((Int32 ⊕ Nat) × Mem)} {p : Option (Int32 × Mem)} {F : Mem → Int32 → Option ((Int32 ⊕ Nat) × Mem)} {Q : Mem → Int32 → Option (Int32 × Mem)} {l : List Nat} (ho : o = bx (fX8_checkStep X a) fun _ μ => F μ a)
    (hp : p = bd (fX9_isStep M a) fun r μ => if r = 0 then some (0, mu μ 0 22 (ic 1)) else Q (mu μ 0 22 (ic 0)) a) (hl : ∀ a, a ∈ l → 5 ≤ a)
    (hq : ∀ i : Nat, i < nn c.S → ∃ r, (∃ X', F X (ic i) = some (.inl r, X') ∧ CQ c.S X' ∧ Fx X X') ∧ ∃ M', Q (mu M 0 22 (ic 0)) (ic i) = some (r, M') ∧ Fr l (mu M 0 22 (ic 0)) M') : Agr cd1 o p := by
  have hW := hG.1
  obtain ⟨u, rfl, hu⟩ := i32_ex a
  rw [ho, hp, x_checkStep hX hW hu, r_isStep hM hW hu, bd_some, b2_if]
  by_cases h : 0 ≤ u ∧ u ≤ (nn c.S : Int) - 1
  · rw [if_pos h, if_pos (decide_eq_true h), bx_l]
    obtain ⟨n, rfl⟩ : ∃ n : Nat, u = n := ⟨u.toNat, by omega⟩
    obtain ⟨r, ⟨X', e1, q1, f1⟩, M', e2, f2⟩ := hq n (by omega)
    have f2' : ∀ a, a < 5 → M' a = mu M 0 22 (ic 0) a := fun a ha => f2 a fun q => by have := hl a q; omega
    exact ⟨c, X', M', hG, hX.fx q1 f1, (mc_thr (ic 0) hM).of (fun a h1 h2 => f2' a (by omega)) (fun k hk => by rw [f2' 0 (by omega)]), Or.inl ⟨r, e1, e2, by rw [f2' 0 (by omega), mus]⟩⟩
  · rw [if_neg h, if_neg (by rw [decide_eq_false h]; decide), bx_r]
    exact agr_thr hG hX hM (k := 1) (e := 1) rfl rfl rfl (by omega)
theorem r_tells (k : Int32) (a : Int32) : (bd (fX9_tells M a k) fun r μ => some (r, μ)) = bd (fX9_isStep M a) fun r μ => if r = 0 then some (0, mu μ 0 22 (ic 1)) else fX9_its (mu μ 0 22 (ic 0)) a k := by
  rw [bd_id]
  unfold fX9_tells fX9_tells_L14
  congr 1
  funext r μ
  simp only [pt, Option.bind_some, bd_id, show (1 : Int32) = ic 1 from rfl, show (0 : Int32) = ic 0 from rfl]
  by_cases h : r = ic 0
  · rw [if_pos h, if_pos h, mus, if_neg (by decide)]
  · rw [if_neg h, if_neg h, mus, if_pos (by decide)]
theorem a_kindOf (hG : GC c) (hX : XC c X) (hM : MC c M) (a : Int32) : Agr cd1 (fX8_kindOf X a) (fX9_kindOf M a) :=
  agr_step hG hX hM a (F := fun μ a => (ld 20 (μ 2) a).bind fun r6 => some (.inl r6, μ)) (Q := fun μ a => fX9_its μ a 0) (l := []) rfl (r_tells 0 a) (fun a ha => by cases ha) fun i hi => by
    have h20 := hG.1.n
    refine ⟨ic (kd c.S i), ⟨X, ?_, hX.1, Fx.rfl'⟩, _, ?_, Fr.rfl'⟩
    · rw [x_kd hX.1.1 hG.1 hi, Option.bind_some]
    · exact r_its0 (ms0 hM) (by omega)
theorem a_bundleOf (hG : GC c) (hX : XC c X) (hM : MC c M) (a : Int32) : Agr cd1 (fX8_bundleOf X a) (fX9_bundleOf M a) :=
  agr_step hG hX hM a (F := fun μ a => (ld 20 (μ 7) a).bind fun r6 => some (.inl r6, μ)) (Q := fun μ a => fX9_its μ a 5) (l := []) rfl (r_tells 5 a) (fun a ha => by cases ha) fun i hi => by
    have h20 := hG.1.n
    refine ⟨ic (bu c.S i), ⟨X, ?_, hX.1, Fx.rfl'⟩, _, ?_, Fr.rfl'⟩
    · rw [x_bu hX.1.1 hG.1 hi, Option.bind_some]
    · exact r_its5 (ms0 hM) (by omega)
end ANS7
