section ANS9
variable {c : Cf} {X M : Mem}
theorem r_meas1 {a : Int32} : (bd (fX9_measured M a 1) fun r μ => some (r, μ)) = bd (fX9_isStep M a) fun r μ => if r = 0 then some (0, mu μ 0 22 (ic 1)) else (bd (fX9_measures (mu μ 0 22 (ic 0))) fun _ μ9 => (ld 20 (μ9 14) a).bind fun r12 => some (r12, μ9)) := by
  rw [bd_id]
  refine r_form (L := fun e μ => fX9_measured_L14 a 1 e μ) (Q := fun μ a => bd (fX9_measures μ) fun _ μ9 => (ld 20 (μ9 14) a).bind fun r12 => some (r12, μ9)) (fun μ => ?_) fun μ => ?_
  · unfold fX9_measured_L14
    simp only [pt, Option.bind_some]
    rw [thr1]
    rfl
  · unfold fX9_measured_L14
    simp only [pt, Option.bind_some]
    rw [thr0]
    rfl
theorem r_meas0 {a : Int32} : (bd (fX9_measured M a 0) fun r μ => some (r, μ)) = bd (fX9_isStep M a) fun r μ => if r = 0 then some (0, mu μ 0 22 (ic 1)) else (bd (fX9_measures (mu μ 0 22 (ic 0))) fun _ μ9 => (ld 20 (μ9 15) a).bind fun r12 => some (r12, μ9)) := by
  rw [bd_id]
  refine r_form (L := fun e μ => fX9_measured_L14 a 0 e μ) (Q := fun μ a => bd (fX9_measures μ) fun _ μ9 => (ld 20 (μ9 15) a).bind fun r12 => some (r12, μ9)) (fun μ => ?_) fun μ => ?_
  · unfold fX9_measured_L14
    simp only [pt, Option.bind_some]
    rw [thr1]
    rfl
  · unfold fX9_measured_L14
    simp only [pt, Option.bind_some]
    rw [thr0]
    rfl
theorem a_heightOf (hG : GC c) (hX : XC c X) (hM : MC c M) (a : Int32) : Agr cd1 (fX8_heightOf X a) (fX9_heightOf M a) :=
  agr_step hG hX hM a (F := fun μ a => bd (fX8_freshLinks μ) fun _ μ8 => (ld 20 (μ8 81) a).bind fun r10 => some (.inl r10, μ8)) (Q := fun μ a => bd (fX9_measures μ) fun _ μ9 => (ld 20 (μ9 14) a).bind fun r12 => some (r12, μ9)) (l := [14, 15, 17, 18]) rfl r_meas1 (by decide) fun i hi => by
    have h20 := hG.1.n
    obtain ⟨X', e1, q1, k1, _, f1, _⟩ := x8_freshLinks hX.1
    obtain ⟨M', e2, f2, _, t2, _⟩ := r_measures hG.1 (ms0 hM)
    refine ⟨ic (hgt c.S i), ⟨X', ?_, q1, f1⟩, M', ?_, f2⟩
    · rw [e1, bd_some, ld_k i rfl (by omega), Option.bind_some, k1.2.2.1 i hi]
    · rw [e2, bd_some, ld_k i rfl (by omega), Option.bind_some, t2 i hi]
theorem a_earliestOf (hG : GC c) (hX : XC c X) (hM : MC c M) (a : Int32) : Agr cd1 (fX8_earliestOf X a) (fX9_earliestOf M a) :=
  agr_step hG hX hM a (F := fun μ a => bd (fX8_freshLinks μ) fun _ μ8 => (ld 20 (μ8 82) a).bind fun r10 => some (.inl r10, μ8)) (Q := fun μ a => bd (fX9_measures μ) fun _ μ9 => (ld 20 (μ9 15) a).bind fun r12 => some (r12, μ9)) (l := [14, 15, 17, 18]) rfl r_meas0 (by decide) fun i hi => by
    have h20 := hG.1.n
    obtain ⟨X', e1, q1, k1, _, f1, _⟩ := x8_freshLinks hX.1
    obtain ⟨M', e2, f2, _, _, t2⟩ := r_measures hG.1 (ms0 hM)
    refine ⟨ic (ear c.S i), ⟨X', ?_, q1, f1⟩, M', ?_, f2⟩
    · rw [e1, bd_some, ld_k i rfl (by omega), Option.bind_some, k1.2.2.2 i hi]
    · rw [e2, bd_some, ld_k i rfl (by omega), Option.bind_some, t2 i hi]
theorem a_loopBundleOf (hG : GC c) (hX : XC c X) (hM : MC c M) (a : Int32) : Agr cd1 (fX8_loopBundleOf X a) (fX9_loopBundleOf M a) :=
  agr_step hG hX hM a (F := fun μ a => bd (fX8_freshLoop μ) fun _ μ8 => (ld 20 (μ8 90) a).bind fun r10 => some (.inl r10, μ8)) (Q := fun μ a => bd (fX9_laysLoop μ) fun r9 μ8 => if r9 = 0 then some (-1, μ8) else (ld 20 (μ8 13) a).bind fun r10 => some (r10, μ8)) (l := [13, 16, 17, 18, 19]) rfl
    (r_form (L := fun e μ => fX9_loopBundleOf_L14 a e μ) (Q := fun μ a => bd (fX9_laysLoop μ) fun r9 μ8 => if r9 = 0 then some (-1, μ8) else (ld 20 (μ8 13) a).bind fun r10 => some (r10, μ8)) (fun μ => by
      unfold fX9_loopBundleOf_L14
      simp only [pt, Option.bind_some]
      rw [thr1]
      rfl) fun μ => by
      unfold fX9_loopBundleOf_L14
      simp only [pt, Option.bind_some]
      rw [thr0]
      rfl) (by decide) fun i hi => by
    have h20 := hG.1.n
    have hB := BT_sp hG.1
    obtain ⟨X', e1, q1, k1, _, f1, _⟩ := x8_freshLoop hX.1
    obtain ⟨M', e2, f2, t2, _⟩ := r_lays (ms0 hM) hG.1
    refine ⟨ic (PLS c.S i), ⟨X', ?_, q1, f1⟩, M', ?_, f2⟩
    · rw [e1, bd_some, ld_k i rfl (by omega), Option.bind_some, k1.2.2 i hi]
      rfl
    · rw [e2, bd_some, show (0 : Int32) = ic 0 from rfl, if_neg (by rw [ic_eq (by omega)]; omega), ld_k i rfl (by omega), Option.bind_some, t2 i hi]
end ANS9
