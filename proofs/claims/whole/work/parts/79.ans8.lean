section ANS8
variable {c : Cf} {X M : Mem}
theorem r_form {a : Int32} {L : Int32 → Mem → Option (Int32 × Mem)} {Q : Mem → Int32 → Option (Int32 × Mem)} (h1 : ∀ μ, L 1 μ = some (0, mu μ 0 22 (ic 1))) (h0 : ∀ μ, L 0 μ = Q (mu μ 0 22 (ic 0)) a) : (bd (fX9_isStep M a) fun r μ => if r = 0 then L 1 μ else L 0 μ) = bd (fX9_isStep M a) fun r μ => if r = 0 then some (0, mu μ 0 22 (ic 1)) else Q (mu μ 0 22 (ic 0)) a := by
  congr 1
  funext r μ
  rw [h1, h0]
theorem thr1 {β : Type} {μ : Mem} {x y : β} : (if (mu μ 0 22 1) 0 22 ≤ 0 then x else y) = y := by
  rw [mus, if_neg (by decide)]
theorem thr0 {β : Type} {μ : Mem} {x y : β} : (if (mu μ 0 22 0) 0 22 ≤ 0 then x else y) = x := by
  rw [mus, if_pos (by decide)]
theorem a_readBy (hG : GC c) (hX : XC c X) (hM : MC c M) (a : Int32) : Agr cd1 (fX8_readBy X a) (fX9_readBy M a) :=
  agr_step hG hX hM a (F := fun μ a => bd (fX6_readsOf μ a) fun r8 μ7 => some (.inl r8, μ7)) (Q := fun μ a => fX9_reads μ a) (l := []) rfl
    (r_form (L := fun e μ => fX9_readBy_L14 a e μ) (fun μ => by
      unfold fX9_readBy_L14
      simp only [pt, Option.bind_some]
      rw [thr1]
      rfl) fun μ => by
      unfold fX9_readBy_L14
      simp only [pt, Option.bind_some, bd_id]
      rw [thr0]
      rfl) (fun a ha => by cases ha) fun i hi => by
    refine ⟨rd c.S i, ⟨X, ?_, hX.1, Fx.rfl'⟩, _, r_reads (ms0 hM) hG.1 hi, Fr.rfl'⟩
    rw [x_readsOf hX.1.1 hG.1 hi, bd_some]
theorem a_writtenBy (hG : GC c) (hX : XC c X) (hM : MC c M) (a : Int32) : Agr cd1 (fX8_writtenBy X a) (fX9_writtenBy M a) :=
  agr_step hG hX hM a (F := fun μ a => bd (fX6_writesOf μ a) fun r8 μ7 => some (.inl r8, μ7)) (Q := fun μ a => fX9_writes μ a) (l := []) rfl
    (r_form (L := fun e μ => fX9_writtenBy_L14 a e μ) (fun μ => by
      unfold fX9_writtenBy_L14
      simp only [pt, Option.bind_some]
      rw [thr1]
      rfl) fun μ => by
      unfold fX9_writtenBy_L14
      simp only [pt, Option.bind_some, bd_id]
      rw [thr0]
      rfl) (fun a ha => by cases ha) fun i hi => by
    refine ⟨ic (wr c.S i), ⟨X, ?_, hX.1, Fx.rfl'⟩, _, r_writes (ms0 hM) hG.1 hi, Fr.rfl'⟩
    rw [x_writesOf hX.1.1 hG.1 hi, bd_some]
theorem a_latencyOf (hG : GC c) (hX : XC c X) (hM : MC c M) (a : Int32) : Agr cd1 (fX8_latencyOf X a) (fX9_latencyOf M a) :=
  agr_step hG hX hM a (F := fun μ a => bd (fX6_lengthOf μ a) fun r8 μ7 => some (.inl r8, μ7)) (Q := fun μ a => fX9_latency μ a) (l := []) rfl
    (r_form (L := fun e μ => fX9_latencyOf_L14 a e μ) (fun μ => by
      unfold fX9_latencyOf_L14
      simp only [pt, Option.bind_some]
      rw [thr1]
      rfl) fun μ => by
      unfold fX9_latencyOf_L14
      simp only [pt, Option.bind_some, bd_id]
      rw [thr0]
      rfl) (fun a ha => by cases ha) fun i hi => by
    refine ⟨ic (la c.S i), ⟨X, ?_, hX.1, Fx.rfl'⟩, _, r_latency (ms0 hM) hG.1 hi, Fr.rfl'⟩
    rw [x_lengthOf hX.1.1 hG.1 hi, bd_some]
end ANS8
