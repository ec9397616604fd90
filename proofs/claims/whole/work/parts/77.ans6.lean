/-! ANSWERS ALIKE: questions that never throw -/
section ANS6
variable {c : Cf} {X M : Mem}
theorem agrI_q (hG : GC c) (hX : XC c X) (hM : MC c M) {l : List Nat} {r : Int32} {o p : Option (Int32 × Mem)} (ho : ∃ X', o = some (r, X') ∧ CQ c.S X' ∧ Fx X X') (hp : ∃ M', p = some (r, M') ∧ Fr l (mu M 0 22 (ic 0)) M') (hl : ∀ a, a ∈ l → 5 ≤ a) : AgrI o p := by
  obtain ⟨X', e1, q1, f1⟩ := ho
  obtain ⟨M', e2, f2⟩ := hp
  have f2' : ∀ a, a < 5 → M' a = mu M 0 22 (ic 0) a := fun a ha => f2 a fun q => by have := hl a q; omega
  exact ⟨c, X', M', hG, hX.fx q1 f1, (mc_thr (ic 0) hM).of (fun a h1 h2 => f2' a (by omega)) (fun k hk => by rw [f2' 0 (by omega)]), r, e1, e2, by rw [f2' 0 (by omega), mus]⟩
theorem ms0 (hM : MC c M) : MS c.S (mu M 0 22 (ic 0)) := (mc_thr (ic 0) hM).1
theorem a_steps (hG : GC c) (hX : XC c X) (hM : MC c M) : AgrI (fX8_steps X) (fX9_steps M) := by
  refine agrI_q hG hX hM (l := []) (r := ic (nn c.S)) ⟨X, ?_, hX.1, Fx.rfl'⟩ ⟨_, ?_, Fr.rfl'⟩ (fun a ha => by cases ha)
  · unfold fX8_steps
    rw [x_n hX.1.1 hG.1]
  · unfold fX9_steps
    simp only [pt, Option.bind_some]
    rw [show (0 : Int32) = ic 0 from rfl, ms_ld (ms0 hM) 0 (i := (0 : Int)) rfl (by omega), Option.bind_some, hG.1.nz]
theorem a_spanByHeights (hG : GC c) (hX : XC c X) (hM : MC c M) : AgrI (fX8_spanByHeights X) (fX9_spanByHeights M) := by
  obtain ⟨X', e1, q1, k1, _, f1, _⟩ := x8_freshLinks hX.1
  obtain ⟨M', e2, f2⟩ := r_span hG.1 (ms0 hM)
  refine agrI_q hG hX hM (r := ic (mx0 (hgt c.S) (nn c.S))) ⟨X', ?_, q1, f1⟩ ⟨M', ?_, f2⟩ (by decide)
  · unfold fX8_spanByHeights
    rw [e1, bd_some, x_greatestHeight hG.1 k1, bd_some]
  · unfold fX9_spanByHeights
    simp only [pt, Option.bind_some, bd_id]
    exact e2
theorem a_spanByEarliest (hG : GC c) (hX : XC c X) (hM : MC c M) : AgrI (fX8_spanByEarliest X) (fX9_spanByEarliest M) := by
  obtain ⟨X', e1, q1, k1, _, f1, _⟩ := x8_freshLinks hX.1
  obtain ⟨M', e2, f2⟩ := r_span hG.1 (ms0 hM)
  refine agrI_q hG hX hM (r := ic (mx0 (hgt c.S) (nn c.S))) ⟨X', ?_, q1, f1⟩ ⟨M', ?_, f2⟩ (by decide)
  · unfold fX8_spanByEarliest
    rw [e1, bd_some, x_lastResult hG.1 k1, bd_some, span_eq]
  · unfold fX9_spanByEarliest
    simp only [pt, Option.bind_some, bd_id]
    exact e2
theorem a_wrongAt (hG : GC c) (hX : XC c X) (hM : MC c M) : AgrI (fX8_wrongAt X) (fX9_wrongAt M) := by
  obtain ⟨X', e1, q1, f1, _⟩ := x8_wrongAt hX.1
  obtain ⟨M', e2, f2, _⟩ := r_where (ms0 hM) hG.1
  refine agrI_q hG hX hM ⟨X', e1, q1, f1⟩ ⟨M', ?_, f2⟩ (by decide)
  unfold fX9_wrongAt
  simp only [pt, Option.bind_some, bd_id]
  exact e2
theorem a_wouldPack (hG : GC c) (hX : XC c X) (hM : MC c M) : AgrI (fX8_wouldPack X) (fX9_wouldPack M) := by
  obtain ⟨X', e1, q1, f1, _⟩ := x8_wouldPack hX.1
  obtain ⟨M', e2, f2, _⟩ := r_packs hG.1 (ms0 hM)
  refine agrI_q hG hX hM ⟨X', e1, q1, f1⟩ ⟨M', ?_, f2⟩ (by decide)
  unfold fX9_wouldPack
  simp only [pt, Option.bind_some, bd_id]
  exact e2
theorem a_beatByUnits (hG : GC c) (hX : XC c X) (hM : MC c M) : AgrI (fX8_beatByUnits X) (fX9_beatByUnits M) := by
  refine agrI_q hG hX hM (l := []) (r := ic (ub c.S 3)) ⟨X, ?_, hX.1, Fx.rfl'⟩ ⟨_, ?_, Fr.rfl'⟩ (fun a ha => by cases ha)
  · unfold fX8_beatByUnits
    rw [x_unitBeat hX.1.1 hG.1, bd_some]
  · unfold fX9_beatByUnits
    simp only [pt, Option.bind_some, bd_id]
    exact r_byUnits (ms0 hM) hG.1
theorem a_beatByRounds (hG : GC c) (hX : XC c X) (hM : MC c M) : AgrI (fX8_beatByRounds X) (fX9_beatByRounds M) := by
  obtain ⟨X', e1, q1, f1, _⟩ := x8_beatByRounds hX.1
  obtain ⟨M', e2, f2⟩ := r_circles (ms0 hM) hG.1
  refine agrI_q hG hX hM ⟨X', e1, q1, f1⟩ ⟨M', ?_, f2⟩ (by decide)
  unfold fX9_beatByRounds
  simp only [pt, Option.bind_some, bd_id]
  exact e2
theorem a_overlap (hG : GC c) (hX : XC c X) (hM : MC c M) : AgrI (fX8_overlap X) (fX9_overlap M) := by
  obtain ⟨X', e1, q1, k1, _, f1, _⟩ := x8_freshLoop hX.1
  obtain ⟨M', e2, f2, _⟩ := r_overlaps (ms0 hM) hG.1
  refine agrI_q hG hX hM (r := ic (ovl c.S)) ⟨X', ?_, q1, f1⟩ ⟨M', ?_, f2⟩ (by decide)
  · unfold fX8_overlap
    rw [e1, bd_some, x8_overlapIn q1 k1, bd_some]
  · unfold fX9_overlap
    simp only [pt, Option.bind_some, bd_id]
    exact e2
theorem a_doesAgree (hG : GC c) (hX : XC c X) (hM : MC c M) : AgrI (fX8_doesAgree X) (fX9_doesAgree M) := by
  obtain ⟨X', e1, q1, f1⟩ := x8_doesAgree hX.1
  obtain ⟨M', e2, f2⟩ := r_agrees (ms0 hM) hG.1
  refine agrI_q hG hX hM ⟨X', e1, q1, f1⟩ ⟨M', ?_, f2⟩ (by decide)
  unfold fX9_doesAgree
  simp only [pt, Option.bind_some]
  rw [show (0 : Int32) = ic 0 from rfl, e2, bd_some]
  cases agr c.S <;> rfl
end ANS6
