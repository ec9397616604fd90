theorem i64_ic {n : Int} (h : -2147483648 ≤ n ∧ n < 2147483648) : Int32.toInt64 (ic n) = il n := by
  rw [← Int64.ofInt_int32ToInt, ic_toInt h]
  rfl
theorem mxd_ic {h : Int64} {n : Int} (hn : -2147483648 ≤ n ∧ n < 2147483648) : mxd h (ic n) = 31 * h + il n := by
  unfold mxd
  rw [i64_ic hn]
theorem mxd_eq {h : Int64} {v : Int32} : (31 : Int64) * h + Int32.toInt64 v = mxd h v := rfl
theorem hd_start {n : Int} : (143933 : Int64) + Int32.toInt64 (ic n) = mxd 4643 (ic n) := rfl
theorem hd_ahead {x : Int64} {b d : Int} (hb : 0 ≤ b ∧ b ≤ 1000) (hd : 0 ≤ d ∧ d ≤ 1000) : (((31 : Int64) * x + Int32.toInt64 (ic b)) - (1 : Int64)) - Int32.toInt64 (ic d) = mxd x (ic (b - 1 - d)) := by
  rw [mxd_ic (by omega), i64_ic (by omega), i64_ic (by omega), show (1 : Int64) = il 1 from rfl, Int64.sub_eq_add_neg, Int64.sub_eq_add_neg, Int64.add_assoc, Int64.add_assoc, ← il_sub, ← il_sub, Int64.sub_eq_add_neg, Int64.sub_eq_add_neg, Int64.add_assoc]
/-- both answer alike, longs or doubles -/
def AgrG {β : Type} (P : β → Prop) (o p : Option (β × Mem)) : Prop := ∃ (c : Cf) (X M : Mem), GC c ∧ XC c X ∧ MC c M ∧ ∃ r, o = some (r, X) ∧ p = some (r, M) ∧ M 0 22 = ic 0 ∧ P r
section DIG4
variable {c : Cf} {X M : Mem}
theorem agrG_q {β : Type} {P : β → Prop} (hG : GC c) (hX : XC c X) (hM : MC c M) {l : List Nat} {r : β} {o p : Option (β × Mem)} (ho : ∃ X', o = some (r, X') ∧ CQ c.S X' ∧ Fx X X') (hp : ∃ M', p = some (r, M') ∧ Fr l (mu M 0 22 (ic 0)) M') (hl : ∀ a, a ∈ l → 5 ≤ a) (hP : P r) : AgrG P o p := by
  obtain ⟨X', e1, q1, f1⟩ := ho
  obtain ⟨M', e2, f2⟩ := hp
  have f2' : ∀ a, a < 5 → M' a = mu M 0 22 (ic 0) a := fun a ha => f2 a fun q => by have := hl a q; omega
  exact ⟨c, X', M', hG, hX.fx q1 f1, (mc_thr (ic 0) hM).of (fun a h1 h2 => f2' a (by omega)) (fun k hk => by rw [f2' 0 (by omega)]), r, e1, e2, by rw [f2' 0 (by omega), mus], hP⟩
theorem a_filledShare (hG : GC c) (hX : XC c X) (hM : MC c M) : AgrG (fun r => FP.dcmp r r = some .eq) (fX8_filledShare X) (fX9_filledShare M) := by
  obtain ⟨M', e2, f2⟩ := r_filled (ms0 hM) hG.1
  refine agrG_q hG hX hM (r := fsh c.S) ⟨X, x_filledShare hX.1.1 hG.1, hX.1, Fx.rfl'⟩ ⟨M', ?_, f2⟩ (by decide) (fsh_self hG.1)
  unfold fX9_filledShare
  simp only [pt, Option.bind_some]
  rw [show (0 : Int32) = ic 0 from rfl, e2, bd_some]
theorem r_rgz (hG : GC c) (h : MC c M) (a : Int64) : ∃ M', rgz a M = some (hsg c.t (mxd (mxd (((31 : Int64) * mxd (mxd (hce (ord c.S 1 (V0 c.S)) (VB c.S 205) (VL c.S 2) (hrg (ord c.S 1 (V0 c.S)) (VB c.S 205) (VL c.S 3) (ord c.S 3 (V0 c.S)) a 12) 12) (ic (spn c.S 4))) (ic c.m)) + UInt64.toInt64 (fsh c.S)) (b2 c.hk)) (ic c.L)) c.L, M') ∧ Fr [5, 6, 7, 8, 9, 10, 11, 12, 13, 16, 17, 18, 19] M M' := by
  have hW := hG.1
  obtain ⟨M1, e1, f1⟩ := r_valuesIn h.1 hW a
  have m1 := h.1.fr f1 (by decide)
  obtain ⟨M2, e2, f2⟩ := r_needed m1 hW (r := 4) (by omega)
  have m2 := m1.fr f2 (by decide)
  obtain ⟨M3, e3, f3⟩ := r_filled m2 hW
  have m3 := m2.fr f3 (by decide)
  have g2 : M2 0 = M 0 := by rw [f2 0 (by decide), f1 0 (by decide)]
  have g3 : M3 0 = M 0 := by rw [f3 0 (by decide), g2]
  have g4 : M3 4 = M 4 := by rw [f3 4 (by decide), f2 4 (by decide), f1 4 (by decide)]
  have hT3 : RT c.t c.L M3 := ⟨by rw [g3]; exact h.2.2.2.2.1, fun i hi => by rw [g4]; exact h.2.2.2.2.2 i hi⟩
  refine ⟨M3, ?_, ((f1.trans (f2.mono (by decide))).trans (f3.mono (by decide)))⟩
  unfold rgz
  have e2' : fX9_needed M1 4 = some (ic (spn c.S 4), M2) := e2
  rw [e1, bd_some, e2', bd_some, e3, bd_some, r_bitsM hW, bd_some, g2, g3, h.2.1.1, h.2.2.1, h.2.2.2.2.1]
  exact r_signs hG.2.2.2.1 hT3 _
theorem r_digest (hG : GC c) (hM : MC c M) : ∃ M', fX9_digest M = some (dgt c, M') ∧ Fr [5, 6, 7, 8, 9, 10, 11, 12, 13, 14, 15, 16, 17, 18, 19] (mu M 0 22 (ic 0)) M' := by
  have hW := hG.1
  have h0 := mc_thr (ic 0) hM
  have hw : 0 ≤ wrS c.S ∧ wrS c.S < 2147483648 := by
    have := wrS_rg hW
    omega
  have hb := BT_sp hW
  have hdl := hW.dl
  obtain ⟨M1, e1, f1⟩ := r_span hW h0.1
  have m1 := h0.1.fr f1 (by decide)
  obtain ⟨M2, e2, f2⟩ := r_span hW m1
  have m2 := m1.fr f2 (by decide)
  obtain ⟨M3, e3, f3, _⟩ := r_many m2 hW
  have m3 := m2.fr f3 (by decide)
  obtain ⟨M4, e4, f4, _⟩ := r_wrong m3 hW
  have m4 := m3.fr f4 (by decide)
  obtain ⟨M5, e5, f5, _⟩ := r_where m4 hW
  have m5 := m4.fr f5 (by decide)
  obtain ⟨M6, e6, f6, _, m6⟩ := r_packs hW m5
  obtain ⟨M7, e7, f7⟩ := r_agrees m6 hW
  have m7 := m6.fr f7 (by decide)
  obtain ⟨M8, e8, f8⟩ := r_circles m7 hW
  have m8 := m7.fr f8 (by decide)
  obtain ⟨M9, e9, f9⟩ := r_circles m8 hW
  have m9 := m8.fr f9 (by decide)
  obtain ⟨M10, e10, f10, _, m10⟩ := r_lays m9 hW
  obtain ⟨M11, e11, f11, a11⟩ := r_overlaps m10 hW
  have m11 := m10.fr f11 (by decide)
  obtain ⟨M12, e12, f12⟩ := r_allIn m11 hW a11 (hhd c.S) (b := BT c.S) (by omega)
  have m12 := m11.fr f12 (by decide)
  obtain ⟨M13, e13, f13, _⟩ := r_many m12 hW
  have F13 : Fr [5, 6, 7, 8, 9, 10, 11, 12, 13, 14, 15, 16, 17, 18, 19] (mu M 0 22 (ic 0)) M13 := ((((((((((((f1.mono (by decide)).trans (f2.mono (by decide))).trans (f3.mono (by decide))).trans (f4.mono (by decide))).trans (f5.mono (by decide))).trans (f6.mono (by decide))).trans (f7.mono (by decide))).trans (f8.mono (by decide))).trans (f9.mono (by decide))).trans (f10.mono (by decide))).trans (f11.mono (by decide))).trans (f12.mono (by decide))).trans (f13.mono (by decide))
  have m13 : MC c M13 := h0.of (fun a h1 h2 => F13 a (by simp only [List.mem_cons, List.not_mem_nil, or_false]; omega)) (fun k hk => by rw [F13 0 (by decide)])
  obtain ⟨M14, e14, f14⟩ := r_rgz hG m13 (hbu c.S (hst c.S (hhd c.S) (nn c.S)) (mxm (bu c.S) (nn c.S) + 1).toNat)
  refine ⟨M14, ?_, F13.trans (f14.mono (by decide))⟩
  unfold fX9_digest
  simp only [pt, Option.bind_some]
  rw [show (0 : Int32) = ic 0 from rfl, ms_n h0.1 hW, Option.bind_some, e1, bd_some, e2, bd_some, e3, bd_some, e4, bd_some, show (4 : Int32) = ic 4 from rfl, rmd_ic (by omega), Option.bind_some, wrS_mod hW, e5, bd_some, e6, bd_some, e7, bd_some, r_byUnits m7 hW, bd_some, e8, bd_some, e9, bd_some, e10, bd_some, show (1 : Int32) = ic 1 from rfl, ms_ld m10 1 (i := (1 : Int)) rfl (by omega), Option.bind_some, e11, bd_some, hd_start, hd_ahead (by omega) (by omega)]
  have hh : hhd c.S = hhd c.S := rfl
  conv at hh =>
    rhs
    unfold hhd
  rw [span_eq] at hh
  simp only [mxd_eq]
  rw [← hh, e12, bd_some, e13, bd_some]
  rw [r_sets m13.1 hW, e14]
  rfl
theorem a_digest (hG : GC c) (hX : XC c X) (hM : MC c M) : AgrG (fun _ => True) (fX8_digest X) (fX9_digest M) :=
  agrG_q hG hX hM (x_digest hG hX) (r_digest hG hM) (by decide) trivial
end DIG4
