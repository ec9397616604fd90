section DIG2
variable {c : Cf} {X : Mem}
theorem x_steps (S : Nat → Int) {μ : Mem} (h : CQ1 S μ) (a : Int64) (v : Int64) : fX8_digest_L206 fu a (ic 0) μ = bd (fX8_bundles μ) fun r μ' => fX8_digest_L243 fu (hst S a (nn S)) r (ic 0) μ' := by
  have hW := h.1.2.1
  have hn := hW.n
  have key := loop_eq (fun f (s : Int64 × Int32) => fX8_digest_L206 f s.1 s.2 μ) 0 (nn S) (fun k => (hst S a k, ic (k : Int))) (bd (fX8_bundles μ) fun r μ' => fX8_digest_L243 fu (hst S a (nn S)) r (ic 0) μ') (by omega) ?_ ?_ fu (fu_lt (by omega))
  · exact key
  · intro f k _ hk
    dsimp only
    rw [fX8_digest_L206, x_n h.1.1 hW, if_neg (by rw [ic_le (by omega)]; omega), x_hashOfStep h _ hk, bd_some, show (1 : Int32) = ic 1 from rfl, ic_add]
    rfl
  · intro f
    dsimp only
    rw [fX8_digest_L206, x_n h.1.1 hW, if_pos (by rw [ic_le (by omega)]; omega)]
    rfl
def dgz (h : Int64) (μ : Mem) : Option (Int64 × Mem) :=
  bd (fX8_doLoop μ (ic 3)) fun _ μ95 =>
  bd (fX5_doInOrder μ95 (ic 3) 100) fun _ μ97 =>
  bd (fX8_hashOfRegisters μ97 h) fun r100 μ99 =>
  bd (fX8_doLoop μ99 (ic 2)) fun _ μ101 =>
  bd (fX8_hashOfCells μ101 r100) fun r104 μ103 =>
  bd (fX8_spanIn μ103 (ic 4)) fun r106 μ105 =>
  bd (fX8_mixed μ105 r104 (Int32.toInt64 r106)) fun r108 μ107 =>
  bd (fX8_mixed μ107 r108 (Int32.toInt64 (μ107 11 1))) fun r110 μ109 =>
  bd (fX8_filledShare μ109) fun r112 μ111 =>
  bd (fX8_bitsOf μ111 r112) fun r114 μ113 =>
  bd (fX8_mixed μ113 r110 r114) fun r116 μ115 =>
  if (μ115 0 3) = ic 0 then
  fX8_digest_L361 (0 : Int64) r116 μ115
  else
  fX8_digest_L361 (1 : Int64) r116 μ115
theorem x_sets (S : Nat → Int) {μ : Mem} (h : CQ1 S μ) (a : Int64) : fX8_digest_L243 fu a (ic (mxm (bu S) (nn S) + 1)) (ic 0) μ = dgz (hbu S a (mxm (bu S) (nn S) + 1).toNat) μ := by
  have hW := h.1.2.1
  have hs := sp_rg hW
  obtain ⟨N, hN⟩ : ∃ N : Nat, mxm (bu S) (nn S) + 1 = N := ⟨(mxm (bu S) (nn S) + 1).toNat, by omega⟩
  rw [hN, show (N : Int).toNat = N by omega]
  have key := loop_eq (fun f (s : Int64 × Int32) => fX8_digest_L243 f s.1 (ic N) s.2 μ) 0 N (fun k => (hbu S a k, ic (k : Int))) (dgz (hbu S a N) μ) (by omega) ?_ ?_ fu (fu_lt (by omega))
  · exact key
  · intro f k _ hk
    dsimp only
    rw [fX8_digest_L243, if_neg (by rw [ic_le (by omega)]; omega), x_setLaidIn h.1.1 hW (by omega), bd_some, x_mixed, bd_some, show (1 : Int32) = ic 1 from rfl, ic_add]
    rfl
  · intro f
    dsimp only
    rw [fX8_digest_L243, if_pos (by rw [ic_le (by omega)]; omega)]
    rfl
theorem x_dgz (hG : GC c) (h : CQ1 c.S X) (hA : HV 97 (ord c.S 1 (V0 c.S)) X) (hB : HV 98 (VB c.S 205) X) (h11 : X 11 1 = ic c.m) (h3 : X 0 3 = b2 c.hk) (hT : XT c.t c.L X) (a : Int64) : ∃ X', dgz a X = some (hsg c.t (mxd (mxd (((31 : Int64) * mxd (mxd (hce (ord c.S 1 (V0 c.S)) (VB c.S 205) (VL c.S 2) (hrg (ord c.S 1 (V0 c.S)) (VB c.S 205) (VL c.S 3) (ord c.S 3 (V0 c.S)) a 12) 12) (ic (spn c.S 4))) (ic c.m)) + UInt64.toInt64 (fsh c.S)) (b2 c.hk)) (ic c.L)) c.L, X') ∧ CQ c.S X' ∧ Fx X X' := by
  have hW := hG.1
  obtain ⟨X1, e1, f1, v1⟩ := x8_doLoop h.1 h.2.2.1 (r := 3) (by omega)
  have c1 := h.of f1 (by decide)
  obtain ⟨X2, e2, f2, v2⟩ := x_doInOrder c1.1.1 hW (a := 100) (by omega) (r := 3) (by omega)
  have c2 := c1.of f2 (by decide)
  have hA2 := (hA.of f1 (by decide)).of f2 (by decide)
  have hB2 := (hB.of f1 (by decide)).of f2 (by decide)
  obtain ⟨X3, e3, f3, v3⟩ := x8_doLoop c2.1 c2.2.2.1 (r := 2) (by omega)
  have c3 := c2.of f3 (by decide)
  have hA3 := hA2.of f3 (by decide)
  have hB3 := hB2.of f3 (by decide)
  have fx : ∀ b, b < 80 → X3 b = X b := fun b hb => by
    rw [f3 b (by simp only [List.mem_cons, List.not_mem_nil, or_false]; omega), f2 b (by simp only [List.mem_cons, List.not_mem_nil, or_false]; omega), f1 b (by simp only [List.mem_cons, List.not_mem_nil, or_false]; omega)]
  have hT3 : XT c.t c.L X3 := ⟨by rw [fx 73 (by omega)]; exact hT.1, fun i hi => by rw [fx 74 (by omega)]; exact hT.2 i hi⟩
  refine ⟨X3, ?_, c3.1, ((Fx.of f1 (by decide)).trans (Fx.of f2 (by decide))).trans (Fx.of f3 (by decide))⟩
  unfold dgz
  have e1' : fX8_doLoop X (ic 3) = some ((), X1) := e1
  have e2' : fX5_doInOrder X1 (ic 3) 100 = some ((), X2) := e2
  have e3' : fX8_doLoop X2 (ic 2) = some ((), X3) := e3
  have e4 : fX8_spanIn X3 (ic 4) = some (ic (spn c.S 4), X3) := x8_spanIn c3.1 c3.2.2.1 (r := 4) (by omega)
  rw [e1', bd_some, e2', bd_some, x_hashOfRegisters hA2 hB2 (v1.of f2 (by decide)) v2, bd_some, e3', bd_some, x_hashOfCells hA3 hB3 v3, bd_some, e4, bd_some, x_mixed, bd_some, x_mixed, bd_some, x_filledShare c3.1.1 hW, bd_some, x_bitsOfShare hW, bd_some]
  unfold fX8_mixed
  rw [bd_some, fx 0 (by omega), fx 11 (by omega), h11, h3, b2_ifc]
  have e5 : ∀ (b : Bool) (g : Int64), (if b = true then fX8_digest_L361 (1 : Int64) g X3 else fX8_digest_L361 (0 : Int64) g X3) = bd (some (mxd g (b2 b), X3)) fun r μ => bd (fX7_hashOfSigns μ r) fun r94 μ93 => some (r94, μ93) := fun b g => by
    cases b <;> rfl
  rw [e5, bd_some, x_hashOfSigns hG.2.2.2 hT3, bd_some]
theorem x_digest (hG : GC c) (hX : XC c X) : ∃ X', fX8_digest X = some (dgt c, X') ∧ CQ c.S X' ∧ Fx X X' := by
  obtain ⟨q0, h11, h3, _, hT⟩ := hX
  have hW := hG.1
  obtain ⟨X1, e1, q1, l1, g1, f1, _⟩ := x8_freshLinks q0
  obtain ⟨X2, e2, q2, p2, g2, f2, _, k2⟩ := x8_freshLoop q1
  have g6 := k2 g1
  have l2 : LK c.S X2 := by
    rcases q2.2.2.1 with q | q
    · rw [g6, ic_eq (by omega)] at q
      omega
    · exact q.2
  have c2 : CQ1 c.S X2 := ⟨q2, l2, p2, g6⟩
  obtain ⟨X3, e3, f3, v3⟩ := x_doInOrder c2.1.1 hW (a := 97) (by omega) (r := 1) (by omega)
  have c3 := c2.of f3 (by decide)
  obtain ⟨X4, e4, f4, v4⟩ := x8_doBundles c3.1 (e := 205) (by omega)
  have c4 := c3.of f4 (by decide)
  have v34 := v3.of f4 (by decide)
  obtain ⟨X5, e5, _, _, s5⟩ := x8_whyWrong c4.1
  obtain rfl := (s5 c4.2.2.2).symm
  obtain ⟨X6, e6, _, _, s6⟩ := x8_wrongAt c4.1
  obtain rfl := (s6 c4.2.2.2).symm
  obtain ⟨X7, e7, _, _, s7⟩ := x8_wouldPack c4.1
  have f7 := s7 c4.2.2.2
  have c7 := c4.of f7 (by decide)
  have v37 := v34.of f7 (by decide)
  have v47 := v4.of f7 (by decide)
  obtain ⟨X8, e8, _, _, s8⟩ := x8_beatByRounds c7.1
  have f8 := s8 c7.2.2.2
  have c8 := c7.of f8 (by decide)
  have v38 := v37.of f8 (by decide)
  have v48 := v47.of f8 (by decide)
  have F8 : Fx X X8 := ((((f1.trans f2).trans (Fx.of f3 (by decide))).trans (Fx.of f4 (by decide))).trans (Fx.of f7 (by decide))).trans (Fx.of f8 (by decide))
  have hT8 : XT c.t c.L X8 := ⟨by rw [F8.1 73 (by omega) (by omega)]; exact hT.1, fun i hi => by rw [F8.1 74 (by omega) (by omega)]; exact hT.2 i hi⟩
  obtain ⟨X9, e9, q9, f9⟩ := x_dgz hG c8 v38 v48 (by rw [F8.1 11 (by omega) (by omega)]; exact h11.1) (by rw [F8.2 3 (by omega) (by omega)]; exact h3) hT8 (hbu c.S (hst c.S (hhd c.S) (nn c.S)) (mxm (bu c.S) (nn c.S) + 1).toNat)
  refine ⟨X9, ?_, q9, F8.trans f9⟩
  have hb := BT_sp hW
  have hdl := hW.dl
  unfold fX8_digest
  have e3' : fX5_doInOrder X2 1 97 = some ((), X3) := e3
  have e4' : fX8_doBundles X3 205 = some ((), X4) := e4
  rw [e1, bd_some, e2, bd_some, e3', bd_some, e4', bd_some, x_n c4.1.1 hW, x_mixed, bd_some, x_greatestHeight hW c4.2.1, bd_some, x_mixed, bd_some, x_lastResult hW c4.2.1, bd_some, x_mixed, bd_some, x8_bundles c4.1, bd_some, x_mixed, bd_some, e5, bd_some, x_mixed, bd_some, e6, bd_some, x_mixed, bd_some, e7, bd_some, x_mixed, bd_some, x8_areAlike v37 v47, bd_some, b2_if]
  have e10 : ∀ (b : Bool) (g : Int64), (if b = true then fX8_digest_L128 (1 : Int64) g X7 else fX8_digest_L128 (0 : Int64) g X7) = fX8_digest_L128 (Int32.toInt64 (b2 b)) g X7 := fun b g => by
    cases b <;> rfl
  rw [e10]
  unfold fX8_digest_L128
  have e11 : fX8_beatByUnits X7 = some (ic (ub c.S 3), X7) := by
    unfold fX8_beatByUnits
    rw [x_unitBeat c7.1.1 hW, bd_some]
  rw [x_mixed, bd_some, e11, bd_some, x_mixed, bd_some, x_mixed, bd_some, e8, bd_some, x_mixed, bd_some, x_mixed, bd_some, x_mixed, bd_some, x8_overlapIn c8.1 c8.2.2.1, bd_some, x_mixed, bd_some, c7.2.2.1.1, c8.2.2.1.2.1, c8.1.1.2.1, show (1 : Int32) = ic 1 from rfl, ic_sub, ic_sub, show (0 : Int32) = ic 0 from rfl, x_steps c.S c8 _ 0, x8_bundles c8.1, bd_some, x_sets c.S c8]
  exact e9
end DIG2

