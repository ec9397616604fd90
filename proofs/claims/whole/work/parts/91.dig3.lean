section DIG3
variable {S : Nat → Int} {μ : Mem}
theorem r_allIn_in (h : MS S μ) (hW : WF S) (hG : HG S μ) (K : Int32 → Int64 → Int32 → Mem → Option (Int64 × Mem)) (v3 : Int32) (a : Int64) {i : Nat} (hi : i < nn S) : fX9_allIn_L133 K fu v3 a (ic i) (ic 0) μ = K v3 (hin S i a (nn S)) (ic ((i + 1 : Nat) : Int)) μ := by
  have hn := hW.n
  have key := loop_eq (fun f (s : Int64 × Int32) => fX9_allIn_L133 K f v3 s.1 (ic i) s.2 μ) 0 (nn S) (fun k => (hin S i a k, ic (k : Int))) (K v3 (hin S i a (nn S)) (ic ((i + 1 : Nat) : Int)) μ) (by omega) ?_ ?_ fu (fu_lt (by omega))
  · exact key
  · intro f k _ hk
    have e1 : (20 * (i : Int) + k).toNat = 20 * i + k := by omega
    dsimp only
    rw [fX9_allIn_L133, show (0 : Int32) = ic 0 from rfl, ms_n h hW, Option.bind_some, if_neg (by rw [ic_le (by omega)]; omega), show (20 : Int32) = ic 20 from rfl, ic_mul, ic_add, ld_ic (by omega), Option.bind_some, ld_ic (by omega), Option.bind_some, e1, (hG i k hi hk).1, (hG i k hi hk).2, show (1 : Int32) = ic 1 from rfl, ic_add]
    rfl
  · intro f
    dsimp only
    rw [fX9_allIn_L133, show (0 : Int32) = ic 0 from rfl, ms_n h hW, Option.bind_some, if_pos (by rw [ic_le (by omega)]; omega), show (1 : Int32) = ic 1 from rfl, ic_add]
    rfl
theorem r_allIn (h : MS S μ) (hW : WF S) (hA : AT S (PLS S) μ) (a : Int64) {b : Int} (hb : 0 ≤ b ∧ b ≤ 1000) : ∃ μ', fX9_allIn μ a (ic b) = some (hst S a (nn S), μ') ∧ Fr [14, 15, 17, 18] μ μ' := by
  have hn := hW.n
  obtain ⟨μ1, e1, f1, hG, hT, hE⟩ := r_measures hW h
  have m1 := h.fr f1 (by decide)
  have a1 : AT S (PLS S) μ1 := fun k hk => by
    rw [f1 13 (by decide)]
    exact hA k hk
  refine ⟨μ1, ?_, f1⟩
  have key := loop_eq (fun f (s : Int64 × Int32) => fX9_allIn_L10 f (ic b) s.1 s.2 μ1) 0 (nn S) (fun k => (hst S a k, ic (k : Int))) (some (hst S a (nn S), μ1)) (by omega) ?_ ?_ fu (fu_lt (by omega))
  · unfold fX9_allIn
    rw [e1, bd_some]
    exact key
  · intro f k _ hk
    have e3 : (k : Int).toNat = k := by omega
    dsimp only
    rw [fX9_allIn_L10, show (0 : Int32) = ic 0 from rfl, ms_n m1 hW, Option.bind_some, if_neg (by rw [ic_le (by omega)]; omega), r_its0 m1 (by omega), bd_some, r_reads m1 hW hk, bd_some, r_writes m1 hW hk, bd_some, r_latency m1 hW hk, bd_some, ld_ic (by omega), Option.bind_some, e3, hT k hk, ld_ic (by omega), Option.bind_some, e3, hE k hk, show (5 : Int32) = ic 5 from rfl, r_its5 m1 (by omega), bd_some, a_ld a1 hW hk, Option.bind_some, r_allIn_in m1 hW hG _ _ _ hk]
    rfl
  · intro f
    dsimp only
    rw [fX9_allIn_L10, show (0 : Int32) = ic 0 from rfl, ms_n m1 hW, Option.bind_some, if_pos (by rw [ic_le (by omega)]; omega), if_pos (by rw [ic_le (by omega)]; omega)]
theorem r_regs {A B C D : Nat → Int32} (hA : HV 7 A μ) (hB : HV 8 B μ) (hC : HV 9 C μ) (hD : HV 10 D μ) (a : Int64) : fX9_valuesIn_L66 fu a (ic 0) μ = bd (fX9_ofLoop μ (2 : Int32) (0 : Int32)) fun r34 μ33 => (ast 24 μ33 9 (0 : Int32) r34).bind fun μ35 => bd (fX9_copies μ35 9) fun _ μ36 => fX9_valuesIn_L159 fu (hrg A B C D a 12) (12 : Int32) μ36 := by
  have key := loop_eq (fun f (s : Int64 × Int32) => fX9_valuesIn_L66 f s.1 s.2 μ) 0 12 (fun k => (hrg A B C D a k, ic (k : Int))) (bd (fX9_ofLoop μ (2 : Int32) (0 : Int32)) fun r34 μ33 => (ast 24 μ33 9 (0 : Int32) r34).bind fun μ35 => bd (fX9_copies μ35 9) fun _ μ36 => fX9_valuesIn_L159 fu (hrg A B C D a 12) (12 : Int32) μ36) (by omega) ?_ ?_ fu (fu_lt (by omega))
  · exact key
  · intro f k _ hk
    have e3 : (k : Int).toNat = k := by omega
    dsimp only
    rw [fX9_valuesIn_L66, if_neg (by rw [show (12 : Int32) = ic 12 from rfl, ic_le (by omega)]; omega), v_ld hA (by omega), Option.bind_some, v_ld hB (by omega), Option.bind_some, v_ld hC (by omega), Option.bind_some, v_ld hD (by omega), Option.bind_some, show (1 : Int32) = ic 1 from rfl, ic_add, e3]
    rfl
  · intro f
    dsimp only
    rw [fX9_valuesIn_L66, if_pos (by decide)]
theorem r_cells {A B C : Nat → Int32} (hA : HV 7 A μ) (hB : HV 8 B μ) (hC : HV 9 C μ) (a : Int64) : fX9_valuesIn_L159 fu a (12 : Int32) μ = some (hce A B C a 12, μ) := by
  have key := loop_eq (fun f (s : Int64 × Int32) => fX9_valuesIn_L159 f s.1 s.2 μ) 0 12 (fun k => (hce A B C a k, ic ((12 + k : Nat) : Int))) (some (hce A B C a 12, μ)) (by omega) ?_ ?_ fu (fu_lt (by omega))
  · exact key
  · intro f k _ hk
    have e3 : ((12 + k : Nat) : Int).toNat = 12 + k := by omega
    have e4 : ((12 + k : Nat) : Int) + 1 = ((12 + (k + 1) : Nat) : Int) := by omega
    dsimp only
    rw [fX9_valuesIn_L159, show (24 : Int32) = ic 24 from rfl, if_neg (by rw [ic_le (by omega)]; omega), v_ld hA (by omega), Option.bind_some, v_ld hB (by omega), Option.bind_some, v_ld hC (by omega), Option.bind_some, show (1 : Int32) = ic 1 from rfl, ic_add, e3, e4]
    rfl
  · intro f
    dsimp only
    rw [fX9_valuesIn_L159, if_pos (by decide)]
/-- the loop's values, told into the row 9 -/
theorem r_loop9 (h : MS S μ) (hW : WF S) {r : Nat} (hr : r ≤ 20) {β : Type} (F : Mem → Option β) : ∃ μ', (bd (fX9_ofLoop μ (ic r) (0 : Int32)) fun r34 μ33 => (ast 24 μ33 9 (0 : Int32) r34).bind fun μ35 => bd (fX9_copies μ35 9) fun _ μ36 => F μ36) = F μ' ∧ Fr [5, 6, 9, 11, 12, 13, 16, 17, 18, 19] μ μ' ∧ HV 9 (VL S r) μ' := by
  obtain ⟨μ1, e1, f1, v1⟩ := r_ofLoop h hW hr (q := 0) (by omega)
  have f2 : Fr [9] μ1 (mu μ1 9 0 (VL S r 0)) := Fr_mu (by decide)
  obtain ⟨μ3, e3, f3, v3⟩ := r_copies (a := 9) (by omega) (v1.of f2 (by decide))
  refine ⟨μ3, ?_, ((f1.mono (by decide)).trans (f2.mono (by decide))).trans (f3.mono (by decide)), v3⟩
  rw [show (0 : Int32) = ic ((0 : Nat) : Int) from rfl, e1, bd_some, ast_k 0 rfl (by omega), Option.bind_some, e3, bd_some]
theorem r_valuesIn (h : MS S μ) (hW : WF S) (a : Int64) : ∃ μ', fX9_valuesIn μ a = some (hce (ord S 1 (V0 S)) (VB S 205) (VL S 2) (hrg (ord S 1 (V0 S)) (VB S 205) (VL S 3) (ord S 3 (V0 S)) a 12) 12, μ') ∧ Fr [5, 6, 7, 8, 9, 10, 11, 12, 13, 16, 17, 18, 19] μ μ' := by
  obtain ⟨μ1, e1, f1, v1⟩ := r_inOrder h hW (r := 1) (by omega)
  have m1 := h.fr f1 (by decide)
  obtain ⟨μ2, e2, f2, v2⟩ := r_copies (a := 7) (by omega) v1
  have m2 := m1.fr f2 (by decide)
  obtain ⟨μ3, e3, f3, v3⟩ := r_inBundles m2 hW (e := 206) (by omega)
  rw [VB_206 hW] at v3
  have m3 := m2.fr f3 (by decide)
  have w3 := v2.of f3 (by decide)
  obtain ⟨μ4, e4, f4, v4⟩ := r_copies (a := 8) (by omega) v3
  have m4 := m3.fr f4 (by decide)
  have w4 := w3.of f4 (by decide)
  obtain ⟨μ5, e5, f5, v5⟩ := r_inOrder m4 hW (r := 3) (by omega)
  have m5 := m4.fr f5 (by decide)
  have w5 := w4.of f5 (by decide)
  have u5 := v4.of f5 (by decide)
  obtain ⟨μ6, e6, f6, v6⟩ := r_copies (a := 10) (by omega) v5
  have m6 := m5.fr f6 (by decide)
  have w6 := w5.of f6 (by decide)
  have u6 := u5.of f6 (by decide)
  obtain ⟨μ7, e7, f7, v7⟩ := r_loop9 m6 hW (r := 3) (by omega) (fun μ57 => fX9_valuesIn_L66 fu a (0 : Int32) μ57)
  have m7 := m6.fr f7 (by decide)
  have w7 := w6.of f7 (by decide)
  have u7 := u6.of f7 (by decide)
  have t7 := v6.of f7 (by decide)
  obtain ⟨μ8, e8, f8, v8⟩ := r_loop9 m7 hW (r := 2) (by omega) (fun μ36 => fX9_valuesIn_L159 fu (hrg (ord S 1 (V0 S)) (VB S 205) (VL S 3) (ord S 3 (V0 S)) a 12) (12 : Int32) μ36)
  refine ⟨μ8, ?_, (((((((f1.mono (by decide)).trans (f2.mono (by decide))).trans (f3.mono (by decide))).trans (f4.mono (by decide))).trans (f5.mono (by decide))).trans (f6.mono (by decide))).trans (f7.mono (by decide))).trans (f8.mono (by decide))⟩
  have e1' : fX9_inOrder μ 1 = some ((), μ1) := e1
  have e3' : fX9_inBundles μ2 206 = some ((), μ3) := e3
  have e5' : fX9_inOrder μ4 3 = some ((), μ5) := e5
  unfold fX9_valuesIn
  rw [e1', bd_some, e2, bd_some, e3', bd_some, e4, bd_some, e5', bd_some, e6, bd_some]
  refine Eq.trans e7 ?_
  refine Eq.trans (r_regs w7 u7 v7 t7 a) ?_
  refine Eq.trans e8 ?_
  exact r_cells (w7.of f8 (by decide)) (u7.of f8 (by decide)) v8 _
theorem r_bitsM (hW : WF S) : fJxe99ae_doubleToLongBits_ccdee μ (fsh S) = some (UInt64.toInt64 (fsh S), μ) := by
  unfold fJxe99ae_doubleToLongBits_ccdee fJxe99ae_isNaN_b9ae7
  rw [fsh_self hW]
  rfl
theorem r_signs {t : Nat → Int} {L : Nat} (hL : L ≤ 60) (h : RT t L μ) (a : Int64) : fX9_digest_L275 fu a (ic 0) μ = some (hsg t a L, μ) := by
  have key := loop_eq (fun f (s : Int64 × Int32) => fX9_digest_L275 f s.1 s.2 μ) 0 L (fun k => (hsg t a k, ic (k : Int))) (some (hsg t a L, μ)) (by omega) ?_ ?_ fu (fu_lt (by omega))
  · exact key
  · intro f k _ hk
    have e3 : (k : Int).toNat = k := by omega
    dsimp only
    rw [fX9_digest_L275, h.1, if_neg (by rw [ic_le (by omega)]; omega), ld_ic (by omega), Option.bind_some, e3, h.2 k hk, show (1 : Int32) = ic 1 from rfl, ic_add]
    rfl
  · intro f
    dsimp only
    rw [fX9_digest_L275, h.1, if_pos (by rw [ic_le (by omega)]; omega)]
def rgz (h : Int64) (μ : Mem) : Option (Int64 × Mem) :=
  bd (fX9_valuesIn μ h) fun r46 μ45 =>
  bd (fX9_needed μ45 (4 : Int32)) fun r48 μ47 =>
  bd (fX9_filled μ47) fun r50 μ49 =>
  bd (fJxe99ae_doubleToLongBits_ccdee μ49 r50) fun r52 μ51 =>
  fX9_digest_L275 fu (((31 : Int64) * (((31 : Int64) * (((31 : Int64) * (((31 : Int64) * (((31 : Int64) * r46) + (Int32.toInt64 r48))) + (Int32.toInt64 (μ47 0 2)))) + r52)) + (Int32.toInt64 (μ51 0 4)))) + (Int32.toInt64 (μ51 0 6))) (0 : Int32) μ51
theorem r_sets (h : MS S μ) (hW : WF S) (a : Int64) : fX9_digest_L182 fu a (ic (mxm (bu S) (nn S) + 1)) (ic 0) μ = rgz (hbu S a (mxm (bu S) (nn S) + 1).toNat) μ := by
  have hs := sp_rg hW
  obtain ⟨N, hN⟩ : ∃ N : Nat, mxm (bu S) (nn S) + 1 = N := ⟨(mxm (bu S) (nn S) + 1).toNat, by omega⟩
  rw [hN, show (N : Int).toNat = N by omega]
  have key := loop_eq (fun f (s : Int64 × Int32) => fX9_digest_L182 f s.1 (ic N) s.2 μ) 0 N (fun k => (hbu S a k, ic (k : Int))) (rgz (hbu S a N) μ) (by omega) ?_ ?_ fu (fu_lt (by omega))
  · exact key
  · intro f k _ hk
    dsimp only
    rw [fX9_digest_L182, if_neg (by rw [ic_le (by omega)]; omega), r_setIn h hW (by omega), bd_some, show (1 : Int32) = ic 1 from rfl, ic_add]
    rfl
  · intro f
    dsimp only
    rw [fX9_digest_L182, if_pos (by rw [ic_le (by omega)]; omega)]
    rfl
end DIG3
