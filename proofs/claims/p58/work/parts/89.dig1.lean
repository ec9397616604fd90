/-! THE DIGEST: what it is made of, and the class's side -/
def mxd (h : Int64) (v : Int32) : Int64 := ((31 : Int64) * h) + Int32.toInt64 v
def hin (S : Nat → Int) (i : Nat) (h : Int64) : Nat → Int64
  | 0 => h
  | j + 1 => mxd (mxd (hin S i h j) (ic (nearT S i j))) (ic (over S i j))
noncomputable def h8s (S : Nat → Int) (i : Nat) (h : Int64) : Int64 := mxd (mxd (mxd (mxd (mxd (mxd (mxd (mxd h (ic (kd S i))) (rd S i)) (ic (wr S i))) (ic (la S i))) (ic (hgt S i))) (ic (ear S i))) (ic (bu S i))) (ic (PLS S i))
noncomputable def hst (S : Nat → Int) (h : Int64) : Nat → Int64
  | 0 => h
  | i + 1 => hin S i (h8s S i (hst S h i)) (nn S)
def hbu (S : Nat → Int) (h : Int64) : Nat → Int64
  | 0 => h
  | b + 1 => mxd (hbu S h b) (setS S (b : Int) (nn S))
def hrg (A B C D : Nat → Int32) (h : Int64) : Nat → Int64
  | 0 => h
  | k + 1 => mxd (mxd (mxd (mxd (hrg A B C D h k) (A k)) (B k)) (C k)) (D k)
def hce (A B C : Nat → Int32) (h : Int64) : Nat → Int64
  | 0 => h
  | k + 1 => mxd (mxd (mxd (hce A B C h k) (A (12 + k))) (B (12 + k))) (C (12 + k))
def hsg (t : Nat → Int) (h : Int64) : Nat → Int64
  | 0 => h
  | k + 1 => mxd (hsg t h k) (ic (t k))
noncomputable def hhd (S : Nat → Int) : Int64 := mxd (mxd (mxd (mxd (mxd (mxd (mxd (mxd (mxd (mxd (mxd (mxd (mxd (mxd (4643 : Int64) (ic (nn S))) (ic (mx0 (hgt S) (nn S)))) (ic (mx0 (las S) (nn S)))) (ic (mxm (bu S) (nn S) + 1))) (ic (whyS S))) (ic (wheS S))) (ic (mxm (pkS S) (nn S) + 1))) (b2 (agr S))) (ic (ub S 3))) (ic (LB S))) (ic (LB S))) (ic (BT S))) (ic ((BT S : Int) - 1 - S 1))) (ic (ovl S))
noncomputable def hmd (S : Nat → Int) : Int64 := hce (ord S 1 (V0 S)) (VB S 205) (VL S 2) (hrg (ord S 1 (V0 S)) (VB S 205) (VL S 3) (ord S 3 (V0 S)) (hbu S (hst S (hhd S) (nn S)) (mxm (bu S) (nn S) + 1).toNat) 12) 12
noncomputable def dgt (c : Cf) : Int64 := hsg c.t (mxd (mxd (((31 : Int64) * mxd (mxd (hmd c.S) (ic (spn c.S 4))) (ic c.m)) + UInt64.toInt64 (fsh c.S)) (b2 c.hk)) (ic c.L)) c.L
theorem x_mixed {μ : Mem} {h : Int64} {v : Int32} : fX8_mixed μ h (Int32.toInt64 v) = some (mxd h v, μ) := rfl
def CQ1 (S : Nat → Int) (μ : Mem) : Prop := CQ S μ ∧ LK S μ ∧ PN S (LB S) (BT S) μ ∧ μ 0 6 = ic 1
theorem CQ1.of {S : Nat → Int} {μ μ' : Mem} {l : List Nat} (h : CQ1 S μ) (hF : Fr l μ μ') (hl : ∀ a, a ∈ l → 83 ≤ a ∧ a ≠ 89 ∧ a ≠ 90) : CQ1 S μ' := by
  refine ⟨h.1.of hF hl, h.2.1.of hF fun a ha => Or.inr (by have := hl a ha; omega), h.2.2.1.of hF ⟨fun q => (hl 89 q).2.1 rfl, fun q => (hl 90 q).2.2 rfl⟩, ?_⟩
  rw [hF 0 fun q => by have := hl 0 q; omega]
  exact h.2.2.2
section DIG1
variable {S : Nat → Int} {μ : Mem}
theorem x_hashOfStep (h : CQ1 S μ) (a : Int64) {i : Nat} (hi : i < nn S) : fX8_hashOfStep μ a (ic i) = some (hin S i (h8s S i a) (nn S), μ) := by
  obtain ⟨hq, hl, hp, _⟩ := h
  have hW := hq.2.1
  have hn := hW.n
  have e3 : (i : Int).toNat = i := by omega
  unfold fX8_hashOfStep
  rw [x_kd hq.1 hW hi, Option.bind_some, x_mixed, bd_some, x_readsOf hq.1 hW hi, bd_some, x_mixed, bd_some, x_writesOf hq.1 hW hi, bd_some, x_mixed, bd_some, x_lengthOf hq.1 hW hi, bd_some, x_mixed, bd_some, ld_ic (by omega), Option.bind_some, e3, hl.2.2.1 i hi, x_mixed, bd_some, ld_ic (by omega), Option.bind_some, e3, hl.2.2.2 i hi, x_mixed, bd_some, x_bu hq.1 hW hi, Option.bind_some, x_mixed, bd_some, ld_ic (by omega), Option.bind_some, e3, hp.2.2 i hi, x_mixed, bd_some]
  have key := loop_eq (fun f (s : Int64 × Int32) => fX8_hashOfStep_L129 f (ic i) s.1 s.2 μ) 0 (nn S) (fun k => (hin S i (h8s S i a) k, ic k)) (some (hin S i (h8s S i a) (nn S), μ)) (by omega) ?_ ?_ fu (fu_lt (by omega))
  · exact key
  · intro f k _ hk
    dsimp only
    rw [fX8_hashOfStep_L129, x_n hq.1 hW, if_neg (by rw [ic_le (by omega)]; omega), x_nearOf hl.1 hW hi hk, bd_some, x_mixed, bd_some, x_overOf hl.1 hW hi hk, bd_some, x_mixed, bd_some, show (1 : Int32) = ic 1 from rfl, ic_add]
    rfl
  · intro f
    dsimp only
    rw [fX8_hashOfStep_L129, x_n hq.1 hW, if_pos (by rw [ic_le (by omega)]; omega)]
theorem x_hashOfRegisters {A B C D : Nat → Int32} (hA : HV 97 A μ) (hB : HV 98 B μ) (hC : HV 99 C μ) (hD : HV 100 D μ) (a : Int64) : fX8_hashOfRegisters μ a = some (hrg A B C D a 12, μ) := by
  have key := loop_eq (fun f (s : Int64 × Int32) => fX8_hashOfRegisters_L5 f s.1 s.2 μ) 0 12 (fun k => (hrg A B C D a k, ic (k : Int))) (some (hrg A B C D a 12, μ)) (by omega) ?_ ?_ fu (fu_lt (by omega))
  · unfold fX8_hashOfRegisters
    exact key
  · intro f k _ hk
    have e3 : (k : Int).toNat = k := by omega
    dsimp only
    rw [fX8_hashOfRegisters_L5, show (12 : Int32) = ic 12 from rfl, if_neg (by rw [ic_le (by omega)]; omega), v_ld hA (by omega), Option.bind_some, x_mixed, bd_some, v_ld hB (by omega), Option.bind_some, x_mixed, bd_some, v_ld hC (by omega), Option.bind_some, x_mixed, bd_some, v_ld hD (by omega), Option.bind_some, x_mixed, bd_some, show (1 : Int32) = ic 1 from rfl, ic_add, e3]
    rfl
  · intro f
    dsimp only
    rw [fX8_hashOfRegisters_L5, if_pos (by decide)]
theorem x_hashOfCells {A B C : Nat → Int32} (hA : HV 97 A μ) (hB : HV 98 B μ) (hC : HV 99 C μ) (a : Int64) : fX8_hashOfCells μ a = some (hce A B C a 12, μ) := by
  have key := loop_eq (fun f (s : Int64 × Int32) => fX8_hashOfCells_L6 f s.1 s.2 μ) 0 12 (fun k => (hce A B C a k, ic ((12 + k : Nat) : Int))) (some (hce A B C a 12, μ)) (by omega) ?_ ?_ fu (fu_lt (by omega))
  · unfold fX8_hashOfCells
    exact key
  · intro f k _ hk
    have e3 : ((12 + k : Nat) : Int).toNat = 12 + k := by omega
    have e4 : ((12 + k : Nat) : Int) + 1 = ((12 + (k + 1) : Nat) : Int) := by omega
    dsimp only
    rw [fX8_hashOfCells_L6, show (24 : Int32) = ic 24 from rfl, if_neg (by rw [ic_le (by omega)]; omega), v_ld hA (by omega), Option.bind_some, x_mixed, bd_some, v_ld hB (by omega), Option.bind_some, x_mixed, bd_some, v_ld hC (by omega), Option.bind_some, x_mixed, bd_some, show (1 : Int32) = ic 1 from rfl, ic_add, e3, e4]
    rfl
  · intro f
    dsimp only
    rw [fX8_hashOfCells_L6, if_pos (by decide)]
theorem x_hashOfSigns {t : Nat → Int} {L : Nat} (hT : TX t L) (h : XT t L μ) (a : Int64) : fX7_hashOfSigns μ a = some (hsg t (mxd a (ic L)) L, μ) := by
  have hL := hT.1
  have key := loop_eq (fun f (s : Int64 × Int32) => fX7_hashOfSigns_L13 f s.1 s.2 μ) 0 L (fun k => (hsg t (mxd a (ic L)) k, ic (k : Int))) (some (hsg t (mxd a (ic L)) L, μ)) (by omega) ?_ ?_ fu (fu_lt (by omega))
  · unfold fX7_hashOfSigns
    rw [h.1, x_mixed, bd_some]
    exact key
  · intro f k _ hk
    dsimp only
    rw [fX7_hashOfSigns_L13, h.1, if_neg (by rw [ic_le (by omega)]; omega), x_signAt hT h (by omega), bd_some, x_mixed, bd_some, show (1 : Int32) = ic 1 from rfl, ic_add]
    rfl
  · intro f
    dsimp only
    rw [fX7_hashOfSigns_L13, h.1, if_pos (by rw [ic_le (by omega)]; omega)]
end DIG1

