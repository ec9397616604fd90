/-! DOUBLES: the operations that are used -/
theorem dop_nrm {E T : Nat} (hE : E ≤ 2046) (hT : T < 4503599627370496) : dop (nrm E T) = some (nrm E T) := by
  unfold dop
  rw [if_pos]
  rw [UInt64.le_iff_toNat_le, UInt64.toNat_and, nrm_nat hE hT]
  rw [show (0x7fffffffffffffff : UInt64).toNat = 2 ^ 63 - 1 from rfl, Nat.and_two_pow_sub_one_eq_mod]
  show _ % 9223372036854775808 ≤ 9218868437227405312
  omega
theorem fp_two : (4611686018427387904 : UInt64) = nrm 1024 0 := rfl
theorem fp_one : FP.dconst1 = nrm 1023 0 := rfl
theorem fp_big : (4841369599423283200 : UInt64) = nrm 1075 0 := rfl
theorem fp_mul2 {E T : Nat} (hE : 1 ≤ E ∧ E ≤ 2045) (hT : T < 4503599627370496) : FP.dmul (nrm E T) (4611686018427387904 : UInt64) = nrm (E + 1) T := by
  rw [fp_two]
  show UInt64.ofNat (FP.Core.encode FP.Core.b64 (FP.Core.round FP.Core.b64 (FP.Core.exactProduct (FP.Core.decode FP.Core.b64 (nrm E T).toNat) (FP.Core.decode FP.Core.b64 (nrm 1024 0).toNat)))) = _
  rw [fp_decn (by omega) hT, fp_decn (by omega) (by omega)]
  show UInt64.ofNat (FP.Core.encode FP.Core.b64 (FP.Core.roundRatio FP.Core.b64 false ((4503599627370496 + T) * 4503599627370496) 1 ((E : Int) - 1075 + (-51)))) = _
  rw [fp_rmul (by omega) (by omega), fp_of (by omega) (by omega)]
  rw [show ((E : Int) - 1075 + (-51) + 52 + 1075).toNat = E + 1 by omega, show 4503599627370496 + T - 4503599627370496 = T by omega]
theorem fp_div2 {E T : Nat} (hE : 2 ≤ E ∧ E ≤ 2046) (hT : T < 4503599627370496) : FP.ddiv (nrm E T) (4611686018427387904 : UInt64) = nrm (E - 1) T := by
  rw [fp_two]
  show UInt64.ofNat (FP.Core.encode FP.Core.b64 (FP.Core.quotient FP.Core.b64 (FP.Core.decode FP.Core.b64 (nrm E T).toNat) (FP.Core.decode FP.Core.b64 (nrm 1024 0).toNat))) = _
  rw [fp_decn (by omega) hT, fp_decn (by omega) (by omega)]
  show UInt64.ofNat (FP.Core.encode FP.Core.b64 (FP.Core.roundRatio FP.Core.b64 false (4503599627370496 + T) 4503599627370496 ((E : Int) - 1075 - (-51)))) = _
  rw [fp_rdiv (by omega) (by omega), fp_of (by omega) (by omega)]
  rw [show ((E : Int) - 1075 - (-51) - 52 + 1075).toNat = E - 1 by omega, show 4503599627370496 + T - 4503599627370496 = T by omega]
theorem fp_sub1 {T : Nat} (hT : T < 4503599627370496) (h0 : 0 < T) : ∃ m, m ≤ 51 ∧ 2 ^ m ≤ T ∧ T < 2 ^ (m + 1) ∧ FP.dsub (nrm 1023 T) FP.dconst1 = nrm (m + 971) (T * 2 ^ (52 - m) - 4503599627370496) := by
  have hm1 : 2 ^ T.log2 ≤ T := Nat.log2_self_le (by omega)
  have hm2 : T < 2 ^ (T.log2 + 1) := Nat.lt_log2_self
  have hm3 : T.log2 ≤ 51 := by
    have := (Nat.log2_lt (n := T) (k := 52) (by omega)).mpr hT
    omega
  refine ⟨T.log2, hm3, hm1, hm2, ?_⟩
  rw [fp_one]
  show UInt64.ofNat (FP.Core.encode FP.Core.b64 (FP.Core.round FP.Core.b64 (FP.Core.exactSum (FP.Core.decode FP.Core.b64 (nrm 1023 T).toNat) (FP.Core.negate (FP.Core.decode FP.Core.b64 (nrm 1023 0).toNat))))) = _
  rw [fp_decn (by omega) hT, fp_decn (by omega) (by omega)]
  have hs : FP.Core.exactSum (.fin false (4503599627370496 + T) (((1023 : Nat) : Int) - 1075)) (FP.Core.negate (.fin false (4503599627370496 + 0) (((1023 : Nat) : Int) - 1075))) = .fin false T (-52) := by
    have hv : FP.Core.sumUnits false (4503599627370496 + T) (((1023 : Nat) : Int) - 1075) (!false) (4503599627370496 + 0) (((1023 : Nat) : Int) - 1075) (min (((1023 : Nat) : Int) - 1075) (((1023 : Nat) : Int) - 1075)) = (T : Int) := by
      unfold FP.Core.sumUnits FP.Core.inUnits FP.Core.signed
      rw [show ((((1023 : Nat) : Int) - 1075) - min (((1023 : Nat) : Int) - 1075) (((1023 : Nat) : Int) - 1075)).toNat = 0 from rfl, if_neg (by decide), if_pos (by rfl)]
      omega
    simp only [FP.Core.negate, FP.Core.exactSum]
    rw [hv]
    unfold FP.Core.sumSign
    rw [if_neg (by omega), decide_eq_false (by omega), Int.natAbs_natCast]
    rfl
  rw [hs]
  have hsc := fp_scale (A := T) (m := T.log2) (by omega) hm1 hm2
  show UInt64.ofNat (FP.Core.encode FP.Core.b64 (FP.Core.roundRatio FP.Core.b64 false T 1 (-52))) = _
  rw [fp_rint (m := T.log2) (by omega) hm1 hm2 (by omega) (by omega), fp_of hsc (by omega)]
  congr 1
  omega
theorem fp_sub10 : FP.dsub (nrm 1023 0) FP.dconst1 = 0 := by decide +kernel
theorem fp_mulbig {E T : Nat} (hE : 100 ≤ E ∧ E ≤ 1100) (hT : T < 4503599627370496) : FP.dmul (nrm E T) (4841369599423283200 : UInt64) = nrm (E + 52) T := by
  rw [fp_big]
  show UInt64.ofNat (FP.Core.encode FP.Core.b64 (FP.Core.round FP.Core.b64 (FP.Core.exactProduct (FP.Core.decode FP.Core.b64 (nrm E T).toNat) (FP.Core.decode FP.Core.b64 (nrm 1075 0).toNat)))) = _
  rw [fp_decn (by omega) hT, fp_decn (by omega) (by omega)]
  show UInt64.ofNat (FP.Core.encode FP.Core.b64 (FP.Core.roundRatio FP.Core.b64 false ((4503599627370496 + T) * 4503599627370496) 1 ((E : Int) - 1075 + 0))) = _
  rw [fp_rmul (by omega) (by omega), fp_of (by omega) (by omega)]
  rw [show ((E : Int) - 1075 + 0 + 52 + 1075).toNat = E + 52 by omega, show 4503599627370496 + T - 4503599627370496 = T by omega]
theorem fp_mulbig0 : FP.dmul 0 (4841369599423283200 : UInt64) = 0 := by decide +kernel
theorem dop_0 : dop 0 = some 0 := by decide +kernel
theorem fp_d2l0 : FP.d2l 0 = Int64.ofInt 0 := by decide +kernel
theorem fp_d2l {T m : Nat} (hm : m ≤ 51) (h1 : 2 ^ m ≤ T) (h2 : T < 2 ^ (m + 1)) : FP.d2l (nrm (m + 1023) (T * 2 ^ (52 - m) - 4503599627370496)) = Int64.ofInt T := by
  have hsc := fp_scale (A := T) (m := m) (by omega) h1 h2
  show Int64.ofInt (FP.Core.toInt (-2 ^ 63) (2 ^ 63 - 1) (FP.Core.decode FP.Core.b64 (nrm (m + 1023) (T * 2 ^ (52 - m) - 4503599627370496)).toNat)) = _
  rw [fp_decn (by omega) (by omega), show 4503599627370496 + (T * 2 ^ (52 - m) - 4503599627370496) = T * 2 ^ (52 - m) by omega]
  have ht : FP.Core.truncate false (T * 2 ^ (52 - m)) (((m + 1023 : Nat) : Int) - 1075) = (T : Int) := by
    unfold FP.Core.truncate FP.Core.signed
    rw [if_neg (by decide), show ((((m + 1023 : Nat) : Int) - 1075)).toNat = 0 by omega, show (-((((m + 1023 : Nat) : Int) - 1075))).toNat = 52 - m by omega, show T * 2 ^ (52 - m) * 2 ^ 0 = T * 2 ^ (52 - m) by omega, Nat.mul_div_cancel _ (Nat.two_pow_pos _)]
  have hT : T < 4503599627370496 := by
    have hp := Nat.two_pow_pos (52 - m)
    have := Nat.le_mul_of_pos_right T hp
    have hlt : 2 ^ (m + 1) ≤ 2 ^ 52 := Nat.pow_le_pow_right (by omega) (by omega)
    have h52 : 2 ^ 52 = 4503599627370496 := rfl
    omega
  simp only [FP.Core.toInt]
  rw [ht]
  congr 1
  show max (-9223372036854775808 : Int) (min (9223372036854775807 : Int) T) = T
  omega
theorem cmp_lt {a b : Int} (h : a < b) : compare a b = .lt := by
  show compareOfLessAndEq a b = _
  unfold compareOfLessAndEq
  rw [if_pos h]
theorem cmp_gt {a b : Int} (h : b < a) : compare a b = .gt := by
  show compareOfLessAndEq a b = _
  unfold compareOfLessAndEq
  rw [if_neg (by omega), if_neg (by omega)]
theorem cmp_eq {a : Int} : compare a a = .eq := by
  show compareOfLessAndEq a a = _
  unfold compareOfLessAndEq
  rw [if_neg (by omega), if_pos rfl]
theorem fp_ord {c d : Nat} {q r : Int} : FP.Core.order (.fin false c q) (.fin false d r) = some (compare ((c * 2 ^ (q - min q r).toNat : Nat) : Int) ((d * 2 ^ (r - min q r).toNat : Nat) : Int)) := rfl
theorem fp_self {E T : Nat} (hE : 1 ≤ E ∧ E ≤ 2046) (hT : T < 4503599627370496) : FP.dcmp (nrm E T) (nrm E T) = some .eq := by
  show FP.Core.order (FP.Core.decode FP.Core.b64 (nrm E T).toNat) (FP.Core.decode FP.Core.b64 (nrm E T).toNat) = _
  rw [fp_decn hE hT, fp_ord, cmp_eq]
theorem fp_clt {E T F : Nat} (hE : 1 ≤ E ∧ E < F) (hF : F ≤ 2046) (hT : T < 4503599627370496) : FP.dcmp (nrm E T) (nrm F 0) = some .lt := by
  show FP.Core.order (FP.Core.decode FP.Core.b64 (nrm E T).toNat) (FP.Core.decode FP.Core.b64 (nrm F 0).toNat) = _
  rw [fp_decn (by omega) hT, fp_decn (by omega) (by omega), fp_ord]
  rw [show (((E : Int) - 1075) - min ((E : Int) - 1075) ((F : Int) - 1075)).toNat = 0 by omega, show (((F : Int) - 1075) - min ((E : Int) - 1075) ((F : Int) - 1075)).toNat = (F - E - 1) + 1 by omega]
  rw [cmp_lt]
  have := Nat.two_pow_pos (F - E - 1)
  rw [Nat.pow_succ]
  generalize 2 ^ (F - E - 1) = w at *
  omega
theorem fp_cge {E T F : Nat} (hE : F ≤ E ∧ E ≤ 2046) (hF : 1 ≤ F) (hT : T < 4503599627370496) : FP.dcmp (nrm E T) (nrm F 0) = some .gt ∨ FP.dcmp (nrm E T) (nrm F 0) = some .eq := by
  have key : FP.dcmp (nrm E T) (nrm F 0) = some (compare (((4503599627370496 + T) * 2 ^ (E - F) : Nat) : Int) ((4503599627370496 : Nat) : Int)) := by
    show FP.Core.order (FP.Core.decode FP.Core.b64 (nrm E T).toNat) (FP.Core.decode FP.Core.b64 (nrm F 0).toNat) = _
    rw [fp_decn (by omega) hT, fp_decn (by omega) (by omega), fp_ord]
    rw [show (((E : Int) - 1075) - min ((E : Int) - 1075) ((F : Int) - 1075)).toNat = E - F by omega, show (((F : Int) - 1075) - min ((E : Int) - 1075) ((F : Int) - 1075)).toNat = 0 by omega]
  have hp := Nat.two_pow_pos (E - F)
  have h1 : (4503599627370496 + T) * 1 ≤ (4503599627370496 + T) * 2 ^ (E - F) := Nat.mul_le_mul_left _ hp
  rw [key]
  by_cases h : (4503599627370496 + T) * 2 ^ (E - F) = 4503599627370496
  · right
    rw [h, cmp_eq]
  · left
    rw [cmp_gt (by omega)]
theorem fp_pos {E T : Nat} (hE : 1 ≤ E ∧ E ≤ 2046) (hT : T < 4503599627370496) : FP.dcmp (nrm E T) FP.dconst0 = some .gt := by
  have e0 : FP.Core.decode FP.Core.b64 (FP.dconst0).toNat = .fin false 0 (-1074) := by decide +kernel
  show FP.Core.order (FP.Core.decode FP.Core.b64 (nrm E T).toNat) (FP.Core.decode FP.Core.b64 (FP.dconst0).toNat) = _
  rw [fp_decn hE hT, e0, fp_ord]
  have hp := Nat.two_pow_pos ((((E : Int) - 1075) - min ((E : Int) - 1075) (-1074)).toNat)
  have h1 : 0 < (4503599627370496 + T) * 2 ^ (((E : Int) - 1075) - min ((E : Int) - 1075) (-1074)).toNat := Nat.mul_pos (by omega) hp
  rw [Nat.zero_mul, cmp_gt (by omega)]
/-- whole numbers -/
theorem fp_i2d {a : Nat} (h : 0 < a ∧ a < 4503599627370496) : ∃ m, m ≤ 51 ∧ 2 ^ m ≤ a ∧ a < 2 ^ (m + 1) ∧ FP.i2d (ic a) = UInt64.ofNat (FP.Core.encode FP.Core.b64 (FP.Core.roundRatio FP.Core.b64 (decide ((ic a).toInt < 0)) (ic a).toInt.natAbs 1 0)) := by
  have hm3 : a.log2 ≤ 51 := by
    have := (Nat.log2_lt (n := a) (k := 52) (by omega)).mpr h.2
    omega
  exact ⟨a.log2, hm3, Nat.log2_self_le (by omega), Nat.lt_log2_self, rfl⟩
theorem fp_i2dn {a : Nat} (h : 0 < a ∧ a ≤ 2400) : ∃ m c : Nat, m ≤ 11 ∧ (4503599627370496 ≤ c ∧ c < 9007199254740992) ∧ FP.i2d (ic a) = nrm (m + 1023) (c - 4503599627370496) := by
  obtain ⟨m, h1, h2, h3, h4⟩ := fp_i2d (a := a) (by omega)
  have hm : m ≤ 11 := by
    by_cases hc : m ≤ 11
    · exact hc
    · have : 2 ^ 12 ≤ 2 ^ m := Nat.pow_le_pow_right (by omega) (by omega)
      have e : 2 ^ 12 = 4096 := rfl
      omega
  have hsc := fp_scale (A := a) (m := m) (by omega) h2 h3
  refine ⟨m, a * 2 ^ (52 - m), hm, hsc, ?_⟩
  rw [h4, ic_toInt (by omega), decide_eq_false (by omega), Int.natAbs_natCast, fp_rint (m := m) (by omega) h2 h3 (by omega) (by omega), fp_of hsc (by omega)]
  congr 1
  omega
theorem fp_quo {l a : Nat} (hl : 0 < l ∧ l ≤ 2400) (ha : 0 < a ∧ a ≤ 2400) : ∃ E T, (1000 ≤ E ∧ E ≤ 1040) ∧ T < 4503599627370496 ∧ FP.ddiv (FP.i2d (ic l)) (FP.i2d (ic a)) = nrm E T := by
  obtain ⟨m1, c1, h1, g1, e1⟩ := fp_i2dn hl
  obtain ⟨m2, c2, h2, g2, e2⟩ := fp_i2dn ha
  obtain ⟨c, q, e3, g3, h3⟩ := fp_rquo (A := c1) (B := c2) (e := (m1 : Int) - m2) g1 g2 (by omega)
  refine ⟨(q + 1075).toNat, c - 4503599627370496, by omega, by omega, ?_⟩
  rw [e1, e2]
  show UInt64.ofNat (FP.Core.encode FP.Core.b64 (FP.Core.quotient FP.Core.b64 (FP.Core.decode FP.Core.b64 (nrm (m1 + 1023) (c1 - 4503599627370496)).toNat) (FP.Core.decode FP.Core.b64 (nrm (m2 + 1023) (c2 - 4503599627370496)).toNat))) = _
  rw [fp_decn (by omega) (by omega), fp_decn (by omega) (by omega), show 4503599627370496 + (c1 - 4503599627370496) = c1 by omega, show 4503599627370496 + (c2 - 4503599627370496) = c2 by omega]
  simp only [FP.Core.quotient]
  rw [if_neg (by omega), show (((m1 + 1023 : Nat) : Int) - 1075 - (((m2 + 1023 : Nat) : Int) - 1075)) = (m1 : Int) - m2 by omega]
  rw [show (false != false) = false from rfl, e3, fp_of g3 (by omega)]

