/-! DOUBLES: normal ones by exponent and tail -/
theorem fp_tails : FP.Core.Fmt.tails FP.Core.b64 = 4503599627370496 := rfl
theorem fp_exps : FP.Core.Fmt.exps FP.Core.b64 = 2048 := rfl
theorem fp_qmin : FP.Core.Fmt.qmin FP.Core.b64 = -1074 := rfl
theorem fp_qmax : FP.Core.Fmt.qmax FP.Core.b64 = 971 := rfl
theorem fp_p : FP.Core.b64.p = 53 := rfl
def nrm (E T : Nat) : UInt64 := UInt64.ofNat (E * 4503599627370496 + T)
theorem nrm_nat {E T : Nat} (hE : E ≤ 2046) (hT : T < 4503599627370496) : (nrm E T).toNat = E * 4503599627370496 + T := by
  unfold nrm
  rw [UInt64.toNat_ofNat', Nat.mod_eq_of_lt]
  show _ < 18446744073709551616
  omega
theorem fp_dec {E T : Nat} (hE : 1 ≤ E ∧ E ≤ 2046) (hT : T < 4503599627370496) : FP.Core.decode FP.Core.b64 (E * 4503599627370496 + T) = .fin false (4503599627370496 + T) ((E : Int) - 1075) := by
  have e1 : FP.Core.fieldE FP.Core.b64 (E * 4503599627370496 + T) = E := by
    unfold FP.Core.fieldE
    rw [fp_tails, fp_exps]
    omega
  have e2 : FP.Core.fieldT FP.Core.b64 (E * 4503599627370496 + T) = T := by
    unfold FP.Core.fieldT
    rw [fp_tails]
    omega
  have e3 : FP.Core.fieldS FP.Core.b64 (E * 4503599627370496 + T) = false := by
    unfold FP.Core.fieldS
    rw [fp_tails, fp_exps]
    have : (E * 4503599627370496 + T) / 4503599627370496 / 2048 % 2 = 0 := by omega
    rw [this]
    rfl
  unfold FP.Core.decode
  rw [e1, e2, e3, if_neg (by rw [fp_exps]; omega), if_neg (by omega), fp_tails, fp_qmin]
  congr 1
  omega
theorem fp_decn {E T : Nat} (hE : 1 ≤ E ∧ E ≤ 2046) (hT : T < 4503599627370496) : FP.Core.decode FP.Core.b64 (nrm E T).toNat = .fin false (4503599627370496 + T) ((E : Int) - 1075) := by
  rw [nrm_nat hE.2 hT, fp_dec hE hT]
theorem fp_enc {c : Nat} {q : Int} (hc : 4503599627370496 ≤ c ∧ c < 9007199254740992) (hq : -1074 ≤ q ∧ q ≤ 971) : FP.Core.encode FP.Core.b64 (.fin false c q) = (q + 1075).toNat * 4503599627370496 + (c - 4503599627370496) := by
  simp only [FP.Core.encode]
  rw [if_neg (by rw [fp_tails]; omega)]
  unfold FP.Core.assemble
  rw [fp_tails, fp_exps, fp_qmin]
  have : (false.toNat) = 0 := rfl
  rw [this]
  omega
theorem fp_of {c : Nat} {q : Int} (hc : 4503599627370496 ≤ c ∧ c < 9007199254740992) (hq : -1074 ≤ q ∧ q ≤ 971) : UInt64.ofNat (FP.Core.encode FP.Core.b64 (.fin false c q)) = nrm (q + 1075).toNat (c - 4503599627370496) := by
  rw [fp_enc hc hq]
  rfl
theorem fp_lead {A B : Nat} {a b : Nat} (h1 : 2 ^ a ≤ A) (h2 : A < 2 ^ (a + 1)) (h3 : 2 ^ b ≤ B) (h4 : B < 2 ^ (b + 1)) : FP.Core.leading A B = if B * 2 ^ ((a : Int) - b).toNat ≤ A * 2 ^ (-((a : Int) - b)).toNat then (a : Int) - b else (a : Int) - b - 1 := by
  have p1 := Nat.two_pow_pos a
  have p2 := Nat.two_pow_pos b
  have e1 : A.log2 = a := (Nat.log2_eq_iff (by omega)).mpr ⟨h1, h2⟩
  have e2 : B.log2 = b := (Nat.log2_eq_iff (by omega)).mpr ⟨h3, h4⟩
  unfold FP.Core.leading
  rw [e1, e2]
theorem fp_lead1 {A : Nat} {a : Nat} (h1 : 2 ^ a ≤ A) (h2 : A < 2 ^ (a + 1)) : FP.Core.leading A 1 = a := by
  rw [fp_lead (b := 0) h1 h2 (by decide) (by decide)]
  rw [show ((a : Int) - (0 : Nat)).toNat = a by omega, show (-((a : Int) - (0 : Nat))).toNat = 0 by omega, if_pos (by omega)]
  omega
theorem fp_round {A B : Nat} {e k : Int} (hA : 0 < A) (hk : FP.Core.leading A B = k) (hq : -1074 ≤ k + e - 52) : FP.Core.roundRatio FP.Core.b64 false A B e = FP.Core.settle FP.Core.b64 false (FP.Core.nearest (A * 2 ^ (52 - k).toNat) (B * 2 ^ (k - 52).toNat)) (k + e - 52) := by
  unfold FP.Core.roundRatio
  rw [if_neg (by omega)]
  have e1 : FP.Core.quantum FP.Core.b64 A B e = k + e - 52 := by
    unfold FP.Core.quantum
    rw [hk, fp_qmin, fp_p]
    omega
  unfold FP.Core.roundAt FP.Core.unitsNum FP.Core.unitsDen
  rw [e1, show e - (k + e - 52) = 52 - k by omega, show k + e - 52 - e = k - 52 by omega]
theorem fp_near (M B : Nat) (hB : 0 < B) : FP.Core.nearest (M * B) B = M := by
  unfold FP.Core.nearest
  rw [Nat.mul_mod_left, if_pos (by omega), Nat.mul_div_cancel _ hB]
theorem fp_settle {c : Nat} {q : Int} (hc : c < 9007199254740992) (hq : q ≤ 971) : FP.Core.settle FP.Core.b64 false c q = .fin false c q := by
  unfold FP.Core.settle FP.Core.bound
  rw [if_pos (show c < 2 ^ FP.Core.b64.p from hc), if_pos (by rw [fp_qmax]; exact hq)]
theorem fp_rmul {c : Nat} {e : Int} (hc : 4503599627370496 ≤ c ∧ c < 9007199254740992) (he : -1126 ≤ e ∧ e ≤ 919) : FP.Core.roundRatio FP.Core.b64 false (c * 4503599627370496) 1 e = .fin false c (e + 52) := by
  have hl : FP.Core.leading (c * 4503599627370496) 1 = (104 : Nat) := fp_lead1 (by show 20282409603651670423947251286016 ≤ _; omega) (by show _ < 40564819207303340847894502572032; omega)
  rw [fp_round (by omega) hl (by omega)]
  rw [show ((52 : Int) - (104 : Nat)).toNat = 0 from rfl, show (((104 : Nat) : Int) - 52).toNat = 52 from rfl]
  have := fp_near c 4503599627370496 (by omega)
  rw [show c * 4503599627370496 * 2 ^ 0 = c * 4503599627370496 by omega, show 1 * 2 ^ 52 = 4503599627370496 from rfl, this, fp_settle (by omega) (by omega)]
  congr 1
  omega
theorem fp_rdiv {c : Nat} {e : Int} (hc : 4503599627370496 ≤ c ∧ c < 9007199254740992) (he : -1022 ≤ e ∧ e ≤ 1023) : FP.Core.roundRatio FP.Core.b64 false c 4503599627370496 e = .fin false c (e - 52) := by
  have hl : FP.Core.leading c 4503599627370496 = 0 := by
    rw [fp_lead (a := 52) (b := 52) (by show 4503599627370496 ≤ _; omega) (by show _ < 9007199254740992; omega) (by decide) (by decide)]
    rw [show (((52 : Nat) : Int) - (52 : Nat)) = 0 from rfl, show (0 : Int).toNat = 0 from rfl, show (-(0 : Int)).toNat = 0 from rfl, if_pos (by omega)]
  rw [fp_round (by omega) hl (by omega)]
  rw [show ((52 : Int) - 0).toNat = 52 from rfl, show ((0 : Int) - 52).toNat = 0 from rfl]
  have := fp_near c 4503599627370496 (by omega)
  rw [show c * 2 ^ 52 = c * 4503599627370496 from rfl, show 4503599627370496 * 2 ^ 0 = 4503599627370496 from rfl, this, fp_settle (by omega) (by omega)]
  congr 1
  omega
theorem fp_scale {A m : Nat} (hm : m ≤ 52) (h1 : 2 ^ m ≤ A) (h2 : A < 2 ^ (m + 1)) : 4503599627370496 ≤ A * 2 ^ (52 - m) ∧ A * 2 ^ (52 - m) < 9007199254740992 := by
  have e1 : 2 ^ m * 2 ^ (52 - m) = 4503599627370496 := by
    rw [← Nat.pow_add, show m + (52 - m) = 52 by omega]
  have e2 : 2 ^ (m + 1) * 2 ^ (52 - m) = 9007199254740992 := by
    rw [← Nat.pow_add, show m + 1 + (52 - m) = 53 by omega]
  have hp := Nat.two_pow_pos (52 - m)
  have g1 := Nat.mul_le_mul_right (2 ^ (52 - m)) h1
  have g2 := (Nat.mul_lt_mul_right hp).mpr h2
  omega
theorem fp_rint {A m : Nat} {e : Int} (hm : m ≤ 52) (h1 : 2 ^ m ≤ A) (h2 : A < 2 ^ (m + 1)) (he : -1022 ≤ e ∧ e ≤ 971) (he2 : (m : Int) + e - 52 ≤ 971) : FP.Core.roundRatio FP.Core.b64 false A 1 e = .fin false (A * 2 ^ (52 - m)) ((m : Int) + e - 52) := by
  have hp := Nat.two_pow_pos m
  have hl : FP.Core.leading A 1 = (m : Nat) := fp_lead1 h1 h2
  have hs := fp_scale hm h1 h2
  rw [fp_round (by omega) hl (by omega)]
  rw [show ((52 : Int) - (m : Nat)).toNat = 52 - m by omega, show (((m : Nat) : Int) - 52).toNat = 0 by omega]
  have := fp_near (A * 2 ^ (52 - m)) 1 (by omega)
  rw [Nat.mul_one] at this
  rw [show 1 * 2 ^ 0 = 1 from rfl, this, fp_settle (by omega) (by omega)]
theorem fp_nearb {A B M : Nat} (hB : 0 < B) (h1 : M * B ≤ A) (h2 : A < 2 * (M * B)) : M ≤ FP.Core.nearest A B ∧ FP.Core.nearest A B ≤ 2 * M := by
  have d1 : M ≤ A / B := (Nat.le_div_iff_mul_le hB).mpr h1
  have d2 : A / B < 2 * M := (Nat.div_lt_iff_lt_mul hB).mpr (by rw [Nat.mul_assoc]; exact h2)
  unfold FP.Core.nearest
  split
  · omega
  · split <;> omega
theorem fp_rquo {A B : Nat} {e : Int} (hA : 4503599627370496 ≤ A ∧ A < 9007199254740992) (hB : 4503599627370496 ≤ B ∧ B < 9007199254740992) (he : -30 ≤ e ∧ e ≤ 30) : ∃ c q, FP.Core.roundRatio FP.Core.b64 false A B e = .fin false c q ∧ (4503599627370496 ≤ c ∧ c < 9007199254740992) ∧ e - 53 ≤ q ∧ q ≤ e - 51 := by
  have hl := fp_lead (A := A) (B := B) (a := 52) (b := 52) (by show 4503599627370496 ≤ _; omega) (by show _ < 9007199254740992; omega) (by show 4503599627370496 ≤ _; omega) (by show _ < 9007199254740992; omega)
  rw [show (((52 : Nat) : Int) - (52 : Nat)) = 0 from rfl, show (0 : Int).toNat = 0 from rfl, show (-(0 : Int)).toNat = 0 from rfl, show B * 2 ^ 0 = B by omega, show A * 2 ^ 0 = A by omega] at hl
  have fin : ∀ (c : Nat) (q : Int), 4503599627370496 ≤ c → c ≤ 9007199254740992 → e - 53 ≤ q → q ≤ e - 52 → ∃ c' q', FP.Core.settle FP.Core.b64 false c q = .fin false c' q' ∧ (4503599627370496 ≤ c' ∧ c' < 9007199254740992) ∧ e - 53 ≤ q' ∧ q' ≤ e - 51 := fun c q h1 h2 h3 h4 => by
    by_cases h5 : c < 9007199254740992
    · exact ⟨c, q, fp_settle h5 (by omega), by omega, by omega, by omega⟩
    · refine ⟨4503599627370496, q + 1, ?_, by omega, by omega, by omega⟩
      unfold FP.Core.settle FP.Core.bound
      rw [if_neg (show ¬ c < 2 ^ FP.Core.b64.p from h5), if_pos (by rw [fp_qmax]; omega), fp_tails]
  by_cases hc : B ≤ A
  · rw [if_pos hc] at hl
    rw [fp_round (by omega) hl (by omega)]
    rw [show ((52 : Int) - 0).toNat = 52 from rfl, show ((0 : Int) - 52).toNat = 0 from rfl, show A * 2 ^ 52 = A * 4503599627370496 from rfl, show B * 2 ^ 0 = B by omega]
    have := fp_nearb (A := A * 4503599627370496) (B := B) (M := 4503599627370496) (by omega) (by omega) (by omega)
    exact fin _ _ this.1 (by omega) (by omega) (by omega)
  · rw [if_neg hc] at hl
    rw [fp_round (by omega) hl (by omega)]
    rw [show ((52 : Int) - (0 - 1)).toNat = 53 from rfl, show ((0 : Int) - 1 - 52).toNat = 0 from rfl, show A * 2 ^ 53 = A * 9007199254740992 from rfl, show B * 2 ^ 0 = B by omega]
    have := fp_nearb (A := A * 9007199254740992) (B := B) (M := 4503599627370496) (by omega) (by omega) (by omega)
    exact fin _ _ this.1 (by omega) (by omega) (by omega)

