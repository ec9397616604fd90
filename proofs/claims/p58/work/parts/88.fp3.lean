/-! THE FILLED SHARE, and the bits of a double -/
def il (n : Int) : Int64 := Int64.ofInt n
theorem il_add (a b : Int) : il a + il b = il (a + b) := (Int64.ofInt_add a b).symm
theorem il_sub (a b : Int) : il a - il b = il (a - b) := (Int64.ofInt_sub a b).symm
theorem b_shift : ∀ k : Fin 41, il (1000 + (k.val : Int)) <<< ((52 : Int32).toInt64 &&& 63) = il ((1000 + (k.val : Int)) * 4503599627370496) := by decide +kernel
theorem b_bits {E T : Nat} : UInt64.toInt64 (nrm E T) = il ((E * 4503599627370496 + T : Nat) : Int) := by
  unfold nrm il
  apply Int64.toBitVec_inj.mp
  show BitVec.ofNat 64 _ = BitVec.ofInt 64 _
  rw [BitVec.ofInt_natCast]
section BITS
variable {μ : Mem} {T : Nat}
theorem b_87 (hT : T < 4503599627370496) {E : Nat} (hE : 1000 ≤ E ∧ E ≤ 1040) : fX8_bitsOf_L87 (nrm 1023 T) (il (E : Int)) μ = some (UInt64.toInt64 (nrm E T), μ) := by
  have hs := b_shift ⟨E - 1000, by omega⟩
  simp only [] at hs
  rw [show (1000 + ((E - 1000 : Nat) : Int)) = (E : Int) by omega] at hs
  have hb : ∀ t : Int, t = (T : Int) → some ((il (E : Int) <<< ((52 : Int32).toInt64 &&& 63)) + Int64.ofInt t, μ) = some (UInt64.toInt64 (nrm E T), μ) := fun t ht => by
    rw [hs, show Int64.ofInt t = il t from rfl, il_add, b_bits, ht]
    congr 3
  unfold fX8_bitsOf_L87
  by_cases h0 : T = 0
  · subst h0
    rw [fp_sub10, dop_0, Option.bind_some, fp_mulbig0, dop_0, Option.bind_some, fp_d2l0]
    exact hb 0 rfl
  · obtain ⟨m, h1, h2, h3, h4⟩ := fp_sub1 hT (by omega)
    have hsc := fp_scale (A := T) (m := m) (by omega) h2 h3
    rw [h4, dop_nrm (by omega) (by omega), Option.bind_some, fp_mulbig (by omega) (by omega), dop_nrm (by omega) (by omega), Option.bind_some, show m + 971 + 52 = m + 1023 by omega, fp_d2l h1 h2 h3]
    exact hb T rfl
theorem b_dn (hT : T < 4503599627370496) : ∀ (d f i : Nat) (v : Int), d < f → d ≤ 100 → i + d < 1000 → fX8_bitsOf_L55 f (nrm (1023 - d) T) (il v) (ic i) μ = fX8_bitsOf_L87 (nrm 1023 T) (il (v - d)) μ
  | 0, f, i, v, hf, hd, hi => by
    obtain ⟨g, rfl⟩ : ∃ g, f = g + 1 := ⟨f - 1, by omega⟩
    rw [fX8_bitsOf_L55]
    rw [show (1100 : Int32) = ic 1100 from rfl, if_neg (by rw [ic_le (by omega)]; omega)]
    have hc : (0 : Int32) ≤ Op.cmpValue (FP.dcmp (nrm (1023 - 0) T) FP.dconst1) .g := by
      rw [fp_one]
      rcases fp_cge (E := 1023 - 0) (F := 1023) (T := T) (by omega) (by omega) hT with h | h <;> rw [h] <;> decide
    rw [if_pos hc]
    congr 2
    omega
  | d + 1, f, i, v, hf, hd, hi => by
    obtain ⟨g, rfl⟩ : ∃ g, f = g + 1 := ⟨f - 1, by omega⟩
    rw [fX8_bitsOf_L55]
    rw [show (1100 : Int32) = ic 1100 from rfl, if_neg (by rw [ic_le (by omega)]; omega)]
    have hc : ¬ (0 : Int32) ≤ Op.cmpValue (FP.dcmp (nrm (1023 - (d + 1)) T) FP.dconst1) .g := by
      rw [fp_one, fp_clt (by omega) (by omega) hT]
      decide
    rw [if_neg hc, fp_mul2 (by omega) hT, dop_nrm (by omega) hT, Option.bind_some, show (1 : Int32) = ic 1 from rfl, show (1 : Int64) = il 1 from rfl, ic_add, il_sub]
    have := b_dn hT d g (i + 1) (v - 1) (by omega) (by omega) (by omega)
    rw [show 1023 - (d + 1) + 1 = 1023 - d by omega, show (i : Int) + 1 = ((i + 1 : Nat) : Int) by omega, this, show v - 1 - (d : Int) = v - ((d + 1 : Nat) : Int) by omega]
theorem b_up (hT : T < 4503599627370496) : ∀ (d f i : Nat) (v : Int), d < f → d ≤ 100 → i + d < 1000 → fX8_bitsOf_L18 f (nrm (1023 + d) T) (il v) (ic i) μ = fX8_bitsOf_L52 (nrm 1023 T) (il (v + d)) μ
  | 0, f, i, v, hf, hd, hi => by
    obtain ⟨g, rfl⟩ : ∃ g, f = g + 1 := ⟨f - 1, by omega⟩
    rw [fX8_bitsOf_L18]
    rw [show (1100 : Int32) = ic 1100 from rfl, if_neg (by rw [ic_le (by omega)]; omega)]
    have hc : Op.cmpValue (FP.dcmp (nrm (1023 + 0) T) (4611686018427387904 : UInt64)) .l < (0 : Int32) := by
      rw [fp_two, fp_clt (by omega) (by omega) hT]
      decide
    rw [if_pos hc]
    congr 2
    omega
  | d + 1, f, i, v, hf, hd, hi => by
    obtain ⟨g, rfl⟩ : ∃ g, f = g + 1 := ⟨f - 1, by omega⟩
    rw [fX8_bitsOf_L18]
    rw [show (1100 : Int32) = ic 1100 from rfl, if_neg (by rw [ic_le (by omega)]; omega)]
    have hc : ¬ Op.cmpValue (FP.dcmp (nrm (1023 + (d + 1)) T) (4611686018427387904 : UInt64)) .l < (0 : Int32) := by
      rw [fp_two]
      rcases fp_cge (E := 1023 + (d + 1)) (F := 1024) (T := T) (by omega) (by omega) hT with h | h <;> rw [h] <;> decide
    rw [if_neg hc, fp_div2 (by omega) hT, dop_nrm (by omega) hT, Option.bind_some, show (1 : Int32) = ic 1 from rfl, show (1 : Int64) = il 1 from rfl, ic_add, il_add]
    have := b_up hT d g (i + 1) (v + 1) (by omega) (by omega) (by omega)
    rw [show 1023 + (d + 1) - 1 = 1023 + d by omega, show (i : Int) + 1 = ((i + 1 : Nat) : Int) by omega, this, show v + 1 + (d : Int) = v + ((d + 1 : Nat) : Int) by omega]
theorem x_bitsOf (hT : T < 4503599627370496) {E : Nat} (hE : 1000 ≤ E ∧ E ≤ 1040) : fX8_bitsOf μ (nrm E T) = some (UInt64.toInt64 (nrm E T), μ) := by
  unfold fX8_bitsOf
  rw [fp_pos (by omega) hT, if_pos (by decide), show (1023 : Int64) = il 1023 from rfl, show (0 : Int32) = ic ((0 : Nat) : Int) from rfl]
  by_cases h : 1023 ≤ E
  · have h1 := b_up (μ := μ) hT (E - 1023) fu 0 1023 (fu_lt (by omega)) (by omega) (by omega)
    rw [show 1023 + (E - 1023) = E by omega, show (1023 : Int) + ((E - 1023 : Nat) : Int) = (E : Int) by omega] at h1
    rw [h1]
    unfold fX8_bitsOf_L52
    rw [show (0 : Int32) = ic ((0 : Nat) : Int) from rfl]
    have h2 := b_dn (μ := μ) hT 0 fu 0 E (fu_lt (by omega)) (by omega) (by omega)
    rw [show 1023 - 0 = 1023 from rfl, show (E : Int) - ((0 : Nat) : Int) = (E : Int) by omega] at h2
    rw [h2, b_87 hT hE]
  · have hc : Op.cmpValue (FP.dcmp (nrm E T) (4611686018427387904 : UInt64)) .l < (0 : Int32) := by
      rw [fp_two, fp_clt (by omega) (by omega) hT]
      decide
    have h1 : fX8_bitsOf_L18 fu (nrm E T) (il 1023) (ic ((0 : Nat) : Int)) μ = fX8_bitsOf_L52 (nrm E T) (il 1023) μ := by
      rw [fu_eq, fX8_bitsOf_L18, show (1100 : Int32) = ic 1100 from rfl, if_neg (by rw [ic_le (by omega)]; omega), if_pos hc]
    rw [h1]
    unfold fX8_bitsOf_L52
    rw [show (0 : Int32) = ic ((0 : Nat) : Int) from rfl]
    have h2 := b_dn (μ := μ) hT (1023 - E) fu 0 1023 (fu_lt (by omega)) (by omega) (by omega)
    rw [show 1023 - (1023 - E) = E by omega, show (1023 : Int) - ((1023 - E : Nat) : Int) = (E : Int) by omega] at h2
    rw [h2, b_87 hT hE]
theorem x_bitsOf0 : fX8_bitsOf μ FP.dconst0 = some (0, μ) := by
  unfold fX8_bitsOf
  rw [if_neg (by decide +kernel)]
end BITS
def lcn (S : Nat → Int) : Nat → Nat
  | 0 => 0
  | k + 1 => lcn S k + (if bu S k = -1 then 0 else 1)
theorem lcn_le (S : Nat → Int) : ∀ k, lcn S k ≤ k
  | 0 => Nat.le_refl _
  | k + 1 => by
    have := lcn_le S k
    simp only [lcn]
    split <;> omega
theorem lcn_0 {S : Nat → Int} : ∀ n, lcn S n = 0 → mxm (bu S) n = -1
  | 0, _ => rfl
  | n + 1, h => by
    simp only [lcn] at h
    by_cases hb : bu S n = -1
    · rw [if_pos hb] at h
      simp only [mxm]
      rw [lcn_0 n (by omega), hb]
      rfl
    · rw [if_neg hb] at h
      omega
def ara (S : Nat → Int) : Int := (mxm (bu S) (nn S) + 1) * (S 2 + S 3 + S 4)
def fsh (S : Nat → Int) : UInt64 := if mxm (bu S) (nn S) + 1 = 0 then FP.dconst0 else FP.ddiv (FP.i2d (ic (lcn S (nn S)))) (FP.i2d (ic (ara S)))
section SHARE
variable {S : Nat → Int} {μ : Mem}
theorem sp_rg (hW : WF S) : 0 ≤ mxm (bu S) (nn S) + 1 ∧ mxm (bu S) (nn S) + 1 ≤ 200 := by
  have := mxm_rg (p := bu S) (B := 199) (by omega) (nn S) fun k hk => (hW.bu hk).2
  omega
theorem ara_rg (hW : WF S) : 0 ≤ ara S ∧ ara S ≤ 2400 ∧ (ara S = 0 ↔ mxm (bu S) (nn S) + 1 = 0) := by
  have h := sp_rg hW
  have s0 := hW.sl 0 (by omega)
  have s1 := hW.sl 1 (by omega)
  have s2 := hW.sl 2 (by omega)
  rw [Nat.add_zero] at s0
  rw [show 2 + 1 = 3 from rfl] at s1
  rw [show 2 + 2 = 4 from rfl] at s2
  unfold ara
  generalize mxm (bu S) (nn S) + 1 = a at *
  generalize hb : S 2 + S 3 + S 4 = b
  have h1 : 0 ≤ a * b := Int.mul_nonneg (by omega) (by omega)
  have h2 : a * b ≤ 200 * b := Int.mul_le_mul_of_nonneg_right h.2 (by omega)
  refine ⟨h1, by omega, fun q => ?_, fun q => by rw [q, Int.zero_mul]⟩
  rcases Int.mul_eq_zero.mp q with q | q
  · exact q
  · omega
theorem fsh_nrm (hW : WF S) (h : mxm (bu S) (nn S) + 1 ≠ 0) : ∃ E T, (1000 ≤ E ∧ E ≤ 1040) ∧ T < 4503599627370496 ∧ fsh S = nrm E T ∧ FP.ddiv (FP.i2d (ic (lcn S (nn S)))) (FP.i2d (ic (ara S))) = nrm E T := by
  have hn := hW.n
  have hl := lcn_le S (nn S)
  have hl0 : 0 < lcn S (nn S) := by
    rcases Nat.eq_zero_or_pos (lcn S (nn S)) with q | q
    · have := lcn_0 (S := S) _ q
      omega
    · exact q
  have ha := ara_rg hW
  obtain ⟨a, ha'⟩ : ∃ a : Nat, ara S = a := ⟨(ara S).toNat, by omega⟩
  obtain ⟨E, T, h1, h2, h3⟩ := fp_quo (l := lcn S (nn S)) (a := a) (by omega) (by omega)
  refine ⟨E, T, h1, h2, ?_, ?_⟩
  · unfold fsh
    rw [if_neg h, ha', h3]
  · rw [ha', h3]
theorem fsh_self (hW : WF S) : FP.dcmp (fsh S) (fsh S) = some .eq := by
  by_cases h : mxm (bu S) (nn S) + 1 = 0
  · unfold fsh
    rw [if_pos h]
    decide +kernel
  · obtain ⟨E, T, h1, h2, h3, _⟩ := fsh_nrm hW h
    rw [h3, fp_self (by omega) h2]
theorem x_bitsOfShare (hW : WF S) : fX8_bitsOf μ (fsh S) = some (UInt64.toInt64 (fsh S), μ) := by
  by_cases h : mxm (bu S) (nn S) + 1 = 0
  · unfold fsh
    rw [if_pos h, x_bitsOf0]
    rfl
  · obtain ⟨E, T, h1, h2, h3, _⟩ := fsh_nrm hW h
    rw [h3, x_bitsOf h2 h1]
theorem x_cntLaid (h : XS 1 S μ) (hW : WF S) : fX6_countLaid μ = some (ic (lcn S (nn S)), μ) := by
  have hn := hW.n
  have key := loop_eq (fun f (s : Int32 × Int32) => fX6_countLaid_L4 f s.1 s.2 μ) 0 (nn S) (fun k => (ic (lcn S k), ic k)) (some (ic (lcn S (nn S)), μ)) (by omega) ?_ ?_ fu (fu_lt (by omega))
  · exact key
  · intro f k _ hk
    have hb := hW.bu hk
    have hl := lcn_le S k
    dsimp only
    rw [fX6_countLaid_L4, x_n h hW, if_neg (by rw [ic_le (by omega)]; omega), x_bu h hW hk, Option.bind_some, show (-1 : Int32) = ic (-1) from rfl]
    unfold fX6_countLaid_L25
    rw [show (1 : Int32) = ic 1 from rfl, ic_add, ic_add]
    simp only [lcn]
    by_cases q : bu S k = -1
    · rw [if_pos (by rw [q]), if_pos q]
      rfl
    · rw [if_neg (by rw [ic_eq (by omega)]; exact q), if_neg q]
      rfl
  · intro f
    dsimp only
    rw [fX6_countLaid_L4, x_n h hW, if_pos (by rw [ic_le (by omega)]; omega)]
theorem x_filledShare (h : XS 1 S μ) (hW : WF S) : fX8_filledShare μ = some (fsh S, μ) := by
  have ha := ara_rg hW
  unfold fX8_filledShare
  have e0 := x_sl h (u := 0) (by omega)
  have e1 := x_sl h (u := 1) (by omega)
  have e2 := x_sl h (u := 2) (by omega)
  rw [x_n h hW, x_spanOf hW (fun k hk => (h.2.2.2.2.2 k hk).2.2.2.2.2) (bu_rg hW), bd_some]
  rw [show ld 3 (μ 9) (0 : Int32) = some (ic (S 2)) from e0, Option.bind_some, show ld 3 (μ 9) (1 : Int32) = some (ic (S 3)) from e1, Option.bind_some, show ld 3 (μ 9) (2 : Int32) = some (ic (S 4)) from e2, Option.bind_some, ic_add, ic_add, ic_mul]
  rw [show (mxm (bu S) (nn S) + 1) * (S 2 + S 3 + S 4) = ara S from rfl, show (0 : Int32) = ic 0 from rfl]
  by_cases hc : mxm (bu S) (nn S) + 1 = 0
  · rw [if_pos (by rw [ha.2.2.mpr hc])]
    unfold fsh
    rw [if_pos hc]
  · have hc' : ¬ ara S = 0 := fun q => hc (ha.2.2.mp q)
    obtain ⟨E, T, h1, h2, h3, h4⟩ := fsh_nrm hW hc
    rw [if_neg (by rw [ic_eq (by omega)]; exact hc'), x_cntLaid h hW, bd_some, h4, dop_nrm (by omega) h2, Option.bind_some, h3]
theorem fp_addk : ∀ k : Fin 20, dop (FP.dadd (FP.i2d (ic (k.val : Int))) FP.dconst1) = some (FP.i2d (ic ((k.val + 1 : Nat) : Int))) ∧ dop (FP.dadd (FP.i2d (ic (k.val : Int))) FP.dconst0) = some (FP.i2d (ic (k.val : Int))) := by decide +kernel
end SHARE

