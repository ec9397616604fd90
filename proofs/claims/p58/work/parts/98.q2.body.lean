/-! THE LAW'S BODY: the 26 acts, the way back -/
abbrev OKU (t : Option (Unit × Mem)) : Prop := ∃ X' : Mem, t = some ((), X')
theorem a31 (x : Int32) : ∃ u : Int, x &&& 2147483647 = ic u ∧ 0 ≤ u ∧ u < 2147483648 := by
  refine ⟨((x.toBitVec.toNat % 2147483648 : Nat) : Int), ?_, by omega, by omega⟩
  rw [← ic_nI]
  apply Int32.toBitVec_inj.mp
  apply BitVec.eq_of_toNat_eq
  rw [Int32.toBitVec_and, BitVec.toNat_and]
  show x.toBitVec.toNat &&& 2147483647 = (x.toBitVec.toNat % 2147483648) % 4294967296
  rw [show (2147483647 : Nat) = 2 ^ 31 - 1 from rfl, Nat.and_two_pow_sub_one_eq_mod, Nat.mod_eq_of_lt (b := 4294967296) (by omega)]
theorem x_part {μ : Mem} (x : Int32) {n : Int} (hn : 0 < n ∧ n < 2147483648) : ∃ u : Int, fL_part μ x (ic n) = some (ic u, μ) ∧ 0 ≤ u ∧ u < n := by
  obtain ⟨u, e, h1, h2⟩ := a31 x
  refine ⟨u % n, ?_, Int.emod_nonneg _ (by omega), Int.emod_lt_of_pos _ hn.1⟩
  unfold fL_part
  rw [e, rmd_ic ⟨⟨h1, h2⟩, hn⟩, Option.bind_some]
theorem x_drawn {L9 : Nat} {xs : Nat → Int32} (hL : L9 ≤ 260) {k : Nat} (hk : k ≤ 26) : ∃ r, fL_drawn L9 xs (fun _ _ => 0) (ic k) = some (r, fun _ _ => 0) := by
  unfold fL_drawn
  rw [show Int32.ofNat L9 = nI L9 from rfl, ic_nI]
  by_cases h : L9 = 0
  · subst h
    exact ⟨_, if_pos rfl⟩
  · rw [if_neg (by rw [show (0 : Int32) = ic 0 from rfl, ic_eq (by omega)]; omega), rmd_ic (by omega), Option.bind_some]
    have h1 := Int.emod_nonneg (k : Int) (b := (L9 : Int)) (by omega)
    have h2 := Int.emod_lt_of_pos (k : Int) (b := (L9 : Int)) (by omega)
    rw [ld_ic ⟨⟨h1, h2⟩, by omega⟩, Option.bind_some, show (7 : Int32) = ic 7 from rfl, rmd_ic (by omega), Option.bind_some, dv_ic (by omega), Option.bind_some]
    exact ⟨_, rfl⟩
theorem ibn64 {a : Nat} (h : a < 64) : ibn (ic a) 64 = true := ic_ibn (by omega)
theorem nat_ic {a : Nat} (h : a < 64) : (ic (a : Int)).toNatClampNeg = a := by
  rw [ic_nat (by omega)]
  omega
theorem lld_ic (w : Nat → Int64) {a : Nat} (h : a < 64) : lld w (ic a) = some (w a) := by
  rw [lld, if_pos (ibn64 h), nat_ic h]
theorem lls_ic (w : Nat → Int64) {a : Nat} (x : Int64) (h : a < 64) : lls w (ic a) x = some (vp_updL w a x) := by
  rw [lls, if_pos (ibn64 h), nat_ic h]
section WAY
variable {L9 : Nat} {xs : Nat → Int32} {c : Cf} {X : Mem} {w : Nat → Int64}
theorem lw_580 (h : KC c X) (hm : c.m = 0) (hk : c.hk = true) (h3 : nn c.SK = 3) : OKU (fL_law_L580 L9 xs (snv c.SK) X w) := by
  unfold fL_law_L580
  refine st_bif (v := cxk 3) OKU (by rw [call_10]; exact clo_x (k := 3) (n_undo h hm)) (fun X1 h1 => ?_)
  refine st_zif (v := (3 : Int32)) OKU (z_goBack h1 hk (n := 3) h3) (fun X2 h2 => ?_)
  refine st_bd OKU (x_seen h2) (fun X3 h3 => ?_)
  rw [show Cf.S (nx c c.SK) = c.SK from rfl, lg_self, if_pos rfl]
  exact st_bif (v := (1 : Int32)) OKU (z_savedStates h3 (M := 1) (by show pm c.m = 1; rw [hm]; rfl)) (fun X4 h4 => ⟨X4, rfl⟩)
theorem lw_552 {v4 : Int64} : ∀ (m k f : Nat) (c : Cf) (X : Mem), c.m = m → m + k ≤ 5 → m < f → KC c X → c.hk = true → nn c.SK = 3 → v4 = snv c.SK → OKU (fL_law_L552 L9 xs f v4 (ic k) X w) := by
  intro m
  induction m with
  | zero =>
    intro k f c X hm hmk hf h hk h3 hv
    obtain ⟨f, rfl⟩ : ∃ g, f = g + 1 := ⟨f - 1, by omega⟩
    subst hv
    rw [fL_law_L552]
    by_cases h5 : k = 5
    · rw [if_pos (by rw [show (5 : Int32) = ic 5 from rfl, ic_le (by omega)]; omega)]
      exact lw_580 h hm hk h3
    · rw [if_neg (by rw [show (5 : Int32) = ic 5 from rfl, ic_le (by omega)]; omega)]
      refine st_bd OKU (z_savedStates h hm) (fun X1 h1 => ?_)
      rw [if_pos (by rw [show (0 : Int32) = ic 0 from rfl, ic_le (by omega)]; omega)]
      exact lw_580 h1 hm hk h3
  | succ m ih =>
    intro k f c X hm hmk hf h hk h3 hv
    obtain ⟨f, rfl⟩ : ∃ g, f = g + 1 := ⟨f - 1, by omega⟩
    rw [fL_law_L552, if_neg (by rw [show (5 : Int32) = ic 5 from rfl, ic_le (by omega)]; omega)]
    refine st_bd OKU (z_savedStates h hm) (fun X1 h1 => ?_)
    rw [if_neg (by rw [show (0 : Int32) = ic 0 from rfl, ic_le (by omega)]; omega)]
    refine st_zd OKU (z_undo h1 hm) (fun X2 h2 => ?_)
    rw [if_pos (by rw [show (0 : Int32) = ic 0 from rfl, ic_le (by omega)]; omega), show (1 : Int32) = ic 1 from rfl, ic_add]
    exact ih (k + 1) f _ X2 rfl (by omega) (by omega) h2 hk h3 hv
theorem lw_491 {v4 : Int64} {a : Nat} {T : Nat → Nat → Int} (ha : a ≤ 26) (hw : ∀ i, i ≤ a → w i = snv (T i)) : ∀ (m k f : Nat) (c : Cf) (X : Mem), c.m = m → m + k ≤ 5 → m < f → k ≤ a → c.S = T (a - k) → (∀ i, i < m → i < a - k → c.HS (m - 1 - i) = T (a - k - 1 - i)) → KC c X → c.hk = true → nn c.SK = 3 → v4 = snv c.SK → OKU (fL_law_L491 L9 xs f (ic a) v4 (ic k) X w) := by
  intro m
  induction m with
  | zero =>
    intro k f c X hm hmk hf hka hS hH h hk h3 hv
    obtain ⟨f, rfl⟩ : ∃ g, f = g + 1 := ⟨f - 1, by omega⟩
    rw [fL_law_L491]
    refine st_bd OKU (z_savedStates h hm) (fun X1 h1 => ?_)
    rw [if_pos (by rw [show (0 : Int32) = ic 0 from rfl, ic_le (by omega)]; omega)]
    exact lw_552 0 0 7 c X1 hm (by omega) (by omega) h1 hk h3 hv
  | succ m ih =>
    intro k f c X hm hmk hf hka hS hH h hk h3 hv
    obtain ⟨f, rfl⟩ : ∃ g, f = g + 1 := ⟨f - 1, by omega⟩
    rw [fL_law_L491]
    refine st_bd OKU (z_savedStates h hm) (fun X1 h1 => ?_)
    rw [if_neg (by rw [show (0 : Int32) = ic 0 from rfl, ic_le (by omega)]; omega)]
    by_cases hak : a ≤ k
    · rw [if_pos (by rw [ic_le (by omega)]; omega)]
      exact lw_552 (m + 1) 0 7 c X1 hm (by omega) (by omega) h1 hk h3 hv
    · rw [if_neg (by rw [ic_le (by omega)]; omega)]
      refine st_bd OKU (z_savedStates h1 hm) (fun X2 h2 => ?_)
      rw [if_neg (by rw [show (4 : Int32) = ic 4 from rfl, ic_lt (by omega)]; omega)]
      refine st_bd OKU (x_seen h2) (fun X3 h3' => ?_)
      rw [ic_sub, show (a : Int) - (k : Int) = ((a - k : Nat) : Int) by omega, lld_ic w (by omega), Option.bind_some, hw (a - k) (by omega), hS, lg_self, if_pos rfl]
      refine st_zif OKU (v := ic (((m + 1 : Nat) : Int)) - (1 : Int32)) (by
        rw [show (1 : Int32) = ic 1 from rfl, ic_sub, show ((m + 1 : Nat) : Int) - 1 = (m : Int) by omega]
        exact z_undo h3' hm) (fun X4 h4 => ?_)
      rw [show (1 : Int32) = ic 1 from rfl, ic_add]
      exact ih (k + 1) f _ X4 rfl (by omega) (by omega) (by omega) (by
        have e := hH 0 (by omega) (by omega)
        exact e) (fun i h5 h6 => by
        have e := hH (i + 1) (by omega) (by omega)
        rw [show m + 1 - 1 - (i + 1) = m - 1 - i by omega, show a - k - 1 - (i + 1) = a - (k + 1) - 1 - i by omega] at e
        exact e) h4 hk h3 hv
/-- behind the act: told as done, or as refused -/
theorem lw_409 {v4 : Int64} {a j : Nat} {K : Int32 → Int64 → Int32 → Mem → (Nat → Int64) → Option (Unit × Mem)} {o : Option (Int32 × Mem)} (ha : a < 64) (hm : c.m ≤ 5) (hA : AA c o) (hw : w a = snv c.S)
    (k1 : ∀ S' X', KC (nx c S') X' → Fb S' → OKU (K (ic ((a + 1 : Nat) : Int)) v4 (ic ((j + 1 : Nat) : Int)) X' w)) (k0 : ∀ X', KC c X' → OKU (K (ic a) v4 (ic ((j + 1 : Nat) : Int)) X' w)) : OKU (bd o fun r μ => fL_law_L409 L9 xs K (ic a) v4 (ic j) (ic c.m) r μ w) := by
  have e1 : ic (j : Int) + (1 : Int32) = ic ((j + 1 : Nat) : Int) := by
    rw [show (1 : Int32) = ic 1 from rfl, ic_add]
    rfl
  rcases hA with ⟨v, S', X', e, hv, h, hF⟩ | ⟨k, X', e, h⟩
  · rw [e, bd_some]
    unfold fL_law_L409
    rw [if_pos (by rw [show (-1999 : Int32) = ic (-1999) from rfl, ic_le (by omega)]; omega)]
    unfold fL_law_L424
    rw [if_pos rfl]
    unfold fL_law_L453
    rw [if_pos rfl]
    unfold fL_law_L464
    rw [e1, show (1 : Int32) = ic 1 from rfl, ic_add]
    exact k1 S' X' h hF
  · rw [e, bd_some]
    unfold fL_law_L409
    rw [if_neg (by
      unfold cxk
      split
      · decide
      · split <;> decide)]
    unfold fL_law_L424
    rw [if_neg (by decide)]
    refine st_bif (v := ic c.m) OKU (y_savedStates h) (fun X1 h1 => ?_)
    refine st_bd OKU (x_seen h1) (fun X2 h2 => ?_)
    rw [lld_ic w ha, Option.bind_some, hw, lg_self, if_pos rfl]
    unfold fL_law_L453
    rw [if_neg (by decide)]
    unfold fL_law_L464
    rw [e1, show (0 : Int32) = ic 0 from rfl, ic_add, Int.add_zero]
    exact k0 X2 h2
end WAY
