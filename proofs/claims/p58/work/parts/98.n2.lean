/-! THE LAW'S WRITTEN CALLS: how their segments are walked -/
def OK1 (t : Option (Int32 × Mem)) : Prop := ∃ X', t = some (1, X')
theorem st_b0 {f : Option (Int32 × Mem)} {A B : Option (Int32 × Mem)} (P : Option (Int32 × Mem) → Prop) (h : OK1 f) (k : P B) : P (bd f fun r _ => if r = 0 then A else B) := by
  obtain ⟨X', e⟩ := h
  rw [e, bd_some, if_neg (by decide)]
  exact k
/-! a new object -/
def S0 (k : Nat) : Int := match k with
  | 1 => 1
  | 2 => 2
  | 3 => 1
  | 4 => 1
  | 5 => 1
  | 6 => 3
  | 7 => 2
  | _ => 0
theorem S0_n : nn S0 = 0 := rfl
theorem S0_wf : WF S0 := by
  refine ⟨by decide, by decide, by decide, by decide, fun k => ?_, fun i hi => absurd hi (by rw [S0_n]; omega)⟩
  unfold S0
  split <;> omega
theorem xrS0 : XR (fun r => 13 + 10 * r) μ0X := by
  refine ⟨by decide +kernel, fun r q h1 h2 h3 => ?_⟩
  have h3 : 13 + 10 * r = 13 + 10 * q := h3
  omega
theorem xsS0 : XS 1 S0 μ0X := ⟨by decide +kernel, by decide +kernel, by decide +kernel, by decide +kernel, fun k hk => by
  rw [show S0 (8 + k) = 0 by unfold S0; split <;> first | omega | rfl]
  rfl, fun i hi => absurd hi (by rw [S0_n]; omega)⟩
theorem kc_start {s : Nat → Int} (ha : agb S0 s = true) (hW : WF s) : KC (ct (s, (fun _ _ => 0), 0, false, (fun _ => 0), (fun _ => 0), 0) []) μ0X :=
  ⟨⟨hW, fun r hr => absurd hr (Nat.not_lt_zero r), fun h => absurd (show false = true from h) (by decide), Nat.zero_le _, fun i hi => absurd hi (Nat.not_lt_zero i), fun i _ => rfl⟩, ⟨xs_cg xsS0 S0_wf (agb_of ha), hW, Or.inl (by decide +kernel), Or.inl (by decide +kernel)⟩, ⟨show μ0X 11 1 = ic 0 by decide +kernel, Nat.zero_le _, _, xrS0, fun r hr => absurd hr (Nat.not_lt_zero r)⟩, show μ0X 0 3 = ic 0 by decide +kernel, fun h => absurd (show false = true from h) (by decide), show μ0X 73 1 = ic 0 by decide +kernel, fun i hi => absurd hi (Nat.not_lt_zero i)⟩
section ZL
variable {c : Cf} {X : Mem}
theorem z_steps (h : KC c X) {M : Nat} (hv : nn c.S = M) : QI c (ic (M : Int)) (fX8_steps X) := hv ▸ y_steps h
theorem z_savedStates (h : KC c X) {M : Nat} (hv : c.m = M) : QI c (ic (M : Int)) (fX8_savedStates X) := hv ▸ y_savedStates h
theorem z_bundles (h : KC c X) {v : Int} (hv : mxm (bu c.S) (nn c.S) + 1 = v) : QI c (ic v) (fX8_bundles X) := hv ▸ y_bundles h
theorem z_whyWrong (h : KC c X) {v : Int} (hv : whyS c.S = v) : QI c (ic v) (fX8_whyWrong X) := hv ▸ y_whyWrong h
theorem z_wrongAt (h : KC c X) {v : Int} (hv : wheS c.S = v) : QI c (ic v) (fX8_wrongAt X) := hv ▸ y_wrongAt h
theorem z_spanByHeights (h : KC c X) {v : Int} (hv : mx0 (hgt c.S) (nn c.S) = v) : QI c (ic v) (fX8_spanByHeights X) := hv ▸ y_spanByHeights h
theorem z_spanByEarliest (h : KC c X) {v : Int} (hv : mx0 (hgt c.S) (nn c.S) = v) : QI c (ic v) (fX8_spanByEarliest X) := hv ▸ y_spanByEarliest h
theorem z_wouldPack (h : KC c X) {v : Int} (hv : mxm (pkS c.S) (nn c.S) + 1 = v) : QI c (ic v) (fX8_wouldPack X) := hv ▸ y_wouldPack h
theorem z_beatByUnits (h : KC c X) {v : Int} (hv : ub c.S 3 = v) : QI c (ic v) (fX8_beatByUnits X) := hv ▸ y_beatByUnits h
theorem z_jumpBundle (h : KC c X) {v : Int} (hv : ((BT c.S : Nat) : Int) - 1 - c.S 1 = v) : QI c (ic v) (fX8_jumpBundle X) := hv ▸ y_jumpBundle h
theorem z_overlap (h : KC c X) {v : Int} (hv : ovl c.S = v) : QI c (ic v) (fX8_overlap X) := hv ▸ y_overlap h
theorem z_beatByCircles (h : KC c X) {k : Nat} (hv : LB c.S = k) : QI c (ic (k : Int)) (fX8_beatByCircles X) := hv ▸ y_beatByCircles h
theorem z_beatByRounds (h : KC c X) {k : Nat} (hv : LB c.S = k) : QI c (ic (k : Int)) (fX8_beatByRounds X) := hv ▸ y_beatByRounds h
theorem z_beat (h : KC c X) {k : Nat} (hv : BT c.S = k) : QI c (ic (k : Int)) (fX8_beat X) := hv ▸ y_beat h
theorem z_doesAgree (h : KC c X) {b : Bool} (hv : agr c.S = b) : QI c (b2 b) (fX8_doesAgree X) := hv ▸ y_doesAgree h
theorem z_filledShare (h : KC c X) {v : UInt64} (hv : fsh c.S = v) : QI c v (fX8_filledShare X) := hv ▸ y_filledShare h
theorem z_kindOf (h : KC c X) {i : Nat} (hi : i < nn c.S) {v : Int} (hv : kd c.S i = v) : QT c (ic v) (fX8_kindOf X (ic i)) := hv ▸ y_kindOf h hi
theorem z_bundleOf (h : KC c X) {i : Nat} (hi : i < nn c.S) {v : Int} (hv : bu c.S i = v) : QT c (ic v) (fX8_bundleOf X (ic i)) := hv ▸ y_bundleOf h hi
theorem z_writtenBy (h : KC c X) {i : Nat} (hi : i < nn c.S) {v : Int} (hv : wr c.S i = v) : QT c (ic v) (fX8_writtenBy X (ic i)) := hv ▸ y_writtenBy h hi
theorem z_latencyOf (h : KC c X) {i : Nat} (hi : i < nn c.S) {v : Int} (hv : la c.S i = v) : QT c (ic v) (fX8_latencyOf X (ic i)) := hv ▸ y_latencyOf h hi
theorem z_heightOf (h : KC c X) {i : Nat} (hi : i < nn c.S) {v : Int} (hv : hgt c.S i = v) : QT c (ic v) (fX8_heightOf X (ic i)) := hv ▸ y_heightOf h hi
theorem z_earliestOf (h : KC c X) {i : Nat} (hi : i < nn c.S) {v : Int} (hv : ear c.S i = v) : QT c (ic v) (fX8_earliestOf X (ic i)) := hv ▸ y_earliestOf h hi
theorem z_loopBundleOf (h : KC c X) {i : Nat} (hi : i < nn c.S) {v : Int} (hv : PLS c.S i = v) : QT c (ic v) (fX8_loopBundleOf X (ic i)) := hv ▸ y_loopBundleOf h hi
theorem z_readBy (h : KC c X) {i : Nat} (hi : i < nn c.S) {v : Int32} (hv : rd c.S i = v) : QT c v (fX8_readBy X (ic i)) := hv ▸ y_readBy h hi
theorem z_separation (h : KC c X) {i j : Nat} (hi : i < nn c.S) (hj : j < nn c.S) {v : Int} (hv : nearT c.S i j = v) : QT c (ic v) (fX8_separation X (ic i) (ic j)) := hv ▸ y_separation h hi hj
theorem z_carried (h : KC c X) {i j : Nat} (hi : i < nn c.S) (hj : j < nn c.S) {v : Int} (hv : over c.S i j = v) : QT c (ic v) (fX8_carried X (ic i) (ic j)) := hv ▸ y_carried h hi hj
theorem z_registerInOrder (h : KC c X) {n : Nat} (hn : n ≤ 11) {v : Int32} (hv : ord c.S 1 (V0 c.S) n = v) : QT c v (fX8_registerInOrder X (ic n)) := hv ▸ y_registerInOrder h hn
theorem z_cellInOrder (h : KC c X) {n : Nat} (hn : n ≤ 11) {v : Int32} (hv : ord c.S 1 (V0 c.S) (12 + n) = v) : QT c v (fX8_cellInOrder X (ic n)) := hv ▸ y_cellInOrder h hn
theorem z_registerInBundles (h : KC c X) {n : Nat} (hn : n ≤ 11) {v : Int32} (hv : VB c.S 205 n = v) : QT c v (fX8_registerInBundles X (ic n)) := hv ▸ y_registerInBundles h hn
theorem z_cellInBundles (h : KC c X) {n : Nat} (hn : n ≤ 11) {v : Int32} (hv : VB c.S 205 (12 + n) = v) : QT c v (fX8_cellInBundles X (ic n)) := hv ▸ y_cellInBundles h hn
theorem z_registerAt (h : KC c X) {r n : Nat} (hr : r ≤ 205) (hn : n ≤ 11) {v : Int32} (hv : VB c.S r n = v) : QT c v (fX8_registerAt X (ic r) (ic n)) := hv ▸ y_registerAt h hr hn
theorem z_registerInLoop (h : KC c X) {r n : Nat} (hr : r ≤ 20) (hn : n ≤ 11) {v : Int32} (hv : VL c.S r n = v) : QT c v (fX8_registerInLoop X (ic r) (ic n)) := hv ▸ y_registerInLoop h hr hn
theorem z_cellInLoop (h : KC c X) {r n : Nat} (hr : r ≤ 20) (hn : n ≤ 11) {v : Int32} (hv : VL c.S r (12 + n) = v) : QT c v (fX8_cellInLoop X (ic r) (ic n)) := hv ▸ y_cellInLoop h hr hn
theorem z_registerInRounds (h : KC c X) {r n : Nat} (hr : r ≤ 20) (hn : n ≤ 11) {v : Int32} (hv : ord c.S r (V0 c.S) n = v) : QT c v (fX8_registerInRounds X (ic r) (ic n)) := hv ▸ y_registerInRounds h hr hn
theorem z_stepsIn (h : KC c X) {v : Int} (hr : 0 ≤ v ∧ v ≤ 199) {w : Int32} (hv : setS c.S v (nn c.S) = w) : QT c w (fX8_stepsIn X (ic v)) := hv ▸ y_stepsIn h hr
theorem z_loopBundles (h : KC c X) {r : Nat} (hr : r ≤ 20) {v : Int} (hv : spn c.S r = v) : QT c (ic v) (fX8_loopBundles X (ic r)) := hv ▸ y_loopBundles h hr
theorem z_setRegister (h : KC c X) {n : Nat} (hn : n ≤ 11) {v : Int} (hv : -2147483648 ≤ v ∧ v < 2147483648) {w : Int} (hw : c.S (8 + n) = w) {S' : Nat → Int} (he : ∀ q, q < 152 → S' q = updI c.S (8 + n) v q) (hW' : WF S') : ∃ X', fX8_setRegister X (ic n) (ic v) = some (.inl (ic w), X') ∧ KC (nx c S') X' := hw ▸ y_setRegister h hn hv he hW'
theorem z_setCell (h : KC c X) {n : Nat} (hn : n ≤ 11) {v : Int} (hv : -2147483648 ≤ v ∧ v < 2147483648) {w : Int} (hw : c.S (20 + n) = w) {S' : Nat → Int} (he : ∀ q, q < 152 → S' q = updI c.S (20 + n) v q) (hW' : WF S') : ∃ X', fX8_setCell X (ic n) (ic v) = some (.inl (ic w), X') ∧ KC (nx c S') X' := hw ▸ y_setCell h hn hv he hW'
theorem z_setSlots (h : KC c X) {n : Nat} (hn : n ≤ 2) {v : Int} (hv : 1 ≤ v ∧ v ≤ 4) {w : Int} (hw : c.S (2 + n) = w) {S' : Nat → Int} (he : ∀ q, q < 152 → S' q = updI c.S (2 + n) v q) (hW' : WF S') : ∃ X', fX8_setSlots X (ic n) (ic v) = some (.inl (ic w), X') ∧ KC (nx c S') X' := hw ▸ y_setSlots h hn hv he hW'
theorem z_setLatency (h : KC c X) {n : Nat} (hn : n ≤ 2) {v : Int} (hv : 1 ≤ v ∧ v ≤ 6) {w : Int} (hw : c.S (5 + n) = w) {S' : Nat → Int} (he : ∀ q, q < 152 → S' q = updI c.S (5 + n) v q) (hW' : WF S') : ∃ X', fX8_setLatency X (ic n) (ic v) = some (.inl (ic w), X') ∧ KC (nx c S') X' := hw ▸ y_setLatency h hn hv he hW'
theorem z_setDelay (h : KC c X) {v : Int} (hv : 0 ≤ v ∧ v ≤ 3) {w : Int} (hw : c.S 1 = w) {S' : Nat → Int} (he : ∀ q, q < 152 → S' q = updI c.S 1 v q) (hW' : WF S') : ∃ X', fX8_setDelay X (ic v) = some (.inl (ic w), X') ∧ KC (nx c S') X' := hw ▸ y_setDelay h hv he hW'
theorem z_lay (h : KC c X) {n : Nat} (hn : n < nn c.S) {v : Int} (hv : 0 ≤ v ∧ v ≤ 199) {w : Int} (hw : bu c.S n = w) {S' : Nat → Int} (he : ∀ q, q < 152 → S' q = updI c.S (32 + 6 * n + 5) v q) (hW' : WF S') : ∃ X', fX8_lay X (ic n) (ic v) = some (.inl (ic w), X') ∧ KC (nx c S') X' := hw ▸ y_lay h hn hv he hW'
theorem z_takeOut (h : KC c X) {n : Nat} (hn : n < nn c.S) {w : Int} (hb : ¬ w = -1) (hw : bu c.S n = w) {S' : Nat → Int} (he : ∀ q, q < 152 → S' q = updI c.S (32 + 6 * n + 5) (-1) q) (hW' : WF S') : ∃ X', fX8_takeOut X (ic n) = some (.inl (ic w), X') ∧ KC (nx c S') X' := by
  subst hw
  exact y_takeOut h hn hb he hW'
theorem z_remove (h : KC c X) {n : Nat} (hn : n < nn c.S) {w : Nat} (hw : nn c.S = w + 1) {S' : Nat → Int} (he : ∀ q, q < 152 → S' q = remS c.S n q) (hW' : WF S') : ∃ X', fX8_remove X (ic n) = some (.inl (ic (w : Int)), X') ∧ KC (nx c S') X' := by
  have := y_remove h hn he hW'
  rw [hw, show (((w + 1 : Nat) : Int) - 1) = (w : Int) by omega] at this
  exact this
theorem z_insert (h : KC c X) {n : Nat} {k x y z v : Int} {m : Nat} (hm : nn c.S = m) (hn : n ≤ m) (h19 : m < 20) (hk : 0 ≤ k ∧ k ≤ 6) (hx : 0 ≤ x ∧ x ≤ 11) (hy : 0 ≤ y ∧ y ≤ 11) (hz : 0 ≤ z ∧ z ≤ 11) (hv : -99 ≤ v ∧ v ≤ 99) {S' : Nat → Int} (he : ∀ q, q < 152 → S' q = insS c.S n (tl5 k x y z v) q) (hW' : WF S') : ∃ X', fX8_insert X (ic n) (ic k) (ic x) (ic y) (ic z) (ic v) = some (.inl (ic ((m + 1 : Nat) : Int)), X') ∧ KC (nx c S') X' := by
  subst hm
  exact y_insert h hn h19 hk hx hy hz hv he hW'
theorem z_exchange (h : KC c X) {n m : Nat} (hn : n < nn c.S) (hm : m < nn c.S) {S' : Nat → Int} (he : ∀ q, q < 152 → S' q = swpS c.S n m q) (hW' : WF S') {w : Int} (hw : nearT S' (min n m) (max n m) = w) : ∃ X', fX8_exchange X (ic n) (ic m) = some (.inl (ic w), X') ∧ KC (nx c S') X' := hw ▸ y_exchange h hn hm he hW'
theorem z_pack (h : KC c X) {w : Int} (hw : mxm (pkS c.S) (nn c.S) + 1 = w) {S' : Nat → Int} (he : ∀ q, q < 152 → S' q = pckS c.S (pkS c.S) q) (hW' : WF S') : ∃ X', fX8_pack X = some (ic w, X') ∧ KC (nx c S') X' := hw ▸ y_pack h he hW'
theorem z_undo (h : KC c X) {M : Nat} (hm : c.m = M + 1) : ∃ X', fX8_undo X = some (.inl (ic (M : Int)), X') ∧ KC (cfS c (c.HS M) c.HS M) X' := by
  have := y_undo h (by omega)
  rw [hm, show (((M + 1 : Nat) : Int) - 1) = (M : Int) by omega, show M + 1 - 1 = M by omega] at this
  exact this
theorem z_keep (h : KC c X) {n : Nat} (hn : nn c.S = n) : ∃ X', fX8_keep X = some (ic (n : Int), X') ∧ KC (kpC c) X' := hn ▸ y_keep h
theorem z_goBack (h : KC c X) (hk : c.hk = true) {n : Nat} (hn : nn c.SK = n) : ∃ X', fX8_goBack X = some (.inl (ic (n : Int)), X') ∧ KC (nx c c.SK) X' := hn ▸ y_goBack h hk
theorem z_clearBuffer (h : KC c X) {M : Nat} (hm : c.L = M) : ∃ X', fX8_clearBuffer X = some (ic (M : Int), X') ∧ KC (ct c []) X' := hm ▸ y_clearBuffer h
theorem z_addAll (h : KC c X) (hw : whole c.t c.L = true) {K : Nat} {cs : Nat → Nat → Int} {sp : Nat → Nat} (hS : WS c.t K sp cs) (hK : 0 < K) (hsp : sp K = c.L + 1) {w : Nat} (hn : nn c.S + K = w) (h20 : w ≤ 20) {S' : Nat → Int} (he : ∀ q, q < 152 → S' q = addS c.S cs K q) (hW' : WF S') : ∃ X', fX8_addAll X = some (.inl (ic (w : Int)), X') ∧ KC (ct (nx c S') []) X' := by
  subst hn
  exact y_addAll h hw hS hK hsp h20 he hW'
theorem x_is (h : KC c X) {i : Nat} (hi : i < nn c.S) {a b e f g : Int} (h1 : la c.S i = a) (h2 : hgt c.S i = b) (h3 : ear c.S i = e) (h4 : bu c.S i = f) (h5 : PLS c.S i = g) : QI c 1 (fL_is X (ic i) (ic a) (ic b) (ic e) (ic f) (ic g)) := by
  unfold fL_is
  refine st_zif (QI c 1) (z_latencyOf h hi h1) (fun X1 q1 => ?_)
  refine st_zif (QI c 1) (z_heightOf q1 hi h2) (fun X2 q2 => ?_)
  refine st_zif (QI c 1) (z_earliestOf q2 hi h3) (fun X3 q3 => ?_)
  refine st_zif (QI c 1) (z_bundleOf q3 hi h4) (fun X4 q4 => ?_)
  refine st_zif (QI c 1) (z_loopBundleOf q4 hi h5) (fun X5 q5 => ?_)
  exact ⟨X5, rfl, q5⟩
end ZL
theorem ns_of {t : Nat → Int} {s e : Nat} (h : (List.range e).all (fun i => decide (i < s) || decide (t i ≠ 59)) = true) : ∀ i, s ≤ i → i < e → t i ≠ 59 := fun i h1 h2 => by
  have h3 := all_rg h i h2
  simp only [Bool.or_eq_true, decide_eq_true_eq] at h3
  rcases h3 with h3 | h3
  · omega
  · exact h3
/-! sixty signs -/
def sgs : List Int := [98, 61, 51, 59, 98, 61, 51, 59, 98, 61, 51, 59, 98, 61, 51, 59, 98, 61, 51, 59, 98, 61, 51, 59, 98, 61, 51, 59, 98, 61, 51, 59, 98, 61, 51, 59, 98, 61, 51, 59, 98, 61, 51, 59, 98, 61, 51, 59, 98, 61, 51, 59, 98, 61, 51, 59, 98, 61, 51, 59]
theorem sg_take : ∀ k, k < 60 → sgs.take (k + 1) = sgs.take k ++ [sgs.getD k 0] := by decide +kernel
theorem sg_at : ∀ k, k < 60 → sgs.getD k 0 = if k % 4 = 0 then 98 else if k % 4 = 1 then 61 else if k % 4 = 2 then 51 else 59 := by decide +kernel
theorem sg_len : ∀ k, k ≤ 60 → (sgs.take k).length = k := fun k hk => by
  rw [List.length_take, show sgs.length = 60 from rfl]
  omega
theorem sg_fb : ∀ k, k < 60 → run (tl (sgs.take (k + 1))) 0 0 (k + 1) ≠ -1 ∧ run (tl (sgs.take (k + 1))) 0 0 (k + 1 + 1) = -1 := by decide +kernel
theorem sg_60 : sgs.take 60 = sgs := rfl
theorem sg_wh : whole (tl sgs) 60 = false := by decide +kernel
section SG
variable {c : Cf}
theorem sg_389 {K : Int32 → Mem → Option (Int32 × Mem)} {X : Mem} {k : Nat} (hk : k < 60) (h : KC (ct c (sgs.take k)) X) {v : Int} (hv : sgs.getD k 0 = v) (hr : 33 ≤ v ∧ v ≤ 126) (kk : ∀ X', KC (ct c (sgs.take (k + 1))) X' → OK1 (K (ic ((k + 1 : Nat) : Int)) X')) : OK1 (fL_texts_L389 K (ic k) (ic v) X) := by
  have e1 : ic (k : Int) + (1 : Int32) = ic ((k + 1 : Nat) : Int) := by
    rw [show (1 : Int32) = ic 1 from rfl, ic_add]
    rfl
  obtain ⟨X1, a1, h1⟩ := y_app h hr (by rw [sg_len k (by omega)]; exact hk)
  rw [sg_len k (by omega)] at a1
  rw [← hv, ← sg_take k hk] at h1
  obtain ⟨X2, a2, h2⟩ := y_firstError h1 (i := k + 1) (sg_fb k hk)
  unfold fL_texts_L389
  rw [a1, bz_l, e1, show ((k : Int) + 1) = ((k + 1 : Nat) : Int) by omega, if_pos rfl, a2, bd_some, if_pos rfl]
  exact kk X2 h2
theorem sg_loop : ∀ (d k f : Nat) (X : Mem), k + d = 60 → d < f → KC (ct c (sgs.take k)) X → OK1 (fL_texts_L345 f (ic k) X)
  | d, k, 0, X, hk, hf, h => absurd hf (by omega)
  | 0, k, f + 1, X, hk, hf, h => by
    obtain rfl : k = 60 := by omega
    rw [sg_60] at h
    rw [fL_texts_L345, if_pos (by decide)]
    refine st_bif (v := (-2013 : Int32)) OK1 (by rw [call_8]; exact clo_x (k := 3) (n_append3 h (v := 98) (by decide) rfl)) (fun X1 h1 => ?_)
    refine st_bif (v := (-2012 : Int32)) OK1 (by rw [call_9]; exact clo_x (k := 2) (n_addAll0 h1 sg_wh)) (fun X2 h2 => ?_)
    refine st_bif (v := (60 : Int32)) OK1 (z_clearBuffer h2 (M := 60) rfl) (fun X3 h3 => ?_)
    exact ⟨_, rfl⟩
  | d + 1, k, f + 1, X, hk, hf, h => by
    have ih := fun X' (h' : KC (ct c (sgs.take (k + 1))) X') => sg_loop d (k + 1) f X' (by omega) (by omega) h'
    have ha := sg_at k (by omega)
    have hr : rmd (ic k) (4 : Int32) = some (ic ((k % 4 : Nat) : Int)) := rmd_ic (a := k) (b := 4) (by omega)
    rw [fL_texts_L345, if_neg (by rw [show (60 : Int32) = ic 60 from rfl, ic_le (by omega)]; omega), hr]
    simp only [Option.bind_some]
    by_cases q0 : k % 4 = 0
    · rw [if_pos (by rw [q0]; rfl)]
      rw [if_pos q0] at ha
      exact sg_389 (v := 98) (by omega) h ha (by decide) ih
    · rw [if_neg q0] at ha
      rw [if_neg (by rw [show (0 : Int32) = ic 0 from rfl, ic_eq (by omega)]; omega)]
      by_cases q1 : k % 4 = 1
      · rw [if_pos (by rw [q1]; rfl)]
        rw [if_pos q1] at ha
        exact sg_389 (v := 61) (by omega) h ha (by decide) ih
      · rw [if_neg q1] at ha
        rw [if_neg (by rw [show (1 : Int32) = ic 1 from rfl, ic_eq (by omega)]; omega)]
        by_cases q2 : k % 4 = 2
        · rw [if_pos (by rw [q2]; rfl)]
          rw [if_pos q2] at ha
          exact sg_389 (v := 51) (by omega) h ha (by decide) ih
        · rw [if_neg q2] at ha
          rw [if_neg (by rw [show (2 : Int32) = ic 2 from rfl, ic_eq (by omega)]; omega)]
          exact sg_389 (v := 59) (by omega) h ha (by decide) ih
end SG
