/-! THE CLASS'S CALLS, one by one: what changes the state -/
/-- the state behind a change that is saved -/
def nx (c : Cf) (S : Nat → Int) : Cf := cfS c S (psh c.HS c.m c.S) (pm c.m)
theorem xs_cg {b : Nat} {S S' : Nat → Int} {X : Mem} (h : XS b S X) (hW : WF S) (he : ∀ k, k < 152 → S' k = S k) : XS b S' X := by
  have h20 := hW.n
  have e0 : nn S' = nn S := by
    unfold nn
    rw [he 0 (by omega)]
  obtain ⟨h1, h2, h3, h4, h5, h6⟩ := h
  refine ⟨by rw [he 0 (by omega)]; exact h1, by rw [he 1 (by omega)]; exact h2, fun u hu => by rw [he _ (by omega)]; exact h3 u hu, fun u hu => by rw [he _ (by omega)]; exact h4 u hu, fun k hk => by rw [he _ (by omega)]; exact h5 k hk, fun i hi => ?_⟩
  rw [e0] at hi
  obtain ⟨g1, g2, g3, g4, g5, g6⟩ := h6 i hi
  unfold kd tg on tw nb bu at *
  exact ⟨by rw [he _ (by omega)]; exact g1, by rw [he _ (by omega)]; exact g2, by rw [he _ (by omega)]; exact g3, by rw [he _ (by omega)]; exact g4, by rw [he _ (by omega)]; exact g5, by rw [he _ (by omega)]; exact g6⟩
section YA
variable {c : Cf} {X : Mem}
theorem gc_nx (hG : GC c) (hm : c.m ≤ 5) {S : Nat → Int} (hW : WF S) : GC (nx c S) := ⟨hW, wf_psh hG.1 hm hG.2.1, hG.2.2.1, hG.2.2.2⟩
/-- one number set -/
theorem y_set (h : KC c X) {k a j : Nat} {v : Int} (hl : Loc c.S k a j) (hv : (k = 1 ∧ 0 ≤ v ∧ v ≤ 3) ∨ (2 ≤ k ∧ k < 5 ∧ 1 ≤ v ∧ v ≤ 4) ∨ (5 ≤ k ∧ k < 8 ∧ 1 ≤ v ∧ v ≤ 6) ∨ (8 ≤ k ∧ k < 32 ∧ -2147483648 ≤ v ∧ v < 2147483648) ∨ (∃ i, k = 32 + 6 * i + 5 ∧ -1 ≤ v ∧ v ≤ 199)) {o : Option ((Int32 ⊕ Nat) × Mem)} (ho : ∀ X1, (∀ a, 1 ≤ a → a < 11 → X1 a = X a) → fX8_save X = some ((), X1) → o = some (.inl (X1 a j), mu X1 a j (ic v))) {S' : Nat → Int} (he : ∀ q, q < 152 → S' q = updI c.S k v q) (hW' : WF S') : ∃ X', o = some (.inl (ic (c.S k)), X') ∧ KC (nx c S') X' := by
  have hW := h.1.1
  have h20 := hW.n
  have hkb : k < 152 ∧ 1 ≤ a ∧ a < 11 := by
    clear hv ho he
    unfold Loc at hl
    omega
  have hWu := wf_set hW hv
  obtain ⟨X1, e1, f1, g1, a1, b1, H1⟩ := x_save h.2.1.1 hW h.2.2.1
  have x1 : XS 1 c.S X1 := h.2.1.1.of fun k hk => f1 _ (by omega) (by omega)
  refine ⟨mu X1 a j (ic v), ?_, gc_nx h.1 h.2.2.1.2.1 hW', xc_state h.2 (xs_cg (x_set x1 hl) hWu he) hW' (by rw [mu_ne (by omega), a1]) (by rw [mu_ne (by omega), b1]) (fun k h1 h2 => by rw [mu_ne (by omega), g1 k h1 h2]) (fun b hb => by rw [mu_ne (by omega), f1 b (by omega) (by omega)]) (H1.of fun b h1 h2 => mu_ne (by omega))⟩
  rw [ho X1 (fun b h1 h2 => f1 b (by omega) (by omega)) e1, x_loc x1 hl]
/-- an operation on the steps -/
theorem y_op (h : KC c X) {S2 : Nat → Int} (hW2 : WF S2) {S' : Nat → Int} (he : ∀ q, q < 152 → S' q = S2 q) (hW' : WF S') {r : Int32} {o : Option ((Int32 ⊕ Nat) × Mem)} (ho : ∀ X1, XS 1 c.S X1 → fX8_save X = some ((), X1) → ∃ X2, o = some (.inl r, X2) ∧ Fr [1, 2, 3, 4, 5, 6, 7] X1 X2 ∧ XS 1 S2 X2) : ∃ X', o = some (.inl r, X') ∧ KC (nx c S') X' := by
  have hW := h.1.1
  obtain ⟨X1, e1, f1, g1, a1, b1, H1⟩ := x_save h.2.1.1 hW h.2.2.1
  have x1 : XS 1 c.S X1 := h.2.1.1.of fun k hk => f1 _ (by omega) (by omega)
  obtain ⟨X2, e2, f2, x2⟩ := ho X1 x1 e1
  have f2' : ∀ a, a = 0 ∨ 8 ≤ a → X2 a = X1 a := fun a ha => f2 a (by simp only [List.mem_cons, List.not_mem_nil, or_false]; omega)
  exact ⟨X2, e2, gc_nx h.1 h.2.2.1.2.1 hW', xc_state h.2 (xs_cg x2 hW2 he) hW' (by rw [f2' 0 (by omega), a1]) (by rw [f2' 0 (by omega), b1]) (fun k h1 h2 => by rw [f2' 0 (by omega), g1 k h1 h2]) (fun b hb => by rw [f2' b (by omega), f1 b (by omega) (by omega)]) (H1.of fun b h1 h2 => f2' b (by omega))⟩
theorem y_setRegister (h : KC c X) {n : Nat} (hn : n ≤ 11) {v : Int} (hv : -2147483648 ≤ v ∧ v < 2147483648) {S' : Nat → Int} (he : ∀ q, q < 152 → S' q = updI c.S (8 + n) v q) (hW' : WF S') : ∃ X', fX8_setRegister X (ic n) (ic v) = some (.inl (ic (c.S (8 + n))), X') ∧ KC (nx c S') X' := by
  refine y_set h (k := 8 + n) (a := 8) (j := n) (v := v) (by unfold Loc; omega) (by omega) (fun X1 f1 e1 => ?_) he hW'
  unfold fX8_setRegister
  rw [x_checkRegister (by omega), if_pos (by omega), bx_l, e1, bd_some]
  unfold fX6_changeFirst
  rw [show (0 : Int32) = ic 0 from rfl, if_neg (by rw [ic_lt (by omega)]; omega), show (24 : Int32) = ic 24 from rfl, if_pos (by rw [ic_lt (by omega)]; omega), ld_k n rfl (by omega), Option.bind_some, ast_k n rfl (by omega), Option.bind_some, bd_some]
theorem y_setCell (h : KC c X) {n : Nat} (hn : n ≤ 11) {v : Int} (hv : -2147483648 ≤ v ∧ v < 2147483648) {S' : Nat → Int} (he : ∀ q, q < 152 → S' q = updI c.S (20 + n) v q) (hW' : WF S') : ∃ X', fX8_setCell X (ic n) (ic v) = some (.inl (ic (c.S (20 + n))), X') ∧ KC (nx c S') X' := by
  refine y_set h (k := 20 + n) (a := 8) (j := 12 + n) (v := v) (by unfold Loc; omega) (by omega) (fun X1 f1 e1 => ?_) he hW'
  unfold fX8_setCell
  rw [x_checkCell (by omega), if_pos (by omega), bx_l, e1, bd_some]
  unfold fX6_changeFirst
  rw [show (12 : Int32) = ic 12 from rfl, ic_add, show (0 : Int32) = ic 0 from rfl, if_neg (by rw [ic_lt (by omega)]; omega), show (24 : Int32) = ic 24 from rfl, if_pos (by rw [ic_lt (by omega)]; omega), ld_k (12 + n) (by omega) (by omega), Option.bind_some, ast_k (12 + n) (by omega) (by omega), Option.bind_some, bd_some]
theorem y_setSlots (h : KC c X) {n : Nat} (hn : n ≤ 2) {v : Int} (hv : 1 ≤ v ∧ v ≤ 4) {S' : Nat → Int} (he : ∀ q, q < 152 → S' q = updI c.S (2 + n) v q) (hW' : WF S') : ∃ X', fX8_setSlots X (ic n) (ic v) = some (.inl (ic (c.S (2 + n))), X') ∧ KC (nx c S') X' := by
  refine y_set h (k := 2 + n) (a := 9) (j := n) (v := v) (by unfold Loc; omega) (by omega) (fun X1 f1 e1 => ?_) he hW'
  unfold fX8_setSlots fX8_setSlots_L14
  rw [x_checkUnit (by omega), if_pos (by omega), bx_l, show (1 : Int32) = ic 1 from rfl, show (4 : Int32) = ic 4 from rfl, if_neg (by rw [ic_lt (by omega)]; omega), if_pos (by rw [ic_le (by omega)]; omega), e1, bd_some, ld_k n rfl (by omega), Option.bind_some, ast_k n rfl (by omega), Option.bind_some]
theorem y_setLatency (h : KC c X) {n : Nat} (hn : n ≤ 2) {v : Int} (hv : 1 ≤ v ∧ v ≤ 6) {S' : Nat → Int} (he : ∀ q, q < 152 → S' q = updI c.S (5 + n) v q) (hW' : WF S') : ∃ X', fX8_setLatency X (ic n) (ic v) = some (.inl (ic (c.S (5 + n))), X') ∧ KC (nx c S') X' := by
  refine y_set h (k := 5 + n) (a := 10) (j := n) (v := v) (by unfold Loc; omega) (by omega) (fun X1 f1 e1 => ?_) he hW'
  unfold fX8_setLatency fX8_setLatency_L15
  rw [x_checkUnit (by omega), if_pos (by omega), bx_l, show (1 : Int32) = ic 1 from rfl, show (6 : Int32) = ic 6 from rfl, if_neg (by rw [ic_lt (by omega)]; omega), if_pos (by rw [ic_le (by omega)]; omega), e1, bd_some, ld_k n rfl (by omega), Option.bind_some, ast_k n rfl (by omega), Option.bind_some]
theorem y_setDelay (h : KC c X) {v : Int} (hv : 0 ≤ v ∧ v ≤ 3) {S' : Nat → Int} (he : ∀ q, q < 152 → S' q = updI c.S 1 v q) (hW' : WF S') : ∃ X', fX8_setDelay X (ic v) = some (.inl (ic (c.S 1)), X') ∧ KC (nx c S') X' := by
  refine y_set h (k := 1) (a := 1) (j := 10) (v := v) (by unfold Loc; omega) (by omega) (fun X1 f1 e1 => ?_) he hW'
  unfold fX8_setDelay fX8_setDelay_L9
  rw [show (0 : Int32) = ic 0 from rfl, show (3 : Int32) = ic 3 from rfl, if_neg (by rw [ic_lt (by omega)]; omega), if_pos (by rw [ic_le (by omega)]; omega), e1, bd_some]
  simp only [pt, Option.bind_some]
theorem y_lay (h : KC c X) {n : Nat} (hn : n < nn c.S) {v : Int} (hv : 0 ≤ v ∧ v ≤ 199) {S' : Nat → Int} (he : ∀ q, q < 152 → S' q = updI c.S (32 + 6 * n + 5) v q) (hW' : WF S') : ∃ X', fX8_lay X (ic n) (ic v) = some (.inl (ic (bu c.S n)), X') ∧ KC (nx c S') X' := by
  have h20 := h.1.1.n
  refine y_set h (k := 32 + 6 * n + 5) (a := 7) (j := n) (v := v) (by unfold Loc; omega) (Or.inr (Or.inr (Or.inr (Or.inr ⟨n, rfl, by omega, by omega⟩)))) (fun X1 f1 e1 => ?_) he hW'
  unfold fX8_lay
  rw [x_checkStep h.2 h.1.1 (by omega), if_pos (by omega), bx_l, x_checkBundle (by omega), if_pos hv, bx_l, e1, bd_some, ld_k n rfl (by omega), Option.bind_some, ast_k n rfl (by omega), Option.bind_some]
theorem y_takeOut (h : KC c X) {n : Nat} (hn : n < nn c.S) (hb : bu c.S n ≠ -1) {S' : Nat → Int} (he : ∀ q, q < 152 → S' q = updI c.S (32 + 6 * n + 5) (-1) q) (hW' : WF S') : ∃ X', fX8_takeOut X (ic n) = some (.inl (ic (bu c.S n)), X') ∧ KC (nx c S') X' := by
  have h20 := h.1.1.n
  have hbr := h.1.1.bu hn
  refine y_set h (k := 32 + 6 * n + 5) (a := 7) (j := n) (v := -1) (by unfold Loc; omega) (Or.inr (Or.inr (Or.inr (Or.inr ⟨n, rfl, by omega, by omega⟩)))) (fun X1 f1 e1 => ?_) he hW'
  have e7 : X1 7 n = ic (bu c.S n) := by
    rw [f1 7 (by omega) (by omega)]
    exact (h.2.1.1.2.2.2.2.2 n (by omega)).2.2.2.2.2
  unfold fX8_takeOut
  rw [x_checkStep h.2 h.1.1 (by omega), if_pos (by omega), bx_l, x_bu h.2.1.1 h.1.1 (by omega), Option.bind_some, show (-1 : Int32) = ic (-1) from rfl, if_neg (by rw [ic_eq (by omega)]; exact hb), e1, bd_some, ast_k n rfl (by omega), Option.bind_some, e7]
theorem y_remove (h : KC c X) {n : Nat} (hn : n < nn c.S) {S' : Nat → Int} (he : ∀ q, q < 152 → S' q = remS c.S n q) (hW' : WF S') : ∃ X', fX8_remove X (ic n) = some (.inl (ic ((nn c.S : Int) - 1)), X') ∧ KC (nx c S') X' := by
  have hW := h.1.1
  have h20 := hW.n
  refine y_op h (wf_rem hW hn) he hW' (fun X1 x1 e1 => ?_)
  obtain ⟨X2, e2, f2, x2⟩ := x_takeAway x1 hW hn
  refine ⟨X2, ?_, f2, x2⟩
  unfold fX8_remove
  rw [x_checkStep h.2 hW (by omega), if_pos (by omega), bx_l, e1, bd_some, e2, bd_some, x_n x2 (wf_rem hW hn), remS_n hW hn, show ((nn c.S - 1 : Nat) : Int) = (nn c.S : Int) - 1 by omega]
theorem x_insert (h : KC c X) {p k x y z v : Int} (hp : -2147483648 ≤ p ∧ p < 2147483648) (hk : -2147483648 ≤ k ∧ k < 2147483648) (hx : -2147483648 ≤ x ∧ x < 2147483648) (hy : -2147483648 ≤ y ∧ y < 2147483648) (hz : -2147483648 ≤ z ∧ z < 2147483648) (hv : -2147483648 ≤ v ∧ v < 2147483648) : fX8_insert X (ic p) (ic k) (ic x) (ic y) (ic z) (ic v) = if (0 ≤ p ∧ p ≤ nn c.S) ∧ (0 ≤ x ∧ x ≤ 11) ∧ (0 ≤ y ∧ y ≤ 11) ∧ (0 ≤ z ∧ z ≤ 11) then (if (0 ≤ k ∧ k ≤ 6) ∧ -99 ≤ v ∧ v ≤ 99 then (if nn c.S = 20 then some (.inr 3, X) else bd (fX8_save X) fun _ μ17 => bd (fX6_putIn μ17 (ic p) (ic k) (ic x) (ic y) (ic z) (ic v)) fun _ μ19 => some (.inl (μ19 1 0), μ19)) else some (.inr 2, X)) else some (.inr 1, X) := by
  have hW := h.1.1
  have h20 := hW.n
  unfold fX8_insert fX8_insert_L38 fX8_insert_L72
  rw [x_n h.2.1.1 hW, x_isRegister hx, bd_some, b2_if, x_isRegister hy, bd_some, b2_if, x_isRegister hz, bd_some, b2_if, x_n h.2.1.1 hW]
  simp only [decide_eq_true_eq, show (-99 : Int32) = ic (-99) from rfl, show (0 : Int32) = ic 0 from rfl, show (6 : Int32) = ic 6 from rfl, show (99 : Int32) = ic 99 from rfl, show (20 : Int32) = ic 20 from rfl]
  simp (maxSteps := 2000000) (disch := omega) only [ic_neg, ic_lt, ic_le]
  repeat' split
  all_goals first | (exfalso; omega) | rfl
theorem y_insert (h : KC c X) {n : Nat} {k x y z v : Int} (hn : n ≤ nn c.S) (h19 : nn c.S < 20) (hk : 0 ≤ k ∧ k ≤ 6) (hx : 0 ≤ x ∧ x ≤ 11) (hy : 0 ≤ y ∧ y ≤ 11) (hz : 0 ≤ z ∧ z ≤ 11) (hv : -99 ≤ v ∧ v ≤ 99) {S' : Nat → Int} (he : ∀ q, q < 152 → S' q = insS c.S n (tl5 k x y z v) q) (hW' : WF S') : ∃ X', fX8_insert X (ic n) (ic k) (ic x) (ic y) (ic z) (ic v) = some (.inl (ic ((nn c.S : Int) + 1)), X') ∧ KC (nx c S') X' := by
  have hW := h.1.1
  have h20 := hW.n
  have hWi := wf_ins hW hn h19 (ck_tl5 hk hx hy hz hv)
  refine y_op h hWi he hW' (fun X1 x1 e1 => ?_)
  obtain ⟨X2, e2, f2, x2⟩ := x_putIn x1 hW (p := n) hn h19 (tl5 k x y z v) rfl
  refine ⟨X2, ?_, f2, x2⟩
  rw [x_insert h (by omega) (by omega) (by omega) (by omega) (by omega) (by omega), if_pos ⟨by omega, hx, hy, hz⟩, if_pos ⟨hk, hv⟩, if_neg (by omega), e1, bd_some, show fX6_putIn X1 (ic n) (ic k) (ic x) (ic y) (ic z) (ic v) = some ((), X2) from e2, bd_some, x_n x2 hWi, insS_n hW]
  rfl
theorem y_exchange (h : KC c X) {n m : Nat} (hn : n < nn c.S) (hm : m < nn c.S) {S' : Nat → Int} (he : ∀ q, q < 152 → S' q = swpS c.S n m q) (hW' : WF S') : ∃ X', fX8_exchange X (ic n) (ic m) = some (.inl (ic (nearT S' (min n m) (max n m))), X') ∧ KC (nx c S') X' := by
  have hW := h.1.1
  have h20 := hW.n
  have hWs := wf_swp hW (a := n) (b := m) hn hm
  have hnn : nn S' = nn c.S := by
    unfold nn
    rw [he 0 (by omega), swpS_l (by omega)]
  obtain ⟨X1, e1, f1, g1, a1, b1, H1⟩ := x_save h.2.1.1 hW h.2.2.1
  have x1 : XS 1 c.S X1 := h.2.1.1.of fun k hk => f1 _ (by omega) (by omega)
  obtain ⟨X2, e2, f2, x2⟩ := x_swapSteps x1 hW (a := n) (b := m) hn hm
  have f2' : ∀ a, a = 0 ∨ 8 ≤ a → X2 a = X1 a := fun a ha => f2 a (by simp only [List.mem_cons, List.not_mem_nil, or_false]; omega)
  have hX2 : XC (nx c S') X2 := xc_state h.2 (xs_cg x2 hWs he) hW' (by rw [f2' 0 (by omega), a1]) (by rw [f2' 0 (by omega), b1]) (fun k h1 h2 => by rw [f2' 0 (by omega), g1 k h1 h2]) (fun b hb => by rw [f2' b (by omega), f1 b (by omega) (by omega)]) (H1.of fun b h1 h2 => f2' b (by omega))
  obtain ⟨X3, e3, q3, k3, _, f3, _⟩ := x8_freshLinks hX2.1
  refine ⟨X3, ?_, gc_nx h.1 h.2.2.1.2.1 hW', hX2.fx q3 f3⟩
  unfold fX8_exchange
  rw [x_checkStep h.2 hW (by omega), if_pos (by omega), bx_l, x_checkStep h.2 hW (by omega), if_pos (by omega), bx_l, e1, bd_some, e2, bd_some, e3, bd_some, jmin_ic (by omega), jmax_ic (by omega), show min (n : Int) m = ((min n m : Nat) : Int) by omega, show max (n : Int) m = ((max n m : Nat) : Int) by omega]
  have hk := x_nearOf (i := min n m) (j := max n m) k3.1 hW' (by show _ < nn S'; omega) (by show _ < nn S'; omega)
  rw [show fX2_nearOf X3 (ic ((min n m : Nat) : Int)) (ic ((max n m : Nat) : Int)) = _ from hk, bd_some]
  rfl
theorem y_pack (h : KC c X) {S' : Nat → Int} (he : ∀ q, q < 152 → S' q = pckS c.S (pkS c.S) q) (hW' : WF S') : ∃ X', fX8_pack X = some (ic (mxm (pkS c.S) (nn c.S) + 1), X') ∧ KC (nx c S') X' := by
  have hW := h.1.1
  have h20 := hW.n
  obtain ⟨X1, e1, q1, k1, _, f1, _⟩ := x8_freshLinks h.2.1
  obtain ⟨X2, e2, f2, p2⟩ := x_makePlan hW q1.1 k1
  have hX2 : XC c X2 := h.2.fx (q1.of f2 (by decide)) (f1.trans (Fx.of f2 (by decide)))
  have hrg := pkS_rg hW
  have hWp := wf_pck hW (p := pkS c.S) (fun k hk => by have := hrg k hk; omega)
  obtain ⟨X3, s1, g1, g2, g3, g4, H3⟩ := x_save hX2.1.1 hW hX2.2.1
  have x3 : XS 1 c.S X3 := hX2.1.1.of fun k hk => g1 _ (by omega) (by omega)
  have p3 : PL c.S (pkS c.S) X3 := fun k hk => by rw [g1 84 (by omega) (by omega)]; exact p2 k hk
  have ea : acp 20 20 X3 84 (ic 0) 7 (ic 0) (ic (nn c.S)) = some (ms X3 7 (va_cpy (X3 84) (X3 7) 0 0 (nn c.S))) := acp_ic (sp := 0) (dp := 0) (n := nn c.S) (by omega)
  have f6 : Fr [7] X3 (ms X3 7 (va_cpy (X3 84) (X3 7) 0 0 (nn c.S))) := Fr_ms (by decide)
  have g6 : ∀ k, k < nn c.S → ms X3 7 (va_cpy (X3 84) (X3 7) 0 0 (nn c.S)) 7 k = ic (pkS c.S k) := fun k hk => by
    rw [ms_eq']
    unfold va_cpy
    rw [if_pos (by omega), show 0 + (k - 0) = k by omega]
    exact p3 k hk
  have x6 : XS 1 (pckS c.S (pkS c.S)) (ms X3 7 (va_cpy (X3 84) (X3 7) 0 0 (nn c.S))) := by
    obtain ⟨y1, y2, y3, y4, y5, y6⟩ := x3
    refine ⟨?_, ?_, fun u hu => ?_, fun u hu => ?_, fun k hk => ?_, fun i hi => ?_⟩
    · rw [f6 1 (by decide), y1, pckS_l (by omega)]
    · rw [f6 1 (by decide), y2, pckS_l (by omega)]
    · rw [f6 9 (by decide), y3 u hu, pckS_l (by omega)]
    · rw [f6 10 (by decide), y4 u hu, pckS_l (by omega)]
    · rw [f6 8 (by decide), y5 k hk, pckS_l (by omega)]
    · rw [pckS_n] at hi
      obtain ⟨z1, z2, z3, z4, z5, z6⟩ := y6 i hi
      unfold kd tg on tw nb bu at *
      rw [pckS_f0, pckS_f (by omega), pckS_f (by omega), pckS_f (by omega), pckS_f (by omega), pckS_f (by omega), if_neg (by omega), if_neg (by omega), if_neg (by omega), if_neg (by omega), if_pos ⟨rfl, hi⟩]
      exact ⟨by rw [f6 2 (by decide)]; exact z1, by rw [f6 3 (by decide)]; exact z2, by rw [f6 4 (by decide)]; exact z3, by rw [f6 5 (by decide)]; exact z4, by rw [f6 6 (by decide)]; exact z5, g6 i hi⟩
  have f6' : ∀ a, a ≠ 7 → ms X3 7 (va_cpy (X3 84) (X3 7) 0 0 (nn c.S)) a = X3 a := fun a ha => f6 a (by simpa using ha)
  refine ⟨ms X3 7 (va_cpy (X3 84) (X3 7) 0 0 (nn c.S)), ?_, gc_nx h.1 h.2.2.1.2.1 hW', xc_state hX2 (xs_cg x6 hWp he) hW' (by rw [f6' 0 (by omega), g3]) (by rw [f6' 0 (by omega), g4]) (fun k h1 h2 => by rw [f6' 0 (by omega), g2 k h1 h2]) (fun b hb => by rw [f6' b (by omega), g1 b (by omega) (by omega)]) (H3.of fun b h1 h2 => f6' b (by omega))⟩
  unfold fX8_pack
  rw [e1, bd_some, e2, bd_some, s1, bd_some, x_n x3 hW, show (0 : Int32) = ic 0 from rfl, ea, Option.bind_some, x_n x6 hWp, pckS_n]
  have hs := x_spanOf hW (a := 7) (p := pkS c.S) g6 (fun k hk => by have := hrg k hk; omega)
  rw [hs, bd_some]
theorem y_undo (h : KC c X) (hm : 0 < c.m) : ∃ X', fX8_undo X = some (.inl (ic ((c.m : Int) - 1)), X') ∧ KC (cfS c (c.HS (c.m - 1)) c.HS (c.m - 1)) X' := by
  have hm5 := h.2.2.1.2.1
  have hWm := h.1.2.1 (c.m - 1) (by omega)
  obtain ⟨X1, e1, f1, x1, H1⟩ := x_popInto h.2.2.1 (by omega) hWm
  obtain ⟨X2, e2, f2, g2, a2, b2'⟩ := x_spoil (μ := X1)
  have H2 : XH c.HS (c.m - 1) X2 := H1.of fun a h1 h2 => f2 a (by omega)
  refine ⟨X2, ?_, ⟨hWm, fun r hr => h.1.2.1 r ?_, h.1.2.2.1, h.1.2.2.2⟩, xc_state h.2 (x1.of fun k hk => f2 _ (by omega)) hWm a2 b2' (fun k h1 h2 => by rw [g2 k h1 h2, f1 0 (by omega) (by omega)]) (fun a ha => by rw [f2 a (by omega), f1 a (by omega) (by omega)]) H2⟩
  · unfold fX8_undo
    rw [h.2.2.1.1, if_neg (by rw [show (0 : Int32) = ic 0 from rfl, ic_eq (by omega)]; omega), e1, bd_some, e2, bd_some, H2.1, show ((c.m - 1 : Nat) : Int) = (c.m : Int) - 1 by omega]
  · have hr' : r < c.m - 1 := hr
    omega
theorem n_undo (h : KC c X) (hm : c.m = 0) : QX c 3 (fX8_undo X) := by
  refine y_x h ?_
  unfold fX8_undo
  rw [h.2.2.1.1, hm, if_pos (by rfl)]
def kpC (c : Cf) : Cf := (c.S, c.HS, c.m, true, c.S, c.t, c.L)
theorem y_keep (h : KC c X) : ∃ X', fX8_keep X = some (ic (nn c.S), X') ∧ KC (kpC c) X' := by
  have hW := h.1.1
  obtain ⟨X1, e1, f1, x1⟩ := x_copyFrom (μ := X) (a := 63) (b := 1) (by omega)
  have x2 := x1 c.S h.2.1.1 hW
  have hX1 : XS 1 c.S X1 := h.2.1.1.of fun k hk => f1 _ (by omega)
  refine ⟨mu X1 0 3 (ic 1), ?_, ⟨hW, h.1.2.1, fun _ => hW, h.1.2.2.2⟩, ?_, ?_, mus, fun _ => x2.of fun k hk => mu_ne (by omega), ?_, fun i hi => ?_⟩
  · unfold fX8_keep
    rw [e1, bd_some]
    simp only [pt, Option.bind_some]
    rw [mu_ne (by decide), x_n hX1 hW]
    rfl
  · exact cq_of3 h.2.1 (fun a h1 h2 => by rw [mu_ne (by omega), f1 a (by omega)]) (by rw [muk (by decide), f1 0 (by omega)]) (by rw [muk (by decide), f1 0 (by omega)])
  · exact h.2.2.1.of fun a h1 h2 => by rw [mu_ne (by omega), f1 a (by omega)]
  · rw [mu_ne (by decide), f1 73 (by omega)]
    exact h.2.2.2.2.2.1
  · rw [mu_ne (by decide), f1 74 (by omega)]
    exact h.2.2.2.2.2.2 i hi
theorem y_goBack (h : KC c X) (hk : c.hk = true) : ∃ X', fX8_goBack X = some (.inl (ic (nn c.SK)), X') ∧ KC (nx c c.SK) X' := by
  have hW := h.1.1
  have hWK := h.1.2.2.1 hk
  obtain ⟨X1, e1, f1, g1, a1, b1, H1⟩ := x_save h.2.1.1 hW h.2.2.1
  obtain ⟨X2, e2, f2, x2⟩ := x_copyFrom (μ := X1) (a := 1) (b := 63) (by omega)
  have K1 : XS 63 c.SK X1 := (h.2.2.2.2.1 hk).of fun k hk => f1 _ (by omega) (by omega)
  have X2S := x2 c.SK K1 hWK
  refine ⟨X2, ?_, gc_nx h.1 h.2.2.1.2.1 hWK, xc_state h.2 X2S hWK (by rw [f2 0 (by omega), a1]) (by rw [f2 0 (by omega), b1]) (fun k h1 h2 => by rw [f2 0 (by omega), g1 k h1 h2]) (fun a ha => by rw [f2 a (by omega), f1 a (by omega) (by omega)]) (H1.of fun a h1 h2 => f2 a (by omega))⟩
  unfold fX8_goBack
  rw [h.2.2.2.1, hk, if_neg (by decide), e1, bd_some, e2, bd_some, x_n X2S hWK]
theorem n_goBack (h : KC c X) (hk : c.hk = false) : QX c 3 (fX8_goBack X) := by
  refine y_x h ?_
  unfold fX8_goBack
  rw [h.2.2.2.1, hk, if_pos (by rfl)]
/-! refused -/
theorem n_insert1 (h : KC c X) {p k x y z v : Int} (hp : -2147483648 ≤ p ∧ p < 2147483648) (hk : -2147483648 ≤ k ∧ k < 2147483648) (hx : -2147483648 ≤ x ∧ x < 2147483648) (hy : -2147483648 ≤ y ∧ y < 2147483648) (hz : -2147483648 ≤ z ∧ z < 2147483648) (hv : -2147483648 ≤ v ∧ v < 2147483648) (hn : ¬ ((0 ≤ p ∧ p ≤ nn c.S) ∧ (0 ≤ x ∧ x ≤ 11) ∧ (0 ≤ y ∧ y ≤ 11) ∧ (0 ≤ z ∧ z ≤ 11))) : QX c 1 (fX8_insert X (ic p) (ic k) (ic x) (ic y) (ic z) (ic v)) := by
  refine y_x h ?_
  rw [x_insert h hp hk hx hy hz hv, if_neg hn]
theorem n_insert2 (h : KC c X) {p k x y z v : Int} (hp : 0 ≤ p ∧ p ≤ nn c.S) (hk : -2147483648 ≤ k ∧ k < 2147483648) (hx : 0 ≤ x ∧ x ≤ 11) (hy : 0 ≤ y ∧ y ≤ 11) (hz : 0 ≤ z ∧ z ≤ 11) (hv : -2147483648 ≤ v ∧ v < 2147483648) (hn : ¬ ((0 ≤ k ∧ k ≤ 6) ∧ -99 ≤ v ∧ v ≤ 99)) : QX c 2 (fX8_insert X (ic p) (ic k) (ic x) (ic y) (ic z) (ic v)) := by
  have h20 := h.1.1.n
  refine y_x h ?_
  rw [x_insert h (by omega) hk (by omega) (by omega) (by omega) hv, if_pos ⟨hp, hx, hy, hz⟩, if_neg hn]
theorem n_insert3 (h : KC c X) {p k x y z v : Int} (hp : 0 ≤ p ∧ p ≤ nn c.S) (hk : 0 ≤ k ∧ k ≤ 6) (hx : 0 ≤ x ∧ x ≤ 11) (hy : 0 ≤ y ∧ y ≤ 11) (hz : 0 ≤ z ∧ z ≤ 11) (hv : -99 ≤ v ∧ v ≤ 99) (hn : nn c.S = 20) : QX c 3 (fX8_insert X (ic p) (ic k) (ic x) (ic y) (ic z) (ic v)) := by
  have h20 := h.1.1.n
  refine y_x h ?_
  rw [x_insert h (by omega) (by omega) (by omega) (by omega) (by omega) (by omega), if_pos ⟨hp, hx, hy, hz⟩, if_pos ⟨hk, hv⟩, if_pos hn]
theorem n_remove {u : Int} (hu : -2147483648 ≤ u ∧ u < 2147483648) (hn : ¬ (0 ≤ u ∧ u ≤ (nn c.S : Int) - 1)) (h : KC c X) : QX c 1 (fX8_remove X (ic u)) := y_noStep h hu hn rfl
theorem n_exchange {u : Int} (hu : -2147483648 ≤ u ∧ u < 2147483648) (hn : ¬ (0 ≤ u ∧ u ≤ (nn c.S : Int) - 1)) (h : KC c X) (b : Int32) : QX c 1 (fX8_exchange X (ic u) b) := y_noStep h hu hn rfl
theorem n_exchange2 {u : Int} (hu : -2147483648 ≤ u ∧ u < 2147483648) (hn : ¬ (0 ≤ u ∧ u ≤ (nn c.S : Int) - 1)) (h : KC c X) {i : Nat} (hi : i < nn c.S) : QX c 1 (fX8_exchange X (ic i) (ic u)) := by
  have h20 := h.1.1.n
  refine y_x h ?_
  unfold fX8_exchange
  rw [x_checkStep h.2 h.1.1 (by omega), if_pos (by omega), bx_l, x_checkStep h.2 h.1.1 hu, if_neg hn, bx_r]
theorem n_lay {u : Int} (hu : -2147483648 ≤ u ∧ u < 2147483648) (hn : ¬ (0 ≤ u ∧ u ≤ (nn c.S : Int) - 1)) (h : KC c X) (b : Int32) : QX c 1 (fX8_lay X (ic u) b) := y_noStep h hu hn rfl
theorem n_lay2 {u : Int} (hu : -2147483648 ≤ u ∧ u < 2147483648) (hn : ¬ (0 ≤ u ∧ u ≤ 199)) (h : KC c X) {i : Nat} (hi : i < nn c.S) : QX c 2 (fX8_lay X (ic i) (ic u)) := by
  have h20 := h.1.1.n
  refine y_x h ?_
  unfold fX8_lay
  rw [x_checkStep h.2 h.1.1 (by omega), if_pos (by omega), bx_l, x_checkBundle hu, if_neg hn, bx_r]
theorem n_takeOut {u : Int} (hu : -2147483648 ≤ u ∧ u < 2147483648) (hn : ¬ (0 ≤ u ∧ u ≤ (nn c.S : Int) - 1)) (h : KC c X) : QX c 1 (fX8_takeOut X (ic u)) := y_noStep h hu hn rfl
theorem n_takeOut3 (h : KC c X) {i : Nat} (hi : i < nn c.S) (hb : bu c.S i = -1) : QX c 3 (fX8_takeOut X (ic i)) := by
  have h20 := h.1.1.n
  refine y_x h ?_
  unfold fX8_takeOut
  rw [x_checkStep h.2 h.1.1 (by omega), if_pos (by omega), bx_l, x_bu h.2.1.1 h.1.1 hi, Option.bind_some, show (-1 : Int32) = ic (-1) from rfl, if_pos (by rw [hb])]
theorem n_setSlots {u : Int} (hu : -2147483648 ≤ u ∧ u < 2147483648) (hn : ¬ (0 ≤ u ∧ u ≤ 2)) (h : KC c X) (b : Int32) : QX c 1 (fX8_setSlots X (ic u) b) := by
  refine y_x h ?_
  unfold fX8_setSlots
  rw [x_checkUnit hu, if_neg hn, bx_r]
theorem n_setSlots2 {u : Int} (hu : -2147483648 ≤ u ∧ u < 2147483648) (hn : ¬ (1 ≤ u ∧ u ≤ 4)) (h : KC c X) {v : Int} (hv : 0 ≤ v ∧ v ≤ 2) : QX c 2 (fX8_setSlots X (ic v) (ic u)) := by
  refine y_x h ?_
  unfold fX8_setSlots fX8_setSlots_L14
  rw [x_checkUnit (by omega), if_pos hv, bx_l, show (1 : Int32) = ic 1 from rfl, show (4 : Int32) = ic 4 from rfl]
  by_cases h1 : u < 1
  · rw [if_pos (by rw [ic_lt (by omega)]; omega)]
  · rw [if_neg (by rw [ic_lt (by omega)]; omega), if_neg (by rw [ic_le (by omega)]; omega)]
theorem n_setLatency {u : Int} (hu : -2147483648 ≤ u ∧ u < 2147483648) (hn : ¬ (0 ≤ u ∧ u ≤ 2)) (h : KC c X) (b : Int32) : QX c 1 (fX8_setLatency X (ic u) b) := by
  refine y_x h ?_
  unfold fX8_setLatency
  rw [x_checkUnit hu, if_neg hn, bx_r]
theorem n_setLatency2 {u : Int} (hu : -2147483648 ≤ u ∧ u < 2147483648) (hn : ¬ (1 ≤ u ∧ u ≤ 6)) (h : KC c X) {v : Int} (hv : 0 ≤ v ∧ v ≤ 2) : QX c 2 (fX8_setLatency X (ic v) (ic u)) := by
  refine y_x h ?_
  unfold fX8_setLatency fX8_setLatency_L15
  rw [x_checkUnit (by omega), if_pos hv, bx_l, show (1 : Int32) = ic 1 from rfl, show (6 : Int32) = ic 6 from rfl]
  by_cases h1 : u < 1
  · rw [if_pos (by rw [ic_lt (by omega)]; omega)]
  · rw [if_neg (by rw [ic_lt (by omega)]; omega), if_neg (by rw [ic_le (by omega)]; omega)]
theorem n_setDelay {u : Int} (hu : -2147483648 ≤ u ∧ u < 2147483648) (hn : ¬ (0 ≤ u ∧ u ≤ 3)) (h : KC c X) : QX c 2 (fX8_setDelay X (ic u)) := by
  refine y_x h ?_
  unfold fX8_setDelay fX8_setDelay_L9
  rw [show (0 : Int32) = ic 0 from rfl, show (3 : Int32) = ic 3 from rfl]
  by_cases h1 : u < 0
  · rw [if_pos (by rw [ic_lt (by omega)]; omega)]
  · rw [if_neg (by rw [ic_lt (by omega)]; omega), if_neg (by rw [ic_le (by omega)]; omega)]
theorem n_append {u : Int} (hu : -2147483648 ≤ u ∧ u < 2147483648) (hn : ¬ (33 ≤ u ∧ u ≤ 126)) (h : KC c X) : QX c 2 (fX8_append X (ic u)) := by
  refine y_x h ?_
  unfold fX8_append fX8_append_L12
  rw [show (33 : Int32) = ic 33 from rfl, show (126 : Int32) = ic 126 from rfl]
  by_cases h1 : u < 33
  · rw [if_pos (by rw [ic_lt (by omega)]; omega)]
  · rw [if_neg (by rw [ic_lt (by omega)]; omega), if_neg (by rw [ic_le (by omega)]; omega)]
end YA
