/-! THE LAW'S call, far, refused, seen: what they answer -/
def clo (o : Option ((Int32 ⊕ Nat) × Mem)) : Option (Int32 × Mem) := bc o (fun r μ1 => some (r, μ1)) (fun k μ1 => some (cxk k, μ1))
theorem clo_t {c : Cf} {v : Int32} {o : Option ((Int32 ⊕ Nat) × Mem)} (h : QT c v o) : QI c v (clo o) := by
  obtain ⟨X', e, h'⟩ := h
  exact ⟨X', by rw [e]; rfl, h'⟩
theorem clo_x {c : Cf} {k : Nat} {o : Option ((Int32 ⊕ Nat) × Mem)} (h : QX c k o) : QI c (cxk k) (clo o) := by
  obtain ⟨X', e, h'⟩ := h
  exact ⟨X', by rw [e]; rfl, h'⟩
theorem clo_a {v : Int32} {X' : Mem} {o : Option ((Int32 ⊕ Nat) × Mem)} (h : o = some (.inl v, X')) : clo o = some (v, X') := by
  rw [h]
  rfl
theorem bz_l {β γ : Type} (r : β) (μ : Mem) (f : β → Mem → Option γ) : bz (some (.inl r, μ)) f = f r μ := rfl
theorem bx_id (o : Option ((Int32 ⊕ Nat) × Mem)) : (bx o fun r μ => some (.inl r, μ)) = o := by
  match o with
  | none => rfl
  | some (.inl r, μ) => rfl
  | some (.inr k, μ) => rfl
section CALLS
variable {X : Mem} {a b c d : Int32}
theorem call_0 : fL_call X (0 : Int32) a b c d = clo (fX8_insert X a b (c &&& (15 : Int32)) ((c >>> ((4 : Int32) &&& 31)) &&& (15 : Int32)) (c >>> ((8 : Int32) &&& 31)) d) := by
  unfold fL_call
  rw [if_neg (by decide)]
  unfold fL_act
  rw [if_pos rfl, bx_id]
  rfl
theorem call_1 : fL_call X (1 : Int32) a b c d = clo (fX8_remove X a) := by
  unfold fL_call
  rw [if_neg (by decide)]
  unfold fL_act
  rw [if_neg (by decide), if_pos rfl, bx_id]
  rfl
theorem call_2 : fL_call X (2 : Int32) a b c d = clo (fX8_exchange X a b) := by
  unfold fL_call
  rw [if_neg (by decide)]
  unfold fL_act
  rw [if_neg (by decide), if_neg (by decide), if_pos rfl, bx_id]
  rfl
theorem call_3 : fL_call X (3 : Int32) a b c d = clo (fX8_setSlots X a b) := by
  unfold fL_call
  rw [if_neg (by decide)]
  unfold fL_act
  rw [if_neg (by decide), if_neg (by decide), if_neg (by decide), if_pos rfl, bx_id]
  rfl
theorem call_4 : fL_call X (4 : Int32) a b c d = clo (fX8_setLatency X a b) := by
  unfold fL_call
  rw [if_neg (by decide)]
  unfold fL_act
  rw [if_neg (by decide), if_neg (by decide), if_neg (by decide), if_neg (by decide), if_pos rfl, bx_id]
  rfl
theorem call_5 : fL_call X (5 : Int32) a b c d = clo (fX8_setDelay X a) := by
  unfold fL_call
  rw [if_neg (by decide)]
  unfold fL_act
  rw [if_neg (by decide), if_neg (by decide), if_neg (by decide), if_neg (by decide), if_neg (by decide), if_pos rfl, bx_id]
  rfl
theorem call_6 : fL_call X (6 : Int32) a b c d = clo (fX8_lay X a b) := by
  unfold fL_call
  rw [if_neg (by decide)]
  unfold fL_act
  rw [if_neg (by decide), if_neg (by decide), if_neg (by decide), if_neg (by decide), if_neg (by decide), if_neg (by decide), if_pos rfl, bx_id]
  rfl
theorem call_7 : fL_call X (7 : Int32) a b c d = clo (fX8_takeOut X a) := by
  unfold fL_call
  rw [if_neg (by decide)]
  unfold fL_act
  rw [if_neg (by decide), if_neg (by decide), if_neg (by decide), if_neg (by decide), if_neg (by decide), if_neg (by decide), if_neg (by decide), if_pos rfl, bx_id]
  rfl
theorem call_8 : fL_call X (8 : Int32) a b c d = clo (fX8_append X a) := by
  unfold fL_call
  rw [if_neg (by decide)]
  unfold fL_act
  rw [if_neg (by decide), if_neg (by decide), if_neg (by decide), if_neg (by decide), if_neg (by decide), if_neg (by decide), if_neg (by decide), if_neg (by decide), if_pos rfl, bx_id]
  rfl
theorem call_9 : fL_call X (9 : Int32) a b c d = clo (fX8_addAll X) := by
  unfold fL_call
  rw [if_neg (by decide)]
  unfold fL_act
  rw [if_neg (by decide), if_neg (by decide), if_neg (by decide), if_neg (by decide), if_neg (by decide), if_neg (by decide), if_neg (by decide), if_neg (by decide), if_neg (by decide), if_pos rfl, bx_id]
  rfl
theorem call_10 : fL_call X (10 : Int32) a b c d = clo (fX8_undo X) := by
  unfold fL_call
  rw [if_neg (by decide)]
  unfold fL_act
  rw [if_neg (by decide), if_neg (by decide), if_neg (by decide), if_neg (by decide), if_neg (by decide), if_neg (by decide), if_neg (by decide), if_neg (by decide), if_neg (by decide), if_neg (by decide), if_pos rfl, bx_id]
  rfl
theorem call_11 : fL_call X (11 : Int32) a b c d = clo (fX8_goBack X) := by
  unfold fL_call
  rw [if_neg (by decide)]
  unfold fL_act
  rw [if_neg (by decide), if_neg (by decide), if_neg (by decide), if_neg (by decide), if_neg (by decide), if_neg (by decide), if_neg (by decide), if_neg (by decide), if_neg (by decide), if_neg (by decide), if_neg (by decide), bx_id]
  rfl
theorem call_12 : fL_call X (12 : Int32) a b c d = clo (fX8_kindOf X a) := by
  unfold fL_call
  rw [if_pos (by decide), if_neg (by decide)]
  unfold fL_step
  rw [if_pos rfl, bx_id]
  rfl
theorem call_13 : fL_call X (13 : Int32) a b c d = clo (fX8_readBy X a) := by
  unfold fL_call
  rw [if_pos (by decide), if_neg (by decide)]
  unfold fL_step
  rw [if_neg (by decide), if_pos rfl, bx_id]
  rfl
theorem call_14 : fL_call X (14 : Int32) a b c d = clo (fX8_writtenBy X a) := by
  unfold fL_call
  rw [if_pos (by decide), if_neg (by decide)]
  unfold fL_step
  rw [if_neg (by decide), if_neg (by decide), if_pos rfl, bx_id]
  rfl
theorem call_15 : fL_call X (15 : Int32) a b c d = clo (fX8_latencyOf X a) := by
  unfold fL_call
  rw [if_pos (by decide), if_neg (by decide)]
  unfold fL_step
  rw [if_neg (by decide), if_neg (by decide), if_neg (by decide), if_pos rfl, bx_id]
  rfl
theorem call_16 : fL_call X (16 : Int32) a b c d = clo (fX8_heightOf X a) := by
  unfold fL_call
  rw [if_pos (by decide), if_neg (by decide)]
  unfold fL_step
  rw [if_neg (by decide), if_neg (by decide), if_neg (by decide), if_neg (by decide), if_pos rfl, bx_id]
  rfl
theorem call_17 : fL_call X (17 : Int32) a b c d = clo (fX8_earliestOf X a) := by
  unfold fL_call
  rw [if_pos (by decide), if_neg (by decide)]
  unfold fL_step
  rw [if_neg (by decide), if_neg (by decide), if_neg (by decide), if_neg (by decide), if_neg (by decide), if_pos rfl, bx_id]
  rfl
theorem call_18 : fL_call X (18 : Int32) a b c d = clo (fX8_bundleOf X a) := by
  unfold fL_call
  rw [if_pos (by decide), if_neg (by decide)]
  unfold fL_step
  rw [if_neg (by decide), if_neg (by decide), if_neg (by decide), if_neg (by decide), if_neg (by decide), if_neg (by decide), if_pos rfl, bx_id]
  rfl
theorem call_19 : fL_call X (19 : Int32) a b c d = clo (fX8_loopBundleOf X a) := by
  unfold fL_call
  rw [if_pos (by decide), if_neg (by decide)]
  unfold fL_step
  rw [if_neg (by decide), if_neg (by decide), if_neg (by decide), if_neg (by decide), if_neg (by decide), if_neg (by decide), if_neg (by decide), if_pos rfl, bx_id]
  rfl
theorem call_20 : fL_call X (20 : Int32) a b c d = clo (fX8_separation X a b) := by
  unfold fL_call
  rw [if_pos (by decide), if_neg (by decide)]
  unfold fL_step
  rw [if_neg (by decide), if_neg (by decide), if_neg (by decide), if_neg (by decide), if_neg (by decide), if_neg (by decide), if_neg (by decide), if_neg (by decide), if_pos rfl, bx_id]
  rfl
theorem call_21 : fL_call X (21 : Int32) a b c d = clo (fX8_carried X a b) := by
  unfold fL_call
  rw [if_pos (by decide), if_neg (by decide)]
  unfold fL_step
  rw [if_neg (by decide), if_neg (by decide), if_neg (by decide), if_neg (by decide), if_neg (by decide), if_neg (by decide), if_neg (by decide), if_neg (by decide), if_neg (by decide), if_pos rfl, bx_id]
  rfl
theorem call_22 : fL_call X (22 : Int32) a b c d = clo (fX8_registerInOrder X a) := by
  unfold fL_call
  rw [if_pos (by decide), if_neg (by decide)]
  unfold fL_step
  rw [if_neg (by decide), if_neg (by decide), if_neg (by decide), if_neg (by decide), if_neg (by decide), if_neg (by decide), if_neg (by decide), if_neg (by decide), if_neg (by decide), if_neg (by decide), if_pos rfl, bx_id]
  rfl
theorem call_23 : fL_call X (23 : Int32) a b c d = clo (fX8_registerInBundles X a) := by
  unfold fL_call
  rw [if_pos (by decide), if_neg (by decide)]
  unfold fL_step
  rw [if_neg (by decide), if_neg (by decide), if_neg (by decide), if_neg (by decide), if_neg (by decide), if_neg (by decide), if_neg (by decide), if_neg (by decide), if_neg (by decide), if_neg (by decide), if_neg (by decide), if_pos rfl, bx_id]
  rfl
theorem call_24 : fL_call X (24 : Int32) a b c d = clo (fX8_cellInOrder X a) := by
  unfold fL_call
  rw [if_pos (by decide), if_neg (by decide)]
  unfold fL_step
  rw [if_neg (by decide), if_neg (by decide), if_neg (by decide), if_neg (by decide), if_neg (by decide), if_neg (by decide), if_neg (by decide), if_neg (by decide), if_neg (by decide), if_neg (by decide), if_neg (by decide), if_neg (by decide), if_pos rfl, bx_id]
  rfl
theorem call_25 : fL_call X (25 : Int32) a b c d = clo (fX8_cellInBundles X a) := by
  unfold fL_call
  rw [if_pos (by decide), if_neg (by decide)]
  unfold fL_step
  rw [if_neg (by decide), if_neg (by decide), if_neg (by decide), if_neg (by decide), if_neg (by decide), if_neg (by decide), if_neg (by decide), if_neg (by decide), if_neg (by decide), if_neg (by decide), if_neg (by decide), if_neg (by decide), if_neg (by decide), bx_id]
  rfl
theorem call_26 : fL_call X (26 : Int32) a b c d = clo (fX8_registerAt X a b) := by
  unfold fL_call
  rw [if_pos (by decide), if_pos (by decide)]
  unfold fL_rest
  rw [if_pos rfl, bx_id]
  rfl
theorem call_27 : fL_call X (27 : Int32) a b c d = clo (fX8_registerInLoop X a b) := by
  unfold fL_call
  rw [if_pos (by decide), if_pos (by decide)]
  unfold fL_rest
  rw [if_neg (by decide), if_pos rfl, bx_id]
  rfl
theorem call_28 : fL_call X (28 : Int32) a b c d = clo (fX8_registerInRounds X a b) := by
  unfold fL_call
  rw [if_pos (by decide), if_pos (by decide)]
  unfold fL_rest
  rw [if_neg (by decide), if_neg (by decide), if_pos rfl, bx_id]
  rfl
theorem call_29 : fL_call X (29 : Int32) a b c d = clo (fX8_cellInLoop X a b) := by
  unfold fL_call
  rw [if_pos (by decide), if_pos (by decide)]
  unfold fL_rest
  rw [if_neg (by decide), if_neg (by decide), if_neg (by decide), if_pos rfl, bx_id]
  rfl
theorem call_30 : fL_call X (30 : Int32) a b c d = clo (fX8_stepsIn X a) := by
  unfold fL_call
  rw [if_pos (by decide), if_pos (by decide)]
  unfold fL_rest
  rw [if_neg (by decide), if_neg (by decide), if_neg (by decide), if_neg (by decide), if_pos rfl, bx_id]
  rfl
theorem call_31 : fL_call X (31 : Int32) a b c d = clo (fX8_loopBundles X a) := by
  unfold fL_call
  rw [if_pos (by decide), if_pos (by decide)]
  unfold fL_rest
  rw [if_neg (by decide), if_neg (by decide), if_neg (by decide), if_neg (by decide), if_neg (by decide), if_pos rfl, bx_id]
  rfl
theorem call_32 : fL_call X (32 : Int32) a b c d = clo (fX8_setRegister X a b) := by
  unfold fL_call
  rw [if_pos (by decide), if_pos (by decide)]
  unfold fL_rest
  rw [if_neg (by decide), if_neg (by decide), if_neg (by decide), if_neg (by decide), if_neg (by decide), if_neg (by decide), if_pos rfl, bx_id]
  rfl
theorem call_33 : fL_call X (33 : Int32) a b c d = clo (fX8_setCell X a b) := by
  unfold fL_call
  rw [if_pos (by decide), if_pos (by decide)]
  unfold fL_rest
  rw [if_neg (by decide), if_neg (by decide), if_neg (by decide), if_neg (by decide), if_neg (by decide), if_neg (by decide), if_neg (by decide), bx_id]
  rfl
end CALLS
/-! far -/
def fv (k : Nat) (lo hi : Int) : Int := if k = 0 then lo - 1 else if k = 1 then hi + 1 else if k = 2 then -2147483648 else 2147483647
theorem fv_rg (k : Nat) {lo hi : Int} (h : -2147483647 ≤ lo ∧ lo ≤ 2147483646) (h2 : -2147483648 ≤ hi ∧ hi ≤ 2147483646) : -2147483648 ≤ fv k lo hi ∧ fv k lo hi < 2147483648 := by
  unfold fv
  repeat' split
  all_goals omega
theorem fv_out (k : Nat) {lo hi : Int} (h : -2147483647 ≤ lo ∧ lo ≤ 2147483646) (h2 : -2147483648 ≤ hi ∧ hi ≤ 2147483646) : ¬ (lo ≤ fv k lo hi ∧ fv k lo hi ≤ hi) := by
  unfold fv
  repeat' split
  all_goals omega
theorem x_far {X : Mem} {k : Nat} (hk : k < 4) (lo hi : Int) : fL_far X (ic k) (ic lo) (ic hi) = some (ic (fv k lo hi), X) := by
  unfold fL_far fv
  rcases (show k = 0 ∨ k = 1 ∨ k = 2 ∨ k = 3 by omega) with rfl | rfl | rfl | rfl
  · rw [if_pos (by decide), if_pos rfl, show (1 : Int32) = ic 1 from rfl, ic_sub]
  · rw [if_neg (by decide), if_pos (by decide), if_neg (by decide), if_pos rfl, show (1 : Int32) = ic 1 from rfl, ic_add]
  · rw [if_neg (by decide), if_neg (by decide), if_pos (by decide), if_neg (by decide), if_neg (by decide), if_pos rfl]
    rfl
  · rw [if_neg (by decide), if_neg (by decide), if_neg (by decide), if_neg (by decide), if_neg (by decide), if_neg (by decide)]
    rfl
theorem lg_self (x : Int64) : lg_cmp x x = 0 := by
  unfold lg_cmp
  rw [if_neg (show ¬ x > x from Int64.lt_irrefl), if_pos rfl]
section STEPS
variable {β γ : Type} {P : Option (γ × Mem) → Prop} {c' : Cf} {v w0 : Int32} {A B : Mem → Option (γ × Mem)}
theorem st_bd {o : Option (β × Mem)} {v : β} {f : β → Mem → Option (γ × Mem)} (P : Option (γ × Mem) → Prop) (ho : ∃ X', o = some (v, X') ∧ KC c' X') (k : ∀ X', KC c' X' → P (f v X')) : P (bd o f) := by
  obtain ⟨X', e, h⟩ := ho
  rw [e, bd_some]
  exact k X' h
theorem st_bif {o : Option (Int32 × Mem)} (P : Option (γ × Mem) → Prop) (ho : ∃ X', o = some (v, X') ∧ KC c' X') (k : ∀ X', KC c' X' → P (A X')) : P (bd o fun r μ => if r = v then A μ else B μ) := by
  obtain ⟨X', e, h⟩ := ho
  rw [e, bd_some, if_pos rfl]
  exact k X' h
theorem st_bel {o : Option (Int32 × Mem)} (P : Option (γ × Mem) → Prop) (ho : ∃ X', o = some (v, X') ∧ KC c' X') (hv : ¬ v = w0) (k : ∀ X', KC c' X' → P (B X')) : P (bd o fun r μ => if r = w0 then A μ else B μ) := by
  obtain ⟨X', e, h⟩ := ho
  rw [e, bd_some, if_neg hv]
  exact k X' h
theorem st_zd {o : Option ((Int32 ⊕ Nat) × Mem)} {f : Int32 → Mem → Option (γ × Mem)} (P : Option (γ × Mem) → Prop) (ho : ∃ X', o = some (.inl v, X') ∧ KC c' X') (k : ∀ X', KC c' X' → P (f v X')) : P (bz o f) := by
  obtain ⟨X', e, h⟩ := ho
  rw [e, bz_l]
  exact k X' h
theorem st_zif {o : Option ((Int32 ⊕ Nat) × Mem)} (P : Option (γ × Mem) → Prop) (ho : ∃ X', o = some (.inl v, X') ∧ KC c' X') (k : ∀ X', KC c' X' → P (A X')) : P (bz o fun r μ => if r = v then A μ else B μ) := by
  obtain ⟨X', e, h⟩ := ho
  rw [e, bz_l, if_pos rfl]
  exact k X' h
theorem st_zel {o : Option ((Int32 ⊕ Nat) × Mem)} (P : Option (γ × Mem) → Prop) (ho : ∃ X', o = some (.inl v, X') ∧ KC c' X') (hv : ¬ v = w0) (k : ∀ X', KC c' X' → P (B X')) : P (bz o fun r μ => if r = w0 then A μ else B μ) := by
  obtain ⟨X', e, h⟩ := ho
  rw [e, bz_l, if_neg hv]
  exact k X' h
end STEPS
section REF
variable {c : Cf} {X : Mem}
theorem n_ins (h : KC c X) {a1 a2 a3 a4 a5 a6 : Int32} (hn : ∀ p x y z : Int, a1 = ic p → a3 = ic x → a4 = ic y → a5 = ic z → (-2147483648 ≤ p ∧ p < 2147483648) → (-2147483648 ≤ x ∧ x < 2147483648) → (-2147483648 ≤ y ∧ y < 2147483648) → (-2147483648 ≤ z ∧ z < 2147483648) → ¬ ((0 ≤ p ∧ p ≤ nn c.S) ∧ (0 ≤ x ∧ x ≤ 11) ∧ (0 ≤ y ∧ y ≤ 11) ∧ (0 ≤ z ∧ z ≤ 11))) : QX c 1 (fX8_insert X a1 a2 a3 a4 a5 a6) := by
  obtain ⟨p, hp, rp⟩ := i32_ex a1
  obtain ⟨k, hk, rk⟩ := i32_ex a2
  obtain ⟨x, hx, rx⟩ := i32_ex a3
  obtain ⟨y, hy, ry⟩ := i32_ex a4
  obtain ⟨z, hz, rz⟩ := i32_ex a5
  obtain ⟨v, hv, rv⟩ := i32_ex a6
  have h9 := hn p x y z hp hx hy hz rp rx ry rz
  rw [hp, hk, hx, hy, hz, hv]
  exact n_insert1 h rp rk rx ry rz rv h9
theorem ic_inj {a b : Int} (ha : -2147483648 ≤ a ∧ a < 2147483648) (hb : -2147483648 ≤ b ∧ b < 2147483648) (h : ic a = ic b) : a = b := by
  rwa [ic_eq ⟨ha, hb⟩] at h
theorem n_addAll0 (h : KC c X) (h0 : whole c.t c.L = false) : QX c 2 (fX8_addAll X) := y_x h (x_addAll0 h.1.2.2.2 h.2.2.2.2.2 h0)
/-- the calls that are refused, one by one -/
theorem ref_560 (h : KC c X) {k : Nat} (hk : k < 4) : QI c 1 (fL_refusesOne_L560 5 (ic k) (ic (fv k 0 ((nn c.S : Int) - 1))) (ic (fv k 0 11)) (27 : Int32) X) := by
  have h20 := h.1.1.n
  have rst := fv_rg k (lo := 0) (hi := (nn c.S : Int) - 1) (by omega) (by omega)
  have ost := fv_out k (lo := 0) (hi := (nn c.S : Int) - 1) (by omega) (by omega)
  have rnm := fv_rg k (lo := 0) (hi := 11) (by omega) (by omega)
  have onm := fv_out k (lo := 0) (hi := 11) (by omega) (by omega)
  generalize hst : fv k 0 ((nn c.S : Int) - 1) = st at *
  generalize hnm : fv k 0 11 = nm at *
  rw [fL_refusesOne_L560, if_neg (by decide)]
  refine st_bif (v := cxk 1) (QI c 1) (by rw [call_27]; exact clo_x (n_registerInLoop rnm onm h _)) (fun X1 h1 => ?_)
  refine st_bd (v := ic (fv k (0) (20))) (QI c 1) ⟨_, x_far hk (0) (20), h1⟩ (fun X2 h2 => ?_)
  refine st_bif (v := cxk 2) (QI c 1) (by rw [call_27]; exact clo_x (n_registerInLoop2 (fv_rg k (by omega) (by omega)) h2 (fv_out k (by omega) (by omega)) (v := 0) (by omega))) (fun X3 h3 => ?_)
  rw [show ((27 : Int32) + (1 : Int32)) = (28 : Int32) from rfl]
  rw [fL_refusesOne_L560, if_neg (by decide)]
  refine st_bif (v := cxk 1) (QI c 1) (by rw [call_28]; exact clo_x (n_registerInRounds rnm onm h3 _)) (fun X4 h4 => ?_)
  refine st_bd (v := ic (fv k (0) (20))) (QI c 1) ⟨_, x_far hk (0) (20), h4⟩ (fun X5 h5 => ?_)
  refine st_bif (v := cxk 2) (QI c 1) (by rw [call_28]; exact clo_x (n_registerInRounds2 (fv_rg k (by omega) (by omega)) h5 (fv_out k (by omega) (by omega)) (v := 0) (by omega))) (fun X6 h6 => ?_)
  rw [show ((28 : Int32) + (1 : Int32)) = (29 : Int32) from rfl]
  rw [fL_refusesOne_L560, if_neg (by decide)]
  refine st_bif (v := cxk 1) (QI c 1) (by rw [call_29]; exact clo_x (n_cellInLoop rnm onm h6 _)) (fun X7 h7 => ?_)
  refine st_bd (v := ic (fv k (0) (20))) (QI c 1) ⟨_, x_far hk (0) (20), h7⟩ (fun X8 h8 => ?_)
  refine st_bif (v := cxk 2) (QI c 1) (by rw [call_29]; exact clo_x (n_cellInLoop2 (fv_rg k (by omega) (by omega)) h8 (fv_out k (by omega) (by omega)) (v := 0) (by omega))) (fun X9 h9 => ?_)
  rw [show ((29 : Int32) + (1 : Int32)) = (30 : Int32) from rfl]
  rw [fL_refusesOne_L560, if_pos (by decide)]
  by_cases hz : nn c.S = 0
  · refine st_bif (v := 0) (QI c 1) (by have := y_steps h9; rw [hz] at this; exact this) (fun X9 h9 => ⟨X9, rfl, h9⟩)
  · refine st_bel (QI c 1) (y_steps h9) (by rw [show (0 : Int32) = ic 0 from rfl, ic_eq (by omega)]; omega) (fun X20 h20' => ?_)
    have h20c := h20'
    refine st_bif (v := cxk 1) (QI c 1) (by rw [call_2]; exact clo_x (n_exchange2 rst ost h20c (i := 0) (by omega))) (fun X21 h21 => ?_)
    refine st_bd (v := ic (fv k (0) (199))) (QI c 1) ⟨_, x_far hk (0) (199), h21⟩ (fun X22 h22 => ?_)
    refine st_bif (v := cxk 2) (QI c 1) (by rw [call_6]; exact clo_x (n_lay2 (fv_rg k (by omega) (by omega)) (fv_out k (by omega) (by omega)) h22 (i := 0) (by omega))) (fun X23 h23 => ?_)
    refine st_bif (v := cxk 1) (QI c 1) (by rw [call_20]; exact clo_x (n_separation2 rst ost h23 (by omega))) (fun X24 h24 => ?_)
    refine st_bif (v := cxk 1) (QI c 1) (by rw [call_21]; exact clo_x (n_carried2 rst ost h24 (by omega))) (fun X25 h25 => ?_)
    exact ⟨X25, rfl, h25⟩
theorem ref_436 (h : KC c X) {k : Nat} (hk : k < 4) : QI c 1 (fL_refusesOne_L436 6 (ic k) (ic (fv k 0 ((nn c.S : Int) - 1))) (ic (fv k 0 11)) (22 : Int32) X) := by
  have h20 := h.1.1.n
  have rst := fv_rg k (lo := 0) (hi := (nn c.S : Int) - 1) (by omega) (by omega)
  have ost := fv_out k (lo := 0) (hi := (nn c.S : Int) - 1) (by omega) (by omega)
  have rnm := fv_rg k (lo := 0) (hi := 11) (by omega) (by omega)
  have onm := fv_out k (lo := 0) (hi := 11) (by omega) (by omega)
  generalize hst : fv k 0 ((nn c.S : Int) - 1) = st at *
  generalize hnm : fv k 0 11 = nm at *
  rw [fL_refusesOne_L436, if_neg (by decide)]
  refine st_bif (v := cxk 1) (QI c 1) (by rw [call_22]; exact clo_x (n_registerInOrder rnm onm h)) (fun X1 h1 => ?_)
  rw [show ((22 : Int32) + (1 : Int32)) = (23 : Int32) from rfl]
  rw [fL_refusesOne_L436, if_neg (by decide)]
  refine st_bif (v := cxk 1) (QI c 1) (by rw [call_23]; exact clo_x (n_registerInBundles rnm onm h1)) (fun X2 h2 => ?_)
  rw [show ((23 : Int32) + (1 : Int32)) = (24 : Int32) from rfl]
  rw [fL_refusesOne_L436, if_neg (by decide)]
  refine st_bif (v := cxk 1) (QI c 1) (by rw [call_24]; exact clo_x (n_cellInOrder rnm onm h2)) (fun X3 h3 => ?_)
  rw [show ((24 : Int32) + (1 : Int32)) = (25 : Int32) from rfl]
  rw [fL_refusesOne_L436, if_neg (by decide)]
  refine st_bif (v := cxk 1) (QI c 1) (by rw [call_25]; exact clo_x (n_cellInBundles rnm onm h3)) (fun X4 h4 => ?_)
  rw [show ((25 : Int32) + (1 : Int32)) = (26 : Int32) from rfl]
  rw [fL_refusesOne_L436, if_pos (by decide)]
  refine st_bif (v := cxk 1) (QI c 1) (by rw [call_26]; exact clo_x (n_registerAt rnm onm h4 _)) (fun X5 h5 => ?_)
  refine st_bd (v := ic (fv k (0) (205))) (QI c 1) ⟨_, x_far hk (0) (205), h5⟩ (fun X6 h6 => ?_)
  refine st_bif (v := cxk 2) (QI c 1) (by rw [call_26]; exact clo_x (n_registerAt2 (fv_rg k (by omega) (by omega)) h6 (fv_out k (by omega) (by omega)) (v := 11) (by omega))) (fun X7 h7 => ?_)
  refine st_bd (v := ic (fv k (0) (199))) (QI c 1) ⟨_, x_far hk (0) (199), h7⟩ (fun X8 h8 => ?_)
  refine st_bif (v := cxk 2) (QI c 1) (by rw [call_30]; exact clo_x (n_stepsIn (fv_rg k (by omega) (by omega)) h8 (fv_out k (by omega) (by omega)))) (fun X9 h9 => ?_)
  refine st_bd (v := ic (fv k (0) (20))) (QI c 1) ⟨_, x_far hk (0) (20), h9⟩ (fun X10 h10 => ?_)
  refine st_bif (v := cxk 2) (QI c 1) (by rw [call_31]; exact clo_x (n_loopBundles (fv_rg k (by omega) (by omega)) h10 (fv_out k (by omega) (by omega)))) (fun X11 h11 => ?_)
  subst hst hnm
  exact ref_560 h11 hk
theorem ref_401 (h : KC c X) {k : Nat} (hk : k < 4) : QI c 1 (fL_refusesOne_L401 12 (ic k) (ic (fv k 0 ((nn c.S : Int) - 1))) (ic (fv k 0 11)) (12 : Int32) X) := by
  have h20 := h.1.1.n
  have rst := fv_rg k (lo := 0) (hi := (nn c.S : Int) - 1) (by omega) (by omega)
  have ost := fv_out k (lo := 0) (hi := (nn c.S : Int) - 1) (by omega) (by omega)
  have rnm := fv_rg k (lo := 0) (hi := 11) (by omega) (by omega)
  have onm := fv_out k (lo := 0) (hi := 11) (by omega) (by omega)
  generalize hst : fv k 0 ((nn c.S : Int) - 1) = st at *
  generalize hnm : fv k 0 11 = nm at *
  rw [fL_refusesOne_L401, if_neg (by decide)]
  refine st_bif (v := cxk 1) (QI c 1) (by rw [call_12]; exact clo_x (n_kindOf rst ost h)) (fun X1 h1 => ?_)
  rw [show ((12 : Int32) + (1 : Int32)) = (13 : Int32) from rfl]
  rw [fL_refusesOne_L401, if_neg (by decide)]
  refine st_bif (v := cxk 1) (QI c 1) (by rw [call_13]; exact clo_x (n_readBy rst ost h1)) (fun X2 h2 => ?_)
  rw [show ((13 : Int32) + (1 : Int32)) = (14 : Int32) from rfl]
  rw [fL_refusesOne_L401, if_neg (by decide)]
  refine st_bif (v := cxk 1) (QI c 1) (by rw [call_14]; exact clo_x (n_writtenBy rst ost h2)) (fun X3 h3 => ?_)
  rw [show ((14 : Int32) + (1 : Int32)) = (15 : Int32) from rfl]
  rw [fL_refusesOne_L401, if_neg (by decide)]
  refine st_bif (v := cxk 1) (QI c 1) (by rw [call_15]; exact clo_x (n_latencyOf rst ost h3)) (fun X4 h4 => ?_)
  rw [show ((15 : Int32) + (1 : Int32)) = (16 : Int32) from rfl]
  rw [fL_refusesOne_L401, if_neg (by decide)]
  refine st_bif (v := cxk 1) (QI c 1) (by rw [call_16]; exact clo_x (n_heightOf rst ost h4)) (fun X5 h5 => ?_)
  rw [show ((16 : Int32) + (1 : Int32)) = (17 : Int32) from rfl]
  rw [fL_refusesOne_L401, if_neg (by decide)]
  refine st_bif (v := cxk 1) (QI c 1) (by rw [call_17]; exact clo_x (n_earliestOf rst ost h5)) (fun X6 h6 => ?_)
  rw [show ((17 : Int32) + (1 : Int32)) = (18 : Int32) from rfl]
  rw [fL_refusesOne_L401, if_neg (by decide)]
  refine st_bif (v := cxk 1) (QI c 1) (by rw [call_18]; exact clo_x (n_bundleOf rst ost h6)) (fun X7 h7 => ?_)
  rw [show ((18 : Int32) + (1 : Int32)) = (19 : Int32) from rfl]
  rw [fL_refusesOne_L401, if_neg (by decide)]
  refine st_bif (v := cxk 1) (QI c 1) (by rw [call_19]; exact clo_x (n_loopBundleOf rst ost h7)) (fun X8 h8 => ?_)
  rw [show ((19 : Int32) + (1 : Int32)) = (20 : Int32) from rfl]
  rw [fL_refusesOne_L401, if_neg (by decide)]
  refine st_bif (v := cxk 1) (QI c 1) (by rw [call_20]; exact clo_x (n_separation rst ost h8 _)) (fun X9 h9 => ?_)
  rw [show ((20 : Int32) + (1 : Int32)) = (21 : Int32) from rfl]
  rw [fL_refusesOne_L401, if_neg (by decide)]
  refine st_bif (v := cxk 1) (QI c 1) (by rw [call_21]; exact clo_x (n_carried rst ost h9 _)) (fun X10 h10 => ?_)
  rw [show ((21 : Int32) + (1 : Int32)) = (22 : Int32) from rfl]
  rw [fL_refusesOne_L401, if_pos (by decide)]
  subst hst hnm
  exact ref_436 h10 hk
theorem ref_302 (h : KC c X) {k : Nat} (hk : k < 4) (h0 : whole c.t c.L = false) : QI c 1 (fL_refusesOne_L302 (ic k) (ic (fv k 0 ((nn c.S : Int) - 1))) (ic (fv k 0 11)) X) := by
  have h20 := h.1.1.n
  have rst := fv_rg k (lo := 0) (hi := (nn c.S : Int) - 1) (by omega) (by omega)
  have ost := fv_out k (lo := 0) (hi := (nn c.S : Int) - 1) (by omega) (by omega)
  have rnm := fv_rg k (lo := 0) (hi := 11) (by omega) (by omega)
  have onm := fv_out k (lo := 0) (hi := 11) (by omega) (by omega)
  generalize hst : fv k 0 ((nn c.S : Int) - 1) = st at *
  generalize hnm : fv k 0 11 = nm at *
  unfold fL_refusesOne_L302
  refine st_bd (v := ic (fv k (0) (3))) (QI c 1) ⟨_, x_far hk (0) (3), h⟩ (fun X1 h1 => ?_)
  refine st_bif (v := cxk 2) (QI c 1) (by rw [call_5]; exact clo_x (n_setDelay (fv_rg k (by omega) (by omega)) (fv_out k (by omega) (by omega)) h1)) (fun X2 h2 => ?_)
  refine st_bif (v := cxk 1) (QI c 1) (by rw [call_6]; exact clo_x (n_lay rst ost h2 _)) (fun X3 h3 => ?_)
  refine st_bif (v := cxk 1) (QI c 1) (by rw [call_7]; exact clo_x (n_takeOut rst ost h3)) (fun X4 h4 => ?_)
  refine st_bd (v := ic (fv k (33) (126))) (QI c 1) ⟨_, x_far hk (33) (126), h4⟩ (fun X5 h5 => ?_)
  refine st_bif (v := cxk 2) (QI c 1) (by rw [call_8]; exact clo_x (n_append (fv_rg k (by omega) (by omega)) (fv_out k (by omega) (by omega)) h5)) (fun X6 h6 => ?_)
  refine st_bif (v := cxk 2) (QI c 1) (by rw [call_9]; exact clo_x (n_addAll0 h6 h0)) (fun X7 h7 => ?_)
  subst hst hnm
  exact ref_401 h7 hk
theorem ref_159 (h : KC c X) {k : Nat} (hk : k < 4) (h0 : whole c.t c.L = false) : QI c 1 (fL_refusesOne_L159 (ic k) (ic (fv k 0 ((nn c.S : Int) - 1))) (ic (fv k 0 11)) X) := by
  have h20 := h.1.1.n
  have rst := fv_rg k (lo := 0) (hi := (nn c.S : Int) - 1) (by omega) (by omega)
  have ost := fv_out k (lo := 0) (hi := (nn c.S : Int) - 1) (by omega) (by omega)
  have rnm := fv_rg k (lo := 0) (hi := 11) (by omega) (by omega)
  have onm := fv_out k (lo := 0) (hi := 11) (by omega) (by omega)
  generalize hst : fv k 0 ((nn c.S : Int) - 1) = st at *
  generalize hnm : fv k 0 11 = nm at *
  unfold fL_refusesOne_L159
  refine st_bif (v := cxk 1) (QI c 1) (by rw [call_1]; exact clo_x (n_remove rst ost h)) (fun X1 h1 => ?_)
  refine st_bif (v := cxk 1) (QI c 1) (by rw [call_2]; exact clo_x (n_exchange rst ost h1 _)) (fun X2 h2 => ?_)
  refine st_bif (v := cxk 1) (QI c 1) (by rw [call_32]; exact clo_x (n_setRegister rnm onm h2 _)) (fun X3 h3 => ?_)
  refine st_bif (v := cxk 1) (QI c 1) (by rw [call_33]; exact clo_x (n_setCell rnm onm h3 _)) (fun X4 h4 => ?_)
  refine st_bd (v := ic (fv k (0) (2))) (QI c 1) ⟨_, x_far hk (0) (2), h4⟩ (fun X5 h5 => ?_)
  refine st_bif (v := cxk 1) (QI c 1) (by rw [call_3]; exact clo_x (n_setSlots (fv_rg k (by omega) (by omega)) (fv_out k (by omega) (by omega)) h5 _)) (fun X6 h6 => ?_)
  refine st_bd (v := ic (fv k (1) (4))) (QI c 1) ⟨_, x_far hk (1) (4), h6⟩ (fun X7 h7 => ?_)
  refine st_bif (v := cxk 2) (QI c 1) (by rw [call_3]; exact clo_x (n_setSlots2 (fv_rg k (by omega) (by omega)) (fv_out k (by omega) (by omega)) h7 (v := 2) (by omega))) (fun X8 h8 => ?_)
  refine st_bd (v := ic (fv k (0) (2))) (QI c 1) ⟨_, x_far hk (0) (2), h8⟩ (fun X9 h9 => ?_)
  refine st_bif (v := cxk 1) (QI c 1) (by rw [call_4]; exact clo_x (n_setLatency (fv_rg k (by omega) (by omega)) (fv_out k (by omega) (by omega)) h9 _)) (fun X10 h10 => ?_)
  refine st_bd (v := ic (fv k (1) (6))) (QI c 1) ⟨_, x_far hk (1) (6), h10⟩ (fun X11 h11 => ?_)
  refine st_bif (v := cxk 2) (QI c 1) (by rw [call_4]; exact clo_x (n_setLatency2 (fv_rg k (by omega) (by omega)) (fv_out k (by omega) (by omega)) h11 (v := 0) (by omega))) (fun X12 h12 => ?_)
  subst hst hnm
  exact ref_302 h12 hk h0
theorem ref_113 (h : KC c X) {k : Nat} (hk : k < 4) {z : Int32} (h0 : whole c.t c.L = false) : QI c 1 (fL_refusesOne_L113 (ic k) (ic (fv k 0 ((nn c.S : Int) - 1))) (ic (fv k 0 11)) z z X) := by
  have h20 := h.1.1.n
  have rst := fv_rg k (lo := 0) (hi := (nn c.S : Int) - 1) (by omega) (by omega)
  have ost := fv_out k (lo := 0) (hi := (nn c.S : Int) - 1) (by omega) (by omega)
  have rnm := fv_rg k (lo := 0) (hi := 11) (by omega) (by omega)
  have onm := fv_out k (lo := 0) (hi := 11) (by omega) (by omega)
  generalize hst : fv k 0 ((nn c.S : Int) - 1) = st at *
  generalize hnm : fv k 0 11 = nm at *
  unfold fL_refusesOne_L113
  rw [if_pos rfl]
  refine st_bd (v := ic (fv k (0) (6))) (QI c 1) ⟨_, x_far hk (0) (6), h⟩ (fun X1 h1 => ?_)
  have ok := fv_out k (lo := 0) (hi := 6) (by omega) (by omega)
  refine st_bif (v := cxk 2) (QI c 1) (by rw [call_0]; exact clo_x (n_insert2 h1 (p := 0) (x := 0) (y := 0) (z := 0) (v := 0) (by omega) (fv_rg k (by omega) (by omega)) (by omega) (by omega) (by omega) (by omega) (fun q => ok q.1))) (fun X2 h2 => ?_)
  refine st_bd (v := ic (fv k (-99) (99))) (QI c 1) ⟨_, x_far hk (-99) (99), h2⟩ (fun X3 h3 => ?_)
  have ov := fv_out k (lo := -99) (hi := 99) (by omega) (by omega)
  refine st_bif (v := cxk 2) (QI c 1) (by rw [call_0]; exact clo_x (n_insert2 h3 (p := 0) (k := 0) (x := 0) (y := 0) (z := 0) (by omega) (by omega) (by omega) (by omega) (by omega) (fv_rg k (by omega) (by omega)) (fun q => ov q.2))) (fun X4 h4 => ?_)
  subst hst hnm
  exact ref_159 h4 hk h0
theorem x_refusesOne (h : KC c X) {k : Nat} (hk : k < 4) (h0 : whole c.t c.L = false) : QI c 1 (fL_refusesOne X (ic k)) := by
  have h20 := h.1.1.n
  unfold fL_refusesOne
  refine st_bd (QI c 1) (y_steps h) (fun X1 h1 => ?_)
  refine st_bd (v := ic (fv k 0 ((nn c.S : Int) - 1))) (QI c 1) ⟨_, by rw [show (1 : Int32) = ic 1 from rfl, ic_sub]; exact x_far hk 0 _, h1⟩ (fun X11 h11 => ?_)
  refine st_bd (v := ic (fv k 0 11)) (QI c 1) ⟨_, x_far hk 0 11, h11⟩ (fun X12 h12 => ?_)
  refine st_bd (QI c 1) (y_steps h12) (fun X2 h2 => ?_)
  refine st_bd (v := ic (fv k 0 (nn c.S))) (QI c 1) ⟨_, x_far hk 0 _, h2⟩ (fun X13 h13 => ?_)
  have rp := fv_rg k (lo := 0) (hi := (nn c.S : Int)) (by omega) (by omega)
  have op := fv_out k (lo := 0) (hi := (nn c.S : Int)) (by omega) (by omega)
  have q1 : ∀ X', KC c X' → QI c (cxk 1) (fL_call X' (0 : Int32) (ic (fv k 0 (nn c.S))) (7 : Int32) (0 : Int32) (0 : Int32)) := fun X' h' => by
    rw [call_0]
    refine clo_x (n_ins h' (fun p x y z e1 e2 e3 e4 r1 r2 r3 r4 q => op ?_))
    rw [ic_inj rp r1 e1]
    exact q.1
  have q2 : ∀ X', KC c X' → QI c (cxk 1) (fL_call X' (0 : Int32) (0 : Int32) (7 : Int32) ((12 : Int32) + ic k) (0 : Int32)) := fun X' h' => by
    rw [call_0]
    refine clo_x (n_ins h' (fun p x y z e1 e2 e3 e4 r1 r2 r3 r4 q => ?_))
    have e5 : (((12 : Int32) + ic k) &&& (15 : Int32)) = ic (12 + k) := by
      rcases (show k = 0 ∨ k = 1 ∨ k = 2 ∨ k = 3 by omega) with rfl | rfl | rfl | rfl <;> decide
    have := ic_inj (a := 12 + (k : Int)) (by omega) r2 (e5.symm.trans e2)
    omega
  have q3 : ∀ X', KC c X' → QI c (cxk 1) (fL_call X' (0 : Int32) (0 : Int32) (7 : Int32) (((12 : Int32) + ic k) <<< ((4 : Int32) &&& 31)) (0 : Int32)) := fun X' h' => by
    rw [call_0]
    refine clo_x (n_ins h' (fun p x y z e1 e2 e3 e4 r1 r2 r3 r4 q => ?_))
    have e5 : (((((12 : Int32) + ic k) <<< ((4 : Int32) &&& 31)) >>> ((4 : Int32) &&& 31)) &&& (15 : Int32)) = ic (12 + k) := by
      rcases (show k = 0 ∨ k = 1 ∨ k = 2 ∨ k = 3 by omega) with rfl | rfl | rfl | rfl <;> decide
    have := ic_inj (a := 12 + (k : Int)) (by omega) r3 (e5.symm.trans e3)
    omega
  refine st_bif (v := cxk 1) (QI c 1) (q1 _ h13) (fun X3 h3 => ?_)
  refine st_bif (v := cxk 1) (QI c 1) (q2 _ h3) (fun X4 h4 => ?_)
  refine st_bif (v := cxk 1) (QI c 1) (q3 _ h4) (fun X5 h5 => ?_)
  by_cases hk2 : k = 2
  · subst hk2
    have q4 : QI c (cxk 2) (fL_call X5 (0 : Int32) (0 : Int32) (0 : Int32) (ic (fv 2 0 11) <<< ((8 : Int32) &&& 31)) (100 : Int32)) := by
      rw [call_0]
      exact clo_x (n_insert2 h5 (p := 0) (k := 0) (x := 0) (y := 0) (z := 0) (v := 100) (by omega) (by omega) (by omega) (by omega) (by omega) (by omega) (by omega))
    refine st_bd (v := cxk 2) (QI c 1) q4 (fun X6 h6 => ?_)
    rw [if_pos (by decide)]
    exact ref_113 h6 hk h0
  · have q4 : QI c (cxk 1) (fL_call X5 (0 : Int32) (0 : Int32) (0 : Int32) (ic (fv k 0 11) <<< ((8 : Int32) &&& 31)) (100 : Int32)) := by
      rw [call_0]
      refine clo_x (n_ins h5 (fun p x y z e1 e2 e3 e4 r1 r2 r3 r4 q => ?_))
      have e5 : ((ic (fv k 0 11) <<< ((8 : Int32) &&& 31)) >>> ((8 : Int32) &&& 31)) = ic (if k = 1 then 12 else -1) := by
        rcases (show k = 0 ∨ k = 1 ∨ k = 2 ∨ k = 3 by omega) with rfl | rfl | rfl | rfl
        · decide
        · decide
        · exact absurd rfl hk2
        · decide
      have := ic_inj (a := if k = 1 then 12 else -1) (by split <;> omega) r4 (e5.symm.trans e4)
      split at this <;> omega
    refine st_bd (v := cxk 1) (QI c 1) q4 (fun X6 h6 => ?_)
    rw [if_neg (by rw [show (2 : Int32) = ic 2 from rfl, ic_eq (by omega)]; omega)]
    exact ref_113 h6 hk h0
/-- every exception in its order; the digest is what it was -/
theorem x_refused (h : KC c X) (h0 : whole c.t c.L = false) : QI c 1 (fL_refused X) := by
  unfold fL_refused
  refine st_bd (QI c 1) (y_digest h) (fun X1 h1 => ?_)
  rw [fL_refused_L7, if_neg (by decide)]
  refine st_bel (v := 1) (QI c 1) (x_refusesOne h1 (k := 0) (by omega) h0) (by decide) (fun X2 h2 => ?_)
  rw [show ((0 : Int32) + (1 : Int32)) = (1 : Int32) from rfl, fL_refused_L7, if_neg (by decide)]
  refine st_bel (v := 1) (QI c 1) (x_refusesOne h2 (k := 1) (by omega) h0) (by decide) (fun X3 h3 => ?_)
  rw [show ((1 : Int32) + (1 : Int32)) = (2 : Int32) from rfl, fL_refused_L7, if_neg (by decide)]
  refine st_bel (v := 1) (QI c 1) (x_refusesOne h3 (k := 2) (by omega) h0) (by decide) (fun X4 h4 => ?_)
  rw [show ((2 : Int32) + (1 : Int32)) = (3 : Int32) from rfl, fL_refused_L7, if_neg (by decide)]
  refine st_bel (v := 1) (QI c 1) (x_refusesOne h4 (k := 3) (by omega) h0) (by decide) (fun X5 h5 => ?_)
  rw [show ((3 : Int32) + (1 : Int32)) = (4 : Int32) from rfl, fL_refused_L7, if_pos (by decide)]
  refine st_bd (QI c 1) (y_digest h5) (fun X6 h6 => ?_)
  rw [if_pos (lg_self _)]
  exact ⟨X6, rfl, h6⟩
/-! seen: what it tells of a state -/
noncomputable def s12 (S : Nat → Int) (i : Nat) (h : Int64) : Int64 := mxd (mxd (mxd (mxd (mxd (mxd (mxd h (ic (kd S i))) (rd S i)) (ic (wr S i))) (ic (la S i))) (ic (hgt S i))) (ic (ear S i))) (ic (bu S i))
noncomputable def sst (S : Nat → Int) (h : Int64) : Nat → Int64
  | 0 => h
  | k + 1 => hin S k (s12 S k (sst S h k)) (nn S)
noncomputable def srg (S : Nat → Int) (h : Int64) : Nat → Int64
  | 0 => h
  | k + 1 => mxd (mxd (mxd (srg S h k) (ord S 1 (V0 S) k)) (ord S 1 (V0 S) (12 + k))) (VB S 205 k)
noncomputable def sh0 (S : Nat → Int) : Int64 := mxd (mxd (mxd (mxd (mxd (mxd (mxd 3588 (ic (nn S))) (ic (mxm (bu S) (nn S) + 1))) (ic (whyS S))) (ic (wheS S))) (ic (mxm (pkS S) (nn S) + 1))) (ic (ub S 3))) (ic ((BT S : Int) - 1 - S 1))
noncomputable def snv (S : Nat → Int) : Int64 := srg S (sst S (sh0 S) (nn S)) 12
theorem seen_126 (K : Int64 → Int32 → Mem → Option (Int64 × Mem)) {i : Nat} (hi : i < nn c.S) (h0 : Int64) : ∀ (d j f : Nat) (X : Mem), j + d = nn c.S → d < f → KC c X → ∃ X', KC c X' ∧ fL_seen_L126 K f (hin c.S i h0 j) (ic i) (ic j) X = K (hin c.S i h0 (nn c.S)) (ic ((i + 1 : Nat) : Int)) X'
  | 0, j, 0, X, hj, hf, h => absurd hf (by omega)
  | 0, j, f + 1, X, hj, hf, h => by
    obtain ⟨X1, e1, h1⟩ := y_steps h
    have h20 := h.1.1.n
    refine ⟨X1, h1, ?_⟩
    rw [fL_seen_L126, e1, bd_some, if_pos (by rw [ic_le (by omega)]; omega), show (1 : Int32) = ic 1 from rfl, ic_add, show j = nn c.S by omega]
    rfl
  | d + 1, j, 0, X, hj, hf, h => absurd hf (by omega)
  | d + 1, j, f + 1, X, hj, hf, h => by
    obtain ⟨X1, e1, h1⟩ := y_steps h
    have h20 := h.1.1.n
    obtain ⟨X2, e2, h2⟩ := y_separation h1 hi (j := j) (by omega)
    obtain ⟨X3, e3, h3⟩ := y_carried h2 hi (j := j) (by omega)
    obtain ⟨X4, h4, e4⟩ := seen_126 K hi h0 d (j + 1) f X3 (by omega) (by omega) h3
    refine ⟨X4, h4, ?_⟩
    rw [fL_seen_L126, e1, bd_some, if_neg (by rw [ic_le (by omega)]; omega), e2, bz_l, e3, bz_l, show (1 : Int32) = ic 1 from rfl, ic_add, ← e4]
    rfl
theorem seen_92 (K : Int64 → Int32 → Mem → Option (Int64 × Mem)) {i : Nat} (hi : i < nn c.S) (h0 : Int64) (h : KC c X) : ∃ X', KC c X' ∧ fL_seen_L92 K 9 h0 (ic i) (12 : Int32) X = K (hin c.S i (s12 c.S i h0) (nn c.S)) (ic ((i + 1 : Nat) : Int)) X' := by
  have h20 := h.1.1.n
  obtain ⟨X1, e1, h1⟩ := clo_t (y_kindOf h hi)
  obtain ⟨X2, e2, h2⟩ := clo_t (y_readBy h1 hi)
  obtain ⟨X3, e3, h3⟩ := clo_t (y_writtenBy h2 hi)
  obtain ⟨X4, e4, h4⟩ := clo_t (y_latencyOf h3 hi)
  obtain ⟨X5, e5, h5⟩ := clo_t (y_heightOf h4 hi)
  obtain ⟨X6, e6, h6⟩ := clo_t (y_earliestOf h5 hi)
  obtain ⟨X7, e7, h7⟩ := clo_t (y_bundleOf h6 hi)
  obtain ⟨X8, h8, e8⟩ := seen_126 K hi (s12 c.S i h0) (nn c.S) 0 22 X7 (by omega) (by omega) h7
  refine ⟨X8, h8, ?_⟩
  rw [fL_seen_L92, if_neg (by decide), call_12, e1, bd_some, show ((12 : Int32) + (1 : Int32)) = (13 : Int32) from rfl]
  rw [fL_seen_L92, if_neg (by decide), call_13, e2, bd_some, show ((13 : Int32) + (1 : Int32)) = (14 : Int32) from rfl]
  rw [fL_seen_L92, if_neg (by decide), call_14, e3, bd_some, show ((14 : Int32) + (1 : Int32)) = (15 : Int32) from rfl]
  rw [fL_seen_L92, if_neg (by decide), call_15, e4, bd_some, show ((15 : Int32) + (1 : Int32)) = (16 : Int32) from rfl]
  rw [fL_seen_L92, if_neg (by decide), call_16, e5, bd_some, show ((16 : Int32) + (1 : Int32)) = (17 : Int32) from rfl]
  rw [fL_seen_L92, if_neg (by decide), call_17, e6, bd_some, show ((17 : Int32) + (1 : Int32)) = (18 : Int32) from rfl]
  rw [fL_seen_L92, if_neg (by decide), call_18, e7, bd_some, show ((18 : Int32) + (1 : Int32)) = (19 : Int32) from rfl]
  rw [fL_seen_L92, if_pos (by decide), ← e8]
  rfl
theorem seen_177 (h0 : Int64) : ∀ (d k f : Nat) (X : Mem), k + d = 12 → d < f → KC c X → QI c (srg c.S h0 12) (fL_seen_L177 f (srg c.S h0 k) (ic k) X)
  | 0, k, 0, X, hj, hf, h => absurd hf (by omega)
  | 0, k, f + 1, X, hj, hf, h => by
    refine ⟨X, ?_, h⟩
    rw [fL_seen_L177, show (12 : Int32) = ic 12 from rfl, if_pos (by rw [ic_le (by omega)]; omega), show k = 12 by omega]
  | d + 1, k, 0, X, hj, hf, h => absurd hf (by omega)
  | d + 1, k, f + 1, X, hj, hf, h => by
    obtain ⟨X1, e1, h1⟩ := y_registerInOrder h (n := k) (by omega)
    obtain ⟨X2, e2, h2⟩ := y_cellInOrder h1 (n := k) (by omega)
    obtain ⟨X3, e3, h3⟩ := y_registerInBundles h2 (n := k) (by omega)
    obtain ⟨X4, e4, h4⟩ := seen_177 h0 d (k + 1) f X3 (by omega) (by omega) h3
    refine ⟨X4, ?_, h4⟩
    rw [fL_seen_L177, show (12 : Int32) = ic 12 from rfl, if_neg (by rw [ic_le (by omega)]; omega), e1, bz_l, e2, bz_l, e3, bz_l, show (1 : Int32) = ic 1 from rfl, ic_add, ← e4]
    rfl
theorem seen_80 (h0 : Int64) : ∀ (d k f : Nat) (X : Mem), k + d = nn c.S → d < f → KC c X → QI c (srg c.S (sst c.S h0 (nn c.S)) 12) (fL_seen_L80 f (sst c.S h0 k) (ic k) X)
  | 0, k, 0, X, hj, hf, h => absurd hf (by omega)
  | 0, k, f + 1, X, hj, hf, h => by
    obtain ⟨X1, e1, h1⟩ := y_steps h
    have h20 := h.1.1.n
    obtain ⟨X4, e4, h4⟩ := seen_177 (sst c.S h0 (nn c.S)) 12 0 14 X1 (by omega) (by omega) h1
    refine ⟨X4, ?_, h4⟩
    rw [fL_seen_L80, e1, bd_some, if_pos (by rw [ic_le (by omega)]; omega), show k = nn c.S by omega, ← e4]
    rfl
  | d + 1, k, 0, X, hj, hf, h => absurd hf (by omega)
  | d + 1, k, f + 1, X, hj, hf, h => by
    obtain ⟨X1, e1, h1⟩ := y_steps h
    have h20 := h.1.1.n
    obtain ⟨X2, h2, e2⟩ := seen_92 (fL_seen_L80 f) (i := k) (by omega) (sst c.S h0 k) h1
    obtain ⟨X4, e4, h4⟩ := seen_80 h0 d (k + 1) f X2 (by omega) (by omega) h2
    refine ⟨X4, ?_, h4⟩
    rw [fL_seen_L80, e1, bd_some, if_neg (by rw [ic_le (by omega)]; omega), e2, ← e4]
    rfl
theorem x_seen (h : KC c X) : QI c (snv c.S) (fL_seen X) := by
  have h20 := h.1.1.n
  obtain ⟨X1, e1, h1⟩ := y_steps h
  obtain ⟨X2, e2, h2⟩ := y_bundles h1
  obtain ⟨X3, e3, h3⟩ := y_whyWrong h2
  obtain ⟨X4, e4, h4⟩ := y_wrongAt h3
  obtain ⟨X5, e5, h5⟩ := y_wouldPack h4
  obtain ⟨X6, e6, h6⟩ := y_beatByUnits h5
  obtain ⟨X7, e7, h7⟩ := y_jumpBundle h6
  obtain ⟨X8, e8, h8⟩ := seen_80 (sh0 c.S) (nn c.S) 0 22 X7 (by omega) (by omega) h7
  refine ⟨X8, ?_, h8⟩
  unfold fL_seen
  rw [e1, bd_some, e2, bd_some, e3, bd_some, e4, bd_some, e5, bd_some, e6, bd_some, e7, bd_some]
  exact e8
end REF
