/-! TEXTS: signs in a row -/
def tl (l : List Int) : Nat → Int := fun i => l.getD i 0
def ct (c : Cf) (l : List Int) : Cf := cfT c (tl l) l.length
def okL (l : List Int) : Bool := l.all fun v => decide (33 ≤ v ∧ v ≤ 126)
theorem tl_snoc (l : List Int) (v : Int) : (fun i => if i = l.length then v else tl l i) = tl (l ++ [v]) := by
  funext i
  unfold tl
  simp only [List.getD_eq_getElem?_getD]
  by_cases h : i < l.length
  · rw [if_neg (by omega), List.getElem?_append_left h]
  · by_cases h2 : i = l.length
    · rw [if_pos h2, List.getElem?_append_right (by omega), h2, Nat.sub_self]
      rfl
    · rw [if_neg h2, List.getElem?_eq_none (by omega), List.getElem?_eq_none (by simp; omega)]
section YT
variable {c : Cf} {X : Mem}
theorem y_append (h : KC c X) {v : Int} (hv : 33 ≤ v ∧ v ≤ 126) (hl : c.L < 60) : ∃ X', fX8_append X (ic v) = some (.inl (ic ((c.L : Int) + 1)), X') ∧ KC (cfT c (fun i => if i = c.L then v else c.t i) (c.L + 1)) X' := by
  obtain ⟨hT1, hT2, hT3⟩ := h.1.2.2.2
  obtain ⟨xl, xs⟩ := h.2.2.2.2.2
  have f1 : fX7_addSign X (ic v) = some ((), mu (mu X 74 c.L (ic v)) 73 1 (ic ((c.L + 1 : Nat) : Int))) := by
    unfold fX7_addSign
    rw [xl, show (0 : Int32) = ic 0 from rfl, if_neg (by rw [ic_lt (by omega)]; omega), show (60 : Int32) = ic 60 from rfl, if_neg (by rw [ic_le (by omega)]; omega), ast_k c.L rfl (by omega), Option.bind_some]
    simp only [pt, Option.bind_some]
    rw [mu_ne (by decide), xl, show (1 : Int32) = ic 1 from rfl, ic_add]
    rfl
  refine ⟨mu (mu X 74 c.L (ic v)) 73 1 (ic ((c.L + 1 : Nat) : Int)), ?_, ⟨h.1.1, h.1.2.1, h.1.2.2.1, by show c.L + 1 ≤ 60; omega, fun i hi => ?_, fun i hi => ?_⟩, xc_text h.2 (fun a h1 h2 => by rw [mu_ne h1, mu_ne h2]) ⟨by rw [mu_at, if_pos ⟨rfl, rfl⟩], fun i hi => ?_⟩⟩
  · unfold fX8_append fX8_append_L12
    rw [xl, show (33 : Int32) = ic 33 from rfl, show (126 : Int32) = ic 126 from rfl, show (60 : Int32) = ic 60 from rfl, if_neg (by rw [ic_lt (by omega)]; omega), if_pos (by rw [ic_le (by omega)]; omega), if_pos (by rw [ic_lt (by omega)]; omega), f1, bd_some, mus]
    rfl
  · show 33 ≤ (if i = c.L then v else c.t i) ∧ (if i = c.L then v else c.t i) ≤ 126
    by_cases hc : i = c.L
    · rw [if_pos hc]
      exact hv
    · rw [if_neg hc]
      have hi' : i < c.L + 1 := hi
      exact hT2 i (by omega)
  · have hi' : c.L + 1 ≤ i := hi
    show (if i = c.L then v else c.t i) = 0
    rw [if_neg (by omega)]
    exact hT3 i (by omega)
  · show _ = ic (if i = c.L then v else c.t i)
    rw [mu_ne (by decide), mu_at]
    by_cases hc : i = c.L
    · rw [if_pos ⟨rfl, hc⟩, if_pos hc]
    · rw [if_neg (by omega), if_neg hc]
      have hi' : i < c.L + 1 := hi
      exact xs i (by omega)
theorem n_append3 (h : KC c X) {v : Int} (hv : 33 ≤ v ∧ v ≤ 126) (hl : c.L = 60) : QX c 3 (fX8_append X (ic v)) := by
  obtain ⟨xl, xs⟩ := h.2.2.2.2.2
  refine y_x h ?_
  unfold fX8_append fX8_append_L12
  rw [xl, show (33 : Int32) = ic 33 from rfl, show (126 : Int32) = ic 126 from rfl, show (60 : Int32) = ic 60 from rfl, if_neg (by rw [ic_lt (by omega)]; omega), if_pos (by rw [ic_le (by omega)]; omega), if_neg (by rw [ic_lt (by omega)]; omega)]
theorem y_app {l : List Int} (h : KC (ct c l) X) {v : Int} (hv : 33 ≤ v ∧ v ≤ 126) (hl : l.length < 60) : ∃ X', fX8_append X (ic v) = some (.inl (ic ((l.length : Int) + 1)), X') ∧ KC (ct c (l ++ [v])) X' := by
  obtain ⟨X', e, h'⟩ := y_append h hv hl
  refine ⟨X', e, ?_⟩
  have e2 : ct c (l ++ [v]) = cfT (ct c l) (fun i => if i = (ct c l).L then v else (ct c l).t i) ((ct c l).L + 1) := by
    unfold ct
    rw [← tl_snoc, List.length_append]
    rfl
  rw [e2]
  exact h'
theorem y_clearBuffer (h : KC c X) : ∃ X', fX8_clearBuffer X = some (ic c.L, X') ∧ KC (ct c []) X' := by
  obtain ⟨xl, xs⟩ := h.2.2.2.2.2
  refine ⟨mu X 73 1 (ic 0), ?_, ⟨h.1.1, h.1.2.1, h.1.2.2.1, by show 0 ≤ 60; omega, fun i hi => absurd hi (Nat.not_lt_zero _), fun i hi => rfl⟩, xc_text h.2 (fun a h1 h2 => mu_ne h1) ⟨by rw [mu_at, if_pos ⟨rfl, rfl⟩]; rfl, fun i hi => absurd hi (Nat.not_lt_zero _)⟩⟩
  unfold fX8_clearBuffer
  simp only [pt, Option.bind_some]
  rw [xl]
  rfl
theorem y_firstError (h : KC c X) {i : Nat} (hi : isFb c.t i) : QI c (ic i) (fX8_firstError X) := by
  obtain ⟨j, hj, hf, e1⟩ := x_firstBad h.1.2.2.2 h.2.2.2.2.2
  have hij := fb_eq hi hf
  subst hij
  refine ⟨X, ?_, h⟩
  unfold fX8_firstError
  rw [e1, bd_some]
theorem y_addAll (h : KC c X) (hw : whole c.t c.L = true) {K : Nat} {cs : Nat → Nat → Int} {sp : Nat → Nat} (hS : WS c.t K sp cs) (hK : 0 < K) (hsp : sp K = c.L + 1) (hn : nn c.S + K ≤ 20) {S' : Nat → Int} (he : ∀ q, q < 152 → S' q = addS c.S cs K q) (hW' : WF S') : ∃ X', fX8_addAll X = some (.inl (ic ((nn c.S + K : Nat) : Int)), X') ∧ KC (ct (nx c S') []) X' := by
  have hW := h.1.1
  obtain ⟨X1, d1, d2, d3, d4, d5, d6, d7, d8⟩ := x_addAll2 h.1.2.2.2 h.2.2.2.2.2 h.2.1.1 hW h.2.2.1 hw hS hK hsp hn
  obtain ⟨w3, n3⟩ := addS_wf hW hS hn K (Nat.le_refl _)
  obtain ⟨a1, a2, a3, a4, a5⟩ := h.2
  exact ⟨X1, d1, ⟨hW', wf_psh hW a2.2.1 h.1.2.1, h.1.2.2.1, by show 0 ≤ 60; omega, fun i hi => absurd hi (Nat.not_lt_zero _), fun i hi => rfl⟩, ⟨xs_cg d7 w3 he, hW', Or.inl d4, Or.inl d5⟩, d6, by rw [d3 3 (by omega) (by omega)]; exact a3, fun q => (a4 q).of fun k hk => d2 _ (by omega) (by omega), d8⟩
theorem n_addAll3 (h : KC c X) (hw : whole c.t c.L = true) {K : Nat} {cs : Nat → Nat → Int} {sp : Nat → Nat} (hS : WS c.t K sp cs) (hK : 0 < K) (hsp : sp K = c.L + 1) (hn : 20 < nn c.S + K) : QX c 3 (fX8_addAll X) := y_x h (x_addAll1 h.1.2.2.2 h.2.2.2.2.2 h.2.1.1 h.1.1 hw hS hK hsp hn)
end YT
/-! eight signs out of a long -/
def btw (w : Int64) (v4 : Int32) : Int := (Int64.toInt32 ((w >>> (v4.toInt64 &&& 63)) &&& (255 : Int64))).toInt
def typ (w : Int64) : Nat → List Int
  | 0 => []
  | k + 1 => (if btw w (ic (8 * (k : Int))) = 0 then [] else [btw w (ic (8 * (k : Int)))]) ++ typ w k
theorem okL_app {l m : List Int} : okL (l ++ m) = true ↔ okL l = true ∧ okL m = true := by
  unfold okL
  simp [List.all_append]
section TYP
variable {c : Cf}
theorem x_typ (w : Int64) : ∀ (k f : Nat) (l : List Int) (X : Mem), k ≤ 8 → k < f → okL (typ w k) = true → l.length + (typ w k).length ≤ 60 → KC (ct c l) X → ∃ X', fL_types_L6 f w (1 : Int32) (ic (8 * (k : Int) - 8)) X = some (1, X') ∧ KC (ct c (l ++ typ w k)) X'
  | k, 0, l, X, hk, hf, ho, hl, h => absurd hf (by omega)
  | 0, f + 1, l, X, hk, hf, ho, hl, h => by
    refine ⟨X, ?_, by rw [typ, List.append_nil]; exact h⟩
    rw [fL_types_L6, show (0 : Int32) = ic 0 from rfl, if_pos (by rw [ic_lt (by omega)]; omega)]
    rfl
  | k + 1, f + 1, l, X, hk, hf, ho, hl, h => by
    have e8 : (8 * ((k + 1 : Nat) : Int) - 8) = 8 * (k : Int) := by omega
    have hx : Int64.toInt32 ((w >>> ((ic (8 * (k : Int))).toInt64 &&& 63)) &&& (255 : Int64)) = ic (btw w (ic (8 * (k : Int)))) := (ic_of _).symm
    have hr := i32_rg (Int64.toInt32 ((w >>> ((ic (8 * (k : Int))).toInt64 &&& 63)) &&& (255 : Int64)))
    have hr' : -2147483648 ≤ btw w (ic (8 * (k : Int))) ∧ btw w (ic (8 * (k : Int))) < 2147483648 := hr
    rw [e8]
    rw [typ] at ho hl ⊢
    rw [List.length_append] at hl
    obtain ⟨o1, o2⟩ := okL_app.mp ho
    rw [fL_types_L6, if_neg (show ¬ (ic (8 * (k : Int)) < (0 : Int32)) by rw [show (0 : Int32) = ic 0 from rfl, ic_lt (by omega)]; omega), if_neg (by decide), hx]
    have hb : ∀ (Y : Mem) (l' : List Int), l'.length + (typ w k).length ≤ 60 → KC (ct c l') Y → ∃ X', fL_types_L40 (fL_types_L6 f) w (ic (8 * (k : Int))) Y = some (1, X') ∧ KC (ct c (l' ++ typ w k)) X' := fun Y l' hl' h' => by
      obtain ⟨X', e, q⟩ := x_typ w k f l' Y (by omega) (by omega) o2 hl' h'
      refine ⟨X', ?_, q⟩
      unfold fL_types_L40 fL_types_L45
      rw [show (-8 : Int32) = ic (-8) from rfl, ic_add, show 8 * (k : Int) + -8 = 8 * (k : Int) - 8 by omega]
      exact e
    by_cases hz : btw w (ic (8 * (k : Int))) = 0
    · rw [if_pos hz] at hl ⊢
      rw [hz, if_pos (by rfl), List.nil_append]
      exact hb X l (by simpa using hl) h
    · rw [if_neg hz] at o1 hl ⊢
      have ov : 33 ≤ btw w (ic (8 * (k : Int))) ∧ btw w (ic (8 * (k : Int))) ≤ 126 := by
        unfold okL at o1
        simp only [List.all_cons, List.all_nil, Bool.and_true, decide_eq_true_eq] at o1
        exact o1
      simp only [List.length_cons, List.length_nil] at hl
      obtain ⟨X1, e1, h1⟩ := y_app h ov (by omega)
      rw [if_neg (by rw [show (0 : Int32) = ic 0 from rfl, ic_eq ⟨hr', by omega⟩]; exact hz), e1, bz_l, if_neg (by rw [show (0 : Int32) = ic 0 from rfl, ic_le (by omega)]; omega), ← List.append_assoc]
      exact hb X1 _ (by simp only [List.length_append, List.length_cons, List.length_nil]; omega) h1
/-- what a call of types does -/
theorem x_types {l : List Int} {X : Mem} (h : KC (ct c l) X) {w : Int64} {m : List Int} (hm : typ w 8 = m) (ho : okL m = true) (hl : l.length + m.length ≤ 60) : ∃ X', fL_types X w = some (1, X') ∧ KC (ct c (l ++ m)) X' := by
  subst hm
  exact x_typ w 8 10 l X (by omega) (by omega) ho hl h
/-- whether the error is where it is told -/
theorem x_isError {X : Mem} (h : KC c X) {w w' : Int64} {m m' : List Int} (hm : typ w 8 = m) (hm' : typ w' 8 = m') (ho : okL m = true) (ho' : okL m' = true) (hl : m.length + m'.length ≤ 60) {i : Nat} (hi : isFb (tl (m ++ m')) i) : ∃ X', fL_isError X w w' (ic i) = some (1, X') ∧ KC (ct c (m ++ m')) X' := by
  obtain ⟨X1, e1, h1⟩ := y_clearBuffer h
  have hL := h.1.2.2.2.1
  have h1' : KC (ct (ct c []) []) X1 := h1
  obtain ⟨X2, e2, h2⟩ := x_types h1 hm ho (by simp; omega)
  rw [List.nil_append] at h2
  obtain ⟨X3, e3, h3⟩ := x_types h2 hm' ho' (by omega)
  obtain ⟨X4, e4, h4⟩ := y_firstError h3 (i := i) hi
  refine ⟨X4, ?_, h4⟩
  unfold fL_isError
  rw [e1, bd_some, if_neg (by rw [show (0 : Int32) = ic 0 from rfl, ic_lt (by omega)]; omega), e2, bd_some, if_neg (by decide), e3, bd_some, if_neg (by decide), e4, bd_some, if_pos rfl]
end TYP
