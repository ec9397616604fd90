/-! THE LAW'S BODY: the 26 acts -/
section LOOP
variable {L9 : Nat} {xs : Nat → Int32}
theorem hs_nx {c : Cf} {S' : Nat → Int} {a : Nat} {T : Nat → Nat → Int} (hS : c.S = T a) (hH : ∀ i, i < c.m → i < a → c.HS (c.m - 1 - i) = T (a - 1 - i)) : ∀ i, i < pm c.m → i < a + 1 → psh c.HS c.m c.S (pm c.m - 1 - i) = T (a - i) := by
  intro i h1 h2
  unfold pm at h1 ⊢
  unfold psh
  by_cases h5 : c.m = 5
  · simp only [if_pos h5] at h1 ⊢
    cases i with
    | zero =>
      rw [if_pos (by omega)]
      exact hS
    | succ i =>
      rw [if_neg (by omega)]
      have e := hH i (by omega) (by omega)
      rw [h5] at e
      rw [show 5 - 1 - (i + 1) + 1 = 5 - 1 - i by omega, e, show a - 1 - i = a - (i + 1) by omega]
  · simp only [if_neg h5] at h1 ⊢
    cases i with
    | zero =>
      rw [if_pos (by omega)]
      exact hS
    | succ i =>
      rw [if_neg (by omega)]
      have e := hH i (by omega) (by omega)
      rw [show c.m + 1 - 1 - (i + 1) = c.m - 1 - i by omega, e, show a - 1 - i = a - (i + 1) by omega]
theorem w_upd {w : Nat → Int64} {T : Nat → Nat → Int} {a : Nat} {S : Nat → Int} (hS : S = T a) (hw : ∀ i, i < a → w i = snv (T i)) : ∀ i, i ≤ a → vp_updL w a (snv S) i = snv (T i) := by
  intro i hi
  unfold vp_updL
  by_cases h : i = a
  · rw [if_pos h, hS, h]
  · rw [if_neg h]
    exact hw i (by omega)
theorem lw_100 (hL : L9 ≤ 260) {v4 : Int64} : ∀ (d j a n : Nat) (c : Cf) (X : Mem) (w : Nat → Int64) (T : Nat → Nat → Int), j + d = 26 → d < n → a ≤ j → KC c X → c.hk = true → nn c.SK = 3 → v4 = snv c.SK → Fb c.S → Fb c.SK → whole c.t c.L = false → c.S = T a → (∀ i, i < a → w i = snv (T i)) → c.m = min 5 (4 + a) → (∀ i, i < c.m → i < a → c.HS (c.m - 1 - i) = T (a - 1 - i)) → OKU (fL_law_L100 L9 xs n (ic a) v4 (ic j) X w) := by
  intro d
  induction d with
  | zero =>
    intro j a n c X w T hj hn ha h hk h3 hv hF hK hwh hS hw hm hH
    obtain ⟨n, rfl⟩ : ∃ g, n = g + 1 := ⟨n - 1, by omega⟩
    have hw' := w_upd hS hw
    rw [fL_law_L100, if_pos (by rw [show (26 : Int32) = ic 26 from rfl, ic_le (by omega)]; omega)]
    refine st_bd OKU (x_seen h) (fun X1 h1 => ?_)
    rw [lls_ic w _ (by omega), Option.bind_some]
    refine st_bel (v := (1 : Int32)) OKU (x_refused h1 hwh) (by decide) (fun X2 h2 => ?_)
    exact lw_491 (by omega) hw' c.m 0 29 c X2 rfl (by omega) (by omega) (by omega) hS (fun i h5 h6 => hH i h5 h6) h2 hk h3 hv
  | succ d ih =>
    intro j a n c X w T hj hn ha h hk h3 hv hF hK hwh hS hw hm hH
    obtain ⟨n, rfl⟩ : ∃ g, n = g + 1 := ⟨n - 1, by omega⟩
    have hw' := w_upd hS hw
    rw [fL_law_L100, if_neg (by rw [show (26 : Int32) = ic 26 from rfl, ic_le (by omega)]; omega)]
    obtain ⟨r, e⟩ := x_drawn (xs := xs) hL (k := j) (by omega)
    rw [e, bd_some]
    obtain ⟨u, e1, hu1, hu2⟩ := x_part (μ := X) r (n := 30) (by omega)
    rw [show fL_part X r (30 : Int32) = some (ic u, X) from e1, bd_some]
    refine st_bd OKU (x_seen h) (fun X1 h1 => ?_)
    rw [lls_ic w _ (by omega), Option.bind_some]
    refine st_bd OKU (y_savedStates h1) (fun X2 h2 => ?_)
    obtain ⟨u7, e7, h71, h72⟩ := x_part (μ := X2) (r >>> ((5 : Int32) &&& 31)) (n := 7) (by omega)
    obtain ⟨u8, e8, h81, h82⟩ := x_part (μ := X2) (r >>> ((8 : Int32) &&& 31)) (n := 8) (by omega)
    obtain ⟨u4, e4, h41, h42⟩ := x_part (μ := X2) (r >>> ((10 : Int32) &&& 31)) (n := 4) (by omega)
    obtain ⟨u13, e13, -⟩ := x_part (μ := X2) (r >>> ((3 : Int32) &&& 31)) (n := 13) (by omega)
    obtain ⟨u6, e6, -⟩ := x_part (μ := X2) (r >>> ((6 : Int32) &&& 31)) (n := 4) (by omega)
    rw [show fL_part X2 (r >>> ((5 : Int32) &&& 31)) (7 : Int32) = some (ic u7, X2) from e7, bd_some, show fL_part X2 (r >>> ((8 : Int32) &&& 31)) (8 : Int32) = some (ic u8, X2) from e8, bd_some, show fL_part X2 (r >>> ((10 : Int32) &&& 31)) (4 : Int32) = some (ic u4, X2) from e4, bd_some]
    have hJ : ∀ {o : Option (Int32 × Mem)}, AA c o → OKU (bd o fun r μ => fL_law_L409 L9 xs (fL_law_L100 L9 xs n) (ic a) v4 (ic j) (ic c.m) r μ (vp_updL w a (snv c.S))) := fun hA => lw_409 (by omega) (by omega) hA ((hw' a (Nat.le_refl a)).trans (by rw [hS]))
      (fun S' X' hX' hF' => ih (j + 1) (a + 1) n (nx c S') X' _ (fun i => if i ≤ a then T i else S') (by omega) (by omega) (by omega) hX' hk h3 hv hF' hK hwh (by
        show S' = if a + 1 ≤ a then T (a + 1) else S'
        rw [if_neg (by omega)]) (fun i hi => by
        rw [hw' i (by omega)]
        show _ = snv (if i ≤ a then T i else S')
        rw [if_pos (by omega)]) (by
        show pm c.m = _
        unfold pm
        split <;> omega) (fun i h5 h6 => by
        have e9 := hs_nx (S' := S') hS hH i h5 h6
        show psh c.HS c.m c.S (pm c.m - 1 - i) = if a + 1 - 1 - i ≤ a then T (a + 1 - 1 - i) else S'
        rw [if_pos (by omega), e9, show a + 1 - 1 - i = a - i by omega]))
      (fun X' hX' => ih (j + 1) a n c X' _ T (by omega) (by omega) (by omega) hX' hk h3 hv hF hK hwh hS (fun i hi => hw' i (by omega)) hm hH)
    split
    · split
      · split
        · split
          · split
            · exact hJ (by rw [call_4]; exact act_setLatency h2 hF _ _)
            · split
              · exact hJ (by rw [call_5]; exact act_setDelay h2 hF _)
              · split
                · split
                  · exact hJ (by rw [call_7]; exact act_takeOut h2 hF _)
                  · split
                    · split
                      · exact hJ (by rw [call_11]; exact act_goBack h2 hk hK)
                      · obtain ⟨v, S', X', e9, hv9, h9, hF9⟩ := act_setRegister h2 hF (n := u4.toNat) (by omega) (v := u8) (by omega)
                        rw [show ((u4.toNat : Nat) : Int) = u4 by omega] at e9
                        rw [e9, bz_l]
                        exact hJ (o := some (ic v, X')) (Or.inl ⟨v, S', X', rfl, hv9, h9, hF9⟩)
                    · exact hJ (act_pack h2 hF)
                · exact hJ (by rw [call_6]; exact act_lay h2 hF _ _)
          · exact hJ (by rw [call_3]; exact act_setSlots h2 hF _ _)
        · exact hJ (by rw [call_2]; exact act_exchange h2 hF _ _)
      · exact hJ (by rw [call_1]; exact act_remove h2 hF _)
    · rw [show fL_part X2 (r >>> ((3 : Int32) &&& 31)) (13 : Int32) = some (ic u13, X2) from e13, bd_some, show fL_part X2 (r >>> ((6 : Int32) &&& 31)) (4 : Int32) = some (ic u6, X2) from e6, bd_some]
      exact hJ (by rw [call_0]; exact act_insert h2 hF _ _ _ _ _ _)
end LOOP
