/-! THE CLAIM OUT OF ONE WALK OF THE LAW'S BODY. Your part is whole_start (and what it stands on); all else here is the same for every law, but numbers. -/
def R_law : String := "BuntingBundlesLaw"
def lw_P (b : Addr) (xs : List Int32) (args : Array Value) (s : State) : Prop := args = #[.ref b] ∧ s.IntsAt b xs ∧ xs.length ≤ 3584 ∧ (Jvm.Cond.and given_1 narrow_1).before args s = true
/-- what a walk over the start with the record d0 says of its end, said of the start itself -/
theorem lw_closed {s t : State} {o : Outcome} {d0 : Drawn} {L : List Jvm.Loc} {k n : Nat} (hd0 : s.drawn.sameBut d0 lw_cs) (hv : ∃ v, o = .returned v) (hW : (s.setDrawn d0).WarmedH t.vm) (hs : (s.setDrawn d0).sameButNew ({ t with vm := s.vm } : State) L k n) : State.butDraws s t lw_cs (fun t1 => Framed s o t1 L k n) := by
  have h2 : t.drawn = d0 := congrArg State.drawn hs.1
  refine ⟨⟨hv, hW, State.sameButNew.setDrawn hs s.drawn⟩, ?_, by decide⟩
  rw [h2]
  exact hd0
def lw_Q (_ : Array Value) (s : State) (o : Outcome) (t : State) : Prop := o = .returned (some (.int 1)) ∧ State.butDraws s t lw_cs (fun t1 => Framed s o t1 [] 601024 7293034)
def lw_Z (below : List Frame) (a : Array Value) (s : State) : State → Prop := fun t => ∃ o, t.status = .running ∧ Ended t below o ∧ lw_Q a s o t
/-- the law's own end, with 1 on the stack, nothing written that was there before, its room as the claim has it; d0: the record of draws at this point (at the entry s.drawn: begin with 'refine W.base ?_' and 'have hd0 := Drawn.sameBut.refl s.drawn lw_cs') -/
theorem lw_ret {p : Program} {l : Launch} {e : Env} {s : State} {m : MethodId} {below : List Frame} {meth : Method} {c : Code} {b : Nat} {d0 : Drawn} (hd0 : s.drawn.sameBut d0 lw_cs) (hx : p.tables.exec = Jvm.exec) (hb : c.code = code) (hr : meth.sig.returnType = ret) (hlocks : meth.locks = false) {pc : Nat} {H : Heap} {ls : Array Slot} (hdg : decode code pc = .ok (.ireturn, 1)) : W p l e room_1 (s.setDrawn d0) m #[Value.ref b] below meth c H [] 601024 7293034 (lw_Z below #[Value.ref b] s) (F0 m pc ls [.int 1]) := by
  intro T hT X
  obtain ⟨fs, hret, hrun, hended, hW, hframe⟩ := X.leave (v := some (.int 1)) (hlocks := hlocks) (fun h => by rw [hr] at h; cases h)
  have hmeth' : T.vm.method? m = some meth := X.method'
  refine ⟨T.setFrames fs, ?_, .returned (some (.int 1)), hrun, hended, rfl, lw_closed hd0 ⟨_, rfl⟩ hW hframe⟩
  jvm_step X.here [X.here.top, hx, hb, hdg, hmeth', hr, ret, narrow_b1]
  (try refine ⟨rfl, ?_⟩); (try refine ⟨rfl, ?_⟩)
  first | (intro acts; rw [hret _ acts rfl rfl rfl]) | rw [hret _ _ rfl rfl rfl]
  exact Steps.refl _
/-- what holds at the law's entry: the machine, the code, the tables' words (any of lw_tbl by 'hts w (by decide +kernel)'), the script of L ints xs at the cell b, what the Statement gives of the start (any of its parts by flat_of_before) -/
def lw_At (p : Program) (s : State) (m : MethodId) (meth : Method) (c : Code) (b L : Nat) (xs : Nat → Int32) : Prop :=
  p.tables.exec = Jvm.exec ∧ c.code = code ∧ meth.sig.returnType = ret ∧ c.maxLocals = 9 ∧ s.vm.findClass R_law = some m.cls ∧ (∀ w ∈ lw_tbl, w.before #[Value.ref b] s = true) ∧ va_X b L xs s s.heap ∧ b < s.heap.size ∧ meth.locks = false ∧ (Jvm.Cond.and given_1 narrow_1).before #[Value.ref b] s = true
/-! the law's loop -/
section SWAP
variable {u v w : va_W} {A : Nat → Prop} {D : va_G} {cl : List vw_C} {H : Heap}
theorem swap_get (k : Nat) (x : Nat × va_E) (h : ((u ++ w) ++ v)[k]? = some x) : ((u ++ v) ++ w)[if k < u.length then k else if k < u.length + w.length then k + v.length else k - w.length]? = some x := by
  have hl := (List.getElem?_eq_some_iff.mp h).1
  simp only [List.length_append] at hl
  by_cases h1 : k < u.length
  · rw [if_pos h1]
    rw [app_l (u := u ++ w) (v := v) (by rw [List.length_append]; omega), app_l (u := u) (v := w) h1] at h
    rw [app_l (u := u ++ v) (v := w) (by rw [List.length_append]; omega), app_l (u := u) (v := v) h1]
    exact h
  · rw [if_neg h1]
    by_cases h2 : k < u.length + w.length
    · rw [if_pos h2]
      rw [app_l (u := u ++ w) (v := v) (by rw [List.length_append]; omega), app_r (u := u) (v := w) (by omega)] at h
      rw [app_r (u := u ++ v) (v := w) (by rw [List.length_append]; omega), List.length_append, show k + v.length - (u.length + v.length) = k - u.length by omega]
      exact h
    · rw [if_neg h2]
      rw [app_r (u := u ++ w) (v := v) (by rw [List.length_append]; omega), List.length_append] at h
      rw [app_l (u := u ++ v) (v := w) (by rw [List.length_append]; omega), app_r (u := u) (v := v) (by omega), show k - w.length - u.length = k - (u.length + w.length) by omega]
      exact h
theorem swap_P (h : va_P D cl ((u ++ v) ++ w) H) : va_P D cl ((u ++ w) ++ v) H := fun k x hk => h _ x (swap_get k x hk)
theorem swap_D (h : va_D A ((u ++ v) ++ w)) : va_D A ((u ++ w) ++ v) := by
  refine ⟨fun i j p q hi hj hpq => ?_, fun k x hk => h.2 _ x (swap_get k x hk)⟩
  have h1 := h.1 _ _ p q (swap_get i p hi) (swap_get j q hj) hpq
  have li := (List.getElem?_eq_some_iff.mp hi).1
  have lj := (List.getElem?_eq_some_iff.mp hj).1
  simp only [List.length_append] at li lj
  split at h1 <;> split at h1
  all_goals (try split at h1)
  all_goals (try split at h1)
  all_goals omega
end SWAP
theorem nI_lit (n : Nat) : (OfNat.ofNat n : Int32) = nI n := rfl
section LAWLOOP
variable {p : Program} {l : Launch} {e : Env} {s : State} {m : MethodId} {args : Array Value} {below : List Frame} {meth : Method} {c : Code} {D : va_G} {cI cR cL : ClassId} {A0 : Nat → Prop} {Q : State → Prop}
variable {adX adM : Nat → Nat} {q : Nat} {b L : Nat} {xs : Nat → Int32}
theorem law_in {t j : Nat} {y : Int32} (hy : y = nI j) (h : 7 * t + j < L) (hL : L ≤ 3584) : vp_in (nI (7 * t) + y) L := by
  subst hy
  rw [nI_add]
  exact nI_in h (by omega)
theorem law_loop (E : EL p s m args meth c cL_law 9 RL D cI cR cL A0) (hl9 : l.stackTraces = false) (hS : va_X b L xs s s.heap) (hbl : b < s.heap.size) (hbA : ¬ A0 b) (hL : L ≤ 3584)
    (hE : ∀ (i : Int32) (X M : Mem) (o : Nat → Int64), LC p l e room_1 s m args below meth c 9 D A0 Q (WL cI cR cL adX adM q X M o) 601024 7293034 2658 (lo5 b (adX 0) (adM 0) q i) []) :
    ∀ (n t : Nat), L < 7 * (t + n) → 7 * t ≤ L → ∀ (cf : Cf) (X M : Mem) (o : Nat → Int64), GC cf → XC cf X → MC cf M → ∀ cl sl : Nat, cl + 2 * n ≤ 601024 → sl + 12 * n ≤ 7293034 →
      LC p l e room_1 s m args below meth c 9 D A0 Q (WL cI cR cL adX adM q X M o) cl sl 23 (lo5 b (adX 0) (adM 0) q (nI (7 * t))) []
  | 0, t, h1, h2, cf, X, M, o, hG, hX, hM, cl, sl, hc, hs => absurd h1 (by omega)
  | n + 1, t, h1, h2, cf, X, M, o, hG, hX, hM, cl, sl, hc, hs => by
    refine lc_iload E.1 (pc := 23) dL_law_23 rfl ?_
    refine lc_aload_n E.1 (pc := 25) dL_law_25 rfl ?_
    refine lc_slen E.1 (pc := 26) hS hbl hbA dL_law_26 ?_
    refine lc_bipush E.1 (pc := 27) dL_law_27 kb_7 ?_
    refine lc_isub E.1 (pc := 29) dL_law_29 ?_
    have e1 : (Int32.ofNat L - 7 : Int32) = ic ((L : Int) - 7) := by
      rw [show (Int32.ofNat L : Int32) = nI L from rfl, ic_nI, show (7 : Int32) = ic 7 from rfl, ic_sub]
    have e2 : nI (7 * t) = ic ((7 * t : Nat) : Int) := ic_nI _
    by_cases h : 7 * t + 7 ≤ L
    · refine lc_gtN E.1 (pc := 30) (tgt := 2658) dL_law_30 rfl (by rw [e1, e2, ic_lt (by omega)]; omega) ?_
      refine law_call E hl9 hS hbl hbA (fun j hj => ?_) hG hX hM ⟨by omega, by omega⟩ (fun c1 X1 M1 o1 g1 g2 g3 => ?_) ?_
      · simp only [List.mem_cons, List.not_mem_nil, or_false] at hj
        rcases hj with rfl | rfl | rfl | rfl | rfl | rfl
        · exact law_in (j := 1) rfl (by omega) hL
        · exact law_in (j := 2) rfl (by omega) hL
        · exact law_in (j := 3) rfl (by omega) hL
        · exact law_in (j := 4) rfl (by omega) hL
        · exact law_in (j := 5) rfl (by omega) hL
        · exact law_in (j := 6) rfl (by omega) hL
      · refine lc_iinc E.1 (lo' := (lo5 b (adX 0) (adM 0) q (nI (7 * (t + 1))))) (pc := 2652) (v := nI (7 * (t + 1))) dL_law_2652 rfl ?_ (by decide) rfl rfl ?_
        · rw [show (Int32.ofInt 7 : Int32) = nI 7 from rfl, nI_add, show 7 * t + 7 = 7 * (t + 1) by omega]
        · refine lc_goto E.1 (pc := 2655) (tgt := 23) dL_law_2655 rfl ?_
          exact law_loop E hl9 hS hbl hbA hL hE n (t + 1) (by omega) (by omega) c1 X1 M1 o1 g1 g2 g3 (cl + 2) (sl + 12) (by omega) (by omega)
      · exact nI_in (by omega) (by omega)
    · refine lc_gtY E.1 (pc := 30) (tgt := 2658) dL_law_30 rfl (by rw [e1, e2, ic_lt (by omega)]; omega) ?_
      exact lc_widen (cl' := 601024) (sl' := 7293034) (by omega) (by omega) (hE _ X M o)
theorem cL_one {cA : ClassId} {t2 : List (ClassId × FieldType)} (hK : va_K D vwCl (tyL cI cR cL) s) (hK2 : va_K D vwCl (t2 ++ [(cA, .long)]) s) : cA = cL := by
  have h1 := (hK.2 2 _ rfl).2
  have h2 := (hK2.2 t2.length (cA, .long) (by simp)).2
  exact Option.some.inj (h2.symm.trans h1)
theorem lc_newl (E : EL p s m args meth c cL_law 9 RL D cI cR cL A0) {ws : va_W} {cl sl pc : Nat} {lo : List (Option Value)} {st : List Value} {R : Room} (hd : decode cL_law pc = .ok (.newarray .long, 2)) (hw : Cond.arrayClass .long ∈ Z_W) (hc : cl + 1 ≤ R.cells ∧ sl + 1 ≤ R.slots)
    (k : ∀ q, LC p l e R s m args below meth c 9 D A0 Q (ws ++ [ou cL q (fun _ => 0)]) (cl + 1) (sl + 1) (pc + 2) lo (.ref q :: st)) : LC p l e R s m args below meth c 9 D A0 Q ws cl sl pc lo (.int 1 :: st) := by
  intro H locs ls hP hD hS hL
  refine va_newa (atype := .long) (ty := .long) (N' := 1) (a0 := (1, .inr (.inl (fun _ => 0)))) E.1.1 E.1.2.1 (E.1.2.2.2.2.1 _ hw) rfl E.2.1 hP hD hS E.1.2.2.2.2.2.2.1 (fun _ => rfl) (by decide) (by decide) (by decide) hc.1 hc.2 hd (fun q cA H1 hK1 hP1 hD1 hS1 => ?_)
  have he : cA = cL := cL_one E.2.1 hK1
  subst he
  exact k q H1 locs ls hP1 hD1 hS1 hL
end LAWLOOP
theorem whole_start {p : Program} {e : Env} {s : State} {m : MethodId} {below : List Frame} {meth : Method} {c : Code} (l : Launch) (hflags : l.flags = flags0) {b L : Nat} {xs : Nat → Int32} (hL : L ≤ 3584) (C0 : lw_At p s m meth c b L xs) : W p l e room_1 s m #[Value.ref b] below meth c s.heap [] 0 0 (lw_Z below #[Value.ref b] s) (entryFrame m ([Value.ref b] : List Value).toArray 9) := by
  obtain ⟨hx, hb, hr, hml, hown, hts, hX, hbl, hlocks, hgv⟩ := id C0
  have hl9 : l.stackTraces = false := by
    unfold Launch.stackTraces
    rw [hflags]
    decide
  obtain ⟨D, cI, cR, cL, hK⟩ := k_all hts hgv
  have hbA : ¬ (fun q : Nat => s.heap.size ≤ q) b := Nat.not_le.mpr hbl
  have E : EL p s m #[Value.ref b] meth c cL_law 9 RL D cI cR cL (fun q : Nat => s.heap.size ≤ q) := ⟨⟨hx, hb, hml, hown, fun w hw => hts w (List.mem_filter.mp hw).1, hK.sub [0, 1] rfl, fun q h => h, hlocks, ex_all hts hgv⟩, hK, nc_all hgv, stt_all hts hgv (fun a ha => Nat.not_le.mpr ha)⟩
  have hEnd : ∀ (adX adM : Nat → Nat) (q : Nat) (i : Int32) (X M : Mem) (o : Nat → Int64), LC p l e room_1 s m #[Value.ref b] below meth c 9 D (fun q : Nat => s.heap.size ≤ q) (lw_Z below #[Value.ref b] s) (WL cI cR cL adX adM q X M o) 601024 7293034 2658 (lo5 b (adX 0) (adM 0) q i) [] := fun adX adM q i X M o =>
    lc_iconst E.1 (pc := 2658) dL_law_2658 kc_1 (fun H locs ls hP hD hS hL9 => va_forget hS.2.2 (lw_ret (d0 := s.drawn) (Drawn.sameBut.refl s.drawn lw_cs) hx hb hr hlocks dL_law_2659))
  have hl := lv_entry ([.ref b]) (n := 9) (Nat.le_of_ble_eq_true rfl)
  rw [lg_entry_eq]
  generalize (lg_sl ([.ref b]) ++ List.replicate (9 - (lg_sl ([.ref b])).length) Slot.unset).toArray = ls at hl ⊢
  have hlo : lo_has ls 9 [some (.ref b), none, none, none, none, none, none, none, none] := ⟨hl.1, hl.2.1, fun i v h => hl.2.2 (i, v) (by have h2 := lo0_args [.ref b] 9 0 i v h; rwa [Nat.zero_add] at h2)⟩
  have hP0 : va_P D vwCl [] s.heap := fun k q h => by simp at h
  have hD0 : va_D (fun q : Nat => s.heap.size ≤ q) [] := ⟨fun i j p q h => by simp at h, fun k q h => by simp at h⟩
  suffices k : LC p l e room_1 s m #[Value.ref b] below meth c 9 D (fun q : Nat => s.heap.size ≤ q) (lw_Z below #[Value.ref b] s) [] 0 0 0 [some (.ref b), none, none, none, none, none, none, none, none] [] from k s.heap [] ls hP0 hD0 va_S.rf hlo
  refine lc_new E.1 (pc := 0) (ci := 8) (fs := [.null, .null, .null, .int 0, .null, .null, .int 0, .null, .null, .null, .int 0, .null, .null, .null, .null, .null]) dL_law_0 rfl uw_8 tyX8_ok (zw 20 (by decide +kernel) (by decide +kernel)) (zw 21 (by decide +kernel) (by decide +kernel)) (zw 1 (by decide +kernel) (by decide +kernel)) df_8 ⟨(Nat.le_of_ble_eq_true rfl), (Nat.le_of_ble_eq_true rfl)⟩ (fun q1 => ?_)
  refine lc_dup E.1 (pc := 3) dL_law_3 rfl ?_
  refine lc_call E.1 (wr := []) (pc := 4) (d := 3) (mc := 100) (ms := 4543) dL_law_4 ctX8_init (Or.inl (zw 22 (by decide +kernel) (by decide +kernel))) (zw 23 (by decide +kernel) (by decide +kernel)) (zw 1 (by decide +kernel) (by decide +kernel)) (zw 24 (by decide +kernel) (by decide +kernel)) rfl ⟨by decide +kernel, by decide +kernel, by decide +kernel⟩ (by decide) (Nat.le_of_ble_eq_true rfl) ⟨(Nat.le_of_ble_eq_true rfl), (Nat.le_of_ble_eq_true rfl)⟩ ⟨(Nat.le_of_ble_eq_true rfl), (Nat.le_of_ble_eq_true rfl)⟩ (fun aX haX => ?_)
  subst haX
  refine lc_astore_n E.1 (lo' := [some (.ref b), some (.ref (aX 0)), none, none, none, none, none, none, none]) (pc := 7) dL_law_7 (by decide) rfl rfl ?_
  refine lc_new E.1 (pc := 8) (ci := 9) (fs := [.null, .null, .int 0, .null, .int 0, .null, .int 0, .null, .null, .null, .null, .null, .null, .null, .null, .null, .null, .null, .null, .null, .null, .null, .int 0, .int 0, .null, .int 0]) dL_law_8 rfl uw_9 tyX9_ok (zw 1165 (by decide +kernel) (by decide +kernel)) (zw 1166 (by decide +kernel) (by decide +kernel)) (zw 10 (by decide +kernel) (by decide +kernel)) df_9 ⟨(Nat.le_of_ble_eq_true rfl), (Nat.le_of_ble_eq_true rfl)⟩ (fun q2 => ?_)
  refine lc_dup E.1 (pc := 11) dL_law_11 rfl ?_
  refine lc_call E.1 (wr := [] ++ wo cI cR aX shX NX μ0X) (pc := 12) (d := 1) (mc := 20) (ms := 4201) dL_law_12 ctX9_init (Or.inl (zw 1167 (by decide +kernel) (by decide +kernel))) (zw 1168 (by decide +kernel) (by decide +kernel)) (zw 10 (by decide +kernel) (by decide +kernel)) (zw 1169 (by decide +kernel) (by decide +kernel)) rfl ⟨by decide +kernel, by decide +kernel, by decide +kernel⟩ (by decide) (Nat.le_of_ble_eq_true rfl) ⟨(Nat.le_of_ble_eq_true rfl), (Nat.le_of_ble_eq_true rfl)⟩ ⟨(Nat.le_of_ble_eq_true rfl), (Nat.le_of_ble_eq_true rfl)⟩ (fun aM haM => ?_)
  subst haM
  refine lc_astore_n E.1 (lo' := [some (.ref b), some (.ref (aX 0)), some (.ref (aM 0)), none, none, none, none, none, none]) (pc := 15) dL_law_15 (by decide) rfl rfl ?_
  refine lc_iconst E.1 (pc := 16) dL_law_16 kc_1 ?_
  refine lc_newl E (pc := 17) dL_law_17 (zw 1805 (by decide +kernel) (by decide +kernel)) ⟨(Nat.le_of_ble_eq_true rfl), (Nat.le_of_ble_eq_true rfl)⟩ (fun q => ?_)
  refine lc_fin (ws' := WL cI cR cL aX aM q μ0X μ0M (fun _ => 0)) (fun H h => swap_P (u := wo cI cR aX shX NX μ0X) h) (fun A h => swap_D (u := wo cI cR aX shX NX μ0X) h) ?_
  refine lc_astore_n E.1 (lo' := [some (.ref b), some (.ref (aX 0)), some (.ref (aM 0)), some (.ref q), none, none, none, none, none]) (pc := 19) dL_law_19 (by decide) rfl rfl ?_
  refine lc_iconst E.1 (pc := 20) dL_law_20 kc_0 ?_
  refine lc_istore E.1 (lo' := lo5 b (aX 0) (aM 0) q (nI (7 * 0))) (pc := 21) dL_law_21 (by decide) rfl rfl ?_
  exact law_loop E hl9 hX hbl hbA hL (hEnd aX aM q) 513 0 (by omega) (by omega) cf0 μ0X μ0M (fun _ => 0) gcf0 xcf0 mcf0 _ _ (Nat.le_of_ble_eq_true rfl) (Nat.le_of_ble_eq_true rfl)
