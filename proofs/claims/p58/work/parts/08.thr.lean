/-! METHODS THAT THROW -/
abbrev xsup : List String := ["java/lang/RuntimeException", "java/lang/Exception"]
abbrev RX (d mc : Nat) : Room := { frames := d, cells := mc, slots := 6 * mc, locals := 38 * d }
def STT (A : Nat → Prop) (U : State) (H : Heap) : Prop := vx_Zq Bundle.tN "UNASSIGNED_STACK" Bundle.steD A U H ∧ vx_Zq Bundle.tN "SUPPRESSED_SENTINEL" Bundle.listD A U H
theorem STT.moved {A : Nat → Prop} {u U : State} {H : Heap} (hvm : u.vm.Alike U.vm) (h : STT A u H) : STT A U H := ⟨vx_Zq.moved hvm h.1, vx_Zq.moved hvm h.2⟩
theorem STT.kept {A : Nat → Prop} {U : State} {H H1 : Heap} (h : STT A U H) (hq : ∀ a : Nat, a < H.size → ¬ A a → H1[a]? = H[a]?) : STT A U H1 := ⟨h.1.kept hq, h.2.kept hq⟩
theorem STT.narrow {A B : Nat → Prop} {U : State} {H : Heap} (h : STT A U H) (hAB : ∀ q, B q → A q) : STT B U H := ⟨h.1.narrow hAB, h.2.narrow hAB⟩
/-- the words of 'new X(text)' in the class, X the exception k -/
def XW (k ik ic : Nat) : Prop := Cond.classLink RX8 ik (xnm k) ∈ Z_W ∧ Cond.initialized (xnm k) ∈ Z_W ∧ (∀ w ∈ (vx_atS RX8 ic (xnm k) xsup).filter goodWord, w ∈ Z_W) ∧ (∀ w ∈ (vx_atS RX8 ic (xnm k) xsup).filter (fun w => !goodWord w), w ∈ Cond.castable (xnm k) (xnm k) :: dcls.map Cond.declares) ∧ (∀ w ∈ Cond.classLink RX8 ik (xnm k) :: Cond.initialized (xnm k) :: vx_atS RX8 ic (xnm k) xsup, vx_ot w = true) ∧ Bundle.fit (xnm k) = true
theorem xw_1 : XW 1 89 93 := ⟨zw 281 (by decide +kernel) (by decide +kernel), zw 13 (by decide +kernel) (by decide +kernel), by decide +kernel, by decide +kernel, by decide +kernel, by decide +kernel⟩
theorem xw_2 : XW 2 96 100 := ⟨zw 349 (by decide +kernel) (by decide +kernel), zw 14 (by decide +kernel) (by decide +kernel), by decide +kernel, by decide +kernel, by decide +kernel, by decide +kernel⟩
theorem xw_3 : XW 3 101 105 := ⟨zw 365 (by decide +kernel) (by decide +kernel), zw 15 (by decide +kernel) (by decide +kernel), by decide +kernel, by decide +kernel, by decide +kernel, by decide +kernel⟩
theorem xsup_ok : ∀ n ∈ xsup, Bundle.fit n = true := by decide +kernel
section LLX
variable {p : Program} {l : Launch} {e : Env} {R : Room} {s : State} {m : MethodId} {args : Array Value} {below : List Frame} {meth : Method} {c : Code} {cc : ByteArray} {nL : Nat} {own : String} {D : va_G} {cI cR : ClassId} {ad : Nat → Nat} {shf : Nat → Shp} {N : Nat} {A0 : Nat → Prop}
variable {α β : Type} {KQ : α → Mem → State → Prop} {t ta tb : Option (α × Mem)} {cl sl pc : Nat} {lo lo' : List (Option Value)} {st : List Value} {μ : Mem}

def QXc (D : va_G) (cI cR : ClassId) (ad : Nat → Nat) (shf : Nat → Shp) (N : Nat) (A : Nat → Prop) (μ' : Mem) (o : Option Value ⊕ Nat) : Array Value → State → Outcome → State → Prop := fun a st oc t => ∃ v, o = .inl v ∧ QG D cI cR ad shf N A μ' v a st oc t
def QXx (D : va_G) (cI cR : ClassId) (ad : Nat → Nat) (shf : Nat → Shp) (N : Nat) (A : Nat → Prop) (μ' : Mem) (o : Option Value ⊕ Nat) : String → State → State → Prop := fun E st t => ∃ k, k < 4 ∧ o = .inr k ∧ E = xnm k ∧ va_P D vwCl (wo cI cR ad shf N μ') t.heap ∧ va_K D vwCl (tyC cI cR) t ∧ va_F A st t
/-- what a method that may throw owes at its end -/
abbrev KX (below : List Frame) (args : Array Value) (s : State) (D : va_G) (cI cR : ClassId) (ad : Nat → Nat) (shf : Nat → Shp) (N : Nat) (A0 : Nat → Prop) (mc : Nat) (o : Option Value ⊕ Nat) (μ' : Mem) : State → Prop := vx_MQ below (QXc D cI cR ad shf N A0 μ' o) (QXx D cI cR ad shf N A0 μ' o) args s mc (6 * mc) A0
def PCx (D : va_G) (cI cR : ClassId) (ad : Nat → Nat) (shf : Nat → Shp) (N : Nat) (av : List Value) (μ : Mem) (sz : Nat) : Array Value → State → Prop := va_Pc av (fun U => U.heap.size = sz ∧ va_P D vwCl (wo cI cR ad shf N μ) U.heap ∧ va_K D vwCl (tyC cI cR) U ∧ va_D (fun _ => True) (wo cI cR ad shf N μ) ∧ EXn U ∧ STT (aA ad N sz) U U.heap)
theorem PCx_blind {av : List Value} {sz : Nat} : FrameBlind (PCx D cI cR ad shf N av μ sz) := fun a U g mk q => by
  obtain ⟨q0, q1, qP, qK, qD, qE, qS⟩ := q
  exact ⟨q0, q1, qP, va_K.moved (u := U) (U := U.calling g mk a) (Vm.Alike.refl U.vm) qK, qD, EXn.same (u := U) (U := U.calling g mk a) rfl qE, STT.moved (u := U) (U := U.calling g mk a) (Vm.Alike.refl U.vm) qS⟩
/-- the contract of a method that may throw -/
def CX (l : Launch) (y : MethodName) (cy : ByteArray) (maxL : Nat) (ret : Option FieldType) (d mc : Nat) (D : va_G) (cI cR : ClassId) (ad : Nat → Nat) (shf : Nat → Shp) (N : Nat) (av : List Value) (μ : Mem) (o : Option Value ⊕ Nat) (μ' : Mem) : Prop :=
  ∀ sz, vx_Met l y (.code y cy maxL ret :: Z_W) (RX d mc) (PCx D cI cR ad shf N av μ sz) (QXc D cI cR ad shf N (aA ad N sz) μ' o) (QXx D cI cR ad shf N (aA ad N sz) μ' o) mc (6 * mc) (aA ad N sz)
/-- what stands fast beside EV while a method runs that may throw -/
abbrev EX9 (l : Launch) (s : State) (c : Code) (A0 : Nat → Prop) : Prop := l.stackTraces = false ∧ (∀ x ∈ c.exceptionTable.toList, False) ∧ STT A0 s s.heap
theorem cx_of {y : MethodName} {maxL d mc : Nat} {ret : Option FieldType} {av : List Value} {ov : α → Option Value ⊕ Nat} {f : Option (α × Mem)} (hl9 : l.stackTraces = false) (hy : plainName y.cls = true) (hown : y.cls = own) (hlen : (lg_sl av).length ≤ maxL)
    (body : ∀ (p : Program) (e : Env) (s : State) (m : MethodId) (below : List Frame) (meth : Method) (c : Code) (A0 : Nat → Prop), EV p s m av.toArray meth c cc maxL own D cI cR ad shf N A0 → EX9 l s c A0 → meth.sig.returnType = ret →
      LL p l e (RX d mc) s m av.toArray below meth c maxL D cI cR ad shf N A0 (fun r μ' => KX below av.toArray s D cI cR ad shf N A0 mc (ov r) μ') f 0 0 0 (lo0 av maxL) [] μ)
    {r : α} {μ' : Mem} (hf : f = some (r, μ')) : CX l y cc maxL ret d mc D cI cR ad shf N av μ (ov r) μ' := by
  intro sz
  refine vx_ofW (cc := cc) (maxL := maxL) (ret := ret) hy rfl ?_
  intro p e s m args below meth c s₁ B hml hnt hv
  obtain ⟨rfl, hsz, hP, hK, hD0, hE0, hS0⟩ := hv
  have hts := atoms_spec (ws := .code y cc maxL ret :: Z_W) B.pre
  have ho : s.vm.findClass own = some m.cls := hown ▸ findClass_of_methodNamed B.named
  subst hsz
  have hD : ∀ μ9, va_D (aA ad N s.heap.size) (wo cI cR ad shf N μ9) := fun μ9 => wo_D hD0 (fun k hk => Or.inl ⟨k, hk, rfl⟩)
  have hl := lv_entry av (n := maxL) hlen
  rw [lg_entry_eq]
  generalize (lg_sl av ++ List.replicate (maxL - (lg_sl av).length) Slot.unset).toArray = ls at hl ⊢
  exact body p e s m below meth c (aA ad N s.heap.size) ⟨B.exec, B.bytes, hml, ho, fun w hw => hts w (List.mem_cons_of_mem _ hw), hK, hD, fun q h => Or.inr h, B.notSynchronized, hE0⟩ ⟨hl9, hnt, hS0⟩ B.returns r μ' hf s.heap [] ls hP va_S.rf
    ⟨hl.1, hl.2.1, fun i v h => hl.2.2 (i, v) (by have h2 := lo0_args av maxL 0 i v h; rwa [Nat.zero_add] at h2)⟩
theorem ll_xireturn (E : EV p s m args meth c cc nL own D cI cR ad shf N A0) {r : Int32} {mc : Nat} (hr : meth.sig.returnType = some .int) (hd : decode cc pc = .ok (.ireturn, 1)) (hc : cl ≤ mc ∧ sl ≤ 6 * mc) : LL p l e R s m args below meth c nL D cI cR ad shf N A0 (fun (r : Int32 ⊕ Nat) μ' => KX below args s D cI cR ad shf N A0 mc (r.elim (fun r => .inl (some (.int r))) .inr) μ') (some (.inl r, μ)) cl sl pc lo [.int r] μ :=
  ll_some (fun H locs ls hP hS hL => W.widen hc.1 hc.2 (vx_ret (W.iret E.1 E.2.1 hr (fun t ht hW => ⟨some (.int r), rfl, rfl, by rw [ht]; exact hP, va_K.moved hW.alike E.2.2.2.2.2.1, hS.F ht⟩) hS.2.2 hd E.2.2.2.2.2.2.2.2.1)))
theorem ll_xreturn (E : EV p s m args meth c cc nL own D cI cR ad shf N A0) {r : Unit} {mc : Nat} (hr : meth.sig.returnType = none) (hd : decode cc pc = .ok (.return_, 1)) (hc : cl ≤ mc ∧ sl ≤ 6 * mc) : LL p l e R s m args below meth c nL D cI cR ad shf N A0 (fun (r : Unit ⊕ Nat) μ' => KX below args s D cI cR ad shf N A0 mc (r.elim (fun _ => .inl (none)) .inr) μ') (some (.inl r, μ)) cl sl pc lo [] μ :=
  ll_some (fun H locs ls hP hS hL => W.widen hc.1 hc.2 (vx_ret (W.vret E.1 E.2.1 hr (fun t ht hW => ⟨none, rfl, rfl, by rw [ht]; exact hP, va_K.moved hW.alike E.2.2.2.2.2.1, hS.F ht⟩) hS.2.2 hd E.2.2.2.2.2.2.2.2.1)))
theorem ll_throw (E : EV p s m args meth c cc nL RX8 D cI cR ad shf N A0) {ov : α → Option Value ⊕ Nat} {r : α} {k ik ic is mc : Nat} {tx : String} (X : EX9 l s c A0) (hk : k < 4) (hW : XW k ik ic) (htx : (is, tx) ∈ strs) (ho : ov r = .inr k)
    (d0 : decode cc pc = .ok (.new ik, 3)) (d3 : decode cc (pc + 3) = .ok (.dup, 1)) (d4 : decode cc (pc + 4) = .ok (.ldc is, 2)) (d6 : decode cc (pc + 6) = .ok (.invokespecial ic, 3)) (d9 : decode cc (pc + 9) = .ok (.athrow, 1)) (hR : 7 ≤ R.frames ∧ 266 ≤ R.locals) (hcat : (st.map fun v => v.category).sum ≤ 8) (hc : cl + 1 ≤ mc ∧ sl + 6 ≤ 6 * mc) (hRc : mc ≤ R.cells ∧ 6 * mc ≤ R.slots) :
    LL p l e R s m args below meth c nL D cI cR ad shf N A0 (fun r μ' => KX below args s D cI cR ad shf N A0 mc (ov r) μ') (some (r, μ)) cl sl pc lo st μ := by
  refine ll_some (fun H locs ls hP hS hL => ?_)
  obtain ⟨sa, hsa⟩ := E.2.2.2.2.2.2.2.2.2.2.1 _ htx
  have hts := E.2.2.2.2.1
  obtain ⟨w1, w2, w3, w4, w5, w6⟩ := hW
  refine vx_throwS (A := A0) (names := xsup) (ik := ik) (is := is) (ic := ic) (sa := sa) (text := tx) E.1 E.2.1 X.1 E.2.2.2.1 w6 xsup_ok (hts _ w1) (hts _ w2) hsa
    (vx_hat (fun w hw => hts w (w3 w hw)) w4 (fun w hw => by
      rcases List.mem_cons.mp hw with hw | hw
      · rw [hw]
        exact va_Nw.use rfl (E.2.2.2.2.2.2.2.2.2.2.2.1 k hk)
      · obtain ⟨x, hx, hw⟩ := List.mem_map.mp hw
        rw [← hw]
        exact va_Nw.use rfl (E.2.2.2.2.2.2.2.2.2.2.2.2.1 x hx))) w5 X.2.2.1 X.2.2.2 hS (hL.1.trans E.2.2.1.symm) d0 d3 d4 d6 d9 (fun x hx => (X.2.1 x hx).elim) ?_ ?_ (Nat.le_trans hc.1 hRc.1) (Nat.le_trans hc.2 hRc.2) E.2.2.2.2.2.2.2.2.1 (fun t hvm hz hkp => ?_) hS.2.2 hc.1 hc.2
  · have h9 := hR.1
    show 2 + 3 < R.frames
    omega
  · have h9 := hR.2
    show (st.map fun v => v.category).sum + (13 * (2 + 1) + 43) ≤ R.locals
    omega
  · refine ⟨k, hk, ho, rfl, hP.kept (fun i q hq => hkp q.1 (hP i q hq).lt), va_K.moved hvm E.2.2.2.2.2.1, Nat.le_trans hS.1 hz, fun q h1 h2 => ?_⟩
    rw [hkp q (Nat.lt_of_lt_of_le h1 hS.1)]
    exact hS.2.1 q h1 h2
theorem ll_throwW (E : EV p s m args meth c cc nL RX8 D cI cR ad shf N A0) {ov : α → Option Value ⊕ Nat} {r : α} {k ik ic is mc : Nat} {tx : String} (X : EX9 l s c A0) (hk : k < 4) (hW : XW k ik ic) (htx : (is, tx) ∈ strs) (ho : ov r = .inr k)
    (d0 : decode cc pc = .ok (.new ik, 3)) (d3 : decode cc (pc + 3) = .ok (.dup, 1)) (d4 : decode cc (pc + 4) = .ok (.ldc_w is, 3)) (d6 : decode cc (pc + 7) = .ok (.invokespecial ic, 3)) (d9 : decode cc (pc + 10) = .ok (.athrow, 1)) (hR : 7 ≤ R.frames ∧ 266 ≤ R.locals) (hcat : (st.map fun v => v.category).sum ≤ 8) (hc : cl + 1 ≤ mc ∧ sl + 6 ≤ 6 * mc) (hRc : mc ≤ R.cells ∧ 6 * mc ≤ R.slots) :
    LL p l e R s m args below meth c nL D cI cR ad shf N A0 (fun r μ' => KX below args s D cI cR ad shf N A0 mc (ov r) μ') (some (r, μ)) cl sl pc lo st μ := by
  refine ll_some (fun H locs ls hP hS hL => ?_)
  obtain ⟨sa, hsa⟩ := E.2.2.2.2.2.2.2.2.2.2.1 _ htx
  have hts := E.2.2.2.2.1
  obtain ⟨w1, w2, w3, w4, w5, w6⟩ := hW
  refine vx_throwSW (A := A0) (names := xsup) (ik := ik) (is := is) (ic := ic) (sa := sa) (text := tx) E.1 E.2.1 X.1 E.2.2.2.1 w6 xsup_ok (hts _ w1) (hts _ w2) hsa
    (vx_hat (fun w hw => hts w (w3 w hw)) w4 (fun w hw => by
      rcases List.mem_cons.mp hw with hw | hw
      · rw [hw]
        exact va_Nw.use rfl (E.2.2.2.2.2.2.2.2.2.2.2.1 k hk)
      · obtain ⟨x, hx, hw⟩ := List.mem_map.mp hw
        rw [← hw]
        exact va_Nw.use rfl (E.2.2.2.2.2.2.2.2.2.2.2.2.1 x hx))) w5 X.2.2.1 X.2.2.2 hS (hL.1.trans E.2.2.1.symm) d0 d3 d4 d6 d9 (fun x hx => (X.2.1 x hx).elim) ?_ ?_ (Nat.le_trans hc.1 hRc.1) (Nat.le_trans hc.2 hRc.2) E.2.2.2.2.2.2.2.2.1 (fun t hvm hz hkp => ?_) hS.2.2 hc.1 hc.2
  · have h9 := hR.1
    show 2 + 3 < R.frames
    omega
  · have h9 := hR.2
    show (st.map fun v => v.category).sum + (13 * (2 + 1) + 43) ≤ R.locals
    omega
  · refine ⟨k, hk, ho, rfl, hP.kept (fun i q hq => hkp q.1 (hP i q hq).lt), va_K.moved hvm E.2.2.2.2.2.1, Nat.le_trans hS.1 hz, fun q h1 h2 => ?_⟩
    rw [hkp q (Nat.lt_of_lt_of_le h1 hS.1)]
    exact hS.2.1 q h1 h2
/-- a call's answer handed on, its exception handed out -/
def bx {β γ : Type} (o : Option ((β ⊕ Nat) × Mem)) (f : β → Mem → Option ((γ ⊕ Nat) × Mem)) : Option ((γ ⊕ Nat) × Mem) := match o with
  | some (.inl r, μ) => f r μ
  | some (.inr k, μ) => some (.inr k, μ)
  | none => none
theorem ll_prex (E : EV p s m args meth c cc nL own D cI cR ad shf N A0) (X : EX9 l s c A0) {H : Heap} {locs : List Loc} {As : List Value} (hP : va_P D vwCl (wo cI cR ad shf N μ) H) (hS : va_S A0 s.heap H locs) : PreS s H (PCx D cI cR ad shf N As μ H.size) As :=
  ⟨PCx_blind, fun U hU hW => ⟨rfl, by rw [hU], by rw [hU]; exact hP, va_K.moved hW.alike E.2.2.2.2.2.1, (E.2.2.2.2.2.2.1 μ).weaken (fun _ _ _ _ => trivial), EXn.warm hW E.2.2.2.2.2.2.2.2.2, by
    rw [hU]
    refine STT.moved hW.alike ((X.2.2.kept hS.2.1).narrow ?_)
    rintro q (⟨k9, h1, rfl⟩ | h1)
    · exact (E.2.2.2.2.2.2.1 μ).2 k9 _ (wo_get h1)
    · exact E.2.2.2.2.2.2.2.1 q (Nat.le_trans hS.1 h1)⟩⟩
/-- behind a call that may throw: its answer, or its exception handed out -/
theorem ll_backX {γ : Type} {ovc : γ → Option Value ⊕ Nat} {K9 : γ → Mem → State → Prop} (E : EV p s m args meth c cc nL own D cI cR ad shf N A0) {H : Heap} {locs : List Loc} {ls : Array Slot} {o1 : Option Value ⊕ Nat} {μ1 : Mem} {st0 rest : List Value} {av : Array Value} {Q : State → Prop} {mc1 ms1 : Nat}
    (hr : vx_Run p l e R s m args below meth c H locs cl sl mc1 ms1 (F0 m pc ls st0) rest (QXc D cI cR ad shf N (aA ad N H.size) μ1 o1 av) (QXx D cI cR ad shf N (aA ad N H.size) μ1 o1) (aA ad N H.size)) (hS : va_S A0 s.heap H locs)
    (kk : ∀ v, o1 = .inl v → ∀ (H1 : Heap) (locs1 : List Loc), va_P D vwCl (wo cI cR ad shf N μ1) H1 → va_S A0 s.heap H1 locs1 → W p l e R s m args below meth c H1 locs1 (cl + mc1) (sl + ms1) Q (F0 m (pc + 3) ls (v.toList ++ rest)))
    (kx : ∀ k, k < 4 → o1 = .inr k → ∀ (H1 : Heap) (locs1 : List Loc) (q : Addr) (ce : Cell), va_P D vwCl (wo cI cR ad shf N μ1) H1 → va_S A0 s.heap H1 locs1 → H1[q]? = some ce → ce.vm = .none → s.vm.findClass (xnm k) = some ce.cls → vx_W p l e R s m args below meth c H1 locs1 (cl + mc1) (sl + ms1) Q (F0 m pc ls rest) q) : W p l e R s m args below meth c H locs cl sl Q (F0 m pc ls st0) := by
  have hA : ∀ q, aA ad N H.size q → A0 q := by
    rintro q (⟨k9, h1, rfl⟩ | h1)
    · exact (E.2.2.2.2.2.2.1 μ1).2 k9 _ (wo_get h1)
    · exact E.2.2.2.2.2.2.2.1 q (Nat.le_trans hS.1 h1)
  intro T hT X9
  rcases hr T hT X9 with ⟨v', st₀, t, T', L, h0, X', hL, e1, e2, ⟨v9, ho, hv, hP1, hK1, hz, hk⟩, stp⟩ | ⟨q, st₀, t, T', L, E9, ce, h0, X', hL, e1, e2, ⟨k, hk4, ho, hE, hP1, hK1, hz, hk⟩, hce, hcv, hcl, stp⟩
  · cases hv
    rw [h0] at hz hk
    obtain ⟨t2, a1, b1⟩ := kk _ ho T'.heap (locs ++ L) (by rw [e1]; exact hP1)
      ⟨Nat.le_trans hS.1 (by rw [e1]; exact hz), fun q h1 h2 => by rw [e1, hk q (Nat.lt_of_lt_of_le h1 hS.1) (fun z => h2 (hA q z))]; exact hS.2.1 q h1 h2, fun q hq => by
        rcases List.mem_append.mp hq with h | h
        · exact hS.2.2 q h
        · exact hA _ (hL q h)⟩ T' rfl X'
    exact ⟨t2, stp t2 a1, b1⟩
  · rw [h0] at hz hk
    subst hE
    obtain ⟨t2, a1, b1⟩ := kx k hk4 ho T'.heap (locs ++ L) q ce (by rw [e1]; exact hP1)
      ⟨Nat.le_trans hS.1 (by rw [e1]; exact hz), fun q h1 h2 => by rw [e1, hk q (Nat.lt_of_lt_of_le h1 hS.1) (fun z => h2 (hA q z))]; exact hS.2.1 q h1 h2, fun q hq => by
        rcases List.mem_append.mp hq with h | h
        · exact hS.2.2 q h
        · exact hA _ (hL q h)⟩ (by rw [e1]; exact hce) hcv hcl T' rfl X'
    exact ⟨t2, stp.trans a1, b1⟩
theorem mlv_cwx {idx : Nat} {y : MethodName} {cy : ByteArray} {maxL : Nat} {ret : Option FieldType} {n d mc : Nat} (h : MLV own idx y cy maxL ret n) (hts : ∀ w ∈ Z_W, w.before args s = true) (hR : d + 1 ≤ R.frames ∧ 38 * (d + 1) ≤ R.locals) :
    CallW R s args own y.cls idx y cy maxL ret (.code y cy maxL ret :: Z_W) (RX d mc) mc (6 * mc) n := by
  obtain ⟨h1, h2, h3, h4, h5, h6, h7⟩ := h
  refine ⟨callB_of n hts (gi_code h5) rfl rfl rfl (hts _ h4) (hts _ h1) h6 ⟨hR.1, ?_⟩, hts _ h2, hts _ h3⟩
  have h8 := hR.2
  show 8 + (maxL + 11) + 38 * d ≤ R.locals
  omega
theorem mls_cwx {idx : Nat} {y : MethodName} {cy : ByteArray} {maxL : Nat} {ret : Option FieldType} {n d mc : Nat} (h : MLS own idx y cy maxL ret n) (hts : ∀ w ∈ Z_W, w.before args s = true) (hR : d + 1 ≤ R.frames ∧ 38 * (d + 1) ≤ R.locals) :
    CallB R s args own idx y cy maxL ret (.code y cy maxL ret :: Z_W) (RX d mc) mc (6 * mc) n ∧ (Cond.static y).before args s = true := by
  obtain ⟨h1, h2, h4, h5, h6, h7⟩ := h
  refine ⟨callB_of n hts (gi_code h5) rfl rfl rfl (hts _ h4) (hts _ h1) h6 ⟨hR.1, ?_⟩, hts _ h2⟩
  have h8 := hR.2
  show 8 + (maxL + 11) + 38 * d ≤ R.locals
  omega
/-- a call of a method that may throw, out of one that may and has no handlers -/
theorem ll_xcallS {γ : Type} {ovg : γ → Option Value} (E : EV p s m args meth c cc nL own D cI cR ad shf N A0) (X : EX9 l s c A0) {y : MethodName} {cy : ByteArray} {maxL d idx n mc1 mc : Nat} {ret : Option FieldType} {ov : β → Option Value} {f : Option ((β ⊕ Nat) × Mem)} {t9 : β → Mem → Option ((γ ⊕ Nat) × Mem)} (As rest : List Value) {st0 : List Value} (hd : decode cc pc = .ok (.invokestatic idx, 3)) (hM : MLS own idx y cy maxL ret n)
    (hC : ∀ {r : β ⊕ Nat} {μ1 : Mem}, f = some (r, μ1) → CX l y cy maxL ret d mc1 D cI cR ad shf N As μ (r.elim (fun r => .inl (ov r)) .inr) μ1) (hst : st0 = As.reverse ++ rest) (hn : As.length = n) (hcat : (rest.map fun v => v.category).sum ≤ 8) (hR : d + 1 ≤ R.frames ∧ 38 * (d + 1) ≤ R.locals) (hc : cl + mc1 ≤ mc ∧ sl + 6 * mc1 ≤ 6 * mc) (hRc : mc ≤ R.cells ∧ 6 * mc ≤ R.slots)
    (k : ∀ r μ1, LL p l e R s m args below meth c nL D cI cR ad shf N A0 (fun (r : γ ⊕ Nat) μ' => KX below args s D cI cR ad shf N A0 mc (r.elim (fun r => .inl (ovg r)) .inr) μ') (t9 r μ1) (cl + mc1) (sl + 6 * mc1) (pc + 3) lo ((ov r).toList ++ rest) μ1) : LL p l e R s m args below meth c nL D cI cR ad shf N A0 (fun (r : γ ⊕ Nat) μ' => KX below args s D cI cR ad shf N A0 mc (r.elim (fun r => .inl (ovg r)) .inr) μ') (bx f t9) cl sl pc lo st0 μ := by
  intro r μ' h H locs ls hP hS hL
  cases hf : f with
  | none => rw [hf] at h; cases h
  | some x =>
    obtain ⟨r1, μ1⟩ := x
    rw [hf] at h
    refine ll_backX (ovc := fun (_ : Unit) => .inr 0) (K9 := fun _ _ _ => True) E (vx_runS (Ts := Z_W) ⟨E.1, E.2.1, E.2.2.1, E.2.2.2.1, E.2.2.2.2.1⟩ (hC hf H.size) (mls_cwx hM E.2.2.2.2.1 hR) (ll_prex E X hP hS) rfl hn hL.1 hst (lv_room hcat) hd ⟨Nat.le_trans hc.1 hRc.1, Nat.le_trans hc.2 hRc.2⟩) hS (fun v hv H1 locs1 hP1 hS1 => ?_) (fun k9 hk4 hk9 H1 locs1 q ce hP1 hS1 hce hcv hcl => ?_)
    · cases r1 with
      | inl r1 =>
        cases hv
        exact k r1 μ1 r μ' h H1 locs1 ls hP1 hS1 hL
      | inr k1 => cases hv
    · cases r1 with
      | inl r1 => cases hk9
      | inr k1 =>
        cases hk9
        cases h
        exact vx_out (fun x hx => (X.2.1 x hx).elim) E.2.2.2.2.2.2.2.2.1 hce hcv hcl (fun t ht hvm => ⟨k9, hk4, rfl, rfl, by rw [ht]; exact hP1, va_K.moved hvm E.2.2.2.2.2.1, hS1.F ht⟩) hS1.2.2 hc.1 hc.2
theorem ll_xcallV {γ : Type} {ovg : γ → Option Value} (E : EV p s m args meth c cc nL own D cI cR ad shf N A0) (X : EX9 l s c A0) {y : MethodName} {cy : ByteArray} {maxL d idx n mc1 mc ci o9 : Nat} {ret : Option FieldType} {ov : β → Option Value} {f : Option ((β ⊕ Nat) × Mem)} {t9 : β → Mem → Option ((γ ⊕ Nat) × Mem)} (As rest : List Value) {st0 : List Value} (hd : decode cc pc = .ok (.invokevirtual idx, 3)) (hM : MLV own idx y cy maxL ret n)
    (hC : ∀ {r : β ⊕ Nat} {μ1 : Mem}, f = some (r, μ1) → CX l y cy maxL ret d mc1 D cI cR ad shf N (.ref (ad o9) :: As) μ (r.elim (fun r => .inl (ov r)) .inr) μ1) (ho : o9 < N) (hso : (shf o9).1 = ci + 2) (hci : (vwCl[ci]?).map (fun q => q.1) = some y.cls) (hst : st0 = As.reverse ++ .ref (ad o9) :: rest) (hn : As.length = n) (hcat : (rest.map fun v => v.category).sum ≤ 8) (hR : d + 1 ≤ R.frames ∧ 38 * (d + 1) ≤ R.locals) (hc : cl + mc1 ≤ mc ∧ sl + 6 * mc1 ≤ 6 * mc) (hRc : mc ≤ R.cells ∧ 6 * mc ≤ R.slots)
    (k : ∀ r μ1, LL p l e R s m args below meth c nL D cI cR ad shf N A0 (fun (r : γ ⊕ Nat) μ' => KX below args s D cI cR ad shf N A0 mc (r.elim (fun r => .inl (ovg r)) .inr) μ') (t9 r μ1) (cl + mc1) (sl + 6 * mc1) (pc + 3) lo ((ov r).toList ++ rest) μ1) : LL p l e R s m args below meth c nL D cI cR ad shf N A0 (fun (r : γ ⊕ Nat) μ' => KX below args s D cI cR ad shf N A0 mc (r.elim (fun r => .inl (ovg r)) .inr) μ') (bx f t9) cl sl pc lo st0 μ := by
  intro r μ' h H locs ls hP hS hL
  cases hf : f with
  | none => rw [hf] at h; cases h
  | some x =>
    obtain ⟨r1, μ1⟩ := x
    rw [hf] at h
    have hg := wo_get (cI := cI) (cR := cR) (ad := ad) (shf := shf) (μ := μ) ho
    rw [cont_o hso] at hg
    cases hcl9 : vwCl[ci]? with
    | none => rw [hcl9] at hci; cases hci
    | some qc =>
      rw [hcl9] at hci
      have hrec := va_recv E.2.2.2.2.2.1 hP hcl9 hg
      rw [show qc.1 = y.cls from Option.some.inj hci] at hrec
      have hpre := ll_prex E X (As := .ref (ad o9) :: As) hP hS
      refine ll_backX (ovc := fun (_ : Unit) => .inr 0) (K9 := fun _ _ _ => True) E (vx_runV (Ts := Z_W) (C := y.cls) ⟨E.1, E.2.1, E.2.2.1, E.2.2.2.1, E.2.2.2.2.1⟩ (hC hf H.size) (mlv_cwx hM E.2.2.2.2.1 hR) ⟨hpre.1, hrec, hpre.2⟩ rfl hn hL.1 hst (lv_room hcat) hd ⟨Nat.le_trans hc.1 hRc.1, Nat.le_trans hc.2 hRc.2⟩) hS (fun v hv H1 locs1 hP1 hS1 => ?_) (fun k9 hk4 hk9 H1 locs1 q ce hP1 hS1 hce hcv hcl => ?_)
      · cases r1 with
        | inl r1 =>
          cases hv
          exact k r1 μ1 r μ' h H1 locs1 ls hP1 hS1 hL
        | inr k1 => cases hv
      · cases r1 with
        | inl r1 => cases hk9
        | inr k1 =>
          cases hk9
          cases h
          exact vx_out (fun x hx => (X.2.1 x hx).elim) E.2.2.2.2.2.2.2.2.1 hce hcv hcl (fun t ht hvm => ⟨k9, hk4, rfl, rfl, by rw [ht]; exact hP1, va_K.moved hvm E.2.2.2.2.2.1, hS1.F ht⟩) hS1.2.2 hc.1 hc.2
theorem ll_xcallSv {γ : Type} {ovg : γ → Option Value} (E : EV p s m args meth c cc nL own D cI cR ad shf N A0) (X : EX9 l s c A0) {y : MethodName} {cy : ByteArray} {maxL d idx n mc1 mc : Nat} {ret : Option FieldType} {f : Option ((Unit ⊕ Nat) × Mem)} {t9 : Unit → Mem → Option ((γ ⊕ Nat) × Mem)} (As rest : List Value) {st0 : List Value} (hd : decode cc pc = .ok (.invokestatic idx, 3)) (hM : MLS own idx y cy maxL ret n)
    (hC : ∀ {r : Unit ⊕ Nat} {μ1 : Mem}, f = some (r, μ1) → CX l y cy maxL ret d mc1 D cI cR ad shf N As μ (r.elim (fun _ => .inl none) .inr) μ1) (hst : st0 = As.reverse ++ rest) (hn : As.length = n) (hcat : (rest.map fun v => v.category).sum ≤ 8) (hR : d + 1 ≤ R.frames ∧ 38 * (d + 1) ≤ R.locals) (hc : cl + mc1 ≤ mc ∧ sl + 6 * mc1 ≤ 6 * mc) (hRc : mc ≤ R.cells ∧ 6 * mc ≤ R.slots)
    (k : ∀ r μ1, LL p l e R s m args below meth c nL D cI cR ad shf N A0 (fun (r : γ ⊕ Nat) μ' => KX below args s D cI cR ad shf N A0 mc (r.elim (fun r => .inl (ovg r)) .inr) μ') (t9 r μ1) (cl + mc1) (sl + 6 * mc1) (pc + 3) lo rest μ1) : LL p l e R s m args below meth c nL D cI cR ad shf N A0 (fun (r : γ ⊕ Nat) μ' => KX below args s D cI cR ad shf N A0 mc (r.elim (fun r => .inl (ovg r)) .inr) μ') (bx f t9) cl sl pc lo st0 μ := ll_xcallS E X (ov := fun _ => none) As rest hd hM hC hst hn hcat hR hc hRc k
theorem ll_xcallVv {γ : Type} {ovg : γ → Option Value} (E : EV p s m args meth c cc nL own D cI cR ad shf N A0) (X : EX9 l s c A0) {y : MethodName} {cy : ByteArray} {maxL d idx n mc1 mc ci o9 : Nat} {ret : Option FieldType} {f : Option ((Unit ⊕ Nat) × Mem)} {t9 : Unit → Mem → Option ((γ ⊕ Nat) × Mem)} (As rest : List Value) {st0 : List Value} (hd : decode cc pc = .ok (.invokevirtual idx, 3)) (hM : MLV own idx y cy maxL ret n)
    (hC : ∀ {r : Unit ⊕ Nat} {μ1 : Mem}, f = some (r, μ1) → CX l y cy maxL ret d mc1 D cI cR ad shf N (.ref (ad o9) :: As) μ (r.elim (fun _ => .inl none) .inr) μ1) (ho : o9 < N) (hso : (shf o9).1 = ci + 2) (hci : (vwCl[ci]?).map (fun q => q.1) = some y.cls) (hst : st0 = As.reverse ++ .ref (ad o9) :: rest) (hn : As.length = n) (hcat : (rest.map fun v => v.category).sum ≤ 8) (hR : d + 1 ≤ R.frames ∧ 38 * (d + 1) ≤ R.locals) (hc : cl + mc1 ≤ mc ∧ sl + 6 * mc1 ≤ 6 * mc) (hRc : mc ≤ R.cells ∧ 6 * mc ≤ R.slots)
    (k : ∀ r μ1, LL p l e R s m args below meth c nL D cI cR ad shf N A0 (fun (r : γ ⊕ Nat) μ' => KX below args s D cI cR ad shf N A0 mc (r.elim (fun r => .inl (ovg r)) .inr) μ') (t9 r μ1) (cl + mc1) (sl + 6 * mc1) (pc + 3) lo rest μ1) : LL p l e R s m args below meth c nL D cI cR ad shf N A0 (fun (r : γ ⊕ Nat) μ' => KX below args s D cI cR ad shf N A0 mc (r.elim (fun r => .inl (ovg r)) .inr) μ') (bx f t9) cl sl pc lo st0 μ := ll_xcallV E X (ov := fun _ => none) As rest hd hM hC ho hso hci hst hn hcat hR hc hRc k
end LLX
