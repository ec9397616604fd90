/-! THE LAW'S OWN SMALL METHODS: one call of the class each, its exceptions caught and numbered -/
abbrev wXo (cI cR cL : ClassId) (adX : Nat → Nat) (q : Nat) (X : Mem) (o : Nat → Int64) : va_W := wo cI cR adX shX NX X ++ [ou cL q o]
def QW (D : va_G) (cI cR cL : ClassId) (adX : Nat → Nat) (q : Nat) (X' : Mem) (o' : Nat → Int64) (v : Int32) (A : Nat → Prop) : Array Value → State → Outcome → State → Prop := fun _ st oc t => oc = .returned (some (.int v)) ∧ va_P D vwCl (wXo cI cR cL adX q X' o') t.heap ∧ va_F A st t
def PW (D : va_G) (cI cR cL : ClassId) (adX : Nat → Nat) (q : Nat) (av : List Value) (X : Mem) (o : Nat → Int64) (sz : Nat) : Array Value → State → Prop := va_Pc av (fun U => U.heap.size = sz ∧ va_P D vwCl (wXo cI cR cL adX q X o) U.heap ∧ va_K D vwCl (tyL cI cR cL) U ∧ va_D (fun _ => True) (wXo cI cR cL adX q X o) ∧ EXn U ∧ NCn U ∧ STT (va_A (wXo cI cR cL adX q X o) sz) U U.heap)
theorem PW_blind {D : va_G} {cI cR cL : ClassId} {adX : Nat → Nat} {q : Nat} {av : List Value} {X : Mem} {o : Nat → Int64} {sz : Nat} : FrameBlind (PW D cI cR cL adX q av X o sz) := fun a U g mk q9 => by
  obtain ⟨q0, q1, qP, qK, qD, qE, qN, qS⟩ := q9
  exact ⟨q0, q1, qP, va_K.moved (u := U) (U := U.calling g mk a) (Vm.Alike.refl U.vm) qK, qD, EXn.same (u := U) (U := U.calling g mk a) rfl qE, NCn.moved (u := U) (U := U.calling g mk a) (Vm.Alike.refl U.vm) qN, STT.moved (u := U) (U := U.calling g mk a) (Vm.Alike.refl U.vm) qS⟩
/-- the contract of one -/
def CW (l : Launch) (y : MethodName) (cy : ByteArray) (maxL : Nat) (hh : List (Nat × Nat × Nat × Nat)) (d mc : Nat) (D : va_G) (cI cR cL : ClassId) (adX : Nat → Nat) (q : Nat) (av : List Value) (X : Mem) (o : Nat → Int64) (v : Int32) (X' : Mem) (o' : Nat → Int64) : Prop :=
  ∀ sz, Met l y (.codeWith y cy maxL (some .int) hh :: Z_W) (RX d mc) (PW D cI cR cL adX q av X o sz) (QW D cI cR cL adX q X' o' v (va_A (wXo cI cR cL adX q X o) sz)) mc (6 * mc) (va_A (wXo cI cR cL adX q X o) sz)
theorem cw_of {l : Launch} {own : String} {D : va_G} {cI cR cL : ClassId} {adX : Nat → Nat} {q : Nat} {y : MethodName} {cy : ByteArray} {maxL d mc : Nat} {hh : List (Nat × Nat × Nat × Nat)} {av : List Value} {X X' : Mem} {o o' : Nat → Int64} {v : Int32} (hy : plainName y.cls = true) (hown : y.cls = own) (hlen : (lg_sl av).length ≤ maxL)
    (body : ∀ (p : Program) (e : Env) (s : State) (m : MethodId) (below : List Frame) (meth : Method) (c : Code) (A0 : Nat → Prop), EL p s m av.toArray meth c cy maxL own D cI cR cL A0 → c.exceptionTable.toList = tableOf hh → meth.sig.returnType = some .int →
      LC p l e (RX d mc) s m av.toArray below meth c maxL D A0 (MQ below (QW D cI cR cL adX q X' o' v A0) av.toArray s mc (6 * mc) A0) (wXo cI cR cL adX q X o) 0 0 0 (lo0 av maxL) []) : CW l y cy maxL hh d mc D cI cR cL adX q av X o v X' o' := by
  intro sz
  refine va_MetW (cc := cy) (maxL := maxL) (ret := some .int) (hh := hh) hy rfl ?_
  intro p e s m args below meth c s₁ B hml hv
  obtain ⟨rfl, hsz, hP, hK, hD0, hE0, hN0, hS0⟩ := hv
  have hts := atoms_spec (ws := .codeWith y cy maxL (some .int) hh :: Z_W) B.pre
  have ho : s.vm.findClass own = some m.cls := hown ▸ findClass_of_methodNamed B.named
  have htab := vx_table (x := y) B (hts _ List.mem_cons_self)
  subst hsz
  have hl := lv_entry av (n := maxL) hlen
  rw [lg_entry_eq]
  generalize (lg_sl av ++ List.replicate (maxL - (lg_sl av).length) Slot.unset).toArray = ls at hl ⊢
  exact body p e s m below meth c _ ⟨⟨B.exec, B.bytes, hml, ho, fun w hw => hts w (List.mem_cons_of_mem _ hw), hK.sub [0, 1] rfl, fun q h => Or.inr h, B.notSynchronized, hE0⟩, hK, hN0, hS0⟩ htab B.returns s.heap [] ls hP hD0.self va_S.rf
    ⟨hl.1, hl.2.1, fun i v h => hl.2.2 (i, v) (by have h2 := lo0_args av maxL 0 i v h; rwa [Nat.zero_add] at h2)⟩
/-- the numbers that the law gives -/
def cdw (cd : Nat → Int) (r : Int32 ⊕ Nat) : Int32 := match r with
  | .inl _ => 0
  | .inr k => ic (cd k)
def ow (o : Nat → Int64) (r : Int32 ⊕ Nat) : Nat → Int64 := match r with
  | .inl v => vp_updL o 0 v.toInt64
  | .inr _ => o
theorem xcl : ∀ k, 1 ≤ k → k ≤ 3 → Cond.classLink RL (2 * k + 11) (xnm k) ∈ Z_W := fun k h1 h2 => by
  rcases (show k = 1 ∨ k = 2 ∨ k = 3 by omega) with rfl | rfl | rfl
  · exact zw 723 (by decide +kernel) (by decide +kernel)
  · exact zw 724 (by decide +kernel) (by decide +kernel)
  · exact zw 725 (by decide +kernel) (by decide +kernel)
section WRAP
variable {p : Program} {l : Launch} {e : Env} {R : Room} {s : State} {m : MethodId} {args : Array Value} {below : List Frame} {meth : Method} {c : Code} {cc : ByteArray} {nL : Nat} {own : String} {D : va_G} {cI cR cL : ClassId} {A0 : Nat → Prop} {Q : State → Prop}
variable {cl sl pc : Nat} {lo lo' : List (Option Value)} {st : List Value} {adX : Nat → Nat} {q : Nat} {X X' : Mem} {o o' : Nat → Int64}
theorem lc_wret (E : EL p s m args meth c cc nL own D cI cR cL A0) {v : Int32} {mc : Nat} (hr : meth.sig.returnType = some .int) (hd : decode cc pc = .ok (.ireturn, 1)) (hc : cl ≤ mc ∧ sl ≤ 6 * mc) : LC p l e R s m args below meth c nL D A0 (MQ below (QW D cI cR cL adX q X o v A0) args s mc (6 * mc) A0) (wXo cI cR cL adX q X o) cl sl pc lo [.int v] :=
  fun H locs ls hP hD hS hL => W.widen hc.1 hc.2 (W.iret E.1.1 E.1.2.1 hr (fun t ht hW => ⟨rfl, by rw [ht]; exact hP, hS.F ht⟩) hS.2.2 hd E.1.2.2.2.2.2.2.2.1)
theorem lc_wcall (E : EL p s m args meth c cc nL RL D cI cR cL A0) (hs : List (Nat × Nat)) (e9 : Nat) (htab : c.exceptionTable.toList = tableOf (hs.map fun z => (0, e9, z.1, 2 * z.2 + 11))) (he : pc < e9) {y : MethodName} {cy : ByteArray} {maxL d idx n mc1 : Nat} {ret : Option FieldType} {r : Int32 ⊕ Nat} (As rest : List Value) {st0 : List Value} (hd : decode cc pc = .ok (.invokevirtual idx, 3)) (hM : MLV RL idx y cy maxL ret n)
    (hC : CX l y cy maxL ret d mc1 D cI cR adX shX NX (.ref (adX 0) :: As) X (r.elim (fun r => .inl (some (.int r))) .inr) X') (hci : RX8 = y.cls) (hst : st0 = As.reverse ++ .ref (adX 0) :: rest) (hn : As.length = n) (hcat : (rest.map fun v => v.category).sum ≤ 8) (hR : d + 1 ≤ R.frames ∧ 38 * (d + 1) ≤ R.locals) (hRc : cl + mc1 ≤ R.cells ∧ sl + 6 * mc1 ≤ R.slots)
    (kx : ∀ k, r = .inr k → ∃ pre h suf, hs = pre ++ (h, k) :: suf ∧ (∀ z ∈ pre, 1 ≤ z.2 ∧ z.2 ≤ 3 ∧ z.2 ≠ k) ∧ 1 ≤ k ∧ k ≤ 3 ∧ ∀ q9 : Nat, LC p l e R s m args below meth c nL D A0 Q (wXo cI cR cL adX q X' o) (cl + mc1) (sl + 6 * mc1) h lo [.ref q9])
    (kk : ∀ v, r = .inl v → LC p l e R s m args below meth c nL D A0 Q (wXo cI cR cL adX q X' o) (cl + mc1) (sl + 6 * mc1) (pc + 3) lo (.int v :: rest)) : LC p l e R s m args below meth c nL D A0 Q (wXo cI cR cL adX q X o) cl sl pc lo st0 := by
  intro H locs ls hP hD hS hL
  have hPm : va_P D vwCl (wo cI cR adX shX NX X) H := vaP_mid (w1 := []) (w2 := [ou cL q o]) hP
  have hDm : va_D A0 (wo cI cR adX shX NX X) := vaD_mid (w1 := []) (w2 := [ou cL q o]) hD
  have hso : (shX 0).1 = 8 + 2 := by decide
  have hg := wo_get (cI := cI) (cR := cR) (ad := adX) (shf := shX) (μ := X) (N := NX) (k := 0) (by decide)
  rw [cont_o hso] at hg
  have hcl8 : vwCl[8]? = some (RX8, TX8, 16) := rfl
  have hrec := va_recv E.2.1 hPm hcl8 hg
  rw [show (RX8, TX8, 16).1 = y.cls from hci] at hrec
  have hA : ∀ z, aA adX NX H.size z → A0 z := by
    rintro z (⟨k9, h1, rfl⟩ | h1)
    · exact hDm.2 k9 _ (wo_get h1)
    · exact E.1.2.2.2.2.2.2.1 z (Nat.le_trans hS.1 h1)
  have hpre : PreS s H (PCx D cI cR adX shX NX (.ref (adX 0) :: As) X H.size) (.ref (adX 0) :: As) := ⟨PCx_blind, fun U hU hW => ⟨rfl, by rw [hU], by rw [hU]; exact hPm, va_K.moved hW.alike E.1.2.2.2.2.2.1, hDm.weaken (fun _ _ _ _ => trivial), EXn.warm hW E.1.2.2.2.2.2.2.2.2, by
    rw [hU]
    exact STT.moved hW.alike ((E.2.2.2.kept hS.2.1).narrow hA)⟩⟩
  have hrun : vx_Run p l e R s m args below meth c H locs cl sl mc1 (6 * mc1) (F0 m pc ls st0) rest (QXc D cI cR adX shX NX (aA adX NX H.size) X' (r.elim (fun r => .inl (some (.int r))) .inr) (Value.ref (adX 0) :: As).toArray) (QXx D cI cR adX shX NX (aA adX NX H.size) X' (r.elim (fun r => .inl (some (.int r))) .inr)) (aA adX NX H.size) := vx_runV (locs := locs) (Ts := Z_W) (C := y.cls) ⟨E.1.1, E.1.2.1, E.1.2.2.1, E.1.2.2.2.1, E.1.2.2.2.2.1⟩ (hC H.size) (mlv_cwx (mc := mc1) hM E.1.2.2.2.2.1 hR) ⟨hpre.1, hrec, hpre.2⟩ (g := F0 m pc ls st0) rfl hn hL.1 hst (lv_room hcat) hd hRc
  have hkeep : ∀ {t T' : State} {L : List Jvm.Loc}, T'.heap = t.heap → H.size ≤ t.heap.size → (∀ z : Nat, z < H.size → ¬ aA adX NX H.size z → t.heap[z]? = H[z]?) → (∀ z ∈ L, aA adX NX H.size z.base) → va_P D vwCl (wo cI cR adX shX NX X') t.heap → va_P D vwCl (wXo cI cR cL adX q X' o) T'.heap ∧ va_D A0 (wXo cI cR cL adX q X' o) ∧ va_S A0 s.heap T'.heap (locs ++ L) := by
    intro t T' L e1 hz hk hLc hP1
    obtain ⟨hP2, hD2⟩ := mid_join (w1 := []) (w2 := [ou cL q o]) (w' := wo cI cR adX shX NX X') hP hD (H1 := T'.heap) (fun z h1 h2 => by
      rw [e1]
      exact hk z h1 (by rw [aA_va] at h2; exact h2)) sad_wo (by rw [e1]; exact hP1)
    exact ⟨hP2, hD2, Nat.le_trans hS.1 (by rw [e1]; exact hz), fun z h1 h2 => by rw [e1, hk z (Nat.lt_of_lt_of_le h1 hS.1) (fun y => h2 (hA z y))]; exact hS.2.1 z h1 h2, fun z hq => by
        rcases List.mem_append.mp hq with h | h
        · exact hS.2.2 z h
        · exact hA _ (hLc z h)⟩
  intro T hT X9
  rcases hrun T hT X9 with ⟨v', st₀, t, T', L, h0, X1, hLc, e1, e2, ⟨v9, ho, hv, hP1, hK1, hz, hk⟩, stp⟩ | ⟨q9, st₀, t, T', L, E9, ce, h0, X1, hLc, e1, e2, ⟨k, hk4, ho, hE, hP1, hK1, hz, hk⟩, hce, hcv, hcl, stp⟩
  · cases hv
    rw [h0] at hz hk
    obtain ⟨hP2, hD2, hS2⟩ := hkeep e1 hz hk hLc hP1
    cases r with
    | inr k => cases ho
    | inl v =>
      cases ho
      obtain ⟨t2, a1, b1⟩ := kk v rfl T'.heap (locs ++ L) ls hP2 hD2 hS2 hL T' rfl X1
      exact ⟨t2, stp t2 a1, b1⟩
  · rw [h0] at hz hk
    obtain ⟨hP2, hD2, hS2⟩ := hkeep e1 hz hk hLc hP1
    cases r with
    | inl v => cases ho
    | inr k1 =>
      cases ho
      obtain ⟨pre, h, suf, hsp, hpr, hk1, hk3, kc⟩ := kx k rfl
      subst hE
      have hcatch : vx_W p l e R s m args below meth c T'.heap (locs ++ L) (cl + mc1) (sl + 6 * mc1) Q (F0 m pc ls rest) q9 := by
        refine vx_catch (own := RL) (name := xnm k) (E := xnm k) E.1.2.2.2.1 (tableOf (pre.map fun z => (0, e9, z.1, 2 * z.2 + 11))) ⟨0, e9, h, 2 * k + 11⟩ (tableOf (suf.map fun z => (0, e9, z.1, 2 * z.2 + 11))) ?_ ?_ ?_ ?_ (E.1.2.2.2.2.1 _ (xcl k hk1 hk3)) (va_Nw.use rfl (E.1.2.2.2.2.2.2.2.2.2.2.1 k hk4)) (by rw [e1]; exact hce) hcv hcl (kc q9 T'.heap (locs ++ L) ls hP2 hD2 hS2 hL)
        · rw [htab, hsp]
          simp [tableOf]
        · intro z hz9
          obtain ⟨z1, hz1, rfl⟩ := List.mem_map.mp hz9
          obtain ⟨z2, hz2, rfl⟩ := List.mem_map.mp hz1
          obtain ⟨g1, g2, g3⟩ := hpr z2 hz2
          exact Or.inr ⟨by show 2 * z2.2 + 11 ≠ 0; omega, xnm z2.2, E.1.2.2.2.2.1 _ (xcl z2.2 g1 g2), E.2.2.1 k z2.2 hk1 hk3 g1 g2 (fun w => g3 w.symm)⟩
        · simp [covers, he]
        · show 2 * k + 11 ≠ 0
          omega
      obtain ⟨t2, a1, b1⟩ := hcatch T' rfl X1
      exact ⟨t2, stp.trans a1, b1⟩
end WRAP
/-- which exceptions a call may throw -/
def Thr {β : Type} (ks : List Nat) (o : Option ((β ⊕ Nat) × Mem)) : Prop := ∀ k μ, o = some (.inr k, μ) → k ∈ ks
section THR
variable {β γ : Type} {ks : List Nat} {μ : Mem}
theorem tr_none : Thr ks (none : Option ((β ⊕ Nat) × Mem)) := fun k μ h => by cases h
theorem tr_inl {r : β} : Thr ks (some (.inl r, μ)) := fun k μ h => by cases h
theorem tr_inr {k : Nat} (hk : k ∈ ks) : Thr ks (some ((.inr k : β ⊕ Nat), μ)) := fun k9 μ h => by
  cases h
  exact hk
theorem tr_if {P : Prop} [Decidable P] {a b : Option ((β ⊕ Nat) × Mem)} (ha : Thr ks a) (hb : Thr ks b) : Thr ks (if P then a else b) := by
  split
  · exact ha
  · exact hb
theorem tr_bx {o : Option ((β ⊕ Nat) × Mem)} {f : β → Mem → Option ((γ ⊕ Nat) × Mem)} (ho : Thr ks o) (hf : ∀ r μ, Thr ks (f r μ)) : Thr ks (bx o f) := by
  intro k μ h
  match o, ho, h with
  | none, _, h => cases h
  | some (.inl r, μ1), _, h => exact hf r μ1 k μ h
  | some (.inr k1, μ1), ho, h =>
    cases h
    exact ho _ _ rfl
theorem tr_bd {o : Option (β × Mem)} {f : β → Mem → Option ((γ ⊕ Nat) × Mem)} (hf : ∀ r μ, Thr ks (f r μ)) : Thr ks (bd o f) := by
  intro k μ h
  match o, h with
  | none, h => cases h
  | some (r, μ1), h => exact hf r μ1 k μ h
theorem tr_bind {o : Option β} {f : β → Option ((γ ⊕ Nat) × Mem)} (hf : ∀ r, Thr ks (f r)) : Thr ks (o.bind f) := by
  intro k μ h
  match o, h with
  | none, h => cases h
  | some r, h => exact hf r k μ h
end THR
/-- a call of the class and the reference's, as the law tells them -/
theorem agr_w {cd : Nat → Int} {o : Option ((Int32 ⊕ Nat) × Mem)} {p : Option (Int32 × Mem)} {P : Int32 → Mem → (Nat → Int64) → Prop} {o9 : Nat → Int64} (h : Agr cd o p) (hw : ∀ r X', o = some (r, X') → P (cdw cd r) X' (ow o9 r)) : ∃ (c : Cf) (X' M' : Mem) (w v : Int32) (o' : Nat → Int64), GC c ∧ XC c X' ∧ MC c M' ∧ P w X' o' ∧ p = some (v, M') ∧ M' 0 22 = w ∧ (w = 0 → o' 0 = v.toInt64) := by
  obtain ⟨c, X', M', hG, hX, hM, h⟩ := h
  rcases h with ⟨r, e1, e2, e3⟩ | ⟨k, v, e1, e2, e3, h1, h2⟩
  · exact ⟨c, X', M', 0, r, vp_updL o9 0 r.toInt64, hG, hX, hM, hw _ _ e1, e2, e3, fun _ => rfl⟩
  · exact ⟨c, X', M', ic (cd k), v, o9, hG, hX, hM, hw _ _ e1, e2, e3, fun h => by
      rw [show (0 : Int32) = ic 0 from rfl, ic_eq (by omega)] at h
      omega⟩
