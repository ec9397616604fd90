/-! THE CLAIM OUT OF ONE WALK OF THE LAW'S BODY. Your part is whole_start (and what it stands on); all else here is the same for every law, but numbers. -/
def R_law : String := "BuntingBundlesLaw"
def lw_P (b : Addr) (xs : List Int32) (args : Array Value) (s : State) : Prop := args = #[.ref b] ∧ s.IntsAt b xs ∧ xs.length ≤ 260 ∧ (Jvm.Cond.and given_1 narrow_1).before args s = true
/-- what a walk over the start with the record d0 says of its end, said of the start itself -/
theorem lw_closed {s t : State} {o : Outcome} {d0 : Drawn} {L : List Jvm.Loc} {k n : Nat} (hd0 : s.drawn.sameBut d0 lw_cs) (hv : ∃ v, o = .returned v) (hW : (s.setDrawn d0).WarmedH t.vm) (hs : (s.setDrawn d0).sameButNew ({ t with vm := s.vm } : State) L k n) : State.butDraws s t lw_cs (fun t1 => Framed s o t1 L k n) := by
  have h2 : t.drawn = d0 := congrArg State.drawn hs.1
  refine ⟨⟨hv, hW, State.sameButNew.setDrawn hs s.drawn⟩, ?_, by decide⟩
  rw [h2]
  exact hd0
def lw_Q (_ : Array Value) (s : State) (o : Outcome) (t : State) : Prop := o = .returned (some (.int 1)) ∧ State.butDraws s t lw_cs (fun t1 => Framed s o t1 [] 600074 7301550)
def lw_Z (below : List Frame) (a : Array Value) (s : State) : State → Prop := fun t => ∃ o, t.status = .running ∧ Ended t below o ∧ lw_Q a s o t
/-- the law's own end, with 1 on the stack, nothing written that was there before, its room as the claim has it; d0: the record of draws at this point (at the entry s.drawn: begin with 'refine W.base ?_' and 'have hd0 := Drawn.sameBut.refl s.drawn lw_cs') -/
theorem lw_ret {p : Program} {l : Launch} {e : Env} {s : State} {m : MethodId} {below : List Frame} {meth : Method} {c : Code} {b : Nat} {d0 : Drawn} (hd0 : s.drawn.sameBut d0 lw_cs) (hx : p.tables.exec = Jvm.exec) (hb : c.code = code) (hr : meth.sig.returnType = ret) (hlocks : meth.locks = false) {pc : Nat} {H : Heap} {ls : Array Slot} (hdg : decode code pc = .ok (.ireturn, 1)) : W p l e room_1 (s.setDrawn d0) m #[Value.ref b] below meth c H [] 600074 7301550 (lw_Z below #[Value.ref b] s) (F0 m pc ls [.int 1]) := by
  intro T hT X
  obtain ⟨fs, hret, hrun, hended, hW, hframe⟩ := X.leave (v := some (.int 1)) (hlocks := hlocks) (fun h => by rw [hr] at h; cases h)
  have hmeth' : T.vm.method? m = some meth := X.method'
  refine ⟨T.setFrames fs, ?_, .returned (some (.int 1)), hrun, hended, rfl, lw_closed hd0 ⟨_, rfl⟩ hW hframe⟩
  jvm_step X.here [X.here.top, hx, hb, hdg, hmeth', hr, ret, narrow_b1]
  (try refine ⟨rfl, ?_⟩); (try refine ⟨rfl, ?_⟩)
  first | (intro acts; rw [hret _ acts rfl rfl rfl]) | rw [hret _ _ rfl rfl rfl]
  exact Steps.refl _
/-- what holds at the law's entry: the machine, the code, the tables' words (any of lw_tbl by 'hts w (by decide +kernel)'), the script of L ints xs at the cell b, what the Statement gives of the start (any of its parts by flat_of_before) -/
def lw_At (p : Program) (s : State) (m : MethodId) (meth : Method) (c : Code) (b L : Nat) (xs : Nat → Int32) : Prop :=
  p.tables.exec = Jvm.exec ∧ c.code = code ∧ meth.sig.returnType = ret ∧ c.maxLocals = 15 ∧ s.vm.findClass R_law = some m.cls ∧ (∀ w ∈ lw_tbl, w.before #[Value.ref b] s = true) ∧ va_X b L xs s s.heap ∧ b < s.heap.size ∧ meth.locks = false ∧ (Jvm.Cond.and given_1 narrow_1).before #[Value.ref b] s = true
theorem kb_64 : (Int8.ofInt (64)).toInt32 = (64 : Int32) := by decide +kernel
theorem sad_app {u u' v v' : va_W} (h1 : sad u u') (h2 : sad v v') : sad (u ++ v) (u' ++ v') := by
  refine ⟨by simp [h1.1, h2.1], fun k => ?_⟩
  by_cases h : k < u.length
  · rw [app_l (u := u) (v := v) h, app_l (u := u') (v := v') (by rw [h1.1]; exact h)]
    exact h1.2 k
  · rw [app_r (u := u) (v := v) (by omega), app_r (u := u') (v := v') (by rw [h1.1]; omega), h1.1]
    exact h2.2 _
theorem sad_oq {cL : ClassId} {q : Nat} {w w' : Nat → Int64} : sad [oq cL q w] [oq cL q w'] := by
  refine ⟨rfl, fun k => ?_⟩
  match k with
  | 0 => rfl
  | k + 1 => rfl
section LAWSTART
variable {p : Program} {l : Launch} {e : Env} {R : Room} {s : State} {m : MethodId} {args : Array Value} {below : List Frame} {meth : Method} {c : Code} {cc : ByteArray} {nL : Nat} {own : String} {D : va_G} {cI cR cL : ClassId} {ad : Nat → Nat} {q : Nat} {A0 : Nat → Prop}
variable {α : Type} {KQ : α → Mem → State → Prop} {t : Option (α × Mem)} {cl sl pc : Nat} {lo : List (Option Value)} {st : List Value} {μ : Mem} {w : Nat → Int64}
theorem cL_one {cA : ClassId} {t2 : List (ClassId × FieldType)} (hK : va_K D vwCl (tyL cI cR cL) s) (hK2 : va_K D vwCl (t2 ++ [(cA, .long)]) s) : cA = cL := by
  have h1 := (hK.2 2 _ rfl).2
  have h2 := (hK2.2 t2.length (cA, .long) (by simp)).2
  exact Option.some.inj (h2.symm.trans h1)
theorem ll_newl (E : EV p s m args meth c cc nL own D cI cR ad shX NX A0) (hK : va_K D vwCl (tyL cI cR cL) s) (hd : decode cc pc = .ok (.newarray .long, 2)) (hw : Cond.arrayClass .long ∈ Z_W) (hc : cl + 1 ≤ R.cells ∧ sl + 64 ≤ R.slots)
    (k : ∀ q, EG p s m args meth c cc nL own D cI cR cL ad q A0 → LGW p l e R s m args below meth c nL D cI cR cL ad q A0 KQ t (cl + 1) (sl + 64) (pc + 2) lo (.ref q :: st) μ (fun _ => 0)) : LL p l e R s m args below meth c nL D cI cR ad shX NX A0 KQ t cl sl pc lo (.int 64 :: st) μ := by
  intro r μ' h H locs ls hP hS hL
  refine va_newa (atype := .long) (ty := .long) (N' := 64) (a0 := (64, .inr (.inl (fun _ => 0)))) E.1 E.2.1 (E.2.2.2.2.1 _ hw) rfl hK hP (E.2.2.2.2.2.2.1 μ) hS E.2.2.2.2.2.2.2.1 (fun _ => rfl) (by decide) (by decide) (by decide) hc.1 hc.2 hd (fun q cA H1 hK1 hP1 hD1 hS1 => ?_)
  have he : cA = cL := cL_one hK hK1
  subst he
  exact k q ⟨E.1, E.2.1, E.2.2.1, E.2.2.2.1, E.2.2.2.2.1, hK, fun μ9 w9 => (show va_D A0 (wo cI cR ad shX NX μ9 ++ [oq _ q w9]) from sad_D (sad_app (sad_wo (μ := μ)) (sad_oq (w := fun _ => 0))) hD1), E.2.2.2.2.2.2.2.1, E.2.2.2.2.2.2.2.2.1, E.2.2.2.2.2.2.2.2.2⟩ r μ' h H1 locs ls hP1 hS1 hL
theorem lg_wd {cl' : Nat} (h1 : cl ≤ cl') (h2 : sl ≤ 6 * cl') (k : LGW p l e R s m args below meth c nL D cI cR cL ad q A0 KQ t cl' (6 * cl') pc lo st μ w) : LGW p l e R s m args below meth c nL D cI cR cL ad q A0 KQ t cl sl pc lo st μ w :=
  fun r μ' h H locs ls hP hS hL => W.widen h1 h2 (k r μ' h H locs ls hP hS hL)
end LAWSTART
theorem whole_start {p : Program} {e : Env} {s : State} {m : MethodId} {below : List Frame} {meth : Method} {c : Code} (l : Launch) (hflags : l.flags = flags0) {b L : Nat} {xs : Nat → Int32} (hL : L ≤ 260) (C0 : lw_At p s m meth c b L xs) : W p l e room_1 s m #[Value.ref b] below meth c s.heap [] 0 0 (lw_Z below #[Value.ref b] s) (entryFrame m ([Value.ref b] : List Value).toArray 15) := by
  obtain ⟨hx, hb, hr, hml, hown, hts, hX, hbl, hlocks, hgv⟩ := id C0
  have hl9 : l.stackTraces = false := by
    unfold Launch.stackTraces
    rw [hflags]
    decide
  obtain ⟨D, cI, cR, cL, hK⟩ := k_all hts hgv
  have hbA : ¬ (fun q : Nat => s.heap.size ≤ q) b := Nat.not_le.mpr hbl
  have X0 : EM9 l s (fun q : Nat => s.heap.size ≤ q) := ⟨hl9, nc_all hgv, stt_all hts hgv (fun a ha => Nat.not_le.mpr ha)⟩
  have ES0 : ES s (fun q : Nat => s.heap.size ≤ q) b L xs := ⟨hX, hbl, hbA⟩
  have E0 : EV p s m #[Value.ref b] meth c cL_law 15 RL D cI cR (fun _ => 0) shX 0 (fun q : Nat => s.heap.size ≤ q) := ⟨hx, hb, hml, hown, fun w hw => hts w (List.mem_filter.mp hw).1, hK.sub [0, 1] rfl, fun μ => ⟨fun i j p q h => by simp [wo] at h, fun k q h => by simp [wo] at h⟩, fun q h => h, hlocks, ex_all hts hgv⟩
  have hE : HE p l e s m #[Value.ref b] below meth c (fun q : Nat => s.heap.size ≤ q) (lw_Z below #[Value.ref b] s) := fun H locs ls hS => va_forget hS.2.2 (lw_ret (d0 := s.drawn) (Drawn.sameBut.refl s.drawn lw_cs) hx hb hr hlocks dL_law_627)
  have hT : ∃ X', (bd (fL_bundles (fun _ _ => 0)) fun r _ => if r = 0 then none else bd (fL_texts (fun _ _ => 0)) fun r _ => if r = 0 then none else fL_law L xs μ0X (fun _ => 0)) = some ((), X') := by
    obtain ⟨X1, e1⟩ := ok_bundles (μ := fun _ _ => 0)
    obtain ⟨X2, e2⟩ := ok_texts (μ := fun _ _ => 0)
    rw [e1, bd_some, if_neg (by decide), e2, bd_some, if_neg (by decide)]
    exact ok_law hL _
  obtain ⟨X9, hT⟩ := hT
  have hl := lv_entry ([.ref b]) (n := 15) (Nat.le_of_ble_eq_true rfl)
  rw [lg_entry_eq]
  generalize (lg_sl ([.ref b]) ++ List.replicate (15 - (lg_sl ([.ref b])).length) Slot.unset).toArray = ls at hl ⊢
  have hlo : lo_has ls 15 [some (.ref b), none, none, none, none, none, none, none, none, none, none, none, none, none, none] := ⟨hl.1, hl.2.1, fun i v h => hl.2.2 (i, v) (by have h2 := lo0_args [.ref b] 15 0 i v h; rwa [Nat.zero_add] at h2)⟩
  refine (?_ : LL p l e room_1 s m #[Value.ref b] below meth c 15 D cI cR (fun _ => 0) shX 0 (fun q : Nat => s.heap.size ≤ q) (fun (_ : Unit) (_ : Mem) => lw_Z below #[Value.ref b] s) (bd (fL_bundles (fun _ _ => 0)) fun r _ => if r = 0 then none else bd (fL_texts (fun _ _ => 0)) fun r _ => if r = 0 then none else fL_law L xs μ0X (fun _ => 0)) 0 (6 * 0) 0 [some (.ref b), none, none, none, none, none, none, none, none, none, none, none, none, none, none] [] (fun _ _ => 0)) () X9 hT s.heap [] ls wp0 va_S.rf hlo
  refine ll_mcall0 E0 X0 (pc := 0) (d := 14) (mc1 := 8785) (μd := fun _ _ => 0) [] dL_law_0 cv_L_313 (fun h => cmL_bundles hl9 h) rfl (Nat.le_of_ble_eq_true rfl) ⟨(Nat.le_of_ble_eq_true rfl), (Nat.le_of_ble_eq_true rfl)⟩ ⟨(Nat.le_of_ble_eq_true rfl), (Nat.le_of_ble_eq_true rfl)⟩ (fun r1 => ?_)
  refine ll_if_eq E0 (pc := 3) (tgt := 12) dL_law_3 rfl ll_none ?_
  refine ll_mcall0 E0 X0 (pc := 6) (d := 11) (mc1 := 1283) (μd := fun _ _ => 0) [] dL_law_6 cv_L_315 (fun h => cmL_texts hl9 h) rfl (Nat.le_of_ble_eq_true rfl) ⟨(Nat.le_of_ble_eq_true rfl), (Nat.le_of_ble_eq_true rfl)⟩ ⟨(Nat.le_of_ble_eq_true rfl), (Nat.le_of_ble_eq_true rfl)⟩ (fun r2 => ?_)
  refine ll_if_ne E0 (pc := 9) (tgt := 14) dL_law_9 rfl ?_ ll_none
  refine ll_newX E0 (pc := 14) wn_29 wn_1 wn_2 wn_c179 wn_3 wn_4 dL_law_14 dL_law_17 dL_law_18 (Nat.le_of_ble_eq_true rfl) ⟨(Nat.le_of_ble_eq_true rfl), (Nat.le_of_ble_eq_true rfl)⟩ ⟨(Nat.le_of_ble_eq_true rfl), (Nat.le_of_ble_eq_true rfl)⟩ (fun ad E => ?_)
  refine ll_astore_n E (pc := 21) (lo' := [some (.ref b), some (.ref (ad 0)), none, none, none, none, none, none, none, none, none, none, none, none, none]) dL_law_21 (Nat.le_of_ble_eq_true rfl) rfl rfl ?_
  refine ll_bipush E (pc := 22) dL_law_22 kb_64 ?_
  refine ll_newl E hK (pc := 24) dL_law_24 (zw 1157 (by decide +kernel) (by decide +kernel)) ⟨(Nat.le_of_ble_eq_true rfl), (Nat.le_of_ble_eq_true rfl)⟩ (fun q EQ => ?_)
  refine lg_wd (cl' := 10840) (Nat.le_of_ble_eq_true rfl) (Nat.le_of_ble_eq_true rfl) ?_
  refine lg_astore_n EQ (pc := 26) (lo' := [some (.ref b), some (.ref (ad 0)), some (.ref q), none, none, none, none, none, none, none, none, none, none, none, none]) dL_law_26 (Nat.le_of_ble_eq_true rfl) rfl rfl ?_
  refine lg_iconst EQ (pc := 27) dL_law_27 kc_0 ?_
  refine lg_istore_n EQ (pc := 28) (lo' := [some (.ref b), some (.ref (ad 0)), some (.ref q), some (.int (0 : Int32)), none, none, none, none, none, none, none, none, none, none, none]) dL_law_28 (Nat.le_of_ble_eq_true rfl) rfl rfl ?_
  exact kL_law EQ X0 ES0 hE μ0X (fun _ => 0) 10840 (Nat.le_of_ble_eq_true rfl)
