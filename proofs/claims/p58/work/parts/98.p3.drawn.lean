def fL_drawn (L9 : Nat) (xs : Nat → Int32) (μ : Mem) (a1 : Int32) : Option (Int32 × Mem) :=
  if (Int32.ofNat L9) = 0 then
  some ((((7919 : Int32) * a1) + (3 : Int32)), μ)
  else
  (rmd a1 (Int32.ofNat L9)).bind fun r5 =>
  (ld L9 xs r5).bind fun r6 =>
  (rmd a1 (7 : Int32)).bind fun r7 =>
  (dv a1 (Int32.ofNat L9)).bind fun r8 =>
  some ((((r6 >>> (r7 &&& 31)) ^^^ (r8 * (31 : Int32))) ^^^ (a1 * (2654435 : Int32))), μ)
set_option maxRecDepth 20000 in
theorem cdL_drawn {l : Launch} {D : va_G} {cI cR : ClassId} {b L9 : Nat} {xs : Nat → Int32} {a1 : Int32} {r : Int32} (hf : fL_drawn L9 xs (fun _ _ => 0) a1 = some (r, fun _ _ => 0)) : CD l yL_drawn cL_drawn 2 (some .int) 0 D cI cR b L9 xs [.ref b, .int a1] (some (.int r)) :=
  cd_of (own := RL) (ov := fun (r : Int32) => (some (.int r))) (by decide +kernel) rfl (Nat.le_of_ble_eq_true rfl) (fun p e s m below meth c A0 E S hr => by
    refine ll_lo (lo' := [some (.ref b), some (.int a1)]) ⟨rfl, rfl, trivial⟩ ?_
    rw [fL_drawn]
    refine ll_aload_n E (pc := 0) dL_drawn_0 rfl ?_
    refine ll_slen E S (pc := 1) dL_drawn_1 ?_
    refine ll_if_ne E (pc := 2) (tgt := 15) dL_drawn_2 rfl ?_ ?_
    · refine ll_aload_n E (pc := 15) dL_drawn_15 rfl ?_
      refine ll_iload_n E (pc := 16) dL_drawn_16 rfl ?_
      refine ll_aload_n E (pc := 17) dL_drawn_17 rfl ?_
      refine ll_slen E S (pc := 18) dL_drawn_18 ?_
      refine ll_irem E (pc := 19) dL_drawn_19 ?_
      intro r5
      refine ll_sld E S (pc := 20) dL_drawn_20 ?_
      intro r6
      refine ll_iload_n E (pc := 21) dL_drawn_21 rfl ?_
      refine ll_bipush E (pc := 22) dL_drawn_22 kb_7 ?_
      refine ll_irem E (pc := 24) dL_drawn_24 ?_
      intro r7
      refine ll_ishr E (pc := 25) dL_drawn_25 ?_
      refine ll_iload_n E (pc := 26) dL_drawn_26 rfl ?_
      refine ll_aload_n E (pc := 27) dL_drawn_27 rfl ?_
      refine ll_slen E S (pc := 28) dL_drawn_28 ?_
      refine ll_idiv E (pc := 29) dL_drawn_29 ?_
      intro r8
      refine ll_bipush E (pc := 30) dL_drawn_30 kb_31 ?_
      refine ll_imul E (pc := 32) dL_drawn_32 ?_
      refine ll_ixor E (pc := 33) dL_drawn_33 ?_
      refine ll_iload_n E (pc := 34) dL_drawn_34 rfl ?_
      refine ll_ldc E (pc := 35) dL_drawn_35 kw_L_8 ?_
      refine ll_imul E (pc := 37) dL_drawn_37 ?_
      refine ll_ixor E (pc := 38) dL_drawn_38 ?_
      exact ll_ireturn E (pc := 39) hr dL_drawn_39
    · refine ll_sipush E (pc := 5) dL_drawn_5 ks_7919 ?_
      refine ll_iload_n E (pc := 8) dL_drawn_8 rfl ?_
      refine ll_imul E (pc := 9) dL_drawn_9 ?_
      refine ll_iconst E (pc := 10) dL_drawn_10 kc_3 ?_
      refine ll_iadd E (pc := 11) dL_drawn_11 ?_
      refine ll_goto E (pc := 12) (tgt := 39) dL_drawn_12 rfl ?_
      exact ll_ireturn E (pc := 39) hr dL_drawn_39) hf
def qmu (a n : Nat) : Nat := a * n
def T100 : Nat := 76387
theorem T100_eq : T100 = 2438 + 770 + (qmu 2439 29 + 2448) := rfl
theorem qmu_s {a n : Nat} : qmu a (n + 1) = qmu a n + a := Nat.mul_succ a n
/-- the law's end, told at pc 627 with 1 on the stack -/
def HE (p : Program) (l : Launch) (e : Env) (s : State) (m : MethodId) (args : Array Value) (below : List Frame) (meth : Method) (c : Code) (A0 : Nat → Prop) (Q : State → Prop) : Prop :=
  ∀ (H : Heap) (locs : List Jvm.Loc) (ls : Array Slot), va_S A0 s.heap H locs → W p l e room_1 s m args below meth c H locs 600074 7301550 Q (F0 m 627 ls [.int 1])
theorem lg_one {p : Program} {l : Launch} {e : Env} {s : State} {m : MethodId} {args : Array Value} {below : List Frame} {meth : Method} {c : Code} {D : va_G} {cI cR cL : ClassId} {ad : Nat → Nat} {q : Nat} {A0 : Nat → Prop} {Q : State → Prop} {t : Option (Unit × Mem)} {cl : Nat} {lo : List (Option Value)} {μ : Mem} {w : Nat → Int64} (hE : HE p l e s m args below meth c A0 Q) (h : cl ≤ MCq) : LGW p l e room_1 s m args below meth c 15 D cI cR cL ad q A0 (fun (_ : Unit) (_ : Mem) => Q) t cl (6 * cl) 627 lo [.int 1] μ w :=
  fun _ _ _ H locs ls _ hS _ => W.widen h (mch0 h).2 (hE H locs ls hS)
theorem bd_mem {β : Type} {o : Option β} {f : β → Option (Int32 × Mem)} {x : Int32 × Mem} {μ : Mem} (h : o.bind f = some x) (k : ∀ v, f v = some x → x.2 = μ) : x.2 = μ := by
  cases o with
  | none => cases h
  | some v => exact k v h
theorem fL_drawn_mem {L9 : Nat} {xs : Nat → Int32} {a1 : Int32} : ∀ (r : Int32) (μ1 : Mem), fL_drawn L9 xs (fun _ _ => 0) a1 = some (r, μ1) → μ1 = fun _ _ => 0 := by
  intro r μ1 h
  unfold fL_drawn at h
  split at h
  · cases h
    rfl
  · exact bd_mem (x := (r, μ1)) h fun _ h => bd_mem (x := (r, μ1)) h fun _ h => bd_mem (x := (r, μ1)) h fun _ h => bd_mem (x := (r, μ1)) h fun _ h => by cases h; rfl
