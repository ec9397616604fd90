def fL_refusesOne_L691  (μ : Mem) : Option (Int32 × Mem) :=
  some ((1 : Int32), μ)
def fL_refusesOne_L560 : Nat → Int32 → Int32 → Int32 → Int32 → Mem → Option (Int32 × Mem)
  | 0, _, _, _, _, _ => none
  | n + 1, v1, v2, v3, v5, μ =>   if (30 : Int32) ≤ v5 then
  bd (fX8_steps μ) fun r102 μ101 =>
  if r102 = 0 then
  fL_refusesOne_L691 μ101
  else
  bd (fL_call μ101 (2 : Int32) (0 : Int32) v2 (0 : Int32) (0 : Int32)) fun r104 μ103 =>
  if r104 = (-2011 : Int32) then
  bd (fL_far μ103 v1 (0 : Int32) (199 : Int32)) fun r106 μ105 =>
  bd (fL_call μ105 (6 : Int32) (0 : Int32) r106 (0 : Int32) (0 : Int32)) fun r108 μ107 =>
  if r108 = (-2012 : Int32) then
  bd (fL_call μ107 (20 : Int32) (0 : Int32) v2 (0 : Int32) (0 : Int32)) fun r110 μ109 =>
  if r110 = (-2011 : Int32) then
  bd (fL_call μ109 (21 : Int32) (0 : Int32) v2 (0 : Int32) (0 : Int32)) fun r112 μ111 =>
  if r112 = (-2011 : Int32) then
  fL_refusesOne_L691 μ111
  else
  some ((0 : Int32), μ111)
  else
  some ((0 : Int32), μ109)
  else
  some ((0 : Int32), μ107)
  else
  some ((0 : Int32), μ103)
  else
  bd (fL_call μ v5 (21 : Int32) v3 (0 : Int32) (0 : Int32)) fun r114 μ113 =>
  if r114 = (-2011 : Int32) then
  bd (fL_far μ113 v1 (0 : Int32) (20 : Int32)) fun r116 μ115 =>
  bd (fL_call μ115 v5 r116 (0 : Int32) (0 : Int32) (0 : Int32)) fun r118 μ117 =>
  if r118 = (-2012 : Int32) then
  fL_refusesOne_L560 n v1 v2 v3 (v5 + (1 : Int32)) μ117
  else
  some ((0 : Int32), μ117)
  else
  some ((0 : Int32), μ113)
def fL_refusesOne_L436 : Nat → Int32 → Int32 → Int32 → Int32 → Mem → Option (Int32 × Mem)
  | 0, _, _, _, _, _ => none
  | n + 1, v1, v2, v3, v5, μ =>   if (26 : Int32) ≤ v5 then
  bd (fL_call μ (26 : Int32) (206 : Int32) v3 (0 : Int32) (0 : Int32)) fun r120 μ119 =>
  if r120 = (-2011 : Int32) then
  bd (fL_far μ119 v1 (0 : Int32) (205 : Int32)) fun r122 μ121 =>
  bd (fL_call μ121 (26 : Int32) r122 (11 : Int32) (0 : Int32) (0 : Int32)) fun r124 μ123 =>
  if r124 = (-2012 : Int32) then
  bd (fL_far μ123 v1 (0 : Int32) (199 : Int32)) fun r126 μ125 =>
  bd (fL_call μ125 (30 : Int32) r126 (0 : Int32) (0 : Int32) (0 : Int32)) fun r128 μ127 =>
  if r128 = (-2012 : Int32) then
  bd (fL_far μ127 v1 (0 : Int32) (20 : Int32)) fun r130 μ129 =>
  bd (fL_call μ129 (31 : Int32) r130 (0 : Int32) (0 : Int32) (0 : Int32)) fun r132 μ131 =>
  if r132 = (-2012 : Int32) then
  fL_refusesOne_L560 5 v1 v2 v3 (27 : Int32) μ131
  else
  some ((0 : Int32), μ131)
  else
  some ((0 : Int32), μ127)
  else
  some ((0 : Int32), μ123)
  else
  some ((0 : Int32), μ119)
  else
  bd (fL_call μ v5 v3 (0 : Int32) (0 : Int32) (0 : Int32)) fun r134 μ133 =>
  if r134 = (-2011 : Int32) then
  fL_refusesOne_L436 n v1 v2 v3 (v5 + (1 : Int32)) μ133
  else
  some ((0 : Int32), μ133)
def fL_refusesOne_L401 : Nat → Int32 → Int32 → Int32 → Int32 → Mem → Option (Int32 × Mem)
  | 0, _, _, _, _, _ => none
  | n + 1, v1, v2, v3, v5, μ =>   if (22 : Int32) ≤ v5 then
  fL_refusesOne_L436 6 v1 v2 v3 (22 : Int32) μ
  else
  bd (fL_call μ v5 v2 (0 : Int32) (0 : Int32) (0 : Int32)) fun r136 μ135 =>
  if r136 = (-2011 : Int32) then
  fL_refusesOne_L401 n v1 v2 v3 (v5 + (1 : Int32)) μ135
  else
  some ((0 : Int32), μ135)
def fL_refusesOne_L302 (v1 : Int32) (v2 : Int32) (v3 : Int32) (μ : Mem) : Option (Int32 × Mem) :=
  bd (fL_far μ v1 (0 : Int32) (3 : Int32)) fun r138 μ137 =>
  bd (fL_call μ137 (5 : Int32) r138 (0 : Int32) (0 : Int32) (0 : Int32)) fun r140 μ139 =>
  if r140 = (-2012 : Int32) then
  bd (fL_call μ139 (6 : Int32) v2 (200 : Int32) (0 : Int32) (0 : Int32)) fun r142 μ141 =>
  if r142 = (-2011 : Int32) then
  bd (fL_call μ141 (7 : Int32) v2 (0 : Int32) (0 : Int32) (0 : Int32)) fun r144 μ143 =>
  if r144 = (-2011 : Int32) then
  bd (fL_far μ143 v1 (33 : Int32) (126 : Int32)) fun r146 μ145 =>
  bd (fL_call μ145 (8 : Int32) r146 (0 : Int32) (0 : Int32) (0 : Int32)) fun r148 μ147 =>
  if r148 = (-2012 : Int32) then
  bd (fL_call μ147 (9 : Int32) (0 : Int32) (0 : Int32) (0 : Int32) (0 : Int32)) fun r150 μ149 =>
  if r150 = (-2012 : Int32) then
  fL_refusesOne_L401 12 v1 v2 v3 (12 : Int32) μ149
  else
  some ((0 : Int32), μ149)
  else
  some ((0 : Int32), μ147)
  else
  some ((0 : Int32), μ143)
  else
  some ((0 : Int32), μ141)
  else
  some ((0 : Int32), μ139)
def fL_refusesOne_L159 (v1 : Int32) (v2 : Int32) (v3 : Int32) (μ : Mem) : Option (Int32 × Mem) :=
  bd (fL_call μ (1 : Int32) v2 (0 : Int32) (0 : Int32) (0 : Int32)) fun r152 μ151 =>
  if r152 = (-2011 : Int32) then
  bd (fL_call μ151 (2 : Int32) v2 v2 (0 : Int32) (0 : Int32)) fun r154 μ153 =>
  if r154 = (-2011 : Int32) then
  bd (fL_call μ153 (32 : Int32) v3 (5 : Int32) (0 : Int32) (0 : Int32)) fun r156 μ155 =>
  if r156 = (-2011 : Int32) then
  bd (fL_call μ155 (33 : Int32) v3 (5 : Int32) (0 : Int32) (0 : Int32)) fun r158 μ157 =>
  if r158 = (-2011 : Int32) then
  bd (fL_far μ157 v1 (0 : Int32) (2 : Int32)) fun r160 μ159 =>
  bd (fL_call μ159 (3 : Int32) r160 (0 : Int32) (0 : Int32) (0 : Int32)) fun r162 μ161 =>
  if r162 = (-2011 : Int32) then
  bd (fL_far μ161 v1 (1 : Int32) (4 : Int32)) fun r164 μ163 =>
  bd (fL_call μ163 (3 : Int32) (2 : Int32) r164 (0 : Int32) (0 : Int32)) fun r166 μ165 =>
  if r166 = (-2012 : Int32) then
  bd (fL_far μ165 v1 (0 : Int32) (2 : Int32)) fun r168 μ167 =>
  bd (fL_call μ167 (4 : Int32) r168 (0 : Int32) (0 : Int32) (0 : Int32)) fun r170 μ169 =>
  if r170 = (-2011 : Int32) then
  bd (fL_far μ169 v1 (1 : Int32) (6 : Int32)) fun r172 μ171 =>
  bd (fL_call μ171 (4 : Int32) (0 : Int32) r172 (0 : Int32) (0 : Int32)) fun r174 μ173 =>
  if r174 = (-2012 : Int32) then
  fL_refusesOne_L302 v1 v2 v3 μ173
  else
  some ((0 : Int32), μ173)
  else
  some ((0 : Int32), μ169)
  else
  some ((0 : Int32), μ165)
  else
  some ((0 : Int32), μ161)
  else
  some ((0 : Int32), μ157)
  else
  some ((0 : Int32), μ155)
  else
  some ((0 : Int32), μ153)
  else
  some ((0 : Int32), μ151)
def fL_refusesOne_L113 (v1 : Int32) (v2 : Int32) (v3 : Int32) (s0 : Int32) (s1 : Int32) (μ : Mem) : Option (Int32 × Mem) :=
  if s1 = s0 then
  bd (fL_far μ v1 (0 : Int32) (6 : Int32)) fun r176 μ175 =>
  bd (fL_call μ175 (0 : Int32) (0 : Int32) r176 (0 : Int32) (0 : Int32)) fun r178 μ177 =>
  if r178 = (-2012 : Int32) then
  bd (fL_far μ177 v1 (-99 : Int32) (99 : Int32)) fun r180 μ179 =>
  bd (fL_call μ179 (0 : Int32) (0 : Int32) (0 : Int32) (0 : Int32) r180) fun r182 μ181 =>
  if r182 = (-2012 : Int32) then
  fL_refusesOne_L159 v1 v2 v3 μ181
  else
  some ((0 : Int32), μ181)
  else
  some ((0 : Int32), μ177)
  else
  some ((0 : Int32), μ)
def fL_refusesOne (μ : Mem) (a1 : Int32) : Option (Int32 × Mem) :=
  bd (fX8_steps μ) fun r184 μ183 =>
  bd (fL_far μ183 a1 (0 : Int32) (r184 - (1 : Int32))) fun r186 μ185 =>
  bd (fL_far μ185 a1 (0 : Int32) (11 : Int32)) fun r188 μ187 =>
  bd (fX8_steps μ187) fun r190 μ189 =>
  bd (fL_far μ189 a1 (0 : Int32) r190) fun r192 μ191 =>
  bd (fL_call μ191 (0 : Int32) r192 (7 : Int32) (0 : Int32) (0 : Int32)) fun r194 μ193 =>
  if r194 = (-2011 : Int32) then
  bd (fL_call μ193 (0 : Int32) (0 : Int32) (7 : Int32) ((12 : Int32) + a1) (0 : Int32)) fun r196 μ195 =>
  if r196 = (-2011 : Int32) then
  bd (fL_call μ195 (0 : Int32) (0 : Int32) (7 : Int32) (((12 : Int32) + a1) <<< ((4 : Int32) &&& 31)) (0 : Int32)) fun r198 μ197 =>
  if r198 = (-2011 : Int32) then
  bd (fL_call μ197 (0 : Int32) (0 : Int32) (0 : Int32) (r188 <<< ((8 : Int32) &&& 31)) (100 : Int32)) fun r200 μ199 =>
  if a1 = (2 : Int32) then
  fL_refusesOne_L113 a1 r186 r188 (-2012 : Int32) r200 μ199
  else
  fL_refusesOne_L113 a1 r186 r188 (-2011 : Int32) r200 μ199
  else
  some ((0 : Int32), μ197)
  else
  some ((0 : Int32), μ195)
  else
  some ((0 : Int32), μ193)
theorem kL_refusesOne_L691 {p : Program} {l : Launch} {e : Env} {s : State} {m : MethodId} {args : Array Value} {below : List Frame} {meth : Method} {c : Code} {D : va_G} {cI cR : ClassId} {ad : Nat → Nat} {A0 : Nat → Prop} (E : EV p s m args meth c cL_refusesOne 6 RL D cI cR ad shX NX A0) (X : EM9 l s A0) (hr : meth.sig.returnType = (some .boolean))  (μ : Mem) (cl : Nat) (hc0 : cl + (0) ≤ 110) : LL p l e (RX 11 110) s m args below meth c 6 D cI cR ad shX NX A0 (fun (r : Int32) μ' => KM below args s D cI cR ad shX NX A0 110 (some (.int r)) μ') (fL_refusesOne_L691 μ) cl (6 * cl) 691 [none, none, none, none, none, none] [] μ := by
  rw [fL_refusesOne_L691]
  refine ll_iconst E (pc := 691) dL_refusesOne_691 kc_1 ?_
  refine ll_goto E (pc := 692) (tgt := 696) dL_refusesOne_692 rfl ?_
  exact ll_mzreturn E hr (fun _ h => h) rfl dL_refusesOne_696 (by omega)
theorem kL_refusesOne_L560 {p : Program} {l : Launch} {e : Env} {s : State} {m : MethodId} {args : Array Value} {below : List Frame} {meth : Method} {c : Code} {D : va_G} {cI cR : ClassId} {ad : Nat → Nat} {A0 : Nat → Prop} (E : EV p s m args meth c cL_refusesOne 6 RL D cI cR ad shX NX A0) (X : EM9 l s A0) (hr : meth.sig.returnType = (some .boolean)) (n : Nat) : ∀ (v1 : Int32) (v2 : Int32) (v3 : Int32) (v5 : Int32) (μ : Mem) (cl : Nat), cl + (4 * n + 8) ≤ 110 → LL p l e (RX 11 110) s m args below meth c 6 D cI cR ad shX NX A0 (fun (r : Int32) μ' => KM below args s D cI cR ad shX NX A0 110 (some (.int r)) μ') (fL_refusesOne_L560 n v1 v2 v3 v5 μ) cl (6 * cl) 560 [some (.ref (ad 0)), some (.int v1), some (.int v2), some (.int v3), none, some (.int v5)] [] μ := by
  induction n with
  | zero =>
    intros
    exact ll_none
  | succ n ih =>
    intro v1 v2 v3 v5 μ cl hc0
    rw [fL_refusesOne_L560]
    refine ll_iload E (pc := 560) dL_refusesOne_560 rfl ?_
    refine ll_bipush E (pc := 562) dL_refusesOne_562 kb_30 ?_
    refine ll_icmp_ge E (pc := 564) (tgt := 614) dL_refusesOne_564 rfl ?_ ?_
    · refine ll_aload_n E (pc := 614) dL_refusesOne_614 rfl ?_
      refine ll_callVi E (pc := 615) (d := 0) (ci := 8) (o9 := 0) [] [] dL_refusesOne_615 cv_L_140 (fun h => ctX8_steps h) (Nat.le_of_ble_eq_true rfl) sx_0 ci_8 rfl rfl (Nat.le_of_ble_eq_true rfl) ⟨(Nat.le_of_ble_eq_true rfl), (Nat.le_of_ble_eq_true rfl)⟩ (mcc (by omega)) ?_
      intro r102 μ101
      refine ll_if_eq E (pc := 618) (tgt := 691) dL_refusesOne_618 rfl ?_ ?_
      · exact ll_lo (lo' := [none, none, none, none, none, none]) trivial (kL_refusesOne_L691 E X hr μ101 _ (by omega))
      · refine ll_aload_n E (pc := 621) dL_refusesOne_621 rfl ?_
        refine ll_iconst E (pc := 622) dL_refusesOne_622 kc_2 ?_
        refine ll_iconst E (pc := 623) dL_refusesOne_623 kc_0 ?_
        refine ll_iload_n E (pc := 624) dL_refusesOne_624 rfl ?_
        refine ll_iconst E (pc := 625) dL_refusesOne_625 kc_0 ?_
        refine ll_iconst E (pc := 626) dL_refusesOne_626 kc_0 ?_
        refine ll_mcallH E X (pc := 627) (d := 10) [.ref (ad 0), .int (2 : Int32), .int (0 : Int32), .int v2, .int (0 : Int32), .int (0 : Int32)] [] dL_refusesOne_627 cvH_L_161 (fun h => cmL_call X.1 h) rfl rfl (Nat.le_of_ble_eq_true rfl) ⟨(Nat.le_of_ble_eq_true rfl), (Nat.le_of_ble_eq_true rfl)⟩ (mcd (by omega)) ?_
        intro r104 μ103
        refine ll_sipush E (pc := 630) dL_refusesOne_630 ks_m2011 ?_
        refine ll_icmp_ne E (pc := 633) (tgt := 695) dL_refusesOne_633 rfl ?_ ?_
        · refine ll_iconst E (pc := 695) dL_refusesOne_695 kc_0 ?_
          exact ll_mzreturn E hr (fun _ h => h) rfl dL_refusesOne_696 (by omega)
        · refine ll_aload_n E (pc := 636) dL_refusesOne_636 rfl ?_
          refine ll_bipush E (pc := 637) dL_refusesOne_637 kb_6 ?_
          refine ll_iconst E (pc := 639) dL_refusesOne_639 kc_0 ?_
          refine ll_iload_n E (pc := 640) dL_refusesOne_640 rfl ?_
          refine ll_iconst E (pc := 641) dL_refusesOne_641 kc_0 ?_
          refine ll_sipush E (pc := 642) dL_refusesOne_642 ks_199 ?_
          refine ll_callSi E (pc := 645) (d := 0) [.int v1, .int (0 : Int32), .int (199 : Int32)] [.int (0 : Int32), .int (6 : Int32), .ref (ad 0)] dL_refusesOne_645 cv_L_165 (fun h => ctL_far h) rfl rfl (Nat.le_of_ble_eq_true rfl) ⟨(Nat.le_of_ble_eq_true rfl), (Nat.le_of_ble_eq_true rfl)⟩ (mcc (by omega)) ?_
          intro r106 μ105
          refine ll_iconst E (pc := 648) dL_refusesOne_648 kc_0 ?_
          refine ll_iconst E (pc := 649) dL_refusesOne_649 kc_0 ?_
          refine ll_mcallH E X (pc := 650) (d := 10) [.ref (ad 0), .int (6 : Int32), .int (0 : Int32), .int r106, .int (0 : Int32), .int (0 : Int32)] [] dL_refusesOne_650 cvH_L_161 (fun h => cmL_call X.1 h) rfl rfl (Nat.le_of_ble_eq_true rfl) ⟨(Nat.le_of_ble_eq_true rfl), (Nat.le_of_ble_eq_true rfl)⟩ (mcd (by omega)) ?_
          intro r108 μ107
          refine ll_sipush E (pc := 653) dL_refusesOne_653 ks_m2012 ?_
          refine ll_icmp_ne E (pc := 656) (tgt := 695) dL_refusesOne_656 rfl ?_ ?_
          · refine ll_iconst E (pc := 695) dL_refusesOne_695 kc_0 ?_
            exact ll_mzreturn E hr (fun _ h => h) rfl dL_refusesOne_696 (by omega)
          · refine ll_aload_n E (pc := 659) dL_refusesOne_659 rfl ?_
            refine ll_bipush E (pc := 660) dL_refusesOne_660 kb_20 ?_
            refine ll_iconst E (pc := 662) dL_refusesOne_662 kc_0 ?_
            refine ll_iload_n E (pc := 663) dL_refusesOne_663 rfl ?_
            refine ll_iconst E (pc := 664) dL_refusesOne_664 kc_0 ?_
            refine ll_iconst E (pc := 665) dL_refusesOne_665 kc_0 ?_
            refine ll_mcallH E X (pc := 666) (d := 10) [.ref (ad 0), .int (20 : Int32), .int (0 : Int32), .int v2, .int (0 : Int32), .int (0 : Int32)] [] dL_refusesOne_666 cvH_L_161 (fun h => cmL_call X.1 h) rfl rfl (Nat.le_of_ble_eq_true rfl) ⟨(Nat.le_of_ble_eq_true rfl), (Nat.le_of_ble_eq_true rfl)⟩ (mcd (by omega)) ?_
            intro r110 μ109
            refine ll_sipush E (pc := 669) dL_refusesOne_669 ks_m2011 ?_
            refine ll_icmp_ne E (pc := 672) (tgt := 695) dL_refusesOne_672 rfl ?_ ?_
            · refine ll_iconst E (pc := 695) dL_refusesOne_695 kc_0 ?_
              exact ll_mzreturn E hr (fun _ h => h) rfl dL_refusesOne_696 (by omega)
            · refine ll_aload_n E (pc := 675) dL_refusesOne_675 rfl ?_
              refine ll_bipush E (pc := 676) dL_refusesOne_676 kb_21 ?_
              refine ll_iconst E (pc := 678) dL_refusesOne_678 kc_0 ?_
              refine ll_iload_n E (pc := 679) dL_refusesOne_679 rfl ?_
              refine ll_iconst E (pc := 680) dL_refusesOne_680 kc_0 ?_
              refine ll_iconst E (pc := 681) dL_refusesOne_681 kc_0 ?_
              refine ll_mcallH E X (pc := 682) (d := 10) [.ref (ad 0), .int (21 : Int32), .int (0 : Int32), .int v2, .int (0 : Int32), .int (0 : Int32)] [] dL_refusesOne_682 cvH_L_161 (fun h => cmL_call X.1 h) rfl rfl (Nat.le_of_ble_eq_true rfl) ⟨(Nat.le_of_ble_eq_true rfl), (Nat.le_of_ble_eq_true rfl)⟩ (mcd (by omega)) ?_
              intro r112 μ111
              refine ll_sipush E (pc := 685) dL_refusesOne_685 ks_m2011 ?_
              refine ll_icmp_ne E (pc := 688) (tgt := 695) dL_refusesOne_688 rfl ?_ ?_
              · refine ll_iconst E (pc := 695) dL_refusesOne_695 kc_0 ?_
                exact ll_mzreturn E hr (fun _ h => h) rfl dL_refusesOne_696 (by omega)
              · exact ll_lo (lo' := [none, none, none, none, none, none]) trivial (kL_refusesOne_L691 E X hr μ111 _ (by omega))
    · refine ll_aload_n E (pc := 567) dL_refusesOne_567 rfl ?_
      refine ll_iload E (pc := 568) dL_refusesOne_568 rfl ?_
      refine ll_bipush E (pc := 570) dL_refusesOne_570 kb_21 ?_
      refine ll_iload_n E (pc := 572) dL_refusesOne_572 rfl ?_
      refine ll_iconst E (pc := 573) dL_refusesOne_573 kc_0 ?_
      refine ll_iconst E (pc := 574) dL_refusesOne_574 kc_0 ?_
      refine ll_mcallH E X (pc := 575) (d := 10) [.ref (ad 0), .int v5, .int (21 : Int32), .int v3, .int (0 : Int32), .int (0 : Int32)] [] dL_refusesOne_575 cvH_L_161 (fun h => cmL_call X.1 h) rfl rfl (Nat.le_of_ble_eq_true rfl) ⟨(Nat.le_of_ble_eq_true rfl), (Nat.le_of_ble_eq_true rfl)⟩ (mcd (by omega)) ?_
      intro r114 μ113
      refine ll_sipush E (pc := 578) dL_refusesOne_578 ks_m2011 ?_
      refine ll_icmp_ne E (pc := 581) (tgt := 606) dL_refusesOne_581 rfl ?_ ?_
      · refine ll_iconst E (pc := 606) dL_refusesOne_606 kc_0 ?_
        exact ll_mzreturn E hr (fun _ h => h) rfl dL_refusesOne_607 (by omega)
      · refine ll_aload_n E (pc := 584) dL_refusesOne_584 rfl ?_
        refine ll_iload E (pc := 585) dL_refusesOne_585 rfl ?_
        refine ll_iload_n E (pc := 587) dL_refusesOne_587 rfl ?_
        refine ll_iconst E (pc := 588) dL_refusesOne_588 kc_0 ?_
        refine ll_bipush E (pc := 589) dL_refusesOne_589 kb_20 ?_
        refine ll_callSi E (pc := 591) (d := 0) [.int v1, .int (0 : Int32), .int (20 : Int32)] [.int v5, .ref (ad 0)] dL_refusesOne_591 cv_L_165 (fun h => ctL_far h) rfl rfl (Nat.le_of_ble_eq_true rfl) ⟨(Nat.le_of_ble_eq_true rfl), (Nat.le_of_ble_eq_true rfl)⟩ (mcc (by omega)) ?_
        intro r116 μ115
        refine ll_iconst E (pc := 594) dL_refusesOne_594 kc_0 ?_
        refine ll_iconst E (pc := 595) dL_refusesOne_595 kc_0 ?_
        refine ll_iconst E (pc := 596) dL_refusesOne_596 kc_0 ?_
        refine ll_mcallH E X (pc := 597) (d := 10) [.ref (ad 0), .int v5, .int r116, .int (0 : Int32), .int (0 : Int32), .int (0 : Int32)] [] dL_refusesOne_597 cvH_L_161 (fun h => cmL_call X.1 h) rfl rfl (Nat.le_of_ble_eq_true rfl) ⟨(Nat.le_of_ble_eq_true rfl), (Nat.le_of_ble_eq_true rfl)⟩ (mcd (by omega)) ?_
        intro r118 μ117
        refine ll_sipush E (pc := 600) dL_refusesOne_600 ks_m2012 ?_
        refine ll_icmp_eq E (pc := 603) (tgt := 608) dL_refusesOne_603 rfl ?_ ?_
        · refine ll_iinc E (pc := 608) (lo' := [some (.ref (ad 0)), some (.int v1), some (.int v2), some (.int v3), none, some (.int (v5 + (1 : Int32)))]) dL_refusesOne_608 rfl kc_1 (Nat.le_of_ble_eq_true rfl) rfl rfl ?_
          refine ll_goto E (pc := 611) (tgt := 560) dL_refusesOne_611 rfl ?_
          exact ll_lo (lo' := [some (.ref (ad 0)), some (.int v1), some (.int v2), some (.int v3), none, some (.int (v5 + (1 : Int32)))]) ⟨rfl, rfl, rfl, rfl, rfl, trivial⟩ (ih v1 v2 v3 (v5 + (1 : Int32)) μ117 _ (by omega))
        · refine ll_iconst E (pc := 606) dL_refusesOne_606 kc_0 ?_
          exact ll_mzreturn E hr (fun _ h => h) rfl dL_refusesOne_607 (by omega)
theorem kL_refusesOne_L436 {p : Program} {l : Launch} {e : Env} {s : State} {m : MethodId} {args : Array Value} {below : List Frame} {meth : Method} {c : Code} {D : va_G} {cI cR : ClassId} {ad : Nat → Nat} {A0 : Nat → Prop} (E : EV p s m args meth c cL_refusesOne 6 RL D cI cR ad shX NX A0) (X : EM9 l s A0) (hr : meth.sig.returnType = (some .boolean)) (n : Nat) : ∀ (v1 : Int32) (v2 : Int32) (v3 : Int32) (v5 : Int32) (μ : Mem) (cl : Nat), cl + (2 * n + 36) ≤ 110 → LL p l e (RX 11 110) s m args below meth c 6 D cI cR ad shX NX A0 (fun (r : Int32) μ' => KM below args s D cI cR ad shX NX A0 110 (some (.int r)) μ') (fL_refusesOne_L436 n v1 v2 v3 v5 μ) cl (6 * cl) 436 [some (.ref (ad 0)), some (.int v1), some (.int v2), some (.int v3), none, some (.int v5)] [] μ := by
  induction n with
  | zero =>
    intros
    exact ll_none
  | succ n ih =>
    intro v1 v2 v3 v5 μ cl hc0
    rw [fL_refusesOne_L436]
    refine ll_iload E (pc := 436) dL_refusesOne_436 rfl ?_
    refine ll_bipush E (pc := 438) dL_refusesOne_438 kb_26 ?_
    refine ll_icmp_ge E (pc := 440) (tgt := 467) dL_refusesOne_440 rfl ?_ ?_
    · refine ll_aload_n E (pc := 467) dL_refusesOne_467 rfl ?_
      refine ll_bipush E (pc := 468) dL_refusesOne_468 kb_26 ?_
      refine ll_sipush E (pc := 470) dL_refusesOne_470 ks_206 ?_
      refine ll_iload_n E (pc := 473) dL_refusesOne_473 rfl ?_
      refine ll_iconst E (pc := 474) dL_refusesOne_474 kc_0 ?_
      refine ll_iconst E (pc := 475) dL_refusesOne_475 kc_0 ?_
      refine ll_mcallH E X (pc := 476) (d := 10) [.ref (ad 0), .int (26 : Int32), .int (206 : Int32), .int v3, .int (0 : Int32), .int (0 : Int32)] [] dL_refusesOne_476 cvH_L_161 (fun h => cmL_call X.1 h) rfl rfl (Nat.le_of_ble_eq_true rfl) ⟨(Nat.le_of_ble_eq_true rfl), (Nat.le_of_ble_eq_true rfl)⟩ (mcd (by omega)) ?_
      intro r120 μ119
      refine ll_sipush E (pc := 479) dL_refusesOne_479 ks_m2011 ?_
      refine ll_icmp_ne E (pc := 482) (tgt := 554) dL_refusesOne_482 rfl ?_ ?_
      · refine ll_iconst E (pc := 554) dL_refusesOne_554 kc_0 ?_
        exact ll_mzreturn E hr (fun _ h => h) rfl dL_refusesOne_555 (by omega)
      · refine ll_aload_n E (pc := 485) dL_refusesOne_485 rfl ?_
        refine ll_bipush E (pc := 486) dL_refusesOne_486 kb_26 ?_
        refine ll_iload_n E (pc := 488) dL_refusesOne_488 rfl ?_
        refine ll_iconst E (pc := 489) dL_refusesOne_489 kc_0 ?_
        refine ll_sipush E (pc := 490) dL_refusesOne_490 ks_205 ?_
        refine ll_callSi E (pc := 493) (d := 0) [.int v1, .int (0 : Int32), .int (205 : Int32)] [.int (26 : Int32), .ref (ad 0)] dL_refusesOne_493 cv_L_165 (fun h => ctL_far h) rfl rfl (Nat.le_of_ble_eq_true rfl) ⟨(Nat.le_of_ble_eq_true rfl), (Nat.le_of_ble_eq_true rfl)⟩ (mcc (by omega)) ?_
        intro r122 μ121
        refine ll_bipush E (pc := 496) dL_refusesOne_496 kb_11 ?_
        refine ll_iconst E (pc := 498) dL_refusesOne_498 kc_0 ?_
        refine ll_iconst E (pc := 499) dL_refusesOne_499 kc_0 ?_
        refine ll_mcallH E X (pc := 500) (d := 10) [.ref (ad 0), .int (26 : Int32), .int r122, .int (11 : Int32), .int (0 : Int32), .int (0 : Int32)] [] dL_refusesOne_500 cvH_L_161 (fun h => cmL_call X.1 h) rfl rfl (Nat.le_of_ble_eq_true rfl) ⟨(Nat.le_of_ble_eq_true rfl), (Nat.le_of_ble_eq_true rfl)⟩ (mcd (by omega)) ?_
        intro r124 μ123
        refine ll_sipush E (pc := 503) dL_refusesOne_503 ks_m2012 ?_
        refine ll_icmp_ne E (pc := 506) (tgt := 554) dL_refusesOne_506 rfl ?_ ?_
        · refine ll_iconst E (pc := 554) dL_refusesOne_554 kc_0 ?_
          exact ll_mzreturn E hr (fun _ h => h) rfl dL_refusesOne_555 (by omega)
        · refine ll_aload_n E (pc := 509) dL_refusesOne_509 rfl ?_
          refine ll_bipush E (pc := 510) dL_refusesOne_510 kb_30 ?_
          refine ll_iload_n E (pc := 512) dL_refusesOne_512 rfl ?_
          refine ll_iconst E (pc := 513) dL_refusesOne_513 kc_0 ?_
          refine ll_sipush E (pc := 514) dL_refusesOne_514 ks_199 ?_
          refine ll_callSi E (pc := 517) (d := 0) [.int v1, .int (0 : Int32), .int (199 : Int32)] [.int (30 : Int32), .ref (ad 0)] dL_refusesOne_517 cv_L_165 (fun h => ctL_far h) rfl rfl (Nat.le_of_ble_eq_true rfl) ⟨(Nat.le_of_ble_eq_true rfl), (Nat.le_of_ble_eq_true rfl)⟩ (mcc (by omega)) ?_
          intro r126 μ125
          refine ll_iconst E (pc := 520) dL_refusesOne_520 kc_0 ?_
          refine ll_iconst E (pc := 521) dL_refusesOne_521 kc_0 ?_
          refine ll_iconst E (pc := 522) dL_refusesOne_522 kc_0 ?_
          refine ll_mcallH E X (pc := 523) (d := 10) [.ref (ad 0), .int (30 : Int32), .int r126, .int (0 : Int32), .int (0 : Int32), .int (0 : Int32)] [] dL_refusesOne_523 cvH_L_161 (fun h => cmL_call X.1 h) rfl rfl (Nat.le_of_ble_eq_true rfl) ⟨(Nat.le_of_ble_eq_true rfl), (Nat.le_of_ble_eq_true rfl)⟩ (mcd (by omega)) ?_
          intro r128 μ127
          refine ll_sipush E (pc := 526) dL_refusesOne_526 ks_m2012 ?_
          refine ll_icmp_ne E (pc := 529) (tgt := 554) dL_refusesOne_529 rfl ?_ ?_
          · refine ll_iconst E (pc := 554) dL_refusesOne_554 kc_0 ?_
            exact ll_mzreturn E hr (fun _ h => h) rfl dL_refusesOne_555 (by omega)
          · refine ll_aload_n E (pc := 532) dL_refusesOne_532 rfl ?_
            refine ll_bipush E (pc := 533) dL_refusesOne_533 kb_31 ?_
            refine ll_iload_n E (pc := 535) dL_refusesOne_535 rfl ?_
            refine ll_iconst E (pc := 536) dL_refusesOne_536 kc_0 ?_
            refine ll_bipush E (pc := 537) dL_refusesOne_537 kb_20 ?_
            refine ll_callSi E (pc := 539) (d := 0) [.int v1, .int (0 : Int32), .int (20 : Int32)] [.int (31 : Int32), .ref (ad 0)] dL_refusesOne_539 cv_L_165 (fun h => ctL_far h) rfl rfl (Nat.le_of_ble_eq_true rfl) ⟨(Nat.le_of_ble_eq_true rfl), (Nat.le_of_ble_eq_true rfl)⟩ (mcc (by omega)) ?_
            intro r130 μ129
            refine ll_iconst E (pc := 542) dL_refusesOne_542 kc_0 ?_
            refine ll_iconst E (pc := 543) dL_refusesOne_543 kc_0 ?_
            refine ll_iconst E (pc := 544) dL_refusesOne_544 kc_0 ?_
            refine ll_mcallH E X (pc := 545) (d := 10) [.ref (ad 0), .int (31 : Int32), .int r130, .int (0 : Int32), .int (0 : Int32), .int (0 : Int32)] [] dL_refusesOne_545 cvH_L_161 (fun h => cmL_call X.1 h) rfl rfl (Nat.le_of_ble_eq_true rfl) ⟨(Nat.le_of_ble_eq_true rfl), (Nat.le_of_ble_eq_true rfl)⟩ (mcd (by omega)) ?_
            intro r132 μ131
            refine ll_sipush E (pc := 548) dL_refusesOne_548 ks_m2012 ?_
            refine ll_icmp_eq E (pc := 551) (tgt := 556) dL_refusesOne_551 rfl ?_ ?_
            · refine ll_bipush E (pc := 556) dL_refusesOne_556 kb_27 ?_
              refine ll_istore E (pc := 558) (lo' := [some (.ref (ad 0)), some (.int v1), some (.int v2), some (.int v3), none, some (.int (27 : Int32))]) dL_refusesOne_558 (Nat.le_of_ble_eq_true rfl) rfl rfl ?_
              exact ll_lo (lo' := [some (.ref (ad 0)), some (.int v1), some (.int v2), some (.int v3), none, some (.int (27 : Int32))]) ⟨rfl, rfl, rfl, rfl, rfl, trivial⟩ (kL_refusesOne_L560 E X hr 5 v1 v2 v3 (27 : Int32) μ131 _ (by omega))
            · refine ll_iconst E (pc := 554) dL_refusesOne_554 kc_0 ?_
              exact ll_mzreturn E hr (fun _ h => h) rfl dL_refusesOne_555 (by omega)
    · refine ll_aload_n E (pc := 443) dL_refusesOne_443 rfl ?_
      refine ll_iload E (pc := 444) dL_refusesOne_444 rfl ?_
      refine ll_iload_n E (pc := 446) dL_refusesOne_446 rfl ?_
      refine ll_iconst E (pc := 447) dL_refusesOne_447 kc_0 ?_
      refine ll_iconst E (pc := 448) dL_refusesOne_448 kc_0 ?_
      refine ll_iconst E (pc := 449) dL_refusesOne_449 kc_0 ?_
      refine ll_mcallH E X (pc := 450) (d := 10) [.ref (ad 0), .int v5, .int v3, .int (0 : Int32), .int (0 : Int32), .int (0 : Int32)] [] dL_refusesOne_450 cvH_L_161 (fun h => cmL_call X.1 h) rfl rfl (Nat.le_of_ble_eq_true rfl) ⟨(Nat.le_of_ble_eq_true rfl), (Nat.le_of_ble_eq_true rfl)⟩ (mcd (by omega)) ?_
      intro r134 μ133
      refine ll_sipush E (pc := 453) dL_refusesOne_453 ks_m2011 ?_
      refine ll_icmp_eq E (pc := 456) (tgt := 461) dL_refusesOne_456 rfl ?_ ?_
      · refine ll_iinc E (pc := 461) (lo' := [some (.ref (ad 0)), some (.int v1), some (.int v2), some (.int v3), none, some (.int (v5 + (1 : Int32)))]) dL_refusesOne_461 rfl kc_1 (Nat.le_of_ble_eq_true rfl) rfl rfl ?_
        refine ll_goto E (pc := 464) (tgt := 436) dL_refusesOne_464 rfl ?_
        exact ll_lo (lo' := [some (.ref (ad 0)), some (.int v1), some (.int v2), some (.int v3), none, some (.int (v5 + (1 : Int32)))]) ⟨rfl, rfl, rfl, rfl, rfl, trivial⟩ (ih v1 v2 v3 (v5 + (1 : Int32)) μ133 _ (by omega))
      · refine ll_iconst E (pc := 459) dL_refusesOne_459 kc_0 ?_
        exact ll_mzreturn E hr (fun _ h => h) rfl dL_refusesOne_460 (by omega)
theorem kL_refusesOne_L401 {p : Program} {l : Launch} {e : Env} {s : State} {m : MethodId} {args : Array Value} {below : List Frame} {meth : Method} {c : Code} {D : va_G} {cI cR : ClassId} {ad : Nat → Nat} {A0 : Nat → Prop} (E : EV p s m args meth c cL_refusesOne 6 RL D cI cR ad shX NX A0) (X : EM9 l s A0) (hr : meth.sig.returnType = (some .boolean)) (n : Nat) : ∀ (v1 : Int32) (v2 : Int32) (v3 : Int32) (v5 : Int32) (μ : Mem) (cl : Nat), cl + (2 * n + 48) ≤ 110 → LL p l e (RX 11 110) s m args below meth c 6 D cI cR ad shX NX A0 (fun (r : Int32) μ' => KM below args s D cI cR ad shX NX A0 110 (some (.int r)) μ') (fL_refusesOne_L401 n v1 v2 v3 v5 μ) cl (6 * cl) 401 [some (.ref (ad 0)), some (.int v1), some (.int v2), some (.int v3), none, some (.int v5)] [] μ := by
  induction n with
  | zero =>
    intros
    exact ll_none
  | succ n ih =>
    intro v1 v2 v3 v5 μ cl hc0
    rw [fL_refusesOne_L401]
    refine ll_iload E (pc := 401) dL_refusesOne_401 rfl ?_
    refine ll_bipush E (pc := 403) dL_refusesOne_403 kb_22 ?_
    refine ll_icmp_ge E (pc := 405) (tgt := 432) dL_refusesOne_405 rfl ?_ ?_
    · refine ll_bipush E (pc := 432) dL_refusesOne_432 kb_22 ?_
      refine ll_istore E (pc := 434) (lo' := [some (.ref (ad 0)), some (.int v1), some (.int v2), some (.int v3), none, some (.int (22 : Int32))]) dL_refusesOne_434 (Nat.le_of_ble_eq_true rfl) rfl rfl ?_
      exact ll_lo (lo' := [some (.ref (ad 0)), some (.int v1), some (.int v2), some (.int v3), none, some (.int (22 : Int32))]) ⟨rfl, rfl, rfl, rfl, rfl, trivial⟩ (kL_refusesOne_L436 E X hr 6 v1 v2 v3 (22 : Int32) μ _ (by omega))
    · refine ll_aload_n E (pc := 408) dL_refusesOne_408 rfl ?_
      refine ll_iload E (pc := 409) dL_refusesOne_409 rfl ?_
      refine ll_iload_n E (pc := 411) dL_refusesOne_411 rfl ?_
      refine ll_iconst E (pc := 412) dL_refusesOne_412 kc_0 ?_
      refine ll_iconst E (pc := 413) dL_refusesOne_413 kc_0 ?_
      refine ll_iconst E (pc := 414) dL_refusesOne_414 kc_0 ?_
      refine ll_mcallH E X (pc := 415) (d := 10) [.ref (ad 0), .int v5, .int v2, .int (0 : Int32), .int (0 : Int32), .int (0 : Int32)] [] dL_refusesOne_415 cvH_L_161 (fun h => cmL_call X.1 h) rfl rfl (Nat.le_of_ble_eq_true rfl) ⟨(Nat.le_of_ble_eq_true rfl), (Nat.le_of_ble_eq_true rfl)⟩ (mcd (by omega)) ?_
      intro r136 μ135
      refine ll_sipush E (pc := 418) dL_refusesOne_418 ks_m2011 ?_
      refine ll_icmp_eq E (pc := 421) (tgt := 426) dL_refusesOne_421 rfl ?_ ?_
      · refine ll_iinc E (pc := 426) (lo' := [some (.ref (ad 0)), some (.int v1), some (.int v2), some (.int v3), none, some (.int (v5 + (1 : Int32)))]) dL_refusesOne_426 rfl kc_1 (Nat.le_of_ble_eq_true rfl) rfl rfl ?_
        refine ll_goto E (pc := 429) (tgt := 401) dL_refusesOne_429 rfl ?_
        exact ll_lo (lo' := [some (.ref (ad 0)), some (.int v1), some (.int v2), some (.int v3), none, some (.int (v5 + (1 : Int32)))]) ⟨rfl, rfl, rfl, rfl, rfl, trivial⟩ (ih v1 v2 v3 (v5 + (1 : Int32)) μ135 _ (by omega))
      · refine ll_iconst E (pc := 424) dL_refusesOne_424 kc_0 ?_
        exact ll_mzreturn E hr (fun _ h => h) rfl dL_refusesOne_425 (by omega)
theorem kL_refusesOne_L302 {p : Program} {l : Launch} {e : Env} {s : State} {m : MethodId} {args : Array Value} {below : List Frame} {meth : Method} {c : Code} {D : va_G} {cI cR : ClassId} {ad : Nat → Nat} {A0 : Nat → Prop} (E : EV p s m args meth c cL_refusesOne 6 RL D cI cR ad shX NX A0) (X : EM9 l s A0) (hr : meth.sig.returnType = (some .boolean)) (v1 : Int32) (v2 : Int32) (v3 : Int32) (μ : Mem) (cl : Nat) (hc0 : cl + (82) ≤ 110) : LL p l e (RX 11 110) s m args below meth c 6 D cI cR ad shX NX A0 (fun (r : Int32) μ' => KM below args s D cI cR ad shX NX A0 110 (some (.int r)) μ') (fL_refusesOne_L302 v1 v2 v3 μ) cl (6 * cl) 302 [some (.ref (ad 0)), some (.int v1), some (.int v2), some (.int v3), none, none] [] μ := by
  rw [fL_refusesOne_L302]
  refine ll_aload_n E (pc := 302) dL_refusesOne_302 rfl ?_
  refine ll_iconst E (pc := 303) dL_refusesOne_303 kc_5 ?_
  refine ll_iload_n E (pc := 304) dL_refusesOne_304 rfl ?_
  refine ll_iconst E (pc := 305) dL_refusesOne_305 kc_0 ?_
  refine ll_iconst E (pc := 306) dL_refusesOne_306 kc_3 ?_
  refine ll_callSi E (pc := 307) (d := 0) [.int v1, .int (0 : Int32), .int (3 : Int32)] [.int (5 : Int32), .ref (ad 0)] dL_refusesOne_307 cv_L_165 (fun h => ctL_far h) rfl rfl (Nat.le_of_ble_eq_true rfl) ⟨(Nat.le_of_ble_eq_true rfl), (Nat.le_of_ble_eq_true rfl)⟩ (mcc (by omega)) ?_
  intro r138 μ137
  refine ll_iconst E (pc := 310) dL_refusesOne_310 kc_0 ?_
  refine ll_iconst E (pc := 311) dL_refusesOne_311 kc_0 ?_
  refine ll_iconst E (pc := 312) dL_refusesOne_312 kc_0 ?_
  refine ll_mcallH E X (pc := 313) (d := 10) [.ref (ad 0), .int (5 : Int32), .int r138, .int (0 : Int32), .int (0 : Int32), .int (0 : Int32)] [] dL_refusesOne_313 cvH_L_161 (fun h => cmL_call X.1 h) rfl rfl (Nat.le_of_ble_eq_true rfl) ⟨(Nat.le_of_ble_eq_true rfl), (Nat.le_of_ble_eq_true rfl)⟩ (mcd (by omega)) ?_
  intro r140 μ139
  refine ll_sipush E (pc := 316) dL_refusesOne_316 ks_m2012 ?_
  refine ll_icmp_ne E (pc := 319) (tgt := 395) dL_refusesOne_319 rfl ?_ ?_
  · refine ll_iconst E (pc := 395) dL_refusesOne_395 kc_0 ?_
    exact ll_mzreturn E hr (fun _ h => h) rfl dL_refusesOne_396 (by omega)
  · refine ll_aload_n E (pc := 322) dL_refusesOne_322 rfl ?_
    refine ll_bipush E (pc := 323) dL_refusesOne_323 kb_6 ?_
    refine ll_iload_n E (pc := 325) dL_refusesOne_325 rfl ?_
    refine ll_sipush E (pc := 326) dL_refusesOne_326 ks_200 ?_
    refine ll_iconst E (pc := 329) dL_refusesOne_329 kc_0 ?_
    refine ll_iconst E (pc := 330) dL_refusesOne_330 kc_0 ?_
    refine ll_mcallH E X (pc := 331) (d := 10) [.ref (ad 0), .int (6 : Int32), .int v2, .int (200 : Int32), .int (0 : Int32), .int (0 : Int32)] [] dL_refusesOne_331 cvH_L_161 (fun h => cmL_call X.1 h) rfl rfl (Nat.le_of_ble_eq_true rfl) ⟨(Nat.le_of_ble_eq_true rfl), (Nat.le_of_ble_eq_true rfl)⟩ (mcd (by omega)) ?_
    intro r142 μ141
    refine ll_sipush E (pc := 334) dL_refusesOne_334 ks_m2011 ?_
    refine ll_icmp_ne E (pc := 337) (tgt := 395) dL_refusesOne_337 rfl ?_ ?_
    · refine ll_iconst E (pc := 395) dL_refusesOne_395 kc_0 ?_
      exact ll_mzreturn E hr (fun _ h => h) rfl dL_refusesOne_396 (by omega)
    · refine ll_aload_n E (pc := 340) dL_refusesOne_340 rfl ?_
      refine ll_bipush E (pc := 341) dL_refusesOne_341 kb_7 ?_
      refine ll_iload_n E (pc := 343) dL_refusesOne_343 rfl ?_
      refine ll_iconst E (pc := 344) dL_refusesOne_344 kc_0 ?_
      refine ll_iconst E (pc := 345) dL_refusesOne_345 kc_0 ?_
      refine ll_iconst E (pc := 346) dL_refusesOne_346 kc_0 ?_
      refine ll_mcallH E X (pc := 347) (d := 10) [.ref (ad 0), .int (7 : Int32), .int v2, .int (0 : Int32), .int (0 : Int32), .int (0 : Int32)] [] dL_refusesOne_347 cvH_L_161 (fun h => cmL_call X.1 h) rfl rfl (Nat.le_of_ble_eq_true rfl) ⟨(Nat.le_of_ble_eq_true rfl), (Nat.le_of_ble_eq_true rfl)⟩ (mcd (by omega)) ?_
      intro r144 μ143
      refine ll_sipush E (pc := 350) dL_refusesOne_350 ks_m2011 ?_
      refine ll_icmp_ne E (pc := 353) (tgt := 395) dL_refusesOne_353 rfl ?_ ?_
      · refine ll_iconst E (pc := 395) dL_refusesOne_395 kc_0 ?_
        exact ll_mzreturn E hr (fun _ h => h) rfl dL_refusesOne_396 (by omega)
      · refine ll_aload_n E (pc := 356) dL_refusesOne_356 rfl ?_
        refine ll_bipush E (pc := 357) dL_refusesOne_357 kb_8 ?_
        refine ll_iload_n E (pc := 359) dL_refusesOne_359 rfl ?_
        refine ll_bipush E (pc := 360) dL_refusesOne_360 kb_33 ?_
        refine ll_bipush E (pc := 362) dL_refusesOne_362 kb_126 ?_
        refine ll_callSi E (pc := 364) (d := 0) [.int v1, .int (33 : Int32), .int (126 : Int32)] [.int (8 : Int32), .ref (ad 0)] dL_refusesOne_364 cv_L_165 (fun h => ctL_far h) rfl rfl (Nat.le_of_ble_eq_true rfl) ⟨(Nat.le_of_ble_eq_true rfl), (Nat.le_of_ble_eq_true rfl)⟩ (mcc (by omega)) ?_
        intro r146 μ145
        refine ll_iconst E (pc := 367) dL_refusesOne_367 kc_0 ?_
        refine ll_iconst E (pc := 368) dL_refusesOne_368 kc_0 ?_
        refine ll_iconst E (pc := 369) dL_refusesOne_369 kc_0 ?_
        refine ll_mcallH E X (pc := 370) (d := 10) [.ref (ad 0), .int (8 : Int32), .int r146, .int (0 : Int32), .int (0 : Int32), .int (0 : Int32)] [] dL_refusesOne_370 cvH_L_161 (fun h => cmL_call X.1 h) rfl rfl (Nat.le_of_ble_eq_true rfl) ⟨(Nat.le_of_ble_eq_true rfl), (Nat.le_of_ble_eq_true rfl)⟩ (mcd (by omega)) ?_
        intro r148 μ147
        refine ll_sipush E (pc := 373) dL_refusesOne_373 ks_m2012 ?_
        refine ll_icmp_ne E (pc := 376) (tgt := 395) dL_refusesOne_376 rfl ?_ ?_
        · refine ll_iconst E (pc := 395) dL_refusesOne_395 kc_0 ?_
          exact ll_mzreturn E hr (fun _ h => h) rfl dL_refusesOne_396 (by omega)
        · refine ll_aload_n E (pc := 379) dL_refusesOne_379 rfl ?_
          refine ll_bipush E (pc := 380) dL_refusesOne_380 kb_9 ?_
          refine ll_iconst E (pc := 382) dL_refusesOne_382 kc_0 ?_
          refine ll_iconst E (pc := 383) dL_refusesOne_383 kc_0 ?_
          refine ll_iconst E (pc := 384) dL_refusesOne_384 kc_0 ?_
          refine ll_iconst E (pc := 385) dL_refusesOne_385 kc_0 ?_
          refine ll_mcallH E X (pc := 386) (d := 10) [.ref (ad 0), .int (9 : Int32), .int (0 : Int32), .int (0 : Int32), .int (0 : Int32), .int (0 : Int32)] [] dL_refusesOne_386 cvH_L_161 (fun h => cmL_call X.1 h) rfl rfl (Nat.le_of_ble_eq_true rfl) ⟨(Nat.le_of_ble_eq_true rfl), (Nat.le_of_ble_eq_true rfl)⟩ (mcd (by omega)) ?_
          intro r150 μ149
          refine ll_sipush E (pc := 389) dL_refusesOne_389 ks_m2012 ?_
          refine ll_icmp_eq E (pc := 392) (tgt := 397) dL_refusesOne_392 rfl ?_ ?_
          · refine ll_bipush E (pc := 397) dL_refusesOne_397 kb_12 ?_
            refine ll_istore E (pc := 399) (lo' := [some (.ref (ad 0)), some (.int v1), some (.int v2), some (.int v3), none, some (.int (12 : Int32))]) dL_refusesOne_399 (Nat.le_of_ble_eq_true rfl) rfl rfl ?_
            exact ll_lo (lo' := [some (.ref (ad 0)), some (.int v1), some (.int v2), some (.int v3), none, some (.int (12 : Int32))]) ⟨rfl, rfl, rfl, rfl, rfl, trivial⟩ (kL_refusesOne_L401 E X hr 12 v1 v2 v3 (12 : Int32) μ149 _ (by omega))
          · refine ll_iconst E (pc := 395) dL_refusesOne_395 kc_0 ?_
            exact ll_mzreturn E hr (fun _ h => h) rfl dL_refusesOne_396 (by omega)
theorem kL_refusesOne_L159 {p : Program} {l : Launch} {e : Env} {s : State} {m : MethodId} {args : Array Value} {below : List Frame} {meth : Method} {c : Code} {D : va_G} {cI cR : ClassId} {ad : Nat → Nat} {A0 : Nat → Prop} (E : EV p s m args meth c cL_refusesOne 6 RL D cI cR ad shX NX A0) (X : EM9 l s A0) (hr : meth.sig.returnType = (some .boolean)) (v1 : Int32) (v2 : Int32) (v3 : Int32) (μ : Mem) (cl : Nat) (hc0 : cl + (98) ≤ 110) : LL p l e (RX 11 110) s m args below meth c 6 D cI cR ad shX NX A0 (fun (r : Int32) μ' => KM below args s D cI cR ad shX NX A0 110 (some (.int r)) μ') (fL_refusesOne_L159 v1 v2 v3 μ) cl (6 * cl) 159 [some (.ref (ad 0)), some (.int v1), some (.int v2), some (.int v3), none, none] [] μ := by
  rw [fL_refusesOne_L159]
  refine ll_aload_n E (pc := 159) dL_refusesOne_159 rfl ?_
  refine ll_iconst E (pc := 160) dL_refusesOne_160 kc_1 ?_
  refine ll_iload_n E (pc := 161) dL_refusesOne_161 rfl ?_
  refine ll_iconst E (pc := 162) dL_refusesOne_162 kc_0 ?_
  refine ll_iconst E (pc := 163) dL_refusesOne_163 kc_0 ?_
  refine ll_iconst E (pc := 164) dL_refusesOne_164 kc_0 ?_
  refine ll_mcallH E X (pc := 165) (d := 10) [.ref (ad 0), .int (1 : Int32), .int v2, .int (0 : Int32), .int (0 : Int32), .int (0 : Int32)] [] dL_refusesOne_165 cvH_L_161 (fun h => cmL_call X.1 h) rfl rfl (Nat.le_of_ble_eq_true rfl) ⟨(Nat.le_of_ble_eq_true rfl), (Nat.le_of_ble_eq_true rfl)⟩ (mcd (by omega)) ?_
  intro r152 μ151
  refine ll_sipush E (pc := 168) dL_refusesOne_168 ks_m2011 ?_
  refine ll_icmp_ne E (pc := 171) (tgt := 395) dL_refusesOne_171 rfl ?_ ?_
  · refine ll_iconst E (pc := 395) dL_refusesOne_395 kc_0 ?_
    exact ll_mzreturn E hr (fun _ h => h) rfl dL_refusesOne_396 (by omega)
  · refine ll_aload_n E (pc := 174) dL_refusesOne_174 rfl ?_
    refine ll_iconst E (pc := 175) dL_refusesOne_175 kc_2 ?_
    refine ll_iload_n E (pc := 176) dL_refusesOne_176 rfl ?_
    refine ll_iload_n E (pc := 177) dL_refusesOne_177 rfl ?_
    refine ll_iconst E (pc := 178) dL_refusesOne_178 kc_0 ?_
    refine ll_iconst E (pc := 179) dL_refusesOne_179 kc_0 ?_
    refine ll_mcallH E X (pc := 180) (d := 10) [.ref (ad 0), .int (2 : Int32), .int v2, .int v2, .int (0 : Int32), .int (0 : Int32)] [] dL_refusesOne_180 cvH_L_161 (fun h => cmL_call X.1 h) rfl rfl (Nat.le_of_ble_eq_true rfl) ⟨(Nat.le_of_ble_eq_true rfl), (Nat.le_of_ble_eq_true rfl)⟩ (mcd (by omega)) ?_
    intro r154 μ153
    refine ll_sipush E (pc := 183) dL_refusesOne_183 ks_m2011 ?_
    refine ll_icmp_ne E (pc := 186) (tgt := 395) dL_refusesOne_186 rfl ?_ ?_
    · refine ll_iconst E (pc := 395) dL_refusesOne_395 kc_0 ?_
      exact ll_mzreturn E hr (fun _ h => h) rfl dL_refusesOne_396 (by omega)
    · refine ll_aload_n E (pc := 189) dL_refusesOne_189 rfl ?_
      refine ll_bipush E (pc := 190) dL_refusesOne_190 kb_32 ?_
      refine ll_iload_n E (pc := 192) dL_refusesOne_192 rfl ?_
      refine ll_iconst E (pc := 193) dL_refusesOne_193 kc_5 ?_
      refine ll_iconst E (pc := 194) dL_refusesOne_194 kc_0 ?_
      refine ll_iconst E (pc := 195) dL_refusesOne_195 kc_0 ?_
      refine ll_mcallH E X (pc := 196) (d := 10) [.ref (ad 0), .int (32 : Int32), .int v3, .int (5 : Int32), .int (0 : Int32), .int (0 : Int32)] [] dL_refusesOne_196 cvH_L_161 (fun h => cmL_call X.1 h) rfl rfl (Nat.le_of_ble_eq_true rfl) ⟨(Nat.le_of_ble_eq_true rfl), (Nat.le_of_ble_eq_true rfl)⟩ (mcd (by omega)) ?_
      intro r156 μ155
      refine ll_sipush E (pc := 199) dL_refusesOne_199 ks_m2011 ?_
      refine ll_icmp_ne E (pc := 202) (tgt := 395) dL_refusesOne_202 rfl ?_ ?_
      · refine ll_iconst E (pc := 395) dL_refusesOne_395 kc_0 ?_
        exact ll_mzreturn E hr (fun _ h => h) rfl dL_refusesOne_396 (by omega)
      · refine ll_aload_n E (pc := 205) dL_refusesOne_205 rfl ?_
        refine ll_bipush E (pc := 206) dL_refusesOne_206 kb_33 ?_
        refine ll_iload_n E (pc := 208) dL_refusesOne_208 rfl ?_
        refine ll_iconst E (pc := 209) dL_refusesOne_209 kc_5 ?_
        refine ll_iconst E (pc := 210) dL_refusesOne_210 kc_0 ?_
        refine ll_iconst E (pc := 211) dL_refusesOne_211 kc_0 ?_
        refine ll_mcallH E X (pc := 212) (d := 10) [.ref (ad 0), .int (33 : Int32), .int v3, .int (5 : Int32), .int (0 : Int32), .int (0 : Int32)] [] dL_refusesOne_212 cvH_L_161 (fun h => cmL_call X.1 h) rfl rfl (Nat.le_of_ble_eq_true rfl) ⟨(Nat.le_of_ble_eq_true rfl), (Nat.le_of_ble_eq_true rfl)⟩ (mcd (by omega)) ?_
        intro r158 μ157
        refine ll_sipush E (pc := 215) dL_refusesOne_215 ks_m2011 ?_
        refine ll_icmp_ne E (pc := 218) (tgt := 395) dL_refusesOne_218 rfl ?_ ?_
        · refine ll_iconst E (pc := 395) dL_refusesOne_395 kc_0 ?_
          exact ll_mzreturn E hr (fun _ h => h) rfl dL_refusesOne_396 (by omega)
        · refine ll_aload_n E (pc := 221) dL_refusesOne_221 rfl ?_
          refine ll_iconst E (pc := 222) dL_refusesOne_222 kc_3 ?_
          refine ll_iload_n E (pc := 223) dL_refusesOne_223 rfl ?_
          refine ll_iconst E (pc := 224) dL_refusesOne_224 kc_0 ?_
          refine ll_iconst E (pc := 225) dL_refusesOne_225 kc_2 ?_
          refine ll_callSi E (pc := 226) (d := 0) [.int v1, .int (0 : Int32), .int (2 : Int32)] [.int (3 : Int32), .ref (ad 0)] dL_refusesOne_226 cv_L_165 (fun h => ctL_far h) rfl rfl (Nat.le_of_ble_eq_true rfl) ⟨(Nat.le_of_ble_eq_true rfl), (Nat.le_of_ble_eq_true rfl)⟩ (mcc (by omega)) ?_
          intro r160 μ159
          refine ll_iconst E (pc := 229) dL_refusesOne_229 kc_0 ?_
          refine ll_iconst E (pc := 230) dL_refusesOne_230 kc_0 ?_
          refine ll_iconst E (pc := 231) dL_refusesOne_231 kc_0 ?_
          refine ll_mcallH E X (pc := 232) (d := 10) [.ref (ad 0), .int (3 : Int32), .int r160, .int (0 : Int32), .int (0 : Int32), .int (0 : Int32)] [] dL_refusesOne_232 cvH_L_161 (fun h => cmL_call X.1 h) rfl rfl (Nat.le_of_ble_eq_true rfl) ⟨(Nat.le_of_ble_eq_true rfl), (Nat.le_of_ble_eq_true rfl)⟩ (mcd (by omega)) ?_
          intro r162 μ161
          refine ll_sipush E (pc := 235) dL_refusesOne_235 ks_m2011 ?_
          refine ll_icmp_ne E (pc := 238) (tgt := 395) dL_refusesOne_238 rfl ?_ ?_
          · refine ll_iconst E (pc := 395) dL_refusesOne_395 kc_0 ?_
            exact ll_mzreturn E hr (fun _ h => h) rfl dL_refusesOne_396 (by omega)
          · refine ll_aload_n E (pc := 241) dL_refusesOne_241 rfl ?_
            refine ll_iconst E (pc := 242) dL_refusesOne_242 kc_3 ?_
            refine ll_iconst E (pc := 243) dL_refusesOne_243 kc_2 ?_
            refine ll_iload_n E (pc := 244) dL_refusesOne_244 rfl ?_
            refine ll_iconst E (pc := 245) dL_refusesOne_245 kc_1 ?_
            refine ll_iconst E (pc := 246) dL_refusesOne_246 kc_4 ?_
            refine ll_callSi E (pc := 247) (d := 0) [.int v1, .int (1 : Int32), .int (4 : Int32)] [.int (2 : Int32), .int (3 : Int32), .ref (ad 0)] dL_refusesOne_247 cv_L_165 (fun h => ctL_far h) rfl rfl (Nat.le_of_ble_eq_true rfl) ⟨(Nat.le_of_ble_eq_true rfl), (Nat.le_of_ble_eq_true rfl)⟩ (mcc (by omega)) ?_
            intro r164 μ163
            refine ll_iconst E (pc := 250) dL_refusesOne_250 kc_0 ?_
            refine ll_iconst E (pc := 251) dL_refusesOne_251 kc_0 ?_
            refine ll_mcallH E X (pc := 252) (d := 10) [.ref (ad 0), .int (3 : Int32), .int (2 : Int32), .int r164, .int (0 : Int32), .int (0 : Int32)] [] dL_refusesOne_252 cvH_L_161 (fun h => cmL_call X.1 h) rfl rfl (Nat.le_of_ble_eq_true rfl) ⟨(Nat.le_of_ble_eq_true rfl), (Nat.le_of_ble_eq_true rfl)⟩ (mcd (by omega)) ?_
            intro r166 μ165
            refine ll_sipush E (pc := 255) dL_refusesOne_255 ks_m2012 ?_
            refine ll_icmp_ne E (pc := 258) (tgt := 395) dL_refusesOne_258 rfl ?_ ?_
            · refine ll_iconst E (pc := 395) dL_refusesOne_395 kc_0 ?_
              exact ll_mzreturn E hr (fun _ h => h) rfl dL_refusesOne_396 (by omega)
            · refine ll_aload_n E (pc := 261) dL_refusesOne_261 rfl ?_
              refine ll_iconst E (pc := 262) dL_refusesOne_262 kc_4 ?_
              refine ll_iload_n E (pc := 263) dL_refusesOne_263 rfl ?_
              refine ll_iconst E (pc := 264) dL_refusesOne_264 kc_0 ?_
              refine ll_iconst E (pc := 265) dL_refusesOne_265 kc_2 ?_
              refine ll_callSi E (pc := 266) (d := 0) [.int v1, .int (0 : Int32), .int (2 : Int32)] [.int (4 : Int32), .ref (ad 0)] dL_refusesOne_266 cv_L_165 (fun h => ctL_far h) rfl rfl (Nat.le_of_ble_eq_true rfl) ⟨(Nat.le_of_ble_eq_true rfl), (Nat.le_of_ble_eq_true rfl)⟩ (mcc (by omega)) ?_
              intro r168 μ167
              refine ll_iconst E (pc := 269) dL_refusesOne_269 kc_0 ?_
              refine ll_iconst E (pc := 270) dL_refusesOne_270 kc_0 ?_
              refine ll_iconst E (pc := 271) dL_refusesOne_271 kc_0 ?_
              refine ll_mcallH E X (pc := 272) (d := 10) [.ref (ad 0), .int (4 : Int32), .int r168, .int (0 : Int32), .int (0 : Int32), .int (0 : Int32)] [] dL_refusesOne_272 cvH_L_161 (fun h => cmL_call X.1 h) rfl rfl (Nat.le_of_ble_eq_true rfl) ⟨(Nat.le_of_ble_eq_true rfl), (Nat.le_of_ble_eq_true rfl)⟩ (mcd (by omega)) ?_
              intro r170 μ169
              refine ll_sipush E (pc := 275) dL_refusesOne_275 ks_m2011 ?_
              refine ll_icmp_ne E (pc := 278) (tgt := 395) dL_refusesOne_278 rfl ?_ ?_
              · refine ll_iconst E (pc := 395) dL_refusesOne_395 kc_0 ?_
                exact ll_mzreturn E hr (fun _ h => h) rfl dL_refusesOne_396 (by omega)
              · refine ll_aload_n E (pc := 281) dL_refusesOne_281 rfl ?_
                refine ll_iconst E (pc := 282) dL_refusesOne_282 kc_4 ?_
                refine ll_iconst E (pc := 283) dL_refusesOne_283 kc_0 ?_
                refine ll_iload_n E (pc := 284) dL_refusesOne_284 rfl ?_
                refine ll_iconst E (pc := 285) dL_refusesOne_285 kc_1 ?_
                refine ll_bipush E (pc := 286) dL_refusesOne_286 kb_6 ?_
                refine ll_callSi E (pc := 288) (d := 0) [.int v1, .int (1 : Int32), .int (6 : Int32)] [.int (0 : Int32), .int (4 : Int32), .ref (ad 0)] dL_refusesOne_288 cv_L_165 (fun h => ctL_far h) rfl rfl (Nat.le_of_ble_eq_true rfl) ⟨(Nat.le_of_ble_eq_true rfl), (Nat.le_of_ble_eq_true rfl)⟩ (mcc (by omega)) ?_
                intro r172 μ171
                refine ll_iconst E (pc := 291) dL_refusesOne_291 kc_0 ?_
                refine ll_iconst E (pc := 292) dL_refusesOne_292 kc_0 ?_
                refine ll_mcallH E X (pc := 293) (d := 10) [.ref (ad 0), .int (4 : Int32), .int (0 : Int32), .int r172, .int (0 : Int32), .int (0 : Int32)] [] dL_refusesOne_293 cvH_L_161 (fun h => cmL_call X.1 h) rfl rfl (Nat.le_of_ble_eq_true rfl) ⟨(Nat.le_of_ble_eq_true rfl), (Nat.le_of_ble_eq_true rfl)⟩ (mcd (by omega)) ?_
                intro r174 μ173
                refine ll_sipush E (pc := 296) dL_refusesOne_296 ks_m2012 ?_
                refine ll_icmp_ne E (pc := 299) (tgt := 395) dL_refusesOne_299 rfl ?_ ?_
                · refine ll_iconst E (pc := 395) dL_refusesOne_395 kc_0 ?_
                  exact ll_mzreturn E hr (fun _ h => h) rfl dL_refusesOne_396 (by omega)
                · exact ll_lo (lo' := [some (.ref (ad 0)), some (.int v1), some (.int v2), some (.int v3), none, none]) ⟨rfl, rfl, rfl, rfl, trivial⟩ (kL_refusesOne_L302 E X hr v1 v2 v3 μ173 _ (by omega))
theorem kL_refusesOne_L113 {p : Program} {l : Launch} {e : Env} {s : State} {m : MethodId} {args : Array Value} {below : List Frame} {meth : Method} {c : Code} {D : va_G} {cI cR : ClassId} {ad : Nat → Nat} {A0 : Nat → Prop} (E : EV p s m args meth c cL_refusesOne 6 RL D cI cR ad shX NX A0) (X : EM9 l s A0) (hr : meth.sig.returnType = (some .boolean)) (v1 : Int32) (v2 : Int32) (v3 : Int32) (s0 : Int32) (s1 : Int32) (μ : Mem) (cl : Nat) (hc0 : cl + (102) ≤ 110) : LL p l e (RX 11 110) s m args below meth c 6 D cI cR ad shX NX A0 (fun (r : Int32) μ' => KM below args s D cI cR ad shX NX A0 110 (some (.int r)) μ') (fL_refusesOne_L113 v1 v2 v3 s0 s1 μ) cl (6 * cl) 113 [some (.ref (ad 0)), some (.int v1), some (.int v2), some (.int v3), none, none] [.int s0, .int s1] μ := by
  rw [fL_refusesOne_L113]
  refine ll_icmp_ne E (pc := 113) (tgt := 395) dL_refusesOne_113 rfl ?_ ?_
  · refine ll_iconst E (pc := 395) dL_refusesOne_395 kc_0 ?_
    exact ll_mzreturn E hr (fun _ h => h) rfl dL_refusesOne_396 (by omega)
  · refine ll_aload_n E (pc := 116) dL_refusesOne_116 rfl ?_
    refine ll_iconst E (pc := 117) dL_refusesOne_117 kc_0 ?_
    refine ll_iconst E (pc := 118) dL_refusesOne_118 kc_0 ?_
    refine ll_iload_n E (pc := 119) dL_refusesOne_119 rfl ?_
    refine ll_iconst E (pc := 120) dL_refusesOne_120 kc_0 ?_
    refine ll_bipush E (pc := 121) dL_refusesOne_121 kb_6 ?_
    refine ll_callSi E (pc := 123) (d := 0) [.int v1, .int (0 : Int32), .int (6 : Int32)] [.int (0 : Int32), .int (0 : Int32), .ref (ad 0)] dL_refusesOne_123 cv_L_165 (fun h => ctL_far h) rfl rfl (Nat.le_of_ble_eq_true rfl) ⟨(Nat.le_of_ble_eq_true rfl), (Nat.le_of_ble_eq_true rfl)⟩ (mcc (by omega)) ?_
    intro r176 μ175
    refine ll_iconst E (pc := 126) dL_refusesOne_126 kc_0 ?_
    refine ll_iconst E (pc := 127) dL_refusesOne_127 kc_0 ?_
    refine ll_mcallH E X (pc := 128) (d := 10) [.ref (ad 0), .int (0 : Int32), .int (0 : Int32), .int r176, .int (0 : Int32), .int (0 : Int32)] [] dL_refusesOne_128 cvH_L_161 (fun h => cmL_call X.1 h) rfl rfl (Nat.le_of_ble_eq_true rfl) ⟨(Nat.le_of_ble_eq_true rfl), (Nat.le_of_ble_eq_true rfl)⟩ (mcd (by omega)) ?_
    intro r178 μ177
    refine ll_sipush E (pc := 131) dL_refusesOne_131 ks_m2012 ?_
    refine ll_icmp_ne E (pc := 134) (tgt := 395) dL_refusesOne_134 rfl ?_ ?_
    · refine ll_iconst E (pc := 395) dL_refusesOne_395 kc_0 ?_
      exact ll_mzreturn E hr (fun _ h => h) rfl dL_refusesOne_396 (by omega)
    · refine ll_aload_n E (pc := 137) dL_refusesOne_137 rfl ?_
      refine ll_iconst E (pc := 138) dL_refusesOne_138 kc_0 ?_
      refine ll_iconst E (pc := 139) dL_refusesOne_139 kc_0 ?_
      refine ll_iconst E (pc := 140) dL_refusesOne_140 kc_0 ?_
      refine ll_iconst E (pc := 141) dL_refusesOne_141 kc_0 ?_
      refine ll_iload_n E (pc := 142) dL_refusesOne_142 rfl ?_
      refine ll_bipush E (pc := 143) dL_refusesOne_143 kb_m99 ?_
      refine ll_bipush E (pc := 145) dL_refusesOne_145 kb_99 ?_
      refine ll_callSi E (pc := 147) (d := 0) [.int v1, .int (-99 : Int32), .int (99 : Int32)] [.int (0 : Int32), .int (0 : Int32), .int (0 : Int32), .int (0 : Int32), .ref (ad 0)] dL_refusesOne_147 cv_L_165 (fun h => ctL_far h) rfl rfl (Nat.le_of_ble_eq_true rfl) ⟨(Nat.le_of_ble_eq_true rfl), (Nat.le_of_ble_eq_true rfl)⟩ (mcc (by omega)) ?_
      intro r180 μ179
      refine ll_mcallH E X (pc := 150) (d := 10) [.ref (ad 0), .int (0 : Int32), .int (0 : Int32), .int (0 : Int32), .int (0 : Int32), .int r180] [] dL_refusesOne_150 cvH_L_161 (fun h => cmL_call X.1 h) rfl rfl (Nat.le_of_ble_eq_true rfl) ⟨(Nat.le_of_ble_eq_true rfl), (Nat.le_of_ble_eq_true rfl)⟩ (mcd (by omega)) ?_
      intro r182 μ181
      refine ll_sipush E (pc := 153) dL_refusesOne_153 ks_m2012 ?_
      refine ll_icmp_ne E (pc := 156) (tgt := 395) dL_refusesOne_156 rfl ?_ ?_
      · refine ll_iconst E (pc := 395) dL_refusesOne_395 kc_0 ?_
        exact ll_mzreturn E hr (fun _ h => h) rfl dL_refusesOne_396 (by omega)
      · exact ll_lo (lo' := [some (.ref (ad 0)), some (.int v1), some (.int v2), some (.int v3), none, none]) ⟨rfl, rfl, rfl, rfl, trivial⟩ (kL_refusesOne_L159 E X hr v1 v2 v3 μ181 _ (by omega))
theorem cmL_refusesOne {l : Launch} {D : va_G} {cI cR : ClassId} {ad : Nat → Nat} {μ : Mem} {a1 : Int32} (hl9 : l.stackTraces = false) {r : Int32} {μ' : Mem} (hf : fL_refusesOne μ a1 = some (r, μ')) : CM l yL_refusesOne (.code yL_refusesOne cL_refusesOne 6 (some .boolean)) 11 110 D cI cR ad shX NX [.ref (ad 0), .int a1] μ (some (.int r)) μ' :=
  cm_of (own := RL) (ov := fun (r : Int32) => (some (.int r))) hl9 (by decide +kernel) rfl (Nat.le_of_ble_eq_true rfl) (fun p e s m below meth c A0 E X hr => by
    refine ll_lo (lo' := [some (.ref (ad 0)), some (.int a1), none, none, none, none]) ⟨rfl, rfl, trivial⟩ ?_
    rw [fL_refusesOne]
    refine ll_iload_n E (pc := 0) dL_refusesOne_0 rfl ?_
    refine ll_iconst E (pc := 1) dL_refusesOne_1 kc_0 ?_
    refine ll_aload_n E (pc := 2) dL_refusesOne_2 rfl ?_
    refine ll_callVi E (pc := 3) (d := 0) (ci := 8) (o9 := 0) [] [.int (0 : Int32), .int a1] dL_refusesOne_3 cv_L_140 (fun h => ctX8_steps h) (Nat.le_of_ble_eq_true rfl) sx_0 ci_8 rfl rfl (Nat.le_of_ble_eq_true rfl) ⟨(Nat.le_of_ble_eq_true rfl), (Nat.le_of_ble_eq_true rfl)⟩ (mcc (by omega)) ?_
    intro r184 μ183
    refine ll_iconst E (pc := 6) dL_refusesOne_6 kc_1 ?_
    refine ll_isub E (pc := 7) dL_refusesOne_7 ?_
    refine ll_callSi E (pc := 8) (d := 0) [.int a1, .int (0 : Int32), .int (r184 - (1 : Int32))] [] dL_refusesOne_8 cv_L_165 (fun h => ctL_far h) rfl rfl (Nat.le_of_ble_eq_true rfl) ⟨(Nat.le_of_ble_eq_true rfl), (Nat.le_of_ble_eq_true rfl)⟩ (mcc (by omega)) ?_
    intro r186 μ185
    refine ll_istore_n E (pc := 11) (lo' := [some (.ref (ad 0)), some (.int a1), some (.int r186), none, none, none]) dL_refusesOne_11 (Nat.le_of_ble_eq_true rfl) rfl rfl ?_
    refine ll_iload_n E (pc := 12) dL_refusesOne_12 rfl ?_
    refine ll_iconst E (pc := 13) dL_refusesOne_13 kc_0 ?_
    refine ll_bipush E (pc := 14) dL_refusesOne_14 kb_11 ?_
    refine ll_callSi E (pc := 16) (d := 0) [.int a1, .int (0 : Int32), .int (11 : Int32)] [] dL_refusesOne_16 cv_L_165 (fun h => ctL_far h) rfl rfl (Nat.le_of_ble_eq_true rfl) ⟨(Nat.le_of_ble_eq_true rfl), (Nat.le_of_ble_eq_true rfl)⟩ (mcc (by omega)) ?_
    intro r188 μ187
    refine ll_istore_n E (pc := 19) (lo' := [some (.ref (ad 0)), some (.int a1), some (.int r186), some (.int r188), none, none]) dL_refusesOne_19 (Nat.le_of_ble_eq_true rfl) rfl rfl ?_
    refine ll_bipush E (pc := 20) dL_refusesOne_20 kb_12 ?_
    refine ll_iload_n E (pc := 22) dL_refusesOne_22 rfl ?_
    refine ll_iadd E (pc := 23) dL_refusesOne_23 ?_
    refine ll_istore E (pc := 24) (lo' := [some (.ref (ad 0)), some (.int a1), some (.int r186), some (.int r188), some (.int ((12 : Int32) + a1)), none]) dL_refusesOne_24 (Nat.le_of_ble_eq_true rfl) rfl rfl ?_
    refine ll_aload_n E (pc := 26) dL_refusesOne_26 rfl ?_
    refine ll_iconst E (pc := 27) dL_refusesOne_27 kc_0 ?_
    refine ll_iload_n E (pc := 28) dL_refusesOne_28 rfl ?_
    refine ll_iconst E (pc := 29) dL_refusesOne_29 kc_0 ?_
    refine ll_aload_n E (pc := 30) dL_refusesOne_30 rfl ?_
    refine ll_callVi E (pc := 31) (d := 0) (ci := 8) (o9 := 0) [] [.int (0 : Int32), .int a1, .int (0 : Int32), .ref (ad 0)] dL_refusesOne_31 cv_L_140 (fun h => ctX8_steps h) (Nat.le_of_ble_eq_true rfl) sx_0 ci_8 rfl rfl (Nat.le_of_ble_eq_true rfl) ⟨(Nat.le_of_ble_eq_true rfl), (Nat.le_of_ble_eq_true rfl)⟩ (mcc (by omega)) ?_
    intro r190 μ189
    refine ll_callSi E (pc := 34) (d := 0) [.int a1, .int (0 : Int32), .int r190] [.int (0 : Int32), .ref (ad 0)] dL_refusesOne_34 cv_L_165 (fun h => ctL_far h) rfl rfl (Nat.le_of_ble_eq_true rfl) ⟨(Nat.le_of_ble_eq_true rfl), (Nat.le_of_ble_eq_true rfl)⟩ (mcc (by omega)) ?_
    intro r192 μ191
    refine ll_bipush E (pc := 37) dL_refusesOne_37 kb_7 ?_
    refine ll_iconst E (pc := 39) dL_refusesOne_39 kc_0 ?_
    refine ll_iconst E (pc := 40) dL_refusesOne_40 kc_0 ?_
    refine ll_mcallH E X (pc := 41) (d := 10) [.ref (ad 0), .int (0 : Int32), .int r192, .int (7 : Int32), .int (0 : Int32), .int (0 : Int32)] [] dL_refusesOne_41 cvH_L_161 (fun h => cmL_call X.1 h) rfl rfl (Nat.le_of_ble_eq_true rfl) ⟨(Nat.le_of_ble_eq_true rfl), (Nat.le_of_ble_eq_true rfl)⟩ (mcd (by omega)) ?_
    intro r194 μ193
    refine ll_sipush E (pc := 44) dL_refusesOne_44 ks_m2011 ?_
    refine ll_icmp_ne E (pc := 47) (tgt := 395) dL_refusesOne_47 rfl ?_ ?_
    · refine ll_iconst E (pc := 395) dL_refusesOne_395 kc_0 ?_
      exact ll_mzreturn E hr (fun _ h => h) rfl dL_refusesOne_396 (by omega)
    · refine ll_aload_n E (pc := 50) dL_refusesOne_50 rfl ?_
      refine ll_iconst E (pc := 51) dL_refusesOne_51 kc_0 ?_
      refine ll_iconst E (pc := 52) dL_refusesOne_52 kc_0 ?_
      refine ll_bipush E (pc := 53) dL_refusesOne_53 kb_7 ?_
      refine ll_iload E (pc := 55) dL_refusesOne_55 rfl ?_
      refine ll_iconst E (pc := 57) dL_refusesOne_57 kc_0 ?_
      refine ll_mcallH E X (pc := 58) (d := 10) [.ref (ad 0), .int (0 : Int32), .int (0 : Int32), .int (7 : Int32), .int ((12 : Int32) + a1), .int (0 : Int32)] [] dL_refusesOne_58 cvH_L_161 (fun h => cmL_call X.1 h) rfl rfl (Nat.le_of_ble_eq_true rfl) ⟨(Nat.le_of_ble_eq_true rfl), (Nat.le_of_ble_eq_true rfl)⟩ (mcd (by omega)) ?_
      intro r196 μ195
      refine ll_sipush E (pc := 61) dL_refusesOne_61 ks_m2011 ?_
      refine ll_icmp_ne E (pc := 64) (tgt := 395) dL_refusesOne_64 rfl ?_ ?_
      · refine ll_iconst E (pc := 395) dL_refusesOne_395 kc_0 ?_
        exact ll_mzreturn E hr (fun _ h => h) rfl dL_refusesOne_396 (by omega)
      · refine ll_aload_n E (pc := 67) dL_refusesOne_67 rfl ?_
        refine ll_iconst E (pc := 68) dL_refusesOne_68 kc_0 ?_
        refine ll_iconst E (pc := 69) dL_refusesOne_69 kc_0 ?_
        refine ll_bipush E (pc := 70) dL_refusesOne_70 kb_7 ?_
        refine ll_iload E (pc := 72) dL_refusesOne_72 rfl ?_
        refine ll_iconst E (pc := 74) dL_refusesOne_74 kc_4 ?_
        refine ll_ishl E (pc := 75) dL_refusesOne_75 ?_
        refine ll_iconst E (pc := 76) dL_refusesOne_76 kc_0 ?_
        refine ll_mcallH E X (pc := 77) (d := 10) [.ref (ad 0), .int (0 : Int32), .int (0 : Int32), .int (7 : Int32), .int (((12 : Int32) + a1) <<< ((4 : Int32) &&& 31)), .int (0 : Int32)] [] dL_refusesOne_77 cvH_L_161 (fun h => cmL_call X.1 h) rfl rfl (Nat.le_of_ble_eq_true rfl) ⟨(Nat.le_of_ble_eq_true rfl), (Nat.le_of_ble_eq_true rfl)⟩ (mcd (by omega)) ?_
        intro r198 μ197
        refine ll_sipush E (pc := 80) dL_refusesOne_80 ks_m2011 ?_
        refine ll_icmp_ne E (pc := 83) (tgt := 395) dL_refusesOne_83 rfl ?_ ?_
        · refine ll_iconst E (pc := 395) dL_refusesOne_395 kc_0 ?_
          exact ll_mzreturn E hr (fun _ h => h) rfl dL_refusesOne_396 (by omega)
        · refine ll_aload_n E (pc := 86) dL_refusesOne_86 rfl ?_
          refine ll_iconst E (pc := 87) dL_refusesOne_87 kc_0 ?_
          refine ll_iconst E (pc := 88) dL_refusesOne_88 kc_0 ?_
          refine ll_iconst E (pc := 89) dL_refusesOne_89 kc_0 ?_
          refine ll_iload_n E (pc := 90) dL_refusesOne_90 rfl ?_
          refine ll_bipush E (pc := 91) dL_refusesOne_91 kb_8 ?_
          refine ll_ishl E (pc := 93) dL_refusesOne_93 ?_
          refine ll_bipush E (pc := 94) dL_refusesOne_94 kb_100 ?_
          refine ll_mcallH E X (pc := 96) (d := 10) [.ref (ad 0), .int (0 : Int32), .int (0 : Int32), .int (0 : Int32), .int (r188 <<< ((8 : Int32) &&& 31)), .int (100 : Int32)] [] dL_refusesOne_96 cvH_L_161 (fun h => cmL_call X.1 h) rfl rfl (Nat.le_of_ble_eq_true rfl) ⟨(Nat.le_of_ble_eq_true rfl), (Nat.le_of_ble_eq_true rfl)⟩ (mcd (by omega)) ?_
          intro r200 μ199
          refine ll_iload_n E (pc := 99) dL_refusesOne_99 rfl ?_
          refine ll_iconst E (pc := 100) dL_refusesOne_100 kc_2 ?_
          refine ll_icmp_ne E (pc := 101) (tgt := 110) dL_refusesOne_101 rfl ?_ ?_
          · refine ll_sipush E (pc := 110) dL_refusesOne_110 ks_m2011 ?_
            exact ll_lo (lo' := [some (.ref (ad 0)), some (.int a1), some (.int r186), some (.int r188), none, none]) ⟨rfl, rfl, rfl, rfl, trivial⟩ (kL_refusesOne_L113 E X hr a1 r186 r188 (-2011 : Int32) r200 μ199 _ (by omega))
          · refine ll_sipush E (pc := 104) dL_refusesOne_104 ks_m2012 ?_
            refine ll_goto E (pc := 107) (tgt := 113) dL_refusesOne_107 rfl ?_
            exact ll_lo (lo' := [some (.ref (ad 0)), some (.int a1), some (.int r186), some (.int r188), none, none]) ⟨rfl, rfl, rfl, rfl, trivial⟩ (kL_refusesOne_L113 E X hr a1 r186 r188 (-2012 : Int32) r200 μ199 _ (by omega))) hf
def fL_refused_L7 : Nat → Int64 → Int32 → Mem → Option (Int32 × Mem)
  | 0, _, _, _ => none
  | n + 1, v1, v3, μ =>   if (4 : Int32) ≤ v3 then
  bd (fX8_digest μ) fun r8 μ7 =>
  if (lg_cmp r8 v1) = 0 then
  some ((1 : Int32), μ7)
  else
  some ((0 : Int32), μ7)
  else
  bd (fL_refusesOne μ v3) fun r10 μ9 =>
  if r10 = 0 then
  some ((0 : Int32), μ9)
  else
  fL_refused_L7 n v1 (v3 + (1 : Int32)) μ9
def fL_refused (μ : Mem) : Option (Int32 × Mem) :=
  bd (fX8_digest μ) fun r12 μ11 =>
  fL_refused_L7 6 r12 (0 : Int32) μ11
theorem kL_refused_L7 {p : Program} {l : Launch} {e : Env} {s : State} {m : MethodId} {args : Array Value} {below : List Frame} {meth : Method} {c : Code} {D : va_G} {cI cR : ClassId} {ad : Nat → Nat} {A0 : Nat → Prop} (E : EV p s m args meth c cL_refused 4 RL D cI cR ad shX NX A0) (X : EM9 l s A0) (hr : meth.sig.returnType = (some .boolean)) (n : Nat) : ∀ (v1 : Int64) (v3 : Int32) (μ : Mem) (cl : Nat), cl + (110 * n + 110) ≤ 770 → LL p l e (RX 12 770) s m args below meth c 4 D cI cR ad shX NX A0 (fun (r : Int32) μ' => KM below args s D cI cR ad shX NX A0 770 (some (.int r)) μ') (fL_refused_L7 n v1 v3 μ) cl (6 * cl) 7 [some (.ref (ad 0)), some (.long v1), none, some (.int v3)] [] μ := by
  induction n with
  | zero =>
    intros
    exact ll_none
  | succ n ih =>
    intro v1 v3 μ cl hc0
    rw [fL_refused_L7]
    refine ll_iload_n E (pc := 7) dL_refused_7 rfl ?_
    refine ll_iconst E (pc := 8) dL_refused_8 kc_4 ?_
    refine ll_icmp_ge E (pc := 9) (tgt := 28) dL_refused_9 rfl ?_ ?_
    · refine ll_aload_n E (pc := 28) dL_refused_28 rfl ?_
      refine ll_callVj E (pc := 29) (d := 6) (ci := 8) (o9 := 0) [] [] dL_refused_29 cv_L_169 (fun h => ctX8_digest h) (Nat.le_of_ble_eq_true rfl) sx_0 ci_8 rfl rfl (Nat.le_of_ble_eq_true rfl) ⟨(Nat.le_of_ble_eq_true rfl), (Nat.le_of_ble_eq_true rfl)⟩ (mcc (by omega)) ?_
      intro r8 μ7
      refine ll_lload_n E (pc := 32) dL_refused_32 rfl ?_
      refine ll_lcmp E (pc := 33) dL_refused_33 ?_
      refine ll_if_ne E (pc := 34) (tgt := 41) dL_refused_34 rfl ?_ ?_
      · refine ll_iconst E (pc := 41) dL_refused_41 kc_0 ?_
        exact ll_mzreturn E hr (fun _ h => h) rfl dL_refused_42 (by omega)
      · refine ll_iconst E (pc := 37) dL_refused_37 kc_1 ?_
        refine ll_goto E (pc := 38) (tgt := 42) dL_refused_38 rfl ?_
        exact ll_mzreturn E hr (fun _ h => h) rfl dL_refused_42 (by omega)
    · refine ll_aload_n E (pc := 12) dL_refused_12 rfl ?_
      refine ll_iload_n E (pc := 13) dL_refused_13 rfl ?_
      refine ll_mcallSi E X (pc := 14) (d := 11) [.ref (ad 0), .int v3] [] dL_refused_14 cv_L_173 (fun h => cmL_refusesOne X.1 h) rfl rfl (Nat.le_of_ble_eq_true rfl) ⟨(Nat.le_of_ble_eq_true rfl), (Nat.le_of_ble_eq_true rfl)⟩ (mcd (by omega)) ?_
      intro r10 μ9
      refine ll_if_ne E (pc := 17) (tgt := 22) dL_refused_17 rfl ?_ ?_
      · refine ll_iinc E (pc := 22) (lo' := [some (.ref (ad 0)), some (.long v1), none, some (.int (v3 + (1 : Int32)))]) dL_refused_22 rfl kc_1 (Nat.le_of_ble_eq_true rfl) rfl rfl ?_
        refine ll_goto E (pc := 25) (tgt := 7) dL_refused_25 rfl ?_
        exact ll_lo (lo' := [some (.ref (ad 0)), some (.long v1), none, some (.int (v3 + (1 : Int32)))]) ⟨rfl, rfl, rfl, trivial⟩ (ih v1 (v3 + (1 : Int32)) μ9 _ (by omega))
      · refine ll_iconst E (pc := 20) dL_refused_20 kc_0 ?_
        exact ll_mzreturn E hr (fun _ h => h) rfl dL_refused_21 (by omega)
theorem cmL_refused {l : Launch} {D : va_G} {cI cR : ClassId} {ad : Nat → Nat} {μ : Mem} (hl9 : l.stackTraces = false) {r : Int32} {μ' : Mem} (hf : fL_refused μ = some (r, μ')) : CM l yL_refused (.code yL_refused cL_refused 4 (some .boolean)) 12 770 D cI cR ad shX NX [.ref (ad 0)] μ (some (.int r)) μ' :=
  cm_of (own := RL) (ov := fun (r : Int32) => (some (.int r))) hl9 (by decide +kernel) rfl (Nat.le_of_ble_eq_true rfl) (fun p e s m below meth c A0 E X hr => by
    refine ll_lo (lo' := [some (.ref (ad 0)), none, none, none]) ⟨rfl, trivial⟩ ?_
    rw [fL_refused]
    refine ll_aload_n E (pc := 0) dL_refused_0 rfl ?_
    refine ll_callVj E (pc := 1) (d := 6) (ci := 8) (o9 := 0) [] [] dL_refused_1 cv_L_169 (fun h => ctX8_digest h) (Nat.le_of_ble_eq_true rfl) sx_0 ci_8 rfl rfl (Nat.le_of_ble_eq_true rfl) ⟨(Nat.le_of_ble_eq_true rfl), (Nat.le_of_ble_eq_true rfl)⟩ (mcc (by omega)) ?_
    intro r12 μ11
    refine ll_lstore_n E (pc := 4) (lo' := [some (.ref (ad 0)), some (.long r12), none, none]) dL_refused_4 (Nat.le_of_ble_eq_true rfl) rfl rfl ?_
    refine ll_iconst E (pc := 5) dL_refused_5 kc_0 ?_
    refine ll_istore_n E (pc := 6) (lo' := [some (.ref (ad 0)), some (.long r12), none, some (.int (0 : Int32))]) dL_refused_6 (Nat.le_of_ble_eq_true rfl) rfl rfl ?_
    exact ll_lo (lo' := [some (.ref (ad 0)), some (.long r12), none, some (.int (0 : Int32))]) ⟨rfl, rfl, rfl, trivial⟩ (kL_refused_L7 E X hr 6 r12 (0 : Int32) μ11 _ (by omega))) hf
