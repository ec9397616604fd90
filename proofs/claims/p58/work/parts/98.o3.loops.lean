def qsl0 : Nat → Int := SN 107839786706265169593911148206435629804202279104238053496864565624832
theorem qwl0 : WF qsl0 := wf_sn (by decide +kernel)
theorem qnl0 : nn qsl0 = 0 := by decide +kernel
def qkl1 : Cf := (qsl0, (fun _ _ => 0), 0, false, (fun _ => 0), (fun _ => 0), 0)
def qkl2 : Cf := ct qkl1 []
theorem qstartl : KC qkl2 μ0X := kc_start (by decide +kernel) qwl0
def qsl1 : Nat → Int := SN 2983939418458719853040133275587190210196648052990521934446986140463195035572064818823168
theorem qwl1 : WF qsl1 := wf_sn (by decide +kernel)
theorem qnl1 : nn qsl1 = 0 := by decide +kernel
theorem qfl0 : agb (updI qsl0 9 3) qsl1 = true := by decide +kernel
theorem qfl1 : qsl0 9 = 0 := by decide +kernel
def qkl3 : Cf := nx qkl2 qsl1
def qsl2 : Nat → Int := SN 262733146001979837340304702444514180066985715077650035492488301439169823174518117771483447123536154659513678840041336026539743178473074926535171501425534307491956061593503816078831899868126654094919127269992766949766966942452091002351343524796494607032849858006863383838724380820116695972124078958076430661325249631087391819803196635656381509418935614701570
theorem qwl2 : WF qsl2 := wf_sn (by decide +kernel)
theorem qnl2 : nn qsl2 = 1 := by decide +kernel
theorem qfl2 : agb (insS qsl1 0 (tl5 1 0 0 1 0)) qsl2 = true := by decide +kernel
def qkl4 : Cf := nx qkl3 qsl2
theorem qfl3 : over qsl2 0 0 = 1 := by decide +kernel
theorem qfl4 : nearT qsl2 0 0 = (-99) := by decide +kernel
theorem qfl5 : ub qsl2 3 = 1 := by decide +kernel
theorem qfl6 : LB qsl2 = 1 := lb_1 qwl2 (pot_is (l := [0]) (by decide +kernel))
theorem qfl7 : BT qsl2 = 2 := bt_is (k := 2) qwl2 qfl6 (by decide +kernel) (by decide +kernel) (by decide +kernel)
theorem qfl8 : ((BT qsl2 : Nat) : Int) - 1 - qsl2 1 = 0 := by rw [qfl7]; decide +kernel
theorem qfl9 : ∀ j, j < nn qsl2 → PLS qsl2 j = lf [0] j := pls_is qfl7 (by decide +kernel)
theorem qfl10 : spn qsl2 5 = 9 := by rw [spn_is qfl7 qfl9]; decide +kernel
theorem qfl11 : VL qsl2 5 0 = (15 : Int32) := by rw [vl_is qfl7 qfl9 qfl10]; decide +kernel
theorem qfl12 : ord qsl2 5 (V0 qsl2) 0 = (15 : Int32) := by decide +kernel
def qsl3 : Nat → Int := SN 262733146001979837340304702444514180066985715077650035492488301439169823174518117771483447123536154659513678840041336026539743178473074926535171501425534307491956061593503816078831899868126654094919127269992766949766966942452091002351343524796494607032849858006863383838724380820116695972124078958076430661325249631087391819803196635656381509418927024766978
theorem qwl3 : WF qsl3 := wf_sn (by decide +kernel)
theorem qnl3 : nn qsl3 = 1 := by decide +kernel
theorem qfl13 : agb (updI qsl2 1 0) qsl3 = true := by decide +kernel
theorem qfl14 : qsl2 1 = 1 := by decide +kernel
def qkl5 : Cf := nx qkl4 qsl3
theorem qfl15 : LB qsl3 = 1 := lb_1 qwl3 (pot_is (l := [0]) (by decide +kernel))
theorem qfl16 : BT qsl3 = 1 := bt_is (k := 1) qwl3 qfl15 (by decide +kernel) (by decide +kernel) (by decide +kernel)
theorem qfl17 : ((BT qsl3 : Nat) : Int) - 1 - qsl3 1 = 0 := by rw [qfl16]; decide +kernel
theorem qfl18 : ∀ j, j < nn qsl3 → PLS qsl3 j = lf [0] j := pls_is qfl16 (by decide +kernel)
theorem qfl19 : ovl qsl3 = 1 := by rw [ovl_is qfl16 qfl18]; decide +kernel
theorem qfl20 : spn qsl3 5 = 5 := by rw [spn_is qfl16 qfl18]; decide +kernel
theorem qfl21 : VL qsl3 5 0 = (15 : Int32) := by rw [vl_is qfl16 qfl18 qfl20]; decide +kernel
theorem qfl22 : spn qsl3 20 = 20 := by rw [spn_is qfl16 qfl18]; decide +kernel
theorem qfl23 : VL qsl3 20 0 = (60 : Int32) := by rw [vl_is qfl16 qfl18 qfl22]; decide +kernel
def qsl4 : Nat → Int := SN 262733146001979837340304702444514180066985715077650035492488301439169823174518117771483447123536154659513678840041336026539743178473074926535171501425534307491956061593503816078831899868126654094919127269992766949766966942452091002351343524796494607032849858006863383838724380820116695972124078958076430661325249631087391819803196635656344615930779605663746
theorem qwl4 : WF qsl4 := wf_sn (by decide +kernel)
theorem qnl4 : nn qsl4 = 1 := by decide +kernel
theorem qfl24 : agb (updI qsl3 2 1) qsl4 = true := by decide +kernel
theorem qfl25 : qsl3 2 = 2 := by decide +kernel
def qkl6 : Cf := nx qkl5 qsl4
theorem qfl26 : ub qsl4 3 = 2 := by decide +kernel
theorem qfl27 : LB qsl4 = 1 := lb_1 qwl4 (pot_is (l := [0]) (by decide +kernel))
theorem qfl28 : BT qsl4 = 2 := bt_is (k := 2) qwl4 qfl27 (by decide +kernel) (by decide +kernel) (by decide +kernel)
theorem qfl29 : ((BT qsl4 : Nat) : Int) - 1 - qsl4 1 = 1 := by rw [qfl28]; decide +kernel
theorem qfl30 : ∀ j, j < nn qsl4 → PLS qsl4 j = lf [0] j := pls_is qfl28 (by decide +kernel)
def qsl5 : Nat → Int := SN 262733146001979837340304702444514180066985715077650035492488301439169823174518117771483447123536154659513678840041336026539743178473074926535171501425534307491956061593503816078831899868126654094919127269992766949766966942452091002351343524796494607032849858006863383838724380820116695972124078958076430661325249631087391819803196635656344615930805375467522
theorem qwl5 : WF qsl5 := wf_sn (by decide +kernel)
theorem qnl5 : nn qsl5 = 1 := by decide +kernel
theorem qfl31 : agb (updI qsl4 1 3) qsl5 = true := by decide +kernel
theorem qfl32 : qsl4 1 = 0 := by decide +kernel
def qkl7 : Cf := nx qkl6 qsl5
theorem qfl33 : LB qsl5 = 1 := lb_1 qwl5 (pot_is (l := [0]) (by decide +kernel))
theorem qfl34 : BT qsl5 = 4 := bt_is (k := 4) qwl5 qfl33 (by decide +kernel) (by decide +kernel) (by decide +kernel)
theorem qfl35 : ((BT qsl5 : Nat) : Int) - 1 - qsl5 1 = 0 := by rw [qfl34]; decide +kernel
theorem qfl36 : ∀ j, j < nn qsl5 → PLS qsl5 j = lf [1] j := pls_is qfl34 (by decide +kernel)
def qsl6 : Nat → Int := SN 262733146001979837340304702444514180066985715077650035492488301439169823174518117771483447123536154659513678840041336026539743178473074926535171501425534307491956061593503816078831899868126654094919127269992766949766966942452091002351343524796494607032849858006863383838724380820116695972124078958076430661325249631087391819803196635656381509418952794570754
theorem qwl6 : WF qsl6 := wf_sn (by decide +kernel)
theorem qnl6 : nn qsl6 = 1 := by decide +kernel
theorem qfl37 : agb (updI qsl5 2 2) qsl6 = true := by decide +kernel
theorem qfl38 : qsl5 2 = 1 := by decide +kernel
def qkl8 : Cf := nx qkl7 qsl6
theorem qfl39 : agb (updI qsl6 1 0) qsl3 = true := by decide +kernel
theorem qfl40 : qsl6 1 = 3 := by decide +kernel
def qkl9 : Cf := nx qkl8 qsl3
def qsl7 : Nat → Int := SN 1649202686712629803806063067214001008421382477590187759822488944707228624249037749056657433926852087127096587436241809282215999011781273763518439892604605207193171030387951347941068323671934518064811757185215314098977154952661368849432963052108182472631509051653394794051890442999019725965601788668733443401053938342311017247275722625277403867922782722271034313518438981348984207368113208559085151180935908510662660
theorem qwl7 : WF qsl7 := wf_sn (by decide +kernel)
theorem qnl7 : nn qsl7 = 2 := by decide +kernel
theorem qfl41 : agb (insS qsl3 1 (tl5 3 2 2 0 0)) qsl7 = true := by decide +kernel
def qkl10 : Cf := nx qkl9 qsl7
def qsl8 : Nat → Int := SN 1649202686712629803806063067214001008421382477590187759822488944707228624249037749056657433926852087127096587436241809282215999011781273763518439892604605207193171030387951347941068323671934518064811757185215314098977154952661368849432963052108182472631509051653394794051890442999019725965601788668733443401053938342315289221347564445442193911335121826500239722563152286888878290583757648010646432280981832684535812
theorem qwl8 : WF qsl8 := wf_sn (by decide +kernel)
theorem qnl8 : nn qsl8 = 2 := by decide +kernel
theorem qfl42 : agb (updI qsl7 10 1) qsl8 = true := by decide +kernel
theorem qfl43 : qsl7 10 = 0 := by decide +kernel
def qkl11 : Cf := nx qkl10 qsl8
theorem qfl44 : over qsl8 1 1 = 3 := by decide +kernel
theorem qfl45 : nearT qsl8 0 1 = 1 := by decide +kernel
theorem qfl46 : over qsl8 1 0 = 0 := by decide +kernel
theorem qfl47 : LB qsl8 = 3 := lb_mk qwl8 (by decide) (pot_is (l := [0, 1]) (by decide +kernel)) (fun ⟨p, h⟩ => by
  have h0 := pot_arc h (i := 1) (j := 1) (w := 1) (lt_nn qnl8 (by decide)) (lt_nn qnl8 (by decide)) (by decide +kernel) (by decide)
  omega)
theorem qfl48 : BT qsl8 = 3 := bt_is (k := 3) qwl8 qfl47 (by decide +kernel) (by decide +kernel) (by decide +kernel)
theorem qfl49 : ∀ j, j < nn qsl8 → PLS qsl8 j = lf [0, 1] j := pls_is qfl48 (by decide +kernel)
theorem qfl50 : ord qsl8 4 (V0 qsl8) 2 = (1944 : Int32) := by decide +kernel
theorem qfl51 : spn qsl8 4 = 11 := by rw [spn_is qfl48 qfl49]; decide +kernel
theorem qfl52 : VL qsl8 4 2 = (1944 : Int32) := by rw [vl_is qfl48 qfl49 qfl51]; decide +kernel
def qsl9 : Nat → Int := SN 1649202686712629803806063067214001008421382477590187759822488944707228624249037749056657433926852087127096587436241809282215999011781273763518439892604605207193171030387951347941068323671934518064811757185215314098977154952661368849432963052108182472631509051653394794051890442999019725965601788668733443401053938342315289221347564445442193911335121826500214614156210740165822947426064817344982022859203976546484228
theorem qwl9 : WF qsl9 := wf_sn (by decide +kernel)
theorem qnl9 : nn qsl9 = 2 := by decide +kernel
theorem qfl53 : agb (updI qsl8 6 1) qsl9 = true := by decide +kernel
theorem qfl54 : qsl8 6 = 3 := by decide +kernel
def qkl12 : Cf := nx qkl11 qsl9
theorem qfl55 : LB qsl9 = 1 := lb_1 qwl9 (pot_is (l := [0, 1]) (by decide +kernel))
theorem qfl56 : BT qsl9 = 1 := bt_is (k := 1) qwl9 qfl55 (by decide +kernel) (by decide +kernel) (by decide +kernel)
theorem qfl57 : ∀ j, j < nn qsl9 → PLS qsl9 j = lf [0, 1] j := pls_is qfl56 (by decide +kernel)
theorem qfl58 : ovl qsl9 = 2 := by rw [ovl_is qfl56 qfl57]; decide +kernel
theorem qfl59 : spn qsl9 4 = 5 := by rw [spn_is qfl56 qfl57]; decide +kernel
theorem qfl60 : VL qsl9 4 2 = (1944 : Int32) := by rw [vl_is qfl56 qfl57 qfl59]; decide +kernel
def qsl10 : Nat → Int := SN 1649202686712629803806063067214001008421382477590187759822488944707228624249009263471902768784602086488043781663820113597699181219663239845209329978925190233454173481988791680613493501386078537421846420918981564068679471619609748854909079015724119996897739901910578763137330142109390782811876150235590462511806741653665394942158150495925960065124499878604048970732335767815747415823657502693026214768329110956539906
theorem qwl10 : WF qsl10 := wf_sn (by decide +kernel)
theorem qnl10 : nn qsl10 = 1 := by decide +kernel
theorem qfl61 : agb (remS qsl9 0) qsl10 = true := by decide +kernel
def qkl13 : Cf := nx qkl12 qsl10
theorem qfl62 : kd qsl10 0 = 3 := by decide +kernel
theorem qfl63 : ord qsl10 9 (V0 qsl10) 2 = (0 : Int32) := by decide +kernel
theorem qfl64 : ord qsl10 0 (V0 qsl10) 2 = (1 : Int32) := by decide +kernel
theorem g_loops_L465 {X : Mem} (h : KC qkl12 X) : OK1 (fL_loops_L465 X) := by
  unfold fL_loops_L465
  refine st_zif (v := (1 : Int32)) OK1 (z_remove h (n := 0) (lt_nn qnl9 (i := 0) (by decide)) (w := 1) qnl9 (S' := qsl10) (agb_of qfl61) qwl10) (fun X1 (h1 : KC qkl13 X1) => ?_)
  refine st_zif (v := (3 : Int32)) OK1 (z_kindOf h1 (i := 0) (lt_nn qnl10 (i := 0) (by decide)) qfl62) (fun X2 (h2 : KC qkl13 X2) => ?_)
  refine st_zif (v := (0 : Int32)) OK1 (z_registerInRounds h2 (r := 9) (n := 2) (by decide) (by decide) qfl63) (fun X3 (h3 : KC qkl13 X3) => ?_)
  refine st_zif (v := (1 : Int32)) OK1 (z_registerInRounds h3 (r := 0) (n := 2) (by decide) (by decide) qfl64) (fun X4 (h4 : KC qkl13 X4) => ?_)
  exact ⟨_, rfl⟩
theorem g_loops_L383 {X : Mem} (h : KC qkl11 X) : OK1 (fL_loops_L383 X) := by
  unfold fL_loops_L383
  refine st_zif (v := (11 : Int32)) OK1 (z_loopBundles h (r := 4) (by decide) qfl51) (fun X1 (h1 : KC qkl11 X1) => ?_)
  refine st_zif (v := (3 : Int32)) OK1 (z_setLatency h1 (n := 1) (by decide) (v := 1) (by decide) qfl54 (S' := qsl9) (agb_of qfl53) qwl9) (fun X2 (h2 : KC qkl12 X2) => ?_)
  refine st_bif (v := (1 : Int32)) OK1 (z_beatByCircles h2 qfl55) (fun X3 (h3 : KC qkl12 X3) => ?_)
  refine st_bif (v := (1 : Int32)) OK1 (z_beat h3 qfl56) (fun X4 (h4 : KC qkl12 X4) => ?_)
  refine st_bif (v := (2 : Int32)) OK1 (z_overlap h4 qfl58) (fun X5 (h5 : KC qkl12 X5) => ?_)
  refine st_zif (v := (0 : Int32)) OK1 (z_loopBundleOf h5 (i := 0) (lt_nn qnl9 (i := 0) (by decide)) ((qfl57 _ (lt_nn qnl9 (i := 0) (by decide))).trans (show _ = (0 : Int) by decide))) (fun X6 (h6 : KC qkl12 X6) => ?_)
  refine st_zif (v := (1 : Int32)) OK1 (z_loopBundleOf h6 (i := 1) (lt_nn qnl9 (i := 1) (by decide)) ((qfl57 _ (lt_nn qnl9 (i := 1) (by decide))).trans (show _ = (1 : Int) by decide))) (fun X7 (h7 : KC qkl12 X7) => ?_)
  refine st_zif (v := (1944 : Int32)) OK1 (z_registerInLoop h7 (r := 4) (n := 2) (by decide) (by decide) qfl60) (fun X8 (h8 : KC qkl12 X8) => ?_)
  refine st_bel (v := (1 : Int32)) OK1 (x_refused h8 rfl) (by decide) (fun X9 (h9 : KC qkl12 X9) => ?_)
  exact g_loops_L465 h9
theorem g_loops_L255 {X : Mem} (h : KC qkl7 X) : OK1 (fL_loops_L255 X) := by
  unfold fL_loops_L255
  refine st_zif (v := (1 : Int32)) OK1 (z_setSlots h (n := 0) (by decide) (v := 2) (by decide) qfl38 (S' := qsl6) (agb_of qfl37) qwl6) (fun X1 (h1 : KC qkl8 X1) => ?_)
  refine st_zif (v := (3 : Int32)) OK1 (z_setDelay h1 (v := 0) (by decide) qfl40 (S' := qsl3) (agb_of qfl39) qwl3) (fun X2 (h2 : KC qkl9 X2) => ?_)
  refine st_zif (v := (2 : Int32)) OK1 (z_insert h2 (n := 1) (k := 3) (x := 2) (y := 2) (z := 0) (v := 0) qnl3 (by decide) (by decide) (by decide) (by decide) (by decide) (by decide) (by decide) (S' := qsl7) (agb_of qfl41) qwl7) (fun X3 (h3 : KC qkl10 X3) => ?_)
  refine st_zif (v := (0 : Int32)) OK1 (z_setRegister h3 (n := 2) (by decide) (v := 1) (by decide) qfl43 (S' := qsl8) (agb_of qfl42) qwl8) (fun X4 (h4 : KC qkl11 X4) => ?_)
  refine st_zif (v := (3 : Int32)) OK1 (z_carried h4 (i := 1) (j := 1) (lt_nn qnl8 (i := 1) (by decide)) (lt_nn qnl8 (i := 1) (by decide)) qfl44) (fun X5 (h5 : KC qkl11 X5) => ?_)
  refine st_zif (v := (1 : Int32)) OK1 (z_separation h5 (i := 0) (j := 1) (lt_nn qnl8 (i := 0) (by decide)) (lt_nn qnl8 (i := 1) (by decide)) qfl45) (fun X6 (h6 : KC qkl11 X6) => ?_)
  refine st_zif (v := (0 : Int32)) OK1 (z_carried h6 (i := 1) (j := 0) (lt_nn qnl8 (i := 1) (by decide)) (lt_nn qnl8 (i := 0) (by decide)) qfl46) (fun X7 (h7 : KC qkl11 X7) => ?_)
  refine st_bif (v := (3 : Int32)) OK1 (z_beatByCircles h7 qfl47) (fun X8 (h8 : KC qkl11 X8) => ?_)
  refine st_bif (v := (3 : Int32)) OK1 (z_beatByRounds h8 qfl47) (fun X9 (h9 : KC qkl11 X9) => ?_)
  refine st_bif (v := (3 : Int32)) OK1 (z_beat h9 qfl48) (fun X10 (h10 : KC qkl11 X10) => ?_)
  refine st_zif (v := (1 : Int32)) OK1 (z_loopBundleOf h10 (i := 1) (lt_nn qnl8 (i := 1) (by decide)) ((qfl49 _ (lt_nn qnl8 (i := 1) (by decide))).trans (show _ = (1 : Int) by decide))) (fun X11 (h11 : KC qkl11 X11) => ?_)
  refine st_zif (v := (1944 : Int32)) OK1 (z_registerInRounds h11 (r := 4) (n := 2) (by decide) (by decide) qfl50) (fun X12 (h12 : KC qkl11 X12) => ?_)
  refine st_zif (v := (1944 : Int32)) OK1 (z_registerInLoop h12 (r := 4) (n := 2) (by decide) (by decide) qfl52) (fun X13 (h13 : KC qkl11 X13) => ?_)
  exact g_loops_L383 h13
theorem g_loops_L179 {X : Mem} (h : KC qkl5 X) : OK1 (fL_loops_L179 X) := by
  unfold fL_loops_L179
  refine st_zif (v := (2 : Int32)) OK1 (z_setSlots h (n := 0) (by decide) (v := 1) (by decide) qfl25 (S' := qsl4) (agb_of qfl24) qwl4) (fun X1 (h1 : KC qkl6 X1) => ?_)
  refine st_bif (v := (2 : Int32)) OK1 (z_beatByUnits h1 qfl26) (fun X2 (h2 : KC qkl6 X2) => ?_)
  refine st_bif (v := (2 : Int32)) OK1 (z_beat h2 qfl28) (fun X3 (h3 : KC qkl6 X3) => ?_)
  refine st_bif (v := (1 : Int32)) OK1 (z_jumpBundle h3 qfl29) (fun X4 (h4 : KC qkl6 X4) => ?_)
  refine st_zif (v := (0 : Int32)) OK1 (z_loopBundleOf h4 (i := 0) (lt_nn qnl4 (i := 0) (by decide)) ((qfl30 _ (lt_nn qnl4 (i := 0) (by decide))).trans (show _ = (0 : Int) by decide))) (fun X5 (h5 : KC qkl6 X5) => ?_)
  refine st_zif (v := (0 : Int32)) OK1 (z_setDelay h5 (v := 3) (by decide) qfl32 (S' := qsl5) (agb_of qfl31) qwl5) (fun X6 (h6 : KC qkl7 X6) => ?_)
  refine st_bif (v := (4 : Int32)) OK1 (z_beat h6 qfl34) (fun X7 (h7 : KC qkl7 X7) => ?_)
  refine st_bif (v := (0 : Int32)) OK1 (z_jumpBundle h7 qfl35) (fun X8 (h8 : KC qkl7 X8) => ?_)
  refine st_zif (v := (1 : Int32)) OK1 (z_loopBundleOf h8 (i := 0) (lt_nn qnl5 (i := 0) (by decide)) ((qfl36 _ (lt_nn qnl5 (i := 0) (by decide))).trans (show _ = (1 : Int) by decide))) (fun X9 (h9 : KC qkl7 X9) => ?_)
  exact g_loops_L255 h9
theorem g_loops_L115 {X : Mem} (h : KC qkl4 X) : OK1 (fL_loops_L115 X) := by
  unfold fL_loops_L115
  refine st_zif (v := (1 : Int32)) OK1 (z_setDelay h (v := 0) (by decide) qfl14 (S' := qsl3) (agb_of qfl13) qwl3) (fun X1 (h1 : KC qkl5 X1) => ?_)
  refine st_bif (v := (1 : Int32)) OK1 (z_beat h1 qfl16) (fun X2 (h2 : KC qkl5 X2) => ?_)
  refine st_bif (v := (0 : Int32)) OK1 (z_jumpBundle h2 qfl17) (fun X3 (h3 : KC qkl5 X3) => ?_)
  refine st_bif (v := (1 : Int32)) OK1 (z_overlap h3 qfl19) (fun X4 (h4 : KC qkl5 X4) => ?_)
  refine st_zif (v := (5 : Int32)) OK1 (z_loopBundles h4 (r := 5) (by decide) qfl20) (fun X5 (h5 : KC qkl5 X5) => ?_)
  refine st_zif (v := (15 : Int32)) OK1 (z_registerInLoop h5 (r := 5) (n := 0) (by decide) (by decide) qfl21) (fun X6 (h6 : KC qkl5 X6) => ?_)
  refine st_zif (v := (60 : Int32)) OK1 (z_registerInLoop h6 (r := 20) (n := 0) (by decide) (by decide) qfl23) (fun X7 (h7 : KC qkl5 X7) => ?_)
  exact g_loops_L179 h7
theorem ok_loops {μ : Mem} : OK1 (fL_loops μ) := by
  unfold fL_loops
  refine st_zif (v := (0 : Int32)) OK1 (z_setRegister qstartl (n := 1) (by decide) (v := 3) (by decide) qfl1 (S' := qsl1) (agb_of qfl0) qwl1) (fun X1 (h1 : KC qkl3 X1) => ?_)
  refine st_zif (v := (1 : Int32)) OK1 (z_insert h1 (n := 0) (k := 1) (x := 0) (y := 0) (z := 1) (v := 0) qnl1 (by decide) (by decide) (by decide) (by decide) (by decide) (by decide) (by decide) (S' := qsl2) (agb_of qfl2) qwl2) (fun X2 (h2 : KC qkl4 X2) => ?_)
  refine st_zif (v := (1 : Int32)) OK1 (z_carried h2 (i := 0) (j := 0) (lt_nn qnl2 (i := 0) (by decide)) (lt_nn qnl2 (i := 0) (by decide)) qfl3) (fun X3 (h3 : KC qkl4 X3) => ?_)
  refine st_zif (v := (-99 : Int32)) OK1 (z_separation h3 (i := 0) (j := 0) (lt_nn qnl2 (i := 0) (by decide)) (lt_nn qnl2 (i := 0) (by decide)) qfl4) (fun X4 (h4 : KC qkl4 X4) => ?_)
  refine st_bif (v := (1 : Int32)) OK1 (z_beatByUnits h4 qfl5) (fun X5 (h5 : KC qkl4 X5) => ?_)
  refine st_bif (v := (1 : Int32)) OK1 (z_beatByCircles h5 qfl6) (fun X6 (h6 : KC qkl4 X6) => ?_)
  refine st_bif (v := (2 : Int32)) OK1 (z_beat h6 qfl7) (fun X7 (h7 : KC qkl4 X7) => ?_)
  refine st_bif (v := (0 : Int32)) OK1 (z_jumpBundle h7 qfl8) (fun X8 (h8 : KC qkl4 X8) => ?_)
  refine st_zif (v := (9 : Int32)) OK1 (z_loopBundles h8 (r := 5) (by decide) qfl10) (fun X9 (h9 : KC qkl4 X9) => ?_)
  refine st_zif (v := (15 : Int32)) OK1 (z_registerInLoop h9 (r := 5) (n := 0) (by decide) (by decide) qfl11) (fun X10 (h10 : KC qkl4 X10) => ?_)
  refine st_zif (v := (15 : Int32)) OK1 (z_registerInRounds h10 (r := 5) (n := 0) (by decide) (by decide) qfl12) (fun X11 (h11 : KC qkl4 X11) => ?_)
  exact g_loops_L115 h11
