/-! THE LAW'S BODY: its first five calls; it answers true -/
def qsw0 : Nat → Int := SN 107839786706265169593911148206435629804202279104238053496864565624832
theorem qww0 : WF qsw0 := wf_sn (by decide +kernel)
theorem qnw0 : nn qsw0 = 0 := by decide +kernel
def qkw1 : Cf := (qsw0, (fun _ _ => 0), 0, false, (fun _ => 0), (fun _ => 0), 0)
def qkw2 : Cf := ct qkw1 []
theorem qstartw : KC qkw2 μ0X := kc_start (by decide +kernel) qww0
def qsw1 : Nat → Int := SN 262733146736047767225983951340973128371617475760055331353986683579162713527454611153773124758232622587582717767433102646150701809430979124201345823836851262555871982592758888073610358566151247300752534710918616384730036952085009912976687454449772144358497975794978431682848036024053011198308248793323798086434300094105125237587106388815637230328959572377602
theorem qww1 : WF qsw1 := wf_sn (by decide +kernel)
theorem qnw1 : nn qsw1 = 1 := by decide +kernel
theorem qfw0 : agb (insS qsw0 0 (tl5 0 0 0 0 6)) qsw1 = true := by decide +kernel
def qkw3 : Cf := nx qkw2 qsw1
def qsw2 : Nat → Int := SN 1649202686712629803806063067130737550854374142726827661326536715809815311737903010994949091862222076617756170277114235060311186284439985396757096058138996059152069290820965912172876208500861654103525615099155902631535614493703652404923010746438620353066153764330531098230212188443195487470128615968332561612665234197922058989483748586162371736657897326758624358447701862825036353288803768018791708298633131027595268
theorem qww2 : WF qsw2 := wf_sn (by decide +kernel)
theorem qnw2 : nn qsw2 = 2 := by decide +kernel
theorem qfw1 : agb (insS qsw1 1 (tl5 3 1 0 0 0)) qsw2 = true := by decide +kernel
def qkw4 : Cf := nx qkw3 qsw2
def qsw3 : Nat → Int := SN 10352213056409474651308343440612481229010031089291512937102385487358825461542400938816344385102667946279717095459398406008675210605117970338098121864300143107234217953583291618824239095231767838704769581295635443754250559058515499519268362451115160651801209025977706216816496947151117435094704737976439879191377183212697430020736675947313736158509566207382419881493260757332107154754411219465944443219375880665068283363461346092409445276063152955097826030442360983852679174
theorem qww3 : WF qsw3 := wf_sn (by decide +kernel)
theorem qnw3 : nn qsw3 = 3 := by decide +kernel
theorem qfw2 : agb (insS qsw2 2 (tl5 6 0 0 1 2)) qsw3 = true := by decide +kernel
def qkw5 : Cf := nx qkw4 qsw3
def qpw3 (b : Nat) : List Int := match b with
  | 0 => [(-1), (-1), (-1)]
  | 1 => [0, (-1), (-1)]
  | 2 => [0, 1, (-1)]
  | 3 => [0, 1, (-1)]
  | 4 => [0, 1, (-1)]
  | _ => [0, 1, 4]
theorem qpw3_0 : (List.range (nn qsw3)).all (fun k => decide (fil qsw3 (0 : Nat) (nn qsw3) (lf (qpw3 0)) k = lf (qpw3 (0 + 1)) k)) = true := by decide +kernel
theorem qpw3_1 : (List.range (nn qsw3)).all (fun k => decide (fil qsw3 (1 : Nat) (nn qsw3) (lf (qpw3 1)) k = lf (qpw3 (1 + 1)) k)) = true := by decide +kernel
theorem qpw3_2 : (List.range (nn qsw3)).all (fun k => decide (fil qsw3 (2 : Nat) (nn qsw3) (lf (qpw3 2)) k = lf (qpw3 (2 + 1)) k)) = true := by decide +kernel
theorem qpw3_3 : (List.range (nn qsw3)).all (fun k => decide (fil qsw3 (3 : Nat) (nn qsw3) (lf (qpw3 3)) k = lf (qpw3 (3 + 1)) k)) = true := by decide +kernel
theorem qpw3_4 : (List.range (nn qsw3)).all (fun k => decide (fil qsw3 (4 : Nat) (nn qsw3) (lf (qpw3 4)) k = lf (qpw3 (4 + 1)) k)) = true := by decide +kernel
theorem qfw4 : ∀ k, k < nn qsw3 → pkS qsw3 k = lf (qpw3 5) k := pks_is qww3 (L := qpw3) (c := 5) (by decide +kernel) (fun b hb => by
  rcases (show b = 0 ∨ b = 1 ∨ b = 2 ∨ b = 3 ∨ b = 4 by omega) with rfl | rfl | rfl | rfl | rfl
  · exact qpw3_0
  · exact qpw3_1
  · exact qpw3_2
  · exact qpw3_3
  · exact qpw3_4) (by decide +kernel)
theorem qfw7 : mxm (pkS qsw3) (nn qsw3) + 1 = 5 := by rw [mpk_is qfw4]; decide +kernel
def qsw4 : Nat → Int := SN 82817704383787049248821110731919360183818873849095585549052407871855158438309627901676393600144472763895358998598960168352211519324876618202033685970105888324514844155872934605418267621471132846818472273551340660334998761281085469041811122142166071994301023011292438190103867941567027172042765137677220847200823527206941720048108704179432173317387209099568042264709582471021065773311952730573815518871051336756894406077783935579114581085615719414181332658854927874371092486
theorem qww4 : WF qsw4 := wf_sn (by decide +kernel)
theorem qnw4 : nn qsw4 = 3 := by decide +kernel
theorem qfw8 : agb (pckS qsw3 (lf (qpw3 5))) qsw4 = true := by decide +kernel
def qkw6 : Cf := nx qkw5 qsw4
def qkw7 : Cf := kpC qkw6
theorem qFbw : Fb qsw4 := fun i hi => by
  have e : ∀ i, i < 12 → 0 ≤ qsw4 (8 + i) ∧ qsw4 (8 + i) ≤ 7 := by decide +kernel
  exact e i hi
theorem ok_law {L9 : Nat} {xs : Nat → Int32} (hL : L9 ≤ 260) (w : Nat → Int64) : OKU (fL_law L9 xs μ0X w) := by
  unfold fL_law
  refine st_zif (v := (1 : Int32)) OKU (z_insert qstartw (n := 0) (k := 0) (x := 0) (y := 0) (z := 0) (v := 6) qnw0 (by decide) (by decide) (by decide) (by decide) (by decide) (by decide) (by decide) (S' := qsw1) (agb_of qfw0) qww1) (fun X1 (h1 : KC qkw3 X1) => ?_)
  refine st_zif (v := (2 : Int32)) OKU (z_insert h1 (n := 1) (k := 3) (x := 1) (y := 0) (z := 0) (v := 0) qnw1 (by decide) (by decide) (by decide) (by decide) (by decide) (by decide) (by decide) (S' := qsw2) (agb_of qfw1) qww2) (fun X2 (h2 : KC qkw4 X2) => ?_)
  refine st_zif (v := (3 : Int32)) OKU (z_insert h2 (n := 2) (k := 6) (x := 0) (y := 0) (z := 1) (v := 2) qnw2 (by decide) (by decide) (by decide) (by decide) (by decide) (by decide) (by decide) (S' := qsw3) (agb_of qfw2) qww3) (fun X3 (h3 : KC qkw5 X3) => ?_)
  refine st_bif (v := (5 : Int32)) OKU (z_pack h3 qfw7 (S' := qsw4) (pck_is qfw4 qfw8) qww4) (fun X4 (h4 : KC qkw6 X4) => ?_)
  refine st_bif (v := (3 : Int32)) OKU (z_keep h4 qnw4) (fun X5 (h5 : KC qkw7 X5) => ?_)
  refine st_bd OKU (x_seen h5) (fun X9 h9 => ?_)
  exact lw_100 hL 26 0 0 28 qkw7 X9 w (fun _ => qsw4) rfl (by omega) (by omega) h9 rfl qnw4 rfl qFbw qFbw rfl rfl (fun i hi => absurd hi (Nat.not_lt_zero i)) rfl (fun i _ hi => absurd hi (Nat.not_lt_zero i))
