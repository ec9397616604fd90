def qsf0 : Nat → Int := SN 107839786706265169593911148206435629804202279104238053496864565624832
theorem qwf0 : WF qsf0 := wf_sn (by decide +kernel)
theorem qnf0 : nn qsf0 = 0 := by decide +kernel
def qkf1 : Cf := (qsf0, (fun _ _ => 0), 0, false, (fun _ => 0), (fun _ => 0), 0)
def qkf2 : Cf := ct qkf1 []
theorem qstartf : KC qkf2 μ0X := kc_start (by decide +kernel) qwf0
def qsf1 : Nat → Int := SN 2135987027963738299838435431791275930959836250343265505395913758578998374594326651319292644032512
theorem qwf1 : WF qsf1 := wf_sn (by decide +kernel)
theorem qnf1 : nn qsf1 = 0 := by decide +kernel
theorem qff0 : agb (updI qsf0 9 2147483640) qsf1 = true := by decide +kernel
theorem qff1 : qsf0 9 = 0 := by decide +kernel
def qkf3 : Cf := nx qkf2 qsf1
def qsf2 : Nat → Int := SN 32039805530856479453368739318165005535397699563336404284654496268090074535523294351640761861144576
theorem qwf2 : WF qsf2 := wf_sn (by decide +kernel)
theorem qnf2 : nn qsf2 = 0 := by decide +kernel
theorem qff2 : agb (updI qsf1 10 7) qsf2 = true := by decide +kernel
theorem qff3 : qsf1 10 = 0 := by decide +kernel
def qkf4 : Cf := nx qkf3 qsf2
def qsf3 : Nat → Int := SN 262733146001979837368790287219076273429196630448487226581454842945105020124720626663510594633278736614491813596657322748983592506568636815166624567699602918856196476338271032981594358280470521657087492148624546040797666393156747892722167641574059180416342390888609461374637856086096280416443901929112861467180908837394360776356755999049155361312558442086402
theorem qwf3 : WF qsf3 := wf_sn (by decide +kernel)
theorem qnf3 : nn qsf3 = 1 := by decide +kernel
theorem qff4 : agb (insS qsf2 0 (tl5 6 0 1 2 0)) qsf3 = true := by decide +kernel
def qkf5 : Cf := nx qkf4 qsf3
def qsf4 : Nat → Int := SN 1649202699000147341821829537351800920209130295282166241526812270629001207459411732336837093628308737018938930872160831586204304394256051168974083655917555911146267867611570897800920420843618396059582070028098479682685184324331856267498782453852234521439246245159610585423239743995461179694447015389450219138012336465138074108925403615197444411985968165353376650532298531621502662759372798002939076494970187216322564
theorem qwf4 : WF qsf4 := wf_sn (by decide +kernel)
theorem qnf4 : nn qsf4 = 2 := by decide +kernel
theorem qff5 : agb (insS qsf3 1 (tl5 5 0 1 0 16)) qsf4 = true := by decide +kernel
def qkf6 : Cf := nx qkf5 qsf4
theorem qff6 : nearT qsf4 0 1 = (-99) := by decide +kernel
theorem qff7 : ord qsf4 1 (V0 qsf4) 0 = (0 : Int32) := by decide +kernel
def qsf5 : Nat → Int := SN 1649202699000147341821829537351800920209130295282166241526812270629001207459411732336837093628308737018938930872160831586204304394256051168974083655917555911146267867611570897800920430158726949863835680921975410457700515865647958967678449288164462677744962363420928570693692715874328882620831198175889456167492601154024422774649053862284279638715824290452809952124012321212171614337367960301751581852051310112669700
theorem qwf5 : WF qsf5 := wf_sn (by decide +kernel)
theorem qnf5 : nn qsf5 = 2 := by decide +kernel
theorem qff8 : agb (updI qsf4 24 3) qsf5 = true := by decide +kernel
theorem qff9 : qsf4 24 = 0 := by decide +kernel
def qkf7 : Cf := nx qkf6 qsf5
theorem qff10 : ord qsf5 1 (V0 qsf5) 0 = (3 : Int32) := by decide +kernel
theorem qff11 : ord qsf5 1 (V0 qsf5) (12 + 0) = (7 : Int32) := by decide +kernel
def qpf5 (b : Nat) : List Int := match b with
  | 0 => [(-1), (-1)]
  | 1 => [(-1), 0]
  | _ => [1, 0]
theorem qpf5_0 : (List.range (nn qsf5)).all (fun k => decide (fil qsf5 (0 : Nat) (nn qsf5) (lf (qpf5 0)) k = lf (qpf5 (0 + 1)) k)) = true := by decide +kernel
theorem qpf5_1 : (List.range (nn qsf5)).all (fun k => decide (fil qsf5 (1 : Nat) (nn qsf5) (lf (qpf5 1)) k = lf (qpf5 (1 + 1)) k)) = true := by decide +kernel
theorem qff13 : ∀ k, k < nn qsf5 → pkS qsf5 k = lf (qpf5 2) k := pks_is qwf5 (L := qpf5) (c := 2) (by decide +kernel) (fun b hb => by
  rcases (show b = 0 ∨ b = 1 by omega) with rfl | rfl
  · exact qpf5_0
  · exact qpf5_1) (by decide +kernel)
theorem qff16 : mxm (pkS qsf5) (nn qsf5) + 1 = 2 := by rw [mpk_is qff13]; decide +kernel
def qsf6 : Nat → Int := SN 12287517538015766470221063369364449294770067337695762745016183187777064336393268825196611556479893438011722271026282625150451791849274624929277793443192123217750815217149833788598434578863937932624372099890917587915288297105558134064496870069709526810563564430646810392164281486249353567803717917926718227329775028929374814167404506789668763981292247086001966365564559836647302725608877872655267128332517380
theorem qwf6 : WF qsf6 := wf_sn (by decide +kernel)
theorem qnf6 : nn qsf6 = 2 := by decide +kernel
theorem qff17 : agb (pckS qsf5 (lf (qpf5 2))) qsf6 = true := by decide +kernel
def qkf8 : Cf := nx qkf7 qsf6
theorem qff18 : bu qsf6 0 = 1 := by decide +kernel
theorem qff19 : whyS qsf6 = 0 := by decide +kernel
theorem qff20 : VB qsf6 205 = (tm qsf6 (bu qsf6) 1 1 (V0 qsf6) 3).1 := vb_is (by decide +kernel) (by decide)
theorem qff21 : agr qsf6 = true := by unfold agr; rw [qff20]; decide +kernel
def qsf7 : Nat → Int := SN 12287517538015766470221063369364449294770067337695762745016183187777064336393268825196611556479893438011722271026282625150451791849274624929277793443192123217750815217149833788598434578863937932624372099890917587915288297105558134064496870069709526810563564430646810392164281486249353567803717917926718227329775028929382274015950653589301094715014449398603473207826520052408909685262275265110455128965513220
theorem qwf7 : WF qsf7 := wf_sn (by decide +kernel)
theorem qnf7 : nn qsf7 = 2 := by decide +kernel
theorem qff22 : agb (updI qsf6 9 (-2147483648)) qsf7 = true := by decide +kernel
theorem qff23 : qsf6 9 = 2147483640 := by decide +kernel
def qkf9 : Cf := nx qkf8 qsf7
def qsf8 : Nat → Int := SN 3298405373425259607969739961463659628486910252749192582394317990131918226712671496905366063499547543528749166921926433427596779466062128234411187446391741328996770701484777140067814525745360831401094163581637413928011094797963269619740692305923042571279919200308904516965586751618861781075359659029878428398730581011253146820624576319462121096446468404826020978064229208352881826701759967876713488392664433752539140
theorem qwf8 : WF qsf8 := wf_sn (by decide +kernel)
theorem qnf8 : nn qsf8 = 2 := by decide +kernel
theorem qff24 : agb (swpS qsf7 0 1) qsf8 = true := by decide +kernel
theorem qff25 : nearT qsf8 0 1 = (-99) := by decide +kernel
def qkf10 : Cf := nx qkf9 qsf8
def qsf9 : Nat → Int := SN 3298405373425259607969739961463659628486910252749192582394317990131918226712671496905366063499547543528749166921926433427596779466062128234411187446391741328996770701484777140067814525745360831401094163581637413928011094797963269619740692305923042571279919200308904516965586751618861781075359659029878428398730581011253146820624576319462121096446468404826020978064229208352881826701759967876713488392664433752539138
theorem qwf9 : WF qsf9 := wf_sn (by decide +kernel)
theorem qnf9 : nn qsf9 = 1 := by decide +kernel
theorem qff26 : agb (remS qsf8 1) qsf9 = true := by decide +kernel
def qkf11 : Cf := nx qkf10 qsf9
theorem qff27 : ord qsf9 1 (V0 qsf9) 0 = (0 : Int32) := by decide +kernel
theorem g_isFar_L137 {X : Mem} (h : KC qkf8 X) : OK1 (fL_isFar_L137 X) := by
  unfold fL_isFar_L137
  rw [show (-2147483648 : Int32) = ic (-2147483648) from rfl]
  refine st_zif (v := (2147483640 : Int32)) OK1 (z_setRegister h (n := 1) (by decide) (v := (-2147483648)) (by decide) qff23 (S' := qsf7) (agb_of qff22) qwf7) (fun X1 (h1 : KC qkf9 X1) => ?_)
  refine st_zif (v := (-99 : Int32)) OK1 (z_exchange h1 (n := 0) (m := 1) (lt_nn qnf7 (i := 0) (by decide)) (lt_nn qnf7 (i := 1) (by decide)) (S' := qsf8) (agb_of qff24) qwf8 qff25) (fun X2 (h2 : KC qkf10 X2) => ?_)
  refine st_zif (v := (1 : Int32)) OK1 (z_remove h2 (n := 1) (lt_nn qnf8 (i := 1) (by decide)) (w := 1) qnf8 (S' := qsf9) (agb_of qff26) qwf9) (fun X3 (h3 : KC qkf11 X3) => ?_)
  refine st_zif (v := (0 : Int32)) OK1 (z_registerInOrder h3 (n := 0) (by decide) qff27) (fun X4 (h4 : KC qkf11 X4) => ?_)
  exact ⟨_, rfl⟩
theorem g_isFar_L106 {X : Mem} (h : KC qkf7 X) : OK1 (fL_isFar_L106 X) := by
  unfold fL_isFar_L106
  refine st_bif (v := (2 : Int32)) OK1 (z_pack h qff16 (S' := qsf6) (pck_is qff13 qff17) qwf6) (fun X1 (h1 : KC qkf8 X1) => ?_)
  refine st_zif (v := (1 : Int32)) OK1 (z_bundleOf h1 (i := 0) (lt_nn qnf6 (i := 0) (by decide)) qff18) (fun X2 (h2 : KC qkf8 X2) => ?_)
  refine st_bif (v := (0 : Int32)) OK1 (z_whyWrong h2 qff19) (fun X3 (h3 : KC qkf8 X3) => ?_)
  refine st_bel (v := (1 : Int32)) OK1 (z_doesAgree h3 qff21) (by decide) (fun X4 (h4 : KC qkf8 X4) => ?_)
  exact g_isFar_L137 h4
theorem g_isFar_L59 {X : Mem} (h : KC qkf6 X) : OK1 (fL_isFar_L59 X) := by
  unfold fL_isFar_L59
  refine st_zif (v := (-99 : Int32)) OK1 (z_separation h (i := 0) (j := 1) (lt_nn qnf4 (i := 0) (by decide)) (lt_nn qnf4 (i := 1) (by decide)) qff6) (fun X1 (h1 : KC qkf6 X1) => ?_)
  refine st_zif (v := (0 : Int32)) OK1 (z_registerInOrder h1 (n := 0) (by decide) qff7) (fun X2 (h2 : KC qkf6 X2) => ?_)
  refine st_zif (v := (0 : Int32)) OK1 (z_setCell h2 (n := 4) (by decide) (v := 3) (by decide) qff9 (S' := qsf5) (agb_of qff8) qwf5) (fun X3 (h3 : KC qkf7 X3) => ?_)
  refine st_zif (v := (3 : Int32)) OK1 (z_registerInOrder h3 (n := 0) (by decide) qff10) (fun X4 (h4 : KC qkf7 X4) => ?_)
  refine st_zif (v := (7 : Int32)) OK1 (z_cellInOrder h4 (n := 0) (by decide) qff11) (fun X5 (h5 : KC qkf7 X5) => ?_)
  exact g_isFar_L106 h5
theorem ok_isFar {μ : Mem} : OK1 (fL_isFar μ) := by
  unfold fL_isFar
  refine st_zif (v := (0 : Int32)) OK1 (z_setRegister qstartf (n := 1) (by decide) (v := 2147483640) (by decide) qff1 (S' := qsf1) (agb_of qff0) qwf1) (fun X1 (h1 : KC qkf3 X1) => ?_)
  refine st_zif (v := (0 : Int32)) OK1 (z_setRegister h1 (n := 2) (by decide) (v := 7) (by decide) qff3 (S' := qsf2) (agb_of qff2) qwf2) (fun X2 (h2 : KC qkf4 X2) => ?_)
  refine st_zif (v := (1 : Int32)) OK1 (z_insert h2 (n := 0) (k := 6) (x := 0) (y := 1) (z := 2) (v := 0) qnf2 (by decide) (by decide) (by decide) (by decide) (by decide) (by decide) (by decide) (S' := qsf3) (agb_of qff4) qwf3) (fun X3 (h3 : KC qkf5 X3) => ?_)
  refine st_zif (v := (2 : Int32)) OK1 (z_insert h3 (n := 1) (k := 5) (x := 0) (y := 1) (z := 0) (v := 16) qnf3 (by decide) (by decide) (by decide) (by decide) (by decide) (by decide) (by decide) (S' := qsf4) (agb_of qff5) qwf4) (fun X4 (h4 : KC qkf6 X4) => ?_)
  exact g_isFar_L59 h4
