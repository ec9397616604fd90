def sf0 : Nat → Int := SN 107839786706265169593911148206435629804202279104238053496864565624832
theorem ff0 : WF sf0 := wf_sn (by decide +kernel)
theorem nf0 : nn sf0 = 0 := by decide +kernel
def kf1 : Cf := ct (sf0, (fun _ _ => 0), 0, false, (fun _ => 0), (fun _ => 0), 0) []
theorem startf : KC kf1 μ0X := kc_start (by decide +kernel) ff0
def sf1 : Nat → Int := SN 2135987027963738299838435431791275930959836250343265505395913758578998374594326651319292644032512
theorem ff1 : WF sf1 := wf_sn (by decide +kernel)
theorem nf1 : nn sf1 = 0 := by decide +kernel
theorem wf0 : agb (updI sf0 9 2147483640) sf1 = true := by decide +kernel
theorem wf1 : sf0 9 = 0 := by decide +kernel
def kf2 : Cf := nx kf1 sf1
def sf2 : Nat → Int := SN 32039805530856479453368739318165005535397699563336404284654496268090074535523294351640761861144576
theorem ff2 : WF sf2 := wf_sn (by decide +kernel)
theorem nf2 : nn sf2 = 0 := by decide +kernel
theorem wf2 : agb (updI sf1 10 7) sf2 = true := by decide +kernel
theorem wf3 : sf1 10 = 0 := by decide +kernel
def kf3 : Cf := nx kf2 sf2
def sf3 : Nat → Int := SN 262733146001979837368790287219076273429196630448487226581454842945105020124720626663510594633278736614491813596657322748983592506568636815166624567699602918856196476338271032981594358280470521657087492148624546040797666393156747892722167641574059180416342390888609461374637856086096280416443901929112861467180908837394360776356755999049155361312558442086402
theorem ff3 : WF sf3 := wf_sn (by decide +kernel)
theorem nf3 : nn sf3 = 1 := by decide +kernel
theorem wf4 : agb (insS sf2 0 (tl5 6 0 1 2 0)) sf3 = true := by decide +kernel
def kf4 : Cf := nx kf3 sf3
def sf4 : Nat → Int := SN 1649202699000147341821829537351800920209130295282166241526812270629001207459411732336837093628308737018938930872160831586204304394256051168974083655917555911146267867611570897800920420843618396059582070028098479682685184324331856267498782453852234521439246245159610585423239743995461179694447015389450219138012336465138074108925403615197444411985968165353376650532298531621502662759372798002939076494970187216322564
theorem ff4 : WF sf4 := wf_sn (by decide +kernel)
theorem nf4 : nn sf4 = 2 := by decide +kernel
theorem wf5 : agb (insS sf3 1 (tl5 5 0 1 0 16)) sf4 = true := by decide +kernel
def kf5 : Cf := nx kf4 sf4
theorem wf6 : nearT sf4 0 1 = (-99) := by decide +kernel
theorem wf7 : ord sf4 1 (V0 sf4) 0 = (0 : Int32) := by decide +kernel
def sf5 : Nat → Int := SN 1649202699000147341821829537351800920209130295282166241526812270629001207459411732336837093628308737018938930872160831586204304394256051168974083655917555911146267867611570897800920430158726949863835680921975410457700515865647958967678449288164462677744962363420928570693692715874328882620831198175889456167492601154024422774649053862284279638715824290452809952124012321212171614337367960301751581852051310112669700
theorem ff5 : WF sf5 := wf_sn (by decide +kernel)
theorem nf5 : nn sf5 = 2 := by decide +kernel
theorem wf8 : agb (updI sf4 24 3) sf5 = true := by decide +kernel
theorem wf9 : sf4 24 = 0 := by decide +kernel
def kf6 : Cf := nx kf5 sf5
theorem wf10 : ord sf5 1 (V0 sf5) 0 = (3 : Int32) := by decide +kernel
theorem wf11 : ord sf5 1 (V0 sf5) (12 + 0) = (7 : Int32) := by decide +kernel
def plf5 (b : Nat) : List Int := match b with
  | 0 => [(-1), (-1)]
  | 1 => [(-1), 0]
  | _ => [1, 0]
theorem plf5_0 : (List.range (nn sf5)).all (fun k => decide (fil sf5 (0 : Nat) (nn sf5) (lf (plf5 0)) k = lf (plf5 (0 + 1)) k)) = true := by decide +kernel
theorem plf5_1 : (List.range (nn sf5)).all (fun k => decide (fil sf5 (1 : Nat) (nn sf5) (lf (plf5 1)) k = lf (plf5 (1 + 1)) k)) = true := by decide +kernel
theorem wf13 : ∀ k, k < nn sf5 → pkS sf5 k = lf (plf5 2) k := pks_is ff5 (L := plf5) (c := 2) (by decide +kernel) (fun b hb => by
  rcases (show b = 0 ∨ b = 1 by omega) with rfl | rfl
  · exact plf5_0
  · exact plf5_1) (by decide +kernel)
theorem wf16 : mxm (pkS sf5) (nn sf5) + 1 = 2 := by rw [mpk_is wf13]; decide +kernel
def sf6 : Nat → Int := SN 12287517538015766470221063369364449294770067337695762745016183187777064336393268825196611556479893438011722271026282625150451791849274624929277793443192123217750815217149833788598434578863937932624372099890917587915288297105558134064496870069709526810563564430646810392164281486249353567803717917926718227329775028929374814167404506789668763981292247086001966365564559836647302725608877872655267128332517380
theorem ff6 : WF sf6 := wf_sn (by decide +kernel)
theorem nf6 : nn sf6 = 2 := by decide +kernel
theorem wf17 : agb (pckS sf5 (lf (plf5 2))) sf6 = true := by decide +kernel
def kf7 : Cf := nx kf6 sf6
theorem wf18 : bu sf6 0 = 1 := by decide +kernel
theorem wf19 : whyS sf6 = 0 := by decide +kernel
theorem wf20 : VB sf6 205 = (tm sf6 (bu sf6) 1 1 (V0 sf6) 3).1 := vb_is (by decide +kernel) (by decide)
theorem wf21 : agr sf6 = true := by unfold agr; rw [wf20]; decide +kernel
def sf7 : Nat → Int := SN 12287517538015766470221063369364449294770067337695762745016183187777064336393268825196611556479893438011722271026282625150451791849274624929277793443192123217750815217149833788598434578863937932624372099890917587915288297105558134064496870069709526810563564430646810392164281486249353567803717917926718227329775028929382274015950653589301094715014449398603473207826520052408909685262275265110455128965513220
theorem ff7 : WF sf7 := wf_sn (by decide +kernel)
theorem nf7 : nn sf7 = 2 := by decide +kernel
theorem wf22 : agb (updI sf6 9 (-2147483648)) sf7 = true := by decide +kernel
theorem wf23 : sf6 9 = 2147483640 := by decide +kernel
def kf8 : Cf := nx kf7 sf7
def sf8 : Nat → Int := SN 3298405373425259607969739961463659628486910252749192582394317990131918226712671496905366063499547543528749166921926433427596779466062128234411187446391741328996770701484777140067814525745360831401094163581637413928011094797963269619740692305923042571279919200308904516965586751618861781075359659029878428398730581011253146820624576319462121096446468404826020978064229208352881826701759967876713488392664433752539140
theorem ff8 : WF sf8 := wf_sn (by decide +kernel)
theorem nf8 : nn sf8 = 2 := by decide +kernel
theorem wf24 : agb (swpS sf7 0 1) sf8 = true := by decide +kernel
theorem wf25 : nearT sf8 0 1 = (-99) := by decide +kernel
def kf9 : Cf := nx kf8 sf8
def sf9 : Nat → Int := SN 3298405373425259607969739961463659628486910252749192582394317990131918226712671496905366063499547543528749166921926433427596779466062128234411187446391741328996770701484777140067814525745360831401094163581637413928011094797963269619740692305923042571279919200308904516965586751618861781075359659029878428398730581011253146820624576319462121096446468404826020978064229208352881826701759967876713488392664433752539138
theorem ff9 : WF sf9 := wf_sn (by decide +kernel)
theorem nf9 : nn sf9 = 1 := by decide +kernel
theorem wf26 : agb (remS sf8 1) sf9 = true := by decide +kernel
def kf10 : Cf := nx kf9 sf9
theorem wf27 : ord sf9 1 (V0 sf9) 0 = (0 : Int32) := by decide +kernel
theorem g_isFar_L137 {X : Mem} (h : KC kf7 X) : OK1 (fL_isFar_L137 X) := by
  unfold fL_isFar_L137
  refine st_zif (v := (2147483640 : Int32)) OK1 (z_setRegister h (n := 1) (by decide) (v := (-2147483648)) (by decide) wf23 (S' := sf7) (agb_of wf22) ff7) (fun X1 (h1 : KC kf8 X1) => ?_)
  refine st_zif (v := (-99 : Int32)) OK1 (z_exchange h1 (n := 0) (m := 1) (lt_nn nf7 (i := 0) (by decide)) (lt_nn nf7 (i := 1) (by decide)) (S' := sf8) (agb_of wf24) ff8 wf25) (fun X2 (h2 : KC kf9 X2) => ?_)
  refine st_zif (v := (1 : Int32)) OK1 (z_remove h2 (n := 1) (lt_nn nf8 (i := 1) (by decide)) (w := 1) nf8 (S' := sf9) (agb_of wf26) ff9) (fun X3 (h3 : KC kf10 X3) => ?_)
  refine st_zif (v := (0 : Int32)) OK1 (z_registerInOrder h3 (n := 0) (by decide) wf27) (fun X4 (h4 : KC kf10 X4) => ?_)
  exact ⟨_, rfl⟩
theorem g_isFar_L106 {X : Mem} (h : KC kf6 X) : OK1 (fL_isFar_L106 X) := by
  unfold fL_isFar_L106
  refine st_bif (v := (2 : Int32)) OK1 (z_pack h wf16 (S' := sf6) (pck_is wf13 wf17) ff6) (fun X1 (h1 : KC kf7 X1) => ?_)
  refine st_zif (v := (1 : Int32)) OK1 (z_bundleOf h1 (i := 0) (lt_nn nf6 (i := 0) (by decide)) wf18) (fun X2 (h2 : KC kf7 X2) => ?_)
  refine st_bif (v := (0 : Int32)) OK1 (z_whyWrong h2 wf19) (fun X3 (h3 : KC kf7 X3) => ?_)
  refine st_bel (v := (1 : Int32)) OK1 (z_doesAgree h3 wf21) (by decide) (fun X4 (h4 : KC kf7 X4) => ?_)
  exact g_isFar_L137 h4
theorem g_isFar_L59 {X : Mem} (h : KC kf5 X) : OK1 (fL_isFar_L59 X) := by
  unfold fL_isFar_L59
  refine st_zif (v := (-99 : Int32)) OK1 (z_separation h (i := 0) (j := 1) (lt_nn nf4 (i := 0) (by decide)) (lt_nn nf4 (i := 1) (by decide)) wf6) (fun X1 (h1 : KC kf5 X1) => ?_)
  refine st_zif (v := (0 : Int32)) OK1 (z_registerInOrder h1 (n := 0) (by decide) wf7) (fun X2 (h2 : KC kf5 X2) => ?_)
  refine st_zif (v := (0 : Int32)) OK1 (z_setCell h2 (n := 4) (by decide) (v := 3) (by decide) wf9 (S' := sf5) (agb_of wf8) ff5) (fun X3 (h3 : KC kf6 X3) => ?_)
  refine st_zif (v := (3 : Int32)) OK1 (z_registerInOrder h3 (n := 0) (by decide) wf10) (fun X4 (h4 : KC kf6 X4) => ?_)
  refine st_zif (v := (7 : Int32)) OK1 (z_cellInOrder h4 (n := 0) (by decide) wf11) (fun X5 (h5 : KC kf6 X5) => ?_)
  exact g_isFar_L106 h5
theorem ok_isFar {μ : Mem} : OK1 (fL_isFar μ) := by
  unfold fL_isFar
  refine st_zif (v := (0 : Int32)) OK1 (z_setRegister startf (n := 1) (by decide) (v := 2147483640) (by decide) wf1 (S' := sf1) (agb_of wf0) ff1) (fun X1 (h1 : KC kf2 X1) => ?_)
  refine st_zif (v := (0 : Int32)) OK1 (z_setRegister h1 (n := 2) (by decide) (v := 7) (by decide) wf3 (S' := sf2) (agb_of wf2) ff2) (fun X2 (h2 : KC kf3 X2) => ?_)
  refine st_zif (v := (1 : Int32)) OK1 (z_insert h2 (n := 0) (k := 6) (x := 0) (y := 1) (z := 2) (v := 0) nf2 (by decide) (by decide) (by decide) (by decide) (by decide) (by decide) (by decide) (S' := sf3) (agb_of wf4) ff3) (fun X3 (h3 : KC kf4 X3) => ?_)
  refine st_zif (v := (2 : Int32)) OK1 (z_insert h3 (n := 1) (k := 5) (x := 0) (y := 1) (z := 0) (v := 16) nf3 (by decide) (by decide) (by decide) (by decide) (by decide) (by decide) (by decide) (S' := sf4) (agb_of wf5) ff4) (fun X4 (h4 : KC kf5 X4) => ?_)
  exact g_isFar_L59 h4
