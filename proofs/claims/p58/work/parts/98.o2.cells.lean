def qsc0 : Nat → Int := SN 107839786706265169593911148206435629804202279104238053496864565624832
theorem qwc0 : WF qsc0 := wf_sn (by decide +kernel)
theorem qnc0 : nn qsc0 = 0 := by decide +kernel
def qkc1 : Cf := (qsc0, (fun _ _ => 0), 0, false, (fun _ => 0), (fun _ => 0), 0)
def qkc2 : Cf := ct qkc1 []
theorem qstartc : KC qkc2 μ0X := kc_start (by decide +kernel) qwc0
def qsc1 : Nat → Int := SN 2486616182048933210884751027440369370096191902193174217006522163570035538559531443290112
theorem qwc1 : WF qsc1 := wf_sn (by decide +kernel)
theorem qnc1 : nn qsc1 = 0 := by decide +kernel
theorem qfc0 : agb (updI qsc0 9 (-3)) qsc1 = true := by decide +kernel
theorem qfc1 : qsc0 9 = 0 := by decide +kernel
def qkc3 : Cf := nx qkc2 qsc1
def qsc2 : Nat → Int := SN 170878962876159422773650669704448920195656731158628413497956502842784100226021279540396498398216192
theorem qwc2 : WF qsc2 := wf_sn (by decide +kernel)
theorem qnc2 : nn qsc2 = 0 := by decide +kernel
theorem qfc2 : agb (updI qsc1 10 40) qsc2 = true := by decide +kernel
theorem qfc3 : qsc1 10 = 0 := by decide +kernel
def qkc4 : Cf := nx qkc3 qsc2
def qsc3 : Nat → Int := SN 36304123742133375556593322708737806643829594767075060035541305159080582450205184901005085803128817153071257905034008131114613897596311174506612074733945181293529561534361813328678867598474122467717996889430734089362683591820741902968186421304858753013886483478656100768172356927488
theorem qwc3 : WF qsc3 := wf_sn (by decide +kernel)
theorem qnc3 : nn qsc3 = 0 := by decide +kernel
theorem qfc4 : agb (updI qsc2 29 8) qsc3 = true := by decide +kernel
theorem qfc5 : qsc2 29 = 0 := by decide +kernel
def qkc5 : Cf := nx qkc4 qsc3
def qsc4 : Nat → Int := SN 262733146001979837368790287219076273429196630448487226581454842945105020124756930787252728008835329937200551403301152343750667566604178120325705150149808103757201562141399850134665616185504529788202106046220857215304278467890693074015697203108420993745021258455043778311499373522158275187641579985535903806812690974044723261280567947004517110439968937869314
theorem qwc4 : WF qsc4 := wf_sn (by decide +kernel)
theorem qnc4 : nn qsc4 = 1 := by decide +kernel
theorem qfc6 : agb (insS qsc3 0 (tl5 6 0 1 2 0)) qsc4 = true := by decide +kernel
def qkc6 : Cf := nx qkc5 qsc4
def qsc5 : Nat → Int := SN 1649202687480599649932048471558583757189030004626901325074264681542306858785792207150451135598067140306602385509837954138619926711915051697185070771297166755456228149897712062149250984463793791994124175695522657796341511740824701671515033591599486123640611590160953746458604140826641930562555813822602207032533651972194515261720479961548773818570997684132039135652932041270114728439472519258253810115391008358268932
theorem qwc5 : WF qsc5 := wf_sn (by decide +kernel)
theorem qnc5 : nn qsc5 = 2 := by decide +kernel
theorem qfc7 : agb (insS qsc4 1 (tl5 5 3 1 0 1)) qsc5 = true := by decide +kernel
def qkc7 : Cf := nx qkc6 qsc5
def qsc6 : Nat → Int := SN 10352213104615723188606606024942250706859269109453397558811702850367572094071452057237472177599800611297926306185737040415644632607889599659101596395579251951960389184090862607093089256957526109580141181159870776981618769669281772699031443534885143477422072410672485725197053855811055426427640543846215447127496615173630852422381043373434144740124437387846184338048234951158970376813613618361060612447932437571490714967501354193219812881199179056498054853136885287493828614
theorem qwc6 : WF qsc6 := wf_sn (by decide +kernel)
theorem qnc6 : nn qsc6 = 3 := by decide +kernel
theorem qfc8 : agb (insS qsc5 2 (tl5 5 4 1 0 12)) qsc6 = true := by decide +kernel
def qkc8 : Cf := nx qkc7 qsc6
def qsc7 : Nat → Int := SN 64981894496091238895613731933495509469914053626203602912089801696030574791388428069664109568264223459022220717817876732526746702886175846924952324601279005331741342813908889399543069093942669514884422400818035507539828385845115371037968569446710546894454559835235099972530913500989274456651135247467483268474862860612582171949556303074330285025975564821294723968430735101264131125905002973505414276170106238767418461826082477597121597375112719564797237000418238340650664717003230498757287594369410725277194166896227292639211290632
theorem qwc7 : WF qsc7 := wf_sn (by decide +kernel)
theorem qnc7 : nn qsc7 = 4 := by decide +kernel
theorem qfc9 : agb (insS qsc6 3 (tl5 5 1 1 0 (-1))) qsc7 = true := by decide +kernel
def qkc9 : Cf := nx qkc8 qsc7
def qsc8 : Nat → Int := SN 407897962805099660346888365796546031448721597251608567093404624712596197288582104533196211270895856007835221842022596800132218377967386825406520201147002072610973709783912006788247226240242060635463315676311930012297035183591637676186743174357484740654466542066313734953400641769439282997191246836327654768066119360873273334913535845917099943398341130711819156767307831822086091635183781904732829641031602277929296697456929881779913685931299242312931118477230612853371743251924326980705356611195520262827742260559462589988244459685023243924457117621620937263012123978778554194069075001354
theorem qwc8 : WF qsc8 := wf_sn (by decide +kernel)
theorem qnc8 : nn qsc8 = 5 := by decide +kernel
theorem qfc10 : agb (insS qsc7 4 (tl5 6 0 1 4 1)) qsc8 = true := by decide +kernel
def qkc10 : Cf := nx qkc9 qsc8
theorem qfc11 : nearT qsc8 0 1 = (-99) := by decide +kernel
theorem qfc12 : nearT qsc8 0 2 = 1 := by decide +kernel
theorem qfc13 : nearT qsc8 0 3 = (-1) := by decide +kernel
theorem qfc14 : nearT qsc8 3 4 = 2 := by decide +kernel
theorem qfc15 : nearT qsc8 1 4 = 0 := by decide +kernel
theorem qfc16 : nearT qsc8 1 2 = (-99) := by decide +kernel
theorem qfc17 : nearT qsc8 1 3 = (-1) := by decide +kernel
theorem qfc18 : nearT qsc8 0 4 = 1 := by decide +kernel
theorem qfc19 : ord qsc8 1 (V0 qsc8) (12 + 9) = (40 : Int32) := by decide +kernel
theorem qfc20 : ord qsc8 1 (V0 qsc8) 3 = (0 : Int32) := by decide +kernel
theorem qfc21 : ord qsc8 1 (V0 qsc8) 4 = (40 : Int32) := by decide +kernel
theorem qfc22 : ord qsc8 1 (V0 qsc8) 1 = (0 : Int32) := by decide +kernel
theorem qfc23 : ord qsc8 1 (V0 qsc8) (12 + 1) = (40 : Int32) := by decide +kernel
def qpc8 (b : Nat) : List Int := match b with
  | 0 => [(-1), (-1), (-1), (-1), (-1)]
  | 1 => [0, (-1), (-1), (-1), (-1)]
  | 2 => [0, (-1), 1, (-1), (-1)]
  | 3 => [0, 2, 1, (-1), (-1)]
  | 4 => [0, 2, 1, 3, (-1)]
  | 5 => [0, 2, 1, 3, (-1)]
  | _ => [0, 2, 1, 3, 5]
theorem qpc8_0 : (List.range (nn qsc8)).all (fun k => decide (fil qsc8 (0 : Nat) (nn qsc8) (lf (qpc8 0)) k = lf (qpc8 (0 + 1)) k)) = true := by decide +kernel
theorem qpc8_1 : (List.range (nn qsc8)).all (fun k => decide (fil qsc8 (1 : Nat) (nn qsc8) (lf (qpc8 1)) k = lf (qpc8 (1 + 1)) k)) = true := by decide +kernel
theorem qpc8_2 : (List.range (nn qsc8)).all (fun k => decide (fil qsc8 (2 : Nat) (nn qsc8) (lf (qpc8 2)) k = lf (qpc8 (2 + 1)) k)) = true := by decide +kernel
theorem qpc8_3 : (List.range (nn qsc8)).all (fun k => decide (fil qsc8 (3 : Nat) (nn qsc8) (lf (qpc8 3)) k = lf (qpc8 (3 + 1)) k)) = true := by decide +kernel
theorem qpc8_4 : (List.range (nn qsc8)).all (fun k => decide (fil qsc8 (4 : Nat) (nn qsc8) (lf (qpc8 4)) k = lf (qpc8 (4 + 1)) k)) = true := by decide +kernel
theorem qpc8_5 : (List.range (nn qsc8)).all (fun k => decide (fil qsc8 (5 : Nat) (nn qsc8) (lf (qpc8 5)) k = lf (qpc8 (5 + 1)) k)) = true := by decide +kernel
theorem qfc25 : ∀ k, k < nn qsc8 → pkS qsc8 k = lf (qpc8 6) k := pks_is qwc8 (L := qpc8) (c := 6) (by decide +kernel) (fun b hb => by
  rcases (show b = 0 ∨ b = 1 ∨ b = 2 ∨ b = 3 ∨ b = 4 ∨ b = 5 by omega) with rfl | rfl | rfl | rfl | rfl | rfl
  · exact qpc8_0
  · exact qpc8_1
  · exact qpc8_2
  · exact qpc8_3
  · exact qpc8_4
  · exact qpc8_5) (by decide +kernel)
theorem qfc28 : mxm (pkS qsc8) (nn qsc8) + 1 = 6 := by rw [mpk_is qfc25]; decide +kernel
def qsc9 : Nat → Int := SN 4078979626341515988622601226583178754440411869176325024108178892081488088298201951192142573524729952689291943292843926708984534398111500122307268834907975584357908364797486515447970727201978672060407342867385392720083815005414787426413462499179333789723522397043278521398465841544217002081949214483985006462246877165246680083506255361456474147513862192810962808094424321813892240444089524977422582812119158424144363847068614319839317519104294620686823122138597461364144439315840933179659823165870356446466784824083987763713663091536818071612151265212153939232252887880283001908088469979146
theorem qwc9 : WF qsc9 := wf_sn (by decide +kernel)
theorem qnc9 : nn qsc9 = 5 := by decide +kernel
theorem qfc29 : agb (pckS qsc8 (lf (qpc8 6))) qsc9 = true := by decide +kernel
def qkc11 : Cf := nx qkc10 qsc9
theorem qfc30 : VB qsc9 205 = (tm qsc9 (bu qsc9) 1 1 (V0 qsc9) 7).1 := vb_is (by decide +kernel) (by decide)
theorem qfc31 : agr qsc9 = true := by unfold agr; rw [qfc30]; decide +kernel
def qsc10 : Nat → Int := SN 4078979626341515988622601226583178754440411869176325024108178892081488088298201951192142573524729952689291943292843926708984534398111500122307268834907975584357908364797486515447970727201978672060407342867385392720083815005414787426413462499179333789723522397043278521398465841544217002081949214483985006462246877165251963028817612013919997545363027358876151281354785537035171847534356264002989831406863330983020935726015358269771888805893118096281849977511102851148773835084924800019649874007557671623231049234614230092795774975578298354539666882600537908219923252645178387717065849962506
theorem qwc10 : WF qsc10 := wf_sn (by decide +kernel)
theorem qnc10 : nn qsc10 = 5 := by decide +kernel
theorem qfc32 : agb (updI qsc9 28 5) qsc10 = true := by decide +kernel
theorem qfc33 : qsc9 28 = 0 := by decide +kernel
def qkc12 : Cf := nx qkc11 qsc10
theorem qfc34 : ord qsc10 1 (V0 qsc10) 1 = (5 : Int32) := by decide +kernel
theorem qfc35 : ord qsc10 1 (V0 qsc10) (12 + 6) = (40 : Int32) := by decide +kernel
theorem qfc36 : ord qsc10 1 (V0 qsc10) (12 + 1) = (0 : Int32) := by decide +kernel
theorem qfc37 : VB qsc10 205 = (tm qsc10 (bu qsc10) 1 1 (V0 qsc10) 7).1 := vb_is (by decide +kernel) (by decide)
theorem qfc38 : agr qsc10 = true := by unfold agr; rw [qfc37]; decide +kernel
theorem qfc39 : typ (7006806319091039543 : Int64) 8 = [97, 61, 45, 57, 59, 98, 61, 55] := by decide +kernel
def qkc13 : Cf := ct qkc1 [97, 61, 45, 57, 59, 98, 61, 55]
theorem qfc40 : typ (4279331558514637668 : Int64) 8 = [59, 99, 61, 97, 45, 98, 59, 100] := by decide +kernel
def qkc14 : Cf := ct qkc1 [97, 61, 45, 57, 59, 98, 61, 55, 59, 99, 61, 97, 45, 98, 59, 100]
theorem qfc41 : typ (4422862910446189921 : Int64) 8 = [61, 97, 42, 98, 59, 101, 61, 97] := by decide +kernel
def qkc15 : Cf := ct qkc1 [97, 61, 45, 57, 59, 98, 61, 55, 59, 99, 61, 97, 45, 98, 59, 100, 61, 97, 42, 98, 59, 101, 61, 97]
theorem qfc42 : typ (6801063697585613668 : Int64) 8 = [94, 98, 59, 102, 61, 101, 43, 100] := by decide +kernel
def qkc16 : Cf := ct qkc1 [97, 61, 45, 57, 59, 98, 61, 55, 59, 99, 61, 97, 45, 98, 59, 100, 61, 97, 42, 98, 59, 101, 61, 97, 94, 98, 59, 102, 61, 101, 43, 100]
def qspc0 (k : Nat) : Nat := match k with
  | 0 => 0
  | 1 => 5
  | 2 => 9
  | 3 => 15
  | 4 => 21
  | 5 => 27
  | _ => 33
def qcsc0 (k : Nat) : Nat → Int := match k with
  | 0 => tl5 0 0 0 0 (-9)
  | 1 => tl5 0 1 0 0 7
  | 2 => tl5 2 2 0 1 0
  | 3 => tl5 3 3 0 1 0
  | 4 => tl5 4 4 0 1 0
  | 5 => tl5 1 5 4 3 0
  | _ => tl5 0 0 0 0 0
theorem qwsc0 : WS (tl [97, 61, 45, 57, 59, 98, 61, 55, 59, 99, 61, 97, 45, 98, 59, 100, 61, 97, 42, 98, 59, 101, 61, 97, 94, 98, 59, 102, 61, 101, 43, 100]) 6 qspc0 qcsc0 := ⟨rfl, fun k hk => by
  rcases (show k = 0 ∨ k = 1 ∨ k = 2 ∨ k = 3 ∨ k = 4 ∨ k = 5 by omega) with rfl | rfl | rfl | rfl | rfl | rfl
  · exact ⟨Or.inr (Or.inr (Or.inl ⟨1, 9, by decide +kernel, by decide +kernel, Or.inr ⟨by decide +kernel, by unfold Nu; decide +kernel, rfl, rfl⟩⟩)), by decide, ns_of (by decide +kernel), by decide +kernel⟩
  · exact ⟨Or.inr (Or.inr (Or.inl ⟨1, 7, by decide +kernel, by decide +kernel, Or.inl ⟨by unfold Nu; decide +kernel, rfl, rfl⟩⟩)), by decide, ns_of (by decide +kernel), by decide +kernel⟩
  · exact ⟨Or.inr (Or.inr (Or.inr ⟨2, by decide +kernel, by decide +kernel, by decide +kernel, by unfold opk; decide +kernel, by decide +kernel, rfl, rfl⟩)), by decide, ns_of (by decide +kernel), by decide +kernel⟩
  · exact ⟨Or.inr (Or.inr (Or.inr ⟨3, by decide +kernel, by decide +kernel, by decide +kernel, by unfold opk; decide +kernel, by decide +kernel, rfl, rfl⟩)), by decide, ns_of (by decide +kernel), by decide +kernel⟩
  · exact ⟨Or.inr (Or.inr (Or.inr ⟨4, by decide +kernel, by decide +kernel, by decide +kernel, by unfold opk; decide +kernel, by decide +kernel, rfl, rfl⟩)), by decide, ns_of (by decide +kernel), by decide +kernel⟩
  · exact ⟨Or.inr (Or.inr (Or.inr ⟨1, by decide +kernel, by decide +kernel, by decide +kernel, by unfold opk; decide +kernel, by decide +kernel, rfl, rfl⟩)), by decide, ns_of (by decide +kernel), by decide +kernel⟩⟩
theorem qfc43 : whole (tl [97, 61, 45, 57, 59, 98, 61, 55, 59, 99, 61, 97, 45, 98, 59, 100, 61, 97, 42, 98, 59, 101, 61, 97, 94, 98, 59, 102, 61, 101, 43, 100]) 32 = true := by decide +kernel
def qsc11 : Nat → Int := SN 2560417008992295759906317208346714566349593150062547327389495671571129016600307635366036682052886692647391695444310669522116159657576062227758363715621467988082540882876296118658738782834862099826529632771944531591538635365545713546129995464943522661666256558198892531917959107395004149748012717175485350038168443843824701751494670344778355667595948894282796062492359353501949401437598272906936848224364663182296379955415206514102951678540910390347741550803929713543821693940602714079299581761986503520988187539840683242083614306526955347791355831046852308590952956763275312048660487649884455935934140890815662235394688521683091685710821289099276
theorem qwc11 : WF qsc11 := wf_sn (by decide +kernel)
theorem qnc11 : nn qsc11 = 6 := by decide +kernel
theorem qfc44 : agb (addS qsc0 (qcsc0) 6) qsc11 = true := by decide +kernel
def qkc17 : Cf := nx qkc16 qsc11
def qkc18 : Cf := ct qkc17 []
theorem qfc45 : ord qsc11 1 (V0 qsc11) 2 = (-16 : Int32) := by decide +kernel
theorem qfc46 : ord qsc11 1 (V0 qsc11) 3 = (-63 : Int32) := by decide +kernel
theorem qfc47 : ord qsc11 1 (V0 qsc11) 4 = (7 : Int32) := by decide +kernel
theorem qfc48 : ord qsc11 1 (V0 qsc11) 5 = (-56 : Int32) := by decide +kernel
def qsc12 : Nat → Int := SN 2560417008992295759906317208346714566349593150062547327389495671571129016600307635366036682052886692647391695444310669522116159657576062227758363715621467988082540882876296118658738782834862099826529632771944531591538635365545713546129995464943522661666256558198892531917959107395004149748012717175485350038168443843824701751494670344778355667595948894282796062492359353501949401437598272906936848224364663182296379955415206514102951678540910390347741555366370329041464941314705925021238080445340501451175647210905508343582228713590102410295196191768243026316119854800364677751361147639005103577766502974949935421039955106622958427012137408790540
theorem qwc12 : WF qsc12 := wf_sn (by decide +kernel)
theorem qnc12 : nn qsc12 = 6 := by decide +kernel
theorem qfc49 : agb (updI qsc11 19 2147483647) qsc12 = true := by decide +kernel
theorem qfc50 : qsc11 19 = 0 := by decide +kernel
def qkc19 : Cf := nx qkc18 qsc12
def qsc13 : Nat → Int := SN 16071998050459114317431316388994414499174617160544991956130907559446957739099896516471976090840173640628729427366861007382795933879892119462095600327119057865350086953604729135887982447437001660576195012537763462656491850560300121552062552418182339450737282692993590338046551505086964609094694435755747387210683358439969830962913397422964481428594231542666278328393061580460182308555145308424014931856923515663203761119767364301603201060330122998671045615830439073855534149894496963368694307839325612156686914200901467963256121293959754615890310431707705163695647009032193603195199994516590761970602044260312403621691750437166353905860925673422182746317717815620895884068640440888016150515838503480197134
theorem qwc13 : WF qsc13 := wf_sn (by decide +kernel)
theorem qnc13 : nn qsc13 = 7 := by decide +kernel
theorem qfc51 : agb (insS qsc12 6 (tl5 1 10 11 1 0)) qsc13 = true := by decide +kernel
def qkc20 : Cf := nx qkc19 qsc13
theorem qfc52 : ord qsc13 1 (V0 qsc13) 10 = (-2147483642 : Int32) := by decide +kernel
def qpc13 (b : Nat) : List Int := match b with
  | 0 => [(-1), (-1), (-1), (-1), (-1), (-1), (-1)]
  | 1 => [0, 0, (-1), (-1), (-1), (-1), (-1)]
  | 2 => [0, 0, 1, 1, 1, (-1), (-1)]
  | 3 => [0, 0, 1, 1, 1, (-1), 2]
  | 4 => [0, 0, 1, 1, 1, (-1), 2]
  | _ => [0, 0, 1, 1, 1, 4, 2]
theorem qpc13_0 : (List.range (nn qsc13)).all (fun k => decide (fil qsc13 (0 : Nat) (nn qsc13) (lf (qpc13 0)) k = lf (qpc13 (0 + 1)) k)) = true := by decide +kernel
theorem qpc13_1 : (List.range (nn qsc13)).all (fun k => decide (fil qsc13 (1 : Nat) (nn qsc13) (lf (qpc13 1)) k = lf (qpc13 (1 + 1)) k)) = true := by decide +kernel
theorem qpc13_2 : (List.range (nn qsc13)).all (fun k => decide (fil qsc13 (2 : Nat) (nn qsc13) (lf (qpc13 2)) k = lf (qpc13 (2 + 1)) k)) = true := by decide +kernel
theorem qpc13_3 : (List.range (nn qsc13)).all (fun k => decide (fil qsc13 (3 : Nat) (nn qsc13) (lf (qpc13 3)) k = lf (qpc13 (3 + 1)) k)) = true := by decide +kernel
theorem qpc13_4 : (List.range (nn qsc13)).all (fun k => decide (fil qsc13 (4 : Nat) (nn qsc13) (lf (qpc13 4)) k = lf (qpc13 (4 + 1)) k)) = true := by decide +kernel
theorem qfc54 : ∀ k, k < nn qsc13 → pkS qsc13 k = lf (qpc13 5) k := pks_is qwc13 (L := qpc13) (c := 5) (by decide +kernel) (fun b hb => by
  rcases (show b = 0 ∨ b = 1 ∨ b = 2 ∨ b = 3 ∨ b = 4 by omega) with rfl | rfl | rfl | rfl | rfl
  · exact qpc13_0
  · exact qpc13_1
  · exact qpc13_2
  · exact qpc13_3
  · exact qpc13_4) (by decide +kernel)
theorem qfc57 : mxm (pkS qsc13) (nn qsc13) + 1 = 5 := by rw [mpk_is qfc54]; decide +kernel
def qsc14 : Nat → Int := SN 64287992201836457264497676981841917994407590477369073095164562127554366104249252691247287094316515217520384899827275116075594614976560922217535146294291310163819718102946764527563807814455146775269457524467359831798701897200581362936574884434709856730172008827568005855083279592951879970983681844306369391282868553053043849333656877328356697911726356377265929209139522980818251889023937183490308432411906555826264541329424311891045318671701334084302759650248337273835100165830707600234591312659740349678173003213773081069664955210527582923966544320024523440282711322558941029428548199433690567280970787676950762358004959177372456359021001505636760026087716847298290315022277247700137801720441197733871630
theorem qwc14 : WF qsc14 := wf_sn (by decide +kernel)
theorem qnc14 : nn qsc14 = 7 := by decide +kernel
theorem qfc58 : agb (pckS qsc13 (lf (qpc13 5))) qsc14 = true := by decide +kernel
def qkc21 : Cf := nx qkc20 qsc14
theorem qfc59 : VB qsc14 205 = (tm qsc14 (bu qsc14) 1 1 (V0 qsc14) 6).1 := vb_is (by decide +kernel) (by decide)
theorem qfc60 : VB qsc14 205 10 = (-2147483642 : Int32) := by rw [qfc59]; decide +kernel
theorem qfc61 : VB qsc14 205 5 = (-56 : Int32) := by rw [qfc59]; decide +kernel
theorem qfc62 : bu qsc14 6 = 2 := by decide +kernel
theorem qfc63 : bu qsc14 4 = 1 := by decide +kernel
theorem qfc64 : agr qsc14 = true := by unfold agr; rw [qfc59]; decide +kernel
theorem g_cells_L450 {X : Mem} (h : KC qkc21 X) : OK1 (fL_cells_L450 X) := by
  unfold fL_cells_L450
  refine st_zif (v := (-2147483642 : Int32)) OK1 (z_registerInBundles h (n := 10) (by decide) qfc60) (fun X1 (h1 : KC qkc21 X1) => ?_)
  refine st_zif (v := (-56 : Int32)) OK1 (z_registerInBundles h1 (n := 5) (by decide) qfc61) (fun X2 (h2 : KC qkc21 X2) => ?_)
  refine st_zif (v := (2 : Int32)) OK1 (z_bundleOf h2 (i := 6) (lt_nn qnc14 (i := 6) (by decide)) qfc62) (fun X3 (h3 : KC qkc21 X3) => ?_)
  refine st_zif (v := (1 : Int32)) OK1 (z_bundleOf h3 (i := 4) (lt_nn qnc14 (i := 4) (by decide)) qfc63) (fun X4 (h4 : KC qkc21 X4) => ?_)
  refine st_bel (v := (1 : Int32)) OK1 (z_doesAgree h4 qfc64) (by decide) (fun X5 (h5 : KC qkc21 X5) => ?_)
  refine st_b0 OK1 ok_isFar ?_
  exact ⟨_, rfl⟩
theorem g_cells_L361 {X : Mem} (h : KC qkc18 X) : OK1 (fL_cells_L361 X) := by
  unfold fL_cells_L361
  refine st_zif (v := (-16 : Int32)) OK1 (z_registerInOrder h (n := 2) (by decide) qfc45) (fun X1 (h1 : KC qkc18 X1) => ?_)
  refine st_zif (v := (-63 : Int32)) OK1 (z_registerInOrder h1 (n := 3) (by decide) qfc46) (fun X2 (h2 : KC qkc18 X2) => ?_)
  refine st_zif (v := (7 : Int32)) OK1 (z_registerInOrder h2 (n := 4) (by decide) qfc47) (fun X3 (h3 : KC qkc18 X3) => ?_)
  refine st_zif (v := (-56 : Int32)) OK1 (z_registerInOrder h3 (n := 5) (by decide) qfc48) (fun X4 (h4 : KC qkc18 X4) => ?_)
  refine st_zif (v := (0 : Int32)) OK1 (z_setRegister h4 (n := 11) (by decide) (v := 2147483647) (by decide) qfc50 (S' := qsc12) (agb_of qfc49) qwc12) (fun X5 (h5 : KC qkc19 X5) => ?_)
  refine st_zif (v := (7 : Int32)) OK1 (z_insert h5 (n := 6) (k := 1) (x := 10) (y := 11) (z := 1) (v := 0) qnc12 (by decide) (by decide) (by decide) (by decide) (by decide) (by decide) (by decide) (S' := qsc13) (agb_of qfc51) qwc13) (fun X6 (h6 : KC qkc20 X6) => ?_)
  refine st_zif (v := (-2147483642 : Int32)) OK1 (z_registerInOrder h6 (n := 10) (by decide) qfc52) (fun X7 (h7 : KC qkc20 X7) => ?_)
  refine st_bif (v := (5 : Int32)) OK1 (z_pack h7 qfc57 (S' := qsc14) (pck_is qfc54 qfc58) qwc14) (fun X8 (h8 : KC qkc21 X8) => ?_)
  exact g_cells_L450 h8
theorem g_cells_L304 {X : Mem} : OK1 (fL_cells_L304 X) := by
  unfold fL_cells_L304
  refine st_bel (v := (1 : Int32)) OK1 (x_types (c := qkc2) (l := []) qstartc qfc39 (by decide) (by decide)) (by decide) (fun X1 (h1 : KC qkc13 X1) => ?_)
  refine st_bel (v := (1 : Int32)) OK1 (x_types (c := qkc13) (l := [97, 61, 45, 57, 59, 98, 61, 55]) h1 qfc40 (by decide) (by decide)) (by decide) (fun X2 (h2 : KC qkc14 X2) => ?_)
  refine st_bel (v := (1 : Int32)) OK1 (x_types (c := qkc14) (l := [97, 61, 45, 57, 59, 98, 61, 55, 59, 99, 61, 97, 45, 98, 59, 100]) h2 qfc41 (by decide) (by decide)) (by decide) (fun X3 (h3 : KC qkc15 X3) => ?_)
  refine st_bel (v := (1 : Int32)) OK1 (x_types (c := qkc15) (l := [97, 61, 45, 57, 59, 98, 61, 55, 59, 99, 61, 97, 45, 98, 59, 100, 61, 97, 42, 98, 59, 101, 61, 97]) h3 qfc42 (by decide) (by decide)) (by decide) (fun X4 (h4 : KC qkc16 X4) => ?_)
  refine st_zif (v := (6 : Int32)) OK1 (z_addAll h4 qfc43 (K := 6) qwsc0 (by decide) rfl (w := 6) (by rw [show nn (Cf.S qkc16) = 0 from qnc0]) (by decide) (S' := qsc11) (agb_of qfc44) qwc11) (fun X5 (h5 : KC qkc18 X5) => ?_)
  exact g_cells_L361 h5
theorem g_cells_L250 {X : Mem} (h : KC qkc11 X) : OK1 (fL_cells_L250 X) := by
  unfold fL_cells_L250
  refine st_bel (v := (1 : Int32)) OK1 (z_doesAgree h qfc31) (by decide) (fun X1 (h1 : KC qkc11 X1) => ?_)
  refine st_zif (v := (0 : Int32)) OK1 (z_setCell h1 (n := 8) (by decide) (v := 5) (by decide) qfc33 (S' := qsc10) (agb_of qfc32) qwc10) (fun X2 (h2 : KC qkc12 X2) => ?_)
  refine st_zif (v := (5 : Int32)) OK1 (z_registerInOrder h2 (n := 1) (by decide) qfc34) (fun X3 (h3 : KC qkc12 X3) => ?_)
  refine st_zif (v := (40 : Int32)) OK1 (z_cellInOrder h3 (n := 6) (by decide) qfc35) (fun X4 (h4 : KC qkc12 X4) => ?_)
  refine st_zif (v := (0 : Int32)) OK1 (z_cellInOrder h4 (n := 1) (by decide) qfc36) (fun X5 (h5 : KC qkc12 X5) => ?_)
  refine st_bel (v := (1 : Int32)) OK1 (z_doesAgree h5 qfc38) (by decide) (fun X6 (h6 : KC qkc12 X6) => ?_)
  exact g_cells_L304
theorem g_cells_L195 {X : Mem} (h : KC qkc10 X) : OK1 (fL_cells_L195 X) := by
  unfold fL_cells_L195
  refine st_zif (v := (40 : Int32)) OK1 (z_cellInOrder h (n := 9) (by decide) qfc19) (fun X1 (h1 : KC qkc10 X1) => ?_)
  refine st_zif (v := (0 : Int32)) OK1 (z_registerInOrder h1 (n := 3) (by decide) qfc20) (fun X2 (h2 : KC qkc10 X2) => ?_)
  refine st_zif (v := (40 : Int32)) OK1 (z_registerInOrder h2 (n := 4) (by decide) qfc21) (fun X3 (h3 : KC qkc10 X3) => ?_)
  refine st_zif (v := (0 : Int32)) OK1 (z_registerInOrder h3 (n := 1) (by decide) qfc22) (fun X4 (h4 : KC qkc10 X4) => ?_)
  refine st_zif (v := (40 : Int32)) OK1 (z_cellInOrder h4 (n := 1) (by decide) qfc23) (fun X5 (h5 : KC qkc10 X5) => ?_)
  refine st_bd (v := (6 : Int32)) OK1 (z_pack h5 qfc28 (S' := qsc9) (pck_is qfc25 qfc29) qwc9) (fun X6 (h6 : KC qkc11 X6) => ?_)
  rw [if_neg (by decide)]
  exact g_cells_L250 h6
theorem g_cells_L112 {X : Mem} (h : KC qkc10 X) : OK1 (fL_cells_L112 X) := by
  unfold fL_cells_L112
  refine st_zif (v := (-99 : Int32)) OK1 (z_separation h (i := 0) (j := 1) (lt_nn qnc8 (i := 0) (by decide)) (lt_nn qnc8 (i := 1) (by decide)) qfc11) (fun X1 (h1 : KC qkc10 X1) => ?_)
  refine st_zif (v := (1 : Int32)) OK1 (z_separation h1 (i := 0) (j := 2) (lt_nn qnc8 (i := 0) (by decide)) (lt_nn qnc8 (i := 2) (by decide)) qfc12) (fun X2 (h2 : KC qkc10 X2) => ?_)
  refine st_zif (v := (-1 : Int32)) OK1 (z_separation h2 (i := 0) (j := 3) (lt_nn qnc8 (i := 0) (by decide)) (lt_nn qnc8 (i := 3) (by decide)) qfc13) (fun X3 (h3 : KC qkc10 X3) => ?_)
  refine st_zif (v := (2 : Int32)) OK1 (z_separation h3 (i := 3) (j := 4) (lt_nn qnc8 (i := 3) (by decide)) (lt_nn qnc8 (i := 4) (by decide)) qfc14) (fun X4 (h4 : KC qkc10 X4) => ?_)
  refine st_zif (v := (0 : Int32)) OK1 (z_separation h4 (i := 1) (j := 4) (lt_nn qnc8 (i := 1) (by decide)) (lt_nn qnc8 (i := 4) (by decide)) qfc15) (fun X5 (h5 : KC qkc10 X5) => ?_)
  refine st_zif (v := (-99 : Int32)) OK1 (z_separation h5 (i := 1) (j := 2) (lt_nn qnc8 (i := 1) (by decide)) (lt_nn qnc8 (i := 2) (by decide)) qfc16) (fun X6 (h6 : KC qkc10 X6) => ?_)
  refine st_zif (v := (-1 : Int32)) OK1 (z_separation h6 (i := 1) (j := 3) (lt_nn qnc8 (i := 1) (by decide)) (lt_nn qnc8 (i := 3) (by decide)) qfc17) (fun X7 (h7 : KC qkc10 X7) => ?_)
  refine st_zif (v := (1 : Int32)) OK1 (z_separation h7 (i := 0) (j := 4) (lt_nn qnc8 (i := 0) (by decide)) (lt_nn qnc8 (i := 4) (by decide)) qfc18) (fun X8 (h8 : KC qkc10 X8) => ?_)
  exact g_cells_L195 h8
theorem ok_cells {μ : Mem} : OK1 (fL_cells μ) := by
  unfold fL_cells
  rw [show (-3 : Int32) = ic (-3) from rfl]
  refine st_zif (v := (0 : Int32)) OK1 (z_setRegister qstartc (n := 1) (by decide) (v := (-3)) (by decide) qfc1 (S' := qsc1) (agb_of qfc0) qwc1) (fun X1 (h1 : KC qkc3 X1) => ?_)
  refine st_zif (v := (0 : Int32)) OK1 (z_setRegister h1 (n := 2) (by decide) (v := 40) (by decide) qfc3 (S' := qsc2) (agb_of qfc2) qwc2) (fun X2 (h2 : KC qkc4 X2) => ?_)
  refine st_zif (v := (0 : Int32)) OK1 (z_setCell h2 (n := 9) (by decide) (v := 8) (by decide) qfc5 (S' := qsc3) (agb_of qfc4) qwc3) (fun X3 (h3 : KC qkc5 X3) => ?_)
  refine st_zif (v := (1 : Int32)) OK1 (z_insert h3 (n := 0) (k := 6) (x := 0) (y := 1) (z := 2) (v := 0) qnc3 (by decide) (by decide) (by decide) (by decide) (by decide) (by decide) (by decide) (S' := qsc4) (agb_of qfc6) qwc4) (fun X4 (h4 : KC qkc6 X4) => ?_)
  refine st_zif (v := (2 : Int32)) OK1 (z_insert h4 (n := 1) (k := 5) (x := 3) (y := 1) (z := 0) (v := 1) qnc4 (by decide) (by decide) (by decide) (by decide) (by decide) (by decide) (by decide) (S' := qsc5) (agb_of qfc7) qwc5) (fun X5 (h5 : KC qkc7 X5) => ?_)
  refine st_zif (v := (3 : Int32)) OK1 (z_insert h5 (n := 2) (k := 5) (x := 4) (y := 1) (z := 0) (v := 12) qnc5 (by decide) (by decide) (by decide) (by decide) (by decide) (by decide) (by decide) (S' := qsc6) (agb_of qfc8) qwc6) (fun X6 (h6 : KC qkc8 X6) => ?_)
  rw [show (-1 : Int32) = ic (-1) from rfl]
  refine st_zif (v := (4 : Int32)) OK1 (z_insert h6 (n := 3) (k := 5) (x := 1) (y := 1) (z := 0) (v := (-1)) qnc6 (by decide) (by decide) (by decide) (by decide) (by decide) (by decide) (by decide) (S' := qsc7) (agb_of qfc9) qwc7) (fun X7 (h7 : KC qkc9 X7) => ?_)
  refine st_zif (v := (5 : Int32)) OK1 (z_insert h7 (n := 4) (k := 6) (x := 0) (y := 1) (z := 4) (v := 1) qnc7 (by decide) (by decide) (by decide) (by decide) (by decide) (by decide) (by decide) (S' := qsc8) (agb_of qfc10) qwc8) (fun X8 (h8 : KC qkc10 X8) => ?_)
  exact g_cells_L112 h8
