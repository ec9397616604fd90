def qsb0 : Nat → Int := SN 107839786706265169593911148206435629804202279104238053496864565624832
theorem qwb0 : WF qsb0 := wf_sn (by decide +kernel)
theorem qnb0 : nn qsb0 = 0 := by decide +kernel
def qkb1 : Cf := (qsb0, (fun _ _ => 0), 0, false, (fun _ => 0), (fun _ => 0), 0)
def qkb2 : Cf := ct qkb1 []
theorem qstartb : KC qkb2 μ0X := kc_start (by decide +kernel) qwb0
def qpb0 (b : Nat) : List Int := match b with
  | _ => []
theorem qfb1 : ∀ k, k < nn qsb0 → pkS qsb0 k = lf (qpb0 0) k := pks_is qwb0 (L := qpb0) (c := 0) (by decide +kernel) (fun b hb => absurd hb (Nat.not_lt_zero b)) (by decide +kernel)
theorem qfb4 : mxm (pkS qsb0) (nn qsb0) + 1 = 0 := by rw [mpk_is qfb1]; decide +kernel
theorem qfb5 : agb (pckS qsb0 (lf (qpb0 0))) qsb0 = true := by decide +kernel
def qkb3 : Cf := nx qkb2 qsb0
theorem qfb6 : mxm (bu qsb0) (nn qsb0) + 1 = 0 := by decide +kernel
theorem qfb7 : whyS qsb0 = 0 := by decide +kernel
theorem qfb8 : wheS qsb0 = (-1) := by decide +kernel
theorem qfb9 : fsh qsb0 = (0 : UInt64) := by decide +kernel
theorem qfb10 : VB qsb0 205 = (tm qsb0 (bu qsb0) 1 1 (V0 qsb0) 0).1 := vb_is (by decide +kernel) (by decide)
theorem qfb11 : agr qsb0 = true := by unfold agr; rw [qfb10]; decide +kernel
theorem qfb12 : ub qsb0 3 = 1 := by decide +kernel
theorem qfb13 : LB qsb0 = 1 := lb_1 qwb0 (pot_is (l := []) (by decide +kernel))
theorem qfb14 : BT qsb0 = 2 := bt_is (k := 2) qwb0 qfb13 (by decide +kernel) (by decide +kernel) (by decide +kernel)
theorem qfb15 : ((BT qsb0 : Nat) : Int) - 1 - qsb0 1 = 0 := by rw [qfb14]; decide +kernel
theorem qfb16 : ∀ j, j < nn qsb0 → PLS qsb0 j = lf [] j := pls_is qfb14 (by decide +kernel)
theorem qfb17 : ovl qsb0 = 0 := by rw [ovl_is qfb14 qfb16]; decide +kernel
theorem qfb18 : spn qsb0 20 = 0 := by rw [spn_is qfb14 qfb16]; decide +kernel
theorem qfb19 : ∀ i, i < nn qsb0 → hgt qsb0 i = lf [] i := hgt_is (by decide +kernel)
theorem qfb20 : mx0 (hgt qsb0) (nn qsb0) = 0 := by rw [mxh_is qfb19]; decide +kernel
theorem qfb21 : typ (7006815124425892139 : Int64) 8 = [97, 61, 53, 59, 98, 61, 97, 43] := by decide +kernel
def qkb4 : Cf := ct qkb3 [97, 61, 53, 59, 98, 61, 97, 43]
theorem qfb22 : typ (7006302760596038203 : Int64) 8 = [97, 59, 99, 61, 98, 42, 98, 59] := by decide +kernel
def qkb5 : Cf := ct qkb3 [97, 61, 53, 59, 98, 61, 97, 43, 97, 59, 99, 61, 98, 42, 98, 59]
theorem qfb23 : typ (6584591616915104571 : Int64) 8 = [91, 97, 43, 48, 93, 61, 99, 59] := by decide +kernel
def qkb6 : Cf := ct qkb3 [97, 61, 53, 59, 98, 61, 97, 43, 97, 59, 99, 61, 98, 42, 98, 59, 91, 97, 43, 48, 93, 61, 99, 59]
theorem qfb24 : typ (28214960352604253 : Int64) 8 = [100, 61, 91, 97, 43, 48, 93] := by decide +kernel
def qkb7 : Cf := ct qkb3 [97, 61, 53, 59, 98, 61, 97, 43, 97, 59, 99, 61, 98, 42, 98, 59, 91, 97, 43, 48, 93, 61, 99, 59, 100, 61, 91, 97, 43, 48, 93]
def qspb0 (k : Nat) : Nat := match k with
  | 0 => 0
  | 1 => 4
  | 2 => 10
  | 3 => 16
  | 4 => 24
  | _ => 32
def qcsb0 (k : Nat) : Nat → Int := match k with
  | 0 => tl5 0 0 0 0 5
  | 1 => tl5 1 1 0 0 0
  | 2 => tl5 3 2 1 1 0
  | 3 => tl5 6 0 0 2 0
  | 4 => tl5 5 3 0 0 0
  | _ => tl5 0 0 0 0 0
theorem qwsb0 : WS (tl [97, 61, 53, 59, 98, 61, 97, 43, 97, 59, 99, 61, 98, 42, 98, 59, 91, 97, 43, 48, 93, 61, 99, 59, 100, 61, 91, 97, 43, 48, 93]) 5 qspb0 qcsb0 := ⟨rfl, fun k hk => by
  rcases (show k = 0 ∨ k = 1 ∨ k = 2 ∨ k = 3 ∨ k = 4 by omega) with rfl | rfl | rfl | rfl | rfl
  · exact ⟨Or.inr (Or.inr (Or.inl ⟨1, 5, by decide +kernel, by decide +kernel, Or.inl ⟨by unfold Nu; decide +kernel, rfl, rfl⟩⟩)), by decide, ns_of (by decide +kernel), by decide +kernel⟩
  · exact ⟨Or.inr (Or.inr (Or.inr ⟨1, by decide +kernel, by decide +kernel, by decide +kernel, by unfold opk; decide +kernel, by decide +kernel, rfl, rfl⟩)), by decide, ns_of (by decide +kernel), by decide +kernel⟩
  · exact ⟨Or.inr (Or.inr (Or.inr ⟨3, by decide +kernel, by decide +kernel, by decide +kernel, by unfold opk; decide +kernel, by decide +kernel, rfl, rfl⟩)), by decide, ns_of (by decide +kernel), by decide +kernel⟩
  · exact ⟨Or.inl ⟨1, 0, by decide +kernel, by decide +kernel, by decide +kernel, by unfold Nu; decide +kernel, by decide +kernel, by decide +kernel, by decide +kernel, by decide +kernel, rfl, rfl⟩, by decide, ns_of (by decide +kernel), by decide +kernel⟩
  · exact ⟨Or.inr (Or.inl ⟨1, 0, by decide +kernel, by decide +kernel, by decide +kernel, by decide +kernel, by decide +kernel, by unfold Nu; decide +kernel, by decide +kernel, by decide +kernel, rfl, rfl⟩), by decide, ns_of (by decide +kernel), by decide +kernel⟩⟩
theorem qfb25 : whole (tl [97, 61, 53, 59, 98, 61, 97, 43, 97, 59, 99, 61, 98, 42, 98, 59, 91, 97, 43, 48, 93, 61, 99, 59, 100, 61, 91, 97, 43, 48, 93]) 31 = true := by decide +kernel
def qsb1 : Nat → Int := SN 407897962615157369808412540087403635895157812033694462460940538594218811976237596662795283325701030864687199910572410938831584425772038523682954988744608994923864837285726567701567645484482447618451584623451660680318885858235103412588520783562418641323924843133188091098094290307094102842649440692003030698190570084445372766595677252436785292572944842651192826189907354055236427113224403861867908842393993244881470952517148369809652781297827257986801255349192655649604977640698901020595031677346836261512464532737602046353013699781781538838043403689517060035789240522357845784291161669642
theorem qwb1 : WF qsb1 := wf_sn (by decide +kernel)
theorem qnb1 : nn qsb1 = 5 := by decide +kernel
theorem qfb26 : agb (addS qsb0 (qcsb0) 5) qsb1 = true := by decide +kernel
def qkb8 : Cf := nx qkb7 qsb1
def qkb9 : Cf := ct qkb8 []
def qkb10 : Cf := ct qkb8 []
theorem qfb27 : nearT qsb1 0 1 = 1 := by decide +kernel
theorem qfb28 : nearT qsb1 1 2 = 1 := by decide +kernel
theorem qfb29 : nearT qsb1 2 3 = 3 := by decide +kernel
theorem qfb30 : nearT qsb1 0 3 = 1 := by decide +kernel
theorem qfb31 : nearT qsb1 3 4 = 1 := by decide +kernel
theorem qfb32 : nearT qsb1 0 4 = 1 := by decide +kernel
theorem qfb33 : nearT qsb1 0 2 = (-99) := by decide +kernel
theorem qfb34 : nearT qsb1 2 4 = (-99) := by decide +kernel
theorem qfb35 : nearT qsb1 4 3 = (-99) := by decide +kernel
theorem qfb36 : nearT qsb1 3 3 = (-99) := by decide +kernel
theorem qfb37 : over qsb1 1 0 = 0 := by decide +kernel
theorem qfb38 : over qsb1 3 0 = 0 := by decide +kernel
theorem qfb39 : over qsb1 3 2 = (-2) := by decide +kernel
theorem qfb40 : over qsb1 0 1 = (-99) := by decide +kernel
theorem qfb41 : over qsb1 4 4 = 1 := by decide +kernel
theorem qfb42 : over qsb1 3 3 = 1 := by decide +kernel
theorem qfb43 : over qsb1 3 4 = 1 := by decide +kernel
theorem qfb44 : over qsb1 4 3 = 0 := by decide +kernel
theorem qfb45 : rd qsb1 3 = (5 : Int32) := by decide +kernel
theorem qfb46 : wr qsb1 3 = (-1) := by decide +kernel
theorem qfb47 : rd qsb1 0 = (0 : Int32) := by decide +kernel
theorem qfb48 : whyS qsb1 = 1 := by decide +kernel
theorem qfb49 : wheS qsb1 = 0 := by decide +kernel
theorem qfb50 : VB qsb1 205 = (tm qsb1 (bu qsb1) 1 1 (V0 qsb1) 3).1 := vb_is (by decide +kernel) (by decide)
theorem qfb51 : agr qsb1 = false := by unfold agr; rw [qfb50]; decide +kernel
def qpb1 (b : Nat) : List Int := match b with
  | 0 => [(-1), (-1), (-1), (-1), (-1)]
  | 1 => [0, (-1), (-1), (-1), (-1)]
  | 2 => [0, 1, (-1), (-1), (-1)]
  | 3 => [0, 1, 2, (-1), (-1)]
  | 4 => [0, 1, 2, (-1), (-1)]
  | 5 => [0, 1, 2, (-1), (-1)]
  | 6 => [0, 1, 2, 5, (-1)]
  | _ => [0, 1, 2, 5, 6]
theorem qpb1_0 : (List.range (nn qsb1)).all (fun k => decide (fil qsb1 (0 : Nat) (nn qsb1) (lf (qpb1 0)) k = lf (qpb1 (0 + 1)) k)) = true := by decide +kernel
theorem qpb1_1 : (List.range (nn qsb1)).all (fun k => decide (fil qsb1 (1 : Nat) (nn qsb1) (lf (qpb1 1)) k = lf (qpb1 (1 + 1)) k)) = true := by decide +kernel
theorem qpb1_2 : (List.range (nn qsb1)).all (fun k => decide (fil qsb1 (2 : Nat) (nn qsb1) (lf (qpb1 2)) k = lf (qpb1 (2 + 1)) k)) = true := by decide +kernel
theorem qpb1_3 : (List.range (nn qsb1)).all (fun k => decide (fil qsb1 (3 : Nat) (nn qsb1) (lf (qpb1 3)) k = lf (qpb1 (3 + 1)) k)) = true := by decide +kernel
theorem qpb1_4 : (List.range (nn qsb1)).all (fun k => decide (fil qsb1 (4 : Nat) (nn qsb1) (lf (qpb1 4)) k = lf (qpb1 (4 + 1)) k)) = true := by decide +kernel
theorem qpb1_5 : (List.range (nn qsb1)).all (fun k => decide (fil qsb1 (5 : Nat) (nn qsb1) (lf (qpb1 5)) k = lf (qpb1 (5 + 1)) k)) = true := by decide +kernel
theorem qpb1_6 : (List.range (nn qsb1)).all (fun k => decide (fil qsb1 (6 : Nat) (nn qsb1) (lf (qpb1 6)) k = lf (qpb1 (6 + 1)) k)) = true := by decide +kernel
theorem qfb53 : ∀ k, k < nn qsb1 → pkS qsb1 k = lf (qpb1 7) k := pks_is qwb1 (L := qpb1) (c := 7) (by decide +kernel) (fun b hb => by
  rcases (show b = 0 ∨ b = 1 ∨ b = 2 ∨ b = 3 ∨ b = 4 ∨ b = 5 ∨ b = 6 by omega) with rfl | rfl | rfl | rfl | rfl | rfl | rfl
  · exact qpb1_0
  · exact qpb1_1
  · exact qpb1_2
  · exact qpb1_3
  · exact qpb1_4
  · exact qpb1_5
  · exact qpb1_6) (by decide +kernel)
theorem qfb56 : mxm (pkS qsb1) (nn qsb1) + 1 = 7 := by rw [mpk_is qfb53]; decide +kernel
theorem qfb57 : mxm (bu qsb1) (nn qsb1) + 1 = 0 := by decide +kernel
def qkb11 : Cf := kpC qkb10
def qsb2 : Nat → Int := SN 4894775551381888437700950481048843630662779255497236798812519035295809456324330948639163706995450134473878593326773190063216468654238632808128293815694899631345904978393470063708107899633579966509984226156630915480751341811332460092976070264055008898266519544708723120836405175100546004976062891897097403043268620858546803120511845849533275878766423274392357938822665893349184988322869799411250517495156270260972144820091514737623136501841187478464840497189134191636470105055234088577601161080153756304101913690468801664616296664320607846522567569248035303330383154700326142685958908149770
theorem qwb2 : WF qsb2 := wf_sn (by decide +kernel)
theorem qnb2 : nn qsb2 = 5 := by decide +kernel
theorem qfb58 : agb (pckS qsb1 (lf (qpb1 7))) qsb2 = true := by decide +kernel
def qkb12 : Cf := nx qkb11 qsb2
theorem qfb59 : ∀ i, i < nn qsb2 → hgt qsb2 i = lf [8, 7, 6, 3, 2] i := hgt_is (by decide +kernel)
theorem qfb60 : ∀ i, i < nn qsb2 → ear qsb2 i = lf [0, 1, 2, 5, 6] i := ear_is (by decide +kernel)
theorem qfb61 : LB qsb2 = 6 := lb_mk qwb2 (by decide) (pot_is (l := [0, 1, 2, 5, 6]) (by decide +kernel)) (fun ⟨p, h⟩ => by
  have h0 := pot_arc h (i := 0) (j := 1) (w := 1) (lt_nn qnb2 (by decide)) (lt_nn qnb2 (by decide)) (by decide +kernel) (by decide)
  have h1 := pot_arc h (i := 1) (j := 2) (w := 1) (lt_nn qnb2 (by decide)) (lt_nn qnb2 (by decide)) (by decide +kernel) (by decide)
  have h2 := pot_arc h (i := 2) (j := 3) (w := 3) (lt_nn qnb2 (by decide)) (lt_nn qnb2 (by decide)) (by decide +kernel) (by decide)
  have h3 := pot_arc h (i := 3) (j := 4) (w := 1) (lt_nn qnb2 (by decide)) (lt_nn qnb2 (by decide)) (by decide +kernel) (by decide)
  have h4 := pot_arc h (i := 4) (j := 0) (w := (-5)) (lt_nn qnb2 (by decide)) (lt_nn qnb2 (by decide)) (by decide +kernel) (by decide)
  omega)
theorem qfb62 : BT qsb2 = 6 := bt_is (k := 6) qwb2 qfb61 (by decide +kernel) (by decide +kernel) (by decide +kernel)
theorem qfb63 : ∀ j, j < nn qsb2 → PLS qsb2 j = lf [0, 1, 2, 5, 6] j := pls_is qfb62 (by decide +kernel)
theorem qfb64 : la qsb2 0 = 1 := by decide +kernel
theorem qfb65 : bu qsb2 0 = 0 := by decide +kernel
theorem qfb66 : la qsb2 1 = 1 := by decide +kernel
theorem qfb67 : bu qsb2 1 = 1 := by decide +kernel
theorem qfb68 : la qsb2 2 = 3 := by decide +kernel
theorem qfb69 : bu qsb2 2 = 2 := by decide +kernel
theorem qfb70 : la qsb2 3 = 1 := by decide +kernel
theorem qfb71 : bu qsb2 3 = 5 := by decide +kernel
theorem qfb72 : la qsb2 4 = 2 := by decide +kernel
theorem qfb73 : bu qsb2 4 = 6 := by decide +kernel
theorem qfb74 : mx0 (hgt qsb2) (nn qsb2) = 8 := by rw [mxh_is qfb59]; decide +kernel
theorem qfb75 : whyS qsb2 = 0 := by decide +kernel
theorem qfb76 : VB qsb2 205 = (tm qsb2 (bu qsb2) 1 1 (V0 qsb2) 9).1 := vb_is (by decide +kernel) (by decide)
theorem qfb77 : agr qsb2 = true := by unfold agr; rw [qfb76]; decide +kernel
theorem qfb78 : fsh qsb2 = (4595601734043921847 : UInt64) := by decide +kernel
theorem qfb79 : setS qsb2 5 (nn qsb2) = (8 : Int32) := by decide +kernel
theorem qfb80 : setS qsb2 3 (nn qsb2) = (0 : Int32) := by decide +kernel
theorem qfb81 : ord qsb2 1 (V0 qsb2) 2 = (100 : Int32) := by decide +kernel
theorem qfb82 : VB qsb2 205 3 = (100 : Int32) := by rw [qfb76]; decide +kernel
theorem qfb83 : VB qsb2 205 (12 + 5) = (100 : Int32) := by rw [qfb76]; decide +kernel
theorem qfb84 : ord qsb2 1 (V0 qsb2) (12 + 5) = (100 : Int32) := by decide +kernel
theorem qfb85 : VB qsb2 0 0 = (0 : Int32) := by unfold VB; decide +kernel
theorem qfb86 : VB qsb2 1 0 = (5 : Int32) := by unfold VB; decide +kernel
theorem qfb87 : VB qsb2 4 2 = (0 : Int32) := by unfold VB; decide +kernel
theorem qfb88 : VB qsb2 5 2 = (100 : Int32) := by unfold VB; decide +kernel
theorem qfb89 : VB qsb2 7 3 = (0 : Int32) := by unfold VB; decide +kernel
theorem qfb90 : VB qsb2 8 3 = (100 : Int32) := by unfold VB; decide +kernel
theorem qfb91 : ub qsb2 3 = 2 := by decide +kernel
theorem qfb92 : ((BT qsb2 : Nat) : Int) - 1 - qsb2 1 = 4 := by rw [qfb62]; decide +kernel
theorem qfb93 : ovl qsb2 = 2 := by rw [ovl_is qfb62 qfb63]; decide +kernel
theorem qfb94 : spn qsb2 3 = 19 := by rw [spn_is qfb62 qfb63]; decide +kernel
theorem qfb95 : spn qsb2 0 = 0 := by rw [spn_is qfb62 qfb63]; decide +kernel
theorem qfb96 : spn qsb2 2 = 13 := by rw [spn_is qfb62 qfb63]; decide +kernel
theorem qfb97 : VL qsb2 2 3 = (100 : Int32) := by rw [vl_is qfb62 qfb63 qfb96]; decide +kernel
theorem qfb98 : ord qsb2 2 (V0 qsb2) 3 = (100 : Int32) := by decide +kernel
theorem qfb99 : VL qsb2 0 0 = (0 : Int32) := by rw [vl_is qfb62 qfb63 qfb95]; decide +kernel
theorem qfb100 : spn qsb2 1 = 7 := by rw [spn_is qfb62 qfb63]; decide +kernel
theorem qfb101 : VL qsb2 1 (12 + 5) = (100 : Int32) := by rw [vl_is qfb62 qfb63 qfb100]; decide +kernel
def qsb3 : Nat → Int := SN 4894775551381888437700950481048843630662779255497236798812519035295809456324330948639163706995450134473878593326773169358790375117788747804480496299443769685962259320087009507030055954027766548389727142465637346634998023202816964169915265143057666019323528689852769585394108963220343310917655453580855404311626108286194366244667813622659683676133897019628629512931531179087402983428966164957517241623706245706662294216269971477363581819862362528423152380506344904160681015497849809849789771163232409942024367121525143770788930188446365503510130124241169056901461900233777795319470697218058
theorem qwb3 : WF qsb3 := wf_sn (by decide +kernel)
theorem qnb3 : nn qsb3 = 5 := by decide +kernel
theorem qfb102 : agb (updI qsb2 49 1) qsb3 = true := by decide +kernel
theorem qfb103 : qsb2 49 = 2 := by decide +kernel
def qkb13 : Cf := nx qkb12 qsb3
theorem qfb104 : whyS qsb3 = 3 := by decide +kernel
theorem qfb105 : wheS qsb3 = 2 := by decide +kernel
theorem qfb106 : VB qsb3 205 = (tm qsb3 (bu qsb3) 1 1 (V0 qsb3) 9).1 := vb_is (by decide +kernel) (by decide)
theorem qfb107 : agr qsb3 = false := by unfold agr; rw [qfb106]; decide +kernel
theorem qfb108 : VB qsb3 205 2 = (0 : Int32) := by rw [qfb106]; decide +kernel
theorem qfb109 : VB qsb3 205 (12 + 5) = (0 : Int32) := by rw [qfb106]; decide +kernel
theorem qfb110 : bu qsb3 4 = 6 := by decide +kernel
def qsb4 : Nat → Int := SN 407897962615157369808412540087403635895157812033694462461525375644547465139437469387801146945704947052390563105993573497972231266579104117209042557276166576062465865874271735944610698737497653430635414628879105806376349545385662395064103623333430026427278088974812605371609449562024307218614525164796033299040003180678157046161843526356714409153660687324573471680099882814142336023390844589722230797615824882456427694940575219201786873948035612614985209395708902282828836308110846424146673365547136840527205113761373654959994705459683856184277609164632263891629702447726789033378124398602
theorem qwb4 : WF qsb4 := wf_sn (by decide +kernel)
theorem qnb4 : nn qsb4 = 5 := by decide +kernel
theorem qfb111 : agb (updI qsb3 61 (-1)) qsb4 = true := by decide +kernel
theorem qfb112 : qsb3 61 = 6 := by decide +kernel
def qkb14 : Cf := nx qkb13 qsb4
theorem qfb113 : bu qsb4 4 = (-1) := by decide +kernel
theorem qfb114 : whyS qsb4 = 1 := by decide +kernel
theorem qfb115 : wheS qsb4 = 4 := by decide +kernel
def qsb5 : Nat → Int := SN 6526367401842517916934600641398458174214641598574888557485607638805359271300655850185113728831721111718056058861602113308178791063683163690761024932959261725925820576164368696515672410496955237465760498042640343299951359078246528451679323877502842744013074362899299396311381513641550221353670336641240630134384691960927533225942711839497127045944892049557377164295688014095861400667357190545806336469557307824555336587662479207604234527467572315989758624546576177570809080657754887459114533998754327433477880578893787449272179454986977011628621947905364254359582699428705433968958905516042
theorem qwb5 : WF qsb5 := wf_sn (by decide +kernel)
theorem qnb5 : nn qsb5 = 5 := by decide +kernel
theorem qfb116 : agb (updI qsb4 61 8) qsb5 = true := by decide +kernel
theorem qfb117 : qsb4 61 = (-1) := by decide +kernel
def qkb15 : Cf := nx qkb14 qsb5
theorem qfb118 : bu qsb5 2 = 1 := by decide +kernel
def qsb6 : Nat → Int := SN 6526367401842517916934600641398458174214641598574888557485607638805359271300655850185113728831721111718056058861602134012604884600133048694408822449210391671309466234470829253193724356102768655586017581733633912145704677686762024374740128998500185622956065217755252931753677725521752915412077774957482628866027204533279970101786744066370719248577418304321105590186822728357643405561260824999539612341007332378865187191484022467863789209446397266031446741229365465046598170215139166186925923915675673795555427147837445343099545930861219354641059392912230500788503953895253781335447116447754
theorem qwb6 : WF qsb6 := wf_sn (by decide +kernel)
theorem qnb6 : nn qsb6 = 5 := by decide +kernel
theorem qfb119 : agb (updI qsb5 49 2) qsb6 = true := by decide +kernel
theorem qfb120 : qsb5 49 = 1 := by decide +kernel
def qkb16 : Cf := nx qkb15 qsb6
theorem qfb121 : whyS qsb6 = 0 := by decide +kernel
theorem qfb122 : mxm (bu qsb6) (nn qsb6) + 1 = 9 := by decide +kernel
theorem qfb123 : bu qsb6 1 = 1 := by decide +kernel
def qsb7 : Nat → Int := SN 6526367401842517916934600641398458174214641598574888557485607638805359271300655850185113728831721111718056058861602134012604884600133048694408822449210391671309466234470829249895318982677509047973891447472158810456342676662564216712115611480860186583637635095265547260877019139329916061669562465160488255904672089933023267028681297498707307007780119874810635967807138680680322778288943971686994762901713183306548951998631108523870519663570151894210595547079379569933971283109673567672382872104527327158374298259180987336953757551213518282546623904992405501144255387077311875928902674153482
theorem qwb7 : WF qsb7 := wf_sn (by decide +kernel)
theorem qnb7 : nn qsb7 = 5 := by decide +kernel
theorem qfb124 : agb (updI qsb6 43 0) qsb7 = true := by decide +kernel
theorem qfb125 : qsb6 43 = 1 := by decide +kernel
def qkb17 : Cf := nx qkb16 qsb7
theorem qfb126 : whyS qsb7 = 3 := by decide +kernel
theorem qfb127 : wheS qsb7 = 1 := by decide +kernel
def qsb8 : Nat → Int := SN 6526367401842517916934600641398458174214641598574888557485607638805359271300655850185113728831721111718056058861602134012604884600133048694408822449210391671309466234470829249895318982677509047973891447472158810456342676662564216712115611480860186583637635095265547260877019139329916061669562465160488255904672089933023267028681297498707307007780119874810635967807138680680322778288943971686994762901713183306548951998631108523870519663570151894210595547079379569933971283109673567672382872104527327158374298259180987336953757551213518282546623904992405501144255387077274982440755255050250
theorem qwb8 : WF qsb8 := wf_sn (by decide +kernel)
theorem qnb8 : nn qsb8 = 5 := by decide +kernel
theorem qfb128 : agb (updI qsb7 2 1) qsb8 = true := by decide +kernel
theorem qfb129 : qsb7 2 = 2 := by decide +kernel
def qkb18 : Cf := nx qkb17 qsb8
theorem qfb130 : whyS qsb8 = 2 := by decide +kernel
theorem qfb131 : wheS qsb8 = 0 := by decide +kernel
def qkb19 : Cf := nx qkb18 qsb1
theorem qfb132 : bu qsb1 0 = (-1) := by decide +kernel
def qsb9 : Nat → Int := SN 407897962615157369808412540087403635895157812033694462460940538594218811976237596662795283325701030864687199910572410938831584425772038523682954988744608994923864837285726567701567645484482447618451584623451660680318885858235103412588520783562418641323924843133188091098094290307094102842649440692003030698190570084445372766595677252436785292572944842651192826189907354055236427113224403861867908842393993244881470952517148369809652781297827257986801255349192655649604977640698901020595031677346836261512464532737602046353013699819444149250363488272531796575035239018971978451075368747018
theorem qwb9 : WF qsb9 := wf_sn (by decide +kernel)
theorem qnb9 : nn qsb9 = 5 := by decide +kernel
theorem qfb133 : agb (updI qsb1 6 6) qsb9 = true := by decide +kernel
theorem qfb134 : qsb1 6 = 3 := by decide +kernel
def qkb20 : Cf := nx qkb19 qsb9
theorem qfb135 : nearT qsb9 2 3 = 6 := by decide +kernel
def qpb9 (b : Nat) : List Int := match b with
  | 0 => [(-1), (-1), (-1), (-1), (-1)]
  | 1 => [0, (-1), (-1), (-1), (-1)]
  | 2 => [0, 1, (-1), (-1), (-1)]
  | 3 => [0, 1, 2, (-1), (-1)]
  | 4 => [0, 1, 2, (-1), (-1)]
  | 5 => [0, 1, 2, (-1), (-1)]
  | 6 => [0, 1, 2, (-1), (-1)]
  | 7 => [0, 1, 2, (-1), (-1)]
  | 8 => [0, 1, 2, (-1), (-1)]
  | 9 => [0, 1, 2, 8, (-1)]
  | _ => [0, 1, 2, 8, 9]
theorem qpb9_0 : (List.range (nn qsb9)).all (fun k => decide (fil qsb9 (0 : Nat) (nn qsb9) (lf (qpb9 0)) k = lf (qpb9 (0 + 1)) k)) = true := by decide +kernel
theorem qpb9_1 : (List.range (nn qsb9)).all (fun k => decide (fil qsb9 (1 : Nat) (nn qsb9) (lf (qpb9 1)) k = lf (qpb9 (1 + 1)) k)) = true := by decide +kernel
theorem qpb9_2 : (List.range (nn qsb9)).all (fun k => decide (fil qsb9 (2 : Nat) (nn qsb9) (lf (qpb9 2)) k = lf (qpb9 (2 + 1)) k)) = true := by decide +kernel
theorem qpb9_3 : (List.range (nn qsb9)).all (fun k => decide (fil qsb9 (3 : Nat) (nn qsb9) (lf (qpb9 3)) k = lf (qpb9 (3 + 1)) k)) = true := by decide +kernel
theorem qpb9_4 : (List.range (nn qsb9)).all (fun k => decide (fil qsb9 (4 : Nat) (nn qsb9) (lf (qpb9 4)) k = lf (qpb9 (4 + 1)) k)) = true := by decide +kernel
theorem qpb9_5 : (List.range (nn qsb9)).all (fun k => decide (fil qsb9 (5 : Nat) (nn qsb9) (lf (qpb9 5)) k = lf (qpb9 (5 + 1)) k)) = true := by decide +kernel
theorem qpb9_6 : (List.range (nn qsb9)).all (fun k => decide (fil qsb9 (6 : Nat) (nn qsb9) (lf (qpb9 6)) k = lf (qpb9 (6 + 1)) k)) = true := by decide +kernel
theorem qpb9_7 : (List.range (nn qsb9)).all (fun k => decide (fil qsb9 (7 : Nat) (nn qsb9) (lf (qpb9 7)) k = lf (qpb9 (7 + 1)) k)) = true := by decide +kernel
theorem qpb9_8 : (List.range (nn qsb9)).all (fun k => decide (fil qsb9 (8 : Nat) (nn qsb9) (lf (qpb9 8)) k = lf (qpb9 (8 + 1)) k)) = true := by decide +kernel
theorem qpb9_9 : (List.range (nn qsb9)).all (fun k => decide (fil qsb9 (9 : Nat) (nn qsb9) (lf (qpb9 9)) k = lf (qpb9 (9 + 1)) k)) = true := by decide +kernel
theorem qfb137 : ∀ k, k < nn qsb9 → pkS qsb9 k = lf (qpb9 10) k := pks_is qwb9 (L := qpb9) (c := 10) (by decide +kernel) (fun b hb => by
  rcases (show b = 0 ∨ b = 1 ∨ b = 2 ∨ b = 3 ∨ b = 4 ∨ b = 5 ∨ b = 6 ∨ b = 7 ∨ b = 8 ∨ b = 9 by omega) with rfl | rfl | rfl | rfl | rfl | rfl | rfl | rfl | rfl | rfl
  · exact qpb9_0
  · exact qpb9_1
  · exact qpb9_2
  · exact qpb9_3
  · exact qpb9_4
  · exact qpb9_5
  · exact qpb9_6
  · exact qpb9_7
  · exact qpb9_8
  · exact qpb9_9) (by decide +kernel)
theorem qfb140 : mxm (pkS qsb9) (nn qsb9) + 1 = 10 := by rw [mpk_is qfb137]; decide +kernel
def qsb10 : Nat → Int := SN 407897963564868821616303954142102272846815285676337646015188300199877978512524742591793303280225661824459302525404206827181233703744569185679380147743328409671863992267252129579675717788257965645456653503541904335279585800664823078743798699669035744810106579133872045257776298317085895199248891628245143988285812726390710891981994022830196175226661423791619327331795991313433903569116051167232137981894114968584356380314781516224502500487897323844414692973021738146146770715194176084594353025822983936006780007503094372038242854609790239793102726195401619265585590402112255594258474467338
theorem qwb10 : WF qsb10 := wf_sn (by decide +kernel)
theorem qnb10 : nn qsb10 = 5 := by decide +kernel
theorem qfb141 : agb (swpS qsb9 0 4) qsb10 = true := by decide +kernel
theorem qfb142 : nearT qsb10 0 4 = 0 := by decide +kernel
def qkb21 : Cf := nx qkb20 qsb10
theorem qfb143 : kd qsb10 0 = 5 := by decide +kernel
theorem qfb144 : kd qsb10 4 = 0 := by decide +kernel
theorem qfb145 : agb (swpS qsb10 2 2) qsb10 = true := by decide +kernel
theorem qfb146 : nearT qsb10 2 2 = (-99) := by decide +kernel
def qkb22 : Cf := nx qkb21 qsb10
def qsb11 : Nat → Int := SN 407897963564868821616303954142102272846815285676337646015188300200029276275689152847760531948463990640569828532226130277407201796779478129477336888921060701531957438163815106281319918370107186221593974744295626891840104336831823377252911206380614378847617779718282648270149956205696376728273379209700319460372056013644469227186207210541331124789587693933296181049711205471845332349297513040135016069431862990390410672792754402580200346319871329694545059142550402364638445327333944765486943259022440004301538765471101214473058103721215741860592396069817452517451872529708006705103877701640
theorem qwb11 : WF qsb11 := wf_sn (by decide +kernel)
theorem qnb11 : nn qsb11 = 4 := by decide +kernel
theorem qfb147 : agb (remS qsb10 0) qsb11 = true := by decide +kernel
def qkb23 : Cf := nx qkb22 qsb11
theorem qfb148 : kd qsb11 0 = 1 := by decide +kernel
def qkb24 : Cf := cfS qkb23 qsb10 (Cf.HS qkb23) 4
theorem g_bundles_L1135 {X : Mem} (h : KC qkb24 X) : OK1 (fL_bundles_L1135 X) := by
  unfold fL_bundles_L1135
  refine st_b0 OK1 ok_cells ?_
  refine st_b0 OK1 ok_loops ?_
  refine st_b0 OK1 ok_limits ?_
  exact ⟨_, rfl⟩
theorem g_bundles_L1031 {X : Mem} (h : KC qkb19 X) : OK1 (fL_bundles_L1031 X) := by
  unfold fL_bundles_L1031
  refine st_zif (v := (3 : Int32)) OK1 (z_setLatency h (n := 1) (by decide) (v := 6) (by decide) qfb134 (S' := qsb9) (agb_of qfb133) qwb9) (fun X1 (h1 : KC qkb20 X1) => ?_)
  refine st_zif (v := (6 : Int32)) OK1 (z_separation h1 (i := 2) (j := 3) (lt_nn qnb9 (i := 2) (by decide)) (lt_nn qnb9 (i := 3) (by decide)) qfb135) (fun X2 (h2 : KC qkb20 X2) => ?_)
  refine st_bif (v := (10 : Int32)) OK1 (z_wouldPack h2 qfb140) (fun X3 (h3 : KC qkb20 X3) => ?_)
  refine st_zif (v := (0 : Int32)) OK1 (z_exchange h3 (n := 0) (m := 4) (lt_nn qnb9 (i := 0) (by decide)) (lt_nn qnb9 (i := 4) (by decide)) (S' := qsb10) (agb_of qfb141) qwb10 qfb142) (fun X4 (h4 : KC qkb21 X4) => ?_)
  refine st_zif (v := (5 : Int32)) OK1 (z_kindOf h4 (i := 0) (lt_nn qnb10 (i := 0) (by decide)) qfb143) (fun X5 (h5 : KC qkb21 X5) => ?_)
  refine st_zif (v := (0 : Int32)) OK1 (z_kindOf h5 (i := 4) (lt_nn qnb10 (i := 4) (by decide)) qfb144) (fun X6 (h6 : KC qkb21 X6) => ?_)
  refine st_zif (v := (-99 : Int32)) OK1 (z_exchange h6 (n := 2) (m := 2) (lt_nn qnb10 (i := 2) (by decide)) (lt_nn qnb10 (i := 2) (by decide)) (S' := qsb10) (agb_of qfb145) qwb10 qfb146) (fun X7 (h7 : KC qkb22 X7) => ?_)
  refine st_zif (v := (4 : Int32)) OK1 (z_remove h7 (n := 0) (lt_nn qnb10 (i := 0) (by decide)) (w := 4) qnb10 (S' := qsb11) (agb_of qfb147) qwb11) (fun X8 (h8 : KC qkb23 X8) => ?_)
  refine st_zif (v := (1 : Int32)) OK1 (z_kindOf h8 (i := 0) (lt_nn qnb11 (i := 0) (by decide)) qfb148) (fun X9 (h9 : KC qkb23 X9) => ?_)
  refine st_zif (v := (4 : Int32)) OK1 (z_undo h9 (M := 4) rfl) (fun X10 (h10 : KC qkb24 X10) => ?_)
  refine st_bif (v := (5 : Int32)) OK1 (z_steps h10 qnb10) (fun X11 (h11 : KC qkb24 X11) => ?_)
  exact g_bundles_L1135 h11
theorem g_bundles_L963 {X : Mem} (h : KC qkb16 X) : OK1 (fL_bundles_L963 X) := by
  unfold fL_bundles_L963
  refine st_zif (v := (1 : Int32)) OK1 (z_lay h (n := 1) (lt_nn qnb6 (i := 1) (by decide)) (v := 0) (by decide) qfb123 (S' := qsb7) (agb_of qfb124) qwb7) (fun X1 (h1 : KC qkb17 X1) => ?_)
  refine st_bif (v := (3 : Int32)) OK1 (z_whyWrong h1 qfb126) (fun X2 (h2 : KC qkb17 X2) => ?_)
  refine st_bif (v := (1 : Int32)) OK1 (z_wrongAt h2 qfb127) (fun X3 (h3 : KC qkb17 X3) => ?_)
  refine st_zif (v := (2 : Int32)) OK1 (z_setSlots h3 (n := 0) (by decide) (v := 1) (by decide) qfb129 (S' := qsb8) (agb_of qfb128) qwb8) (fun X4 (h4 : KC qkb18 X4) => ?_)
  refine st_bif (v := (2 : Int32)) OK1 (z_whyWrong h4 qfb130) (fun X5 (h5 : KC qkb18 X5) => ?_)
  refine st_bif (v := (0 : Int32)) OK1 (z_wrongAt h5 qfb131) (fun X6 (h6 : KC qkb18 X6) => ?_)
  refine st_zif (v := (5 : Int32)) OK1 (z_goBack h6 rfl qnb1) (fun X7 (h7 : KC qkb19 X7) => ?_)
  refine st_zif (v := (-1 : Int32)) OK1 (z_bundleOf h7 (i := 0) (lt_nn qnb1 (i := 0) (by decide)) qfb132) (fun X8 (h8 : KC qkb19 X8) => ?_)
  exact g_bundles_L1031 h8
theorem g_bundles_L884 {X : Mem} (h : KC qkb13 X) : OK1 (fL_bundles_L884 X) := by
  unfold fL_bundles_L884
  refine st_zif (v := (6 : Int32)) OK1 (z_takeOut h (n := 4) (lt_nn qnb3 (i := 4) (by decide)) (by decide) qfb110 (S' := qsb4) (agb_of qfb111) qwb4) (fun X1 (h1 : KC qkb14 X1) => ?_)
  refine st_bif (v := (-2013 : Int32)) OK1 (by rw [call_7]; exact clo_x (k := 3) (n_takeOut3 h1 (i := 4) (lt_nn qnb4 (i := 4) (by decide)) qfb113)) (fun X2 (h2 : KC qkb14 X2) => ?_)
  refine st_bif (v := (1 : Int32)) OK1 (z_whyWrong h2 qfb114) (fun X3 (h3 : KC qkb14 X3) => ?_)
  refine st_bif (v := (4 : Int32)) OK1 (z_wrongAt h3 qfb115) (fun X4 (h4 : KC qkb14 X4) => ?_)
  refine st_zif (v := (-1 : Int32)) OK1 (z_lay h4 (n := 4) (lt_nn qnb4 (i := 4) (by decide)) (v := 8) (by decide) qfb113 (S' := qsb5) (agb_of qfb116) qwb5) (fun X5 (h5 : KC qkb15 X5) => ?_)
  refine st_zif (v := (1 : Int32)) OK1 (z_lay h5 (n := 2) (lt_nn qnb5 (i := 2) (by decide)) (v := 2) (by decide) qfb118 (S' := qsb6) (agb_of qfb119) qwb6) (fun X6 (h6 : KC qkb16 X6) => ?_)
  refine st_bif (v := (0 : Int32)) OK1 (z_whyWrong h6 qfb121) (fun X7 (h7 : KC qkb16 X7) => ?_)
  refine st_bif (v := (9 : Int32)) OK1 (z_bundles h7 qfb122) (fun X8 (h8 : KC qkb16 X8) => ?_)
  exact g_bundles_L963 h8
theorem g_bundles_L835 {X : Mem} (h : KC qkb12 X) : OK1 (fL_bundles_L835 X) := by
  unfold fL_bundles_L835
  refine st_zif (v := (2 : Int32)) OK1 (z_lay h (n := 2) (lt_nn qnb2 (i := 2) (by decide)) (v := 1) (by decide) qfb69 (S' := qsb3) (agb_of qfb102) qwb3) (fun X1 (h1 : KC qkb13 X1) => ?_)
  refine st_bif (v := (3 : Int32)) OK1 (z_whyWrong h1 qfb104) (fun X2 (h2 : KC qkb13 X2) => ?_)
  refine st_bif (v := (2 : Int32)) OK1 (z_wrongAt h2 qfb105) (fun X3 (h3 : KC qkb13 X3) => ?_)
  refine st_bif (v := (0 : Int32)) OK1 (z_doesAgree h3 qfb107) (fun X4 (h4 : KC qkb13 X4) => ?_)
  refine st_zif (v := (0 : Int32)) OK1 (z_registerInBundles h4 (n := 2) (by decide) qfb108) (fun X5 (h5 : KC qkb13 X5) => ?_)
  refine st_zif (v := (0 : Int32)) OK1 (z_cellInBundles h5 (n := 5) (by decide) qfb109) (fun X6 (h6 : KC qkb13 X6) => ?_)
  exact g_bundles_L884 h6
theorem g_bundles_L742 {X : Mem} (h : KC qkb12 X) : OK1 (fL_bundles_L742 X) := by
  unfold fL_bundles_L742
  refine st_bif (v := (4 : Int32)) OK1 (z_jumpBundle h qfb92) (fun X1 (h1 : KC qkb12 X1) => ?_)
  refine st_bif (v := (2 : Int32)) OK1 (z_overlap h1 qfb93) (fun X2 (h2 : KC qkb12 X2) => ?_)
  refine st_zif (v := (19 : Int32)) OK1 (z_loopBundles h2 (r := 3) (by decide) qfb94) (fun X3 (h3 : KC qkb12 X3) => ?_)
  refine st_zif (v := (0 : Int32)) OK1 (z_loopBundles h3 (r := 0) (by decide) qfb95) (fun X4 (h4 : KC qkb12 X4) => ?_)
  refine st_zif (v := (100 : Int32)) OK1 (z_registerInLoop h4 (r := 2) (n := 3) (by decide) (by decide) qfb97) (fun X5 (h5 : KC qkb12 X5) => ?_)
  refine st_zif (v := (100 : Int32)) OK1 (z_registerInRounds h5 (r := 2) (n := 3) (by decide) (by decide) qfb98) (fun X6 (h6 : KC qkb12 X6) => ?_)
  refine st_zif (v := (0 : Int32)) OK1 (z_registerInLoop h6 (r := 0) (n := 0) (by decide) (by decide) qfb99) (fun X7 (h7 : KC qkb12 X7) => ?_)
  refine st_zif (v := (100 : Int32)) OK1 (z_cellInLoop h7 (r := 1) (n := 5) (by decide) (by decide) qfb101) (fun X8 (h8 : KC qkb12 X8) => ?_)
  refine st_bif (v := (3 : Int32)) OK1 (z_savedStates h8 (M := 3) rfl) (fun X9 (h9 : KC qkb12 X9) => ?_)
  refine st_bel (v := (1 : Int32)) OK1 (x_refused h9 rfl) (by decide) (fun X10 (h10 : KC qkb12 X10) => ?_)
  exact g_bundles_L835 h10
theorem g_bundles_L646 {X : Mem} (h : KC qkb12 X) : OK1 (fL_bundles_L646 X) := by
  unfold fL_bundles_L646
  refine st_zif (v := (0 : Int32)) OK1 (z_registerAt h (r := 0) (n := 0) (by decide) (by decide) qfb85) (fun X1 (h1 : KC qkb12 X1) => ?_)
  refine st_zif (v := (5 : Int32)) OK1 (z_registerAt h1 (r := 1) (n := 0) (by decide) (by decide) qfb86) (fun X2 (h2 : KC qkb12 X2) => ?_)
  refine st_zif (v := (0 : Int32)) OK1 (z_registerAt h2 (r := 4) (n := 2) (by decide) (by decide) qfb87) (fun X3 (h3 : KC qkb12 X3) => ?_)
  refine st_zif (v := (100 : Int32)) OK1 (z_registerAt h3 (r := 5) (n := 2) (by decide) (by decide) qfb88) (fun X4 (h4 : KC qkb12 X4) => ?_)
  refine st_zif (v := (0 : Int32)) OK1 (z_registerAt h4 (r := 7) (n := 3) (by decide) (by decide) qfb89) (fun X5 (h5 : KC qkb12 X5) => ?_)
  refine st_zif (v := (100 : Int32)) OK1 (z_registerAt h5 (r := 8) (n := 3) (by decide) (by decide) qfb90) (fun X6 (h6 : KC qkb12 X6) => ?_)
  refine st_bif (v := (2 : Int32)) OK1 (z_beatByUnits h6 qfb91) (fun X7 (h7 : KC qkb12 X7) => ?_)
  refine st_bif (v := (6 : Int32)) OK1 (z_beatByCircles h7 qfb61) (fun X8 (h8 : KC qkb12 X8) => ?_)
  refine st_bif (v := (6 : Int32)) OK1 (z_beatByRounds h8 qfb61) (fun X9 (h9 : KC qkb12 X9) => ?_)
  refine st_bif (v := (6 : Int32)) OK1 (z_beat h9 qfb62) (fun X10 (h10 : KC qkb12 X10) => ?_)
  exact g_bundles_L742 h10
theorem g_bundles_L465 {X : Mem} (h : KC qkb11 X) : OK1 (fL_bundles_L465 X) := by
  unfold fL_bundles_L465
  refine st_bif (v := (7 : Int32)) OK1 (z_pack h qfb56 (S' := qsb2) (pck_is qfb53 qfb58) qwb2) (fun X1 (h1 : KC qkb12 X1) => ?_)
  refine st_bel (v := (1 : Int32)) OK1 (x_is h1 (i := 0) (a := 1) (b := 8) (e := 0) (f := 0) (g := 0) (lt_nn qnb2 (i := 0) (by decide)) qfb64 ((qfb59 _ (lt_nn qnb2 (i := 0) (by decide))).trans (by decide)) ((qfb60 _ (lt_nn qnb2 (i := 0) (by decide))).trans (by decide)) qfb65 ((qfb63 _ (lt_nn qnb2 (i := 0) (by decide))).trans (by decide))) (by decide) (fun X2 (h2 : KC qkb12 X2) => ?_)
  refine st_bel (v := (1 : Int32)) OK1 (x_is h2 (i := 1) (a := 1) (b := 7) (e := 1) (f := 1) (g := 1) (lt_nn qnb2 (i := 1) (by decide)) qfb66 ((qfb59 _ (lt_nn qnb2 (i := 1) (by decide))).trans (by decide)) ((qfb60 _ (lt_nn qnb2 (i := 1) (by decide))).trans (by decide)) qfb67 ((qfb63 _ (lt_nn qnb2 (i := 1) (by decide))).trans (by decide))) (by decide) (fun X3 (h3 : KC qkb12 X3) => ?_)
  refine st_bel (v := (1 : Int32)) OK1 (x_is h3 (i := 2) (a := 3) (b := 6) (e := 2) (f := 2) (g := 2) (lt_nn qnb2 (i := 2) (by decide)) qfb68 ((qfb59 _ (lt_nn qnb2 (i := 2) (by decide))).trans (by decide)) ((qfb60 _ (lt_nn qnb2 (i := 2) (by decide))).trans (by decide)) qfb69 ((qfb63 _ (lt_nn qnb2 (i := 2) (by decide))).trans (by decide))) (by decide) (fun X4 (h4 : KC qkb12 X4) => ?_)
  refine st_bel (v := (1 : Int32)) OK1 (x_is h4 (i := 3) (a := 1) (b := 3) (e := 5) (f := 5) (g := 5) (lt_nn qnb2 (i := 3) (by decide)) qfb70 ((qfb59 _ (lt_nn qnb2 (i := 3) (by decide))).trans (by decide)) ((qfb60 _ (lt_nn qnb2 (i := 3) (by decide))).trans (by decide)) qfb71 ((qfb63 _ (lt_nn qnb2 (i := 3) (by decide))).trans (by decide))) (by decide) (fun X5 (h5 : KC qkb12 X5) => ?_)
  refine st_bel (v := (1 : Int32)) OK1 (x_is h5 (i := 4) (a := 2) (b := 2) (e := 6) (f := 6) (g := 6) (lt_nn qnb2 (i := 4) (by decide)) qfb72 ((qfb59 _ (lt_nn qnb2 (i := 4) (by decide))).trans (by decide)) ((qfb60 _ (lt_nn qnb2 (i := 4) (by decide))).trans (by decide)) qfb73 ((qfb63 _ (lt_nn qnb2 (i := 4) (by decide))).trans (by decide))) (by decide) (fun X6 (h6 : KC qkb12 X6) => ?_)
  refine st_bif (v := (8 : Int32)) OK1 (z_spanByHeights h6 qfb74) (fun X7 (h7 : KC qkb12 X7) => ?_)
  refine st_bif (v := (8 : Int32)) OK1 (z_spanByEarliest h7 qfb74) (fun X8 (h8 : KC qkb12 X8) => ?_)
  refine st_bif (v := (0 : Int32)) OK1 (z_whyWrong h8 qfb75) (fun X9 (h9 : KC qkb12 X9) => ?_)
  refine st_bel (v := (1 : Int32)) OK1 (z_doesAgree h9 qfb77) (by decide) (fun X10 (h10 : KC qkb12 X10) => ?_)
  refine st_bd OK1 (z_filledShare h10 qfb78) (fun X11 (h11 : KC qkb12 X11) => ?_)
  rw [if_pos (by decide +kernel)]
  refine st_zif (v := (8 : Int32)) OK1 (z_stepsIn h11 (v := 5) (by decide) qfb79) (fun X12 (h12 : KC qkb12 X12) => ?_)
  refine st_zif (v := (0 : Int32)) OK1 (z_stepsIn h12 (v := 3) (by decide) qfb80) (fun X13 (h13 : KC qkb12 X13) => ?_)
  refine st_zif (v := (100 : Int32)) OK1 (z_registerInOrder h13 (n := 2) (by decide) qfb81) (fun X14 (h14 : KC qkb12 X14) => ?_)
  refine st_zif (v := (100 : Int32)) OK1 (z_registerInBundles h14 (n := 3) (by decide) qfb82) (fun X15 (h15 : KC qkb12 X15) => ?_)
  refine st_zif (v := (100 : Int32)) OK1 (z_cellInBundles h15 (n := 5) (by decide) qfb83) (fun X16 (h16 : KC qkb12 X16) => ?_)
  refine st_zif (v := (100 : Int32)) OK1 (z_cellInOrder h16 (n := 5) (by decide) qfb84) (fun X17 (h17 : KC qkb12 X17) => ?_)
  exact g_bundles_L646 h17
theorem g_bundles_L384 {X : Mem} (h : KC qkb10 X) : OK1 (fL_bundles_L384 X) := by
  unfold fL_bundles_L384
  refine st_zif (v := (5 : Int32)) OK1 (z_readBy h (i := 3) (lt_nn qnb1 (i := 3) (by decide)) qfb45) (fun X1 (h1 : KC qkb10 X1) => ?_)
  refine st_zif (v := (-1 : Int32)) OK1 (z_writtenBy h1 (i := 3) (lt_nn qnb1 (i := 3) (by decide)) qfb46) (fun X2 (h2 : KC qkb10 X2) => ?_)
  refine st_zif (v := (0 : Int32)) OK1 (z_readBy h2 (i := 0) (lt_nn qnb1 (i := 0) (by decide)) qfb47) (fun X3 (h3 : KC qkb10 X3) => ?_)
  refine st_bif (v := (1 : Int32)) OK1 (z_whyWrong h3 qfb48) (fun X4 (h4 : KC qkb10 X4) => ?_)
  refine st_bif (v := (0 : Int32)) OK1 (z_wrongAt h4 qfb49) (fun X5 (h5 : KC qkb10 X5) => ?_)
  refine st_bif (v := (0 : Int32)) OK1 (z_doesAgree h5 qfb51) (fun X6 (h6 : KC qkb10 X6) => ?_)
  refine st_bif (v := (7 : Int32)) OK1 (z_wouldPack h6 qfb56) (fun X7 (h7 : KC qkb10 X7) => ?_)
  refine st_bif (v := (0 : Int32)) OK1 (z_bundles h7 qfb57) (fun X8 (h8 : KC qkb10 X8) => ?_)
  refine st_bif (v := (5 : Int32)) OK1 (z_keep h8 qnb1) (fun X9 (h9 : KC qkb11 X9) => ?_)
  refine st_bel (v := (1 : Int32)) OK1 (x_refused h9 rfl) (by decide) (fun X10 (h10 : KC qkb11 X10) => ?_)
  exact g_bundles_L465 h10
theorem g_bundles_L201 {X : Mem} (h : KC qkb10 X) : OK1 (fL_bundles_L201 X) := by
  unfold fL_bundles_L201
  refine st_zif (v := (1 : Int32)) OK1 (z_separation h (i := 0) (j := 1) (lt_nn qnb1 (i := 0) (by decide)) (lt_nn qnb1 (i := 1) (by decide)) qfb27) (fun X1 (h1 : KC qkb10 X1) => ?_)
  refine st_zif (v := (1 : Int32)) OK1 (z_separation h1 (i := 1) (j := 2) (lt_nn qnb1 (i := 1) (by decide)) (lt_nn qnb1 (i := 2) (by decide)) qfb28) (fun X2 (h2 : KC qkb10 X2) => ?_)
  refine st_zif (v := (3 : Int32)) OK1 (z_separation h2 (i := 2) (j := 3) (lt_nn qnb1 (i := 2) (by decide)) (lt_nn qnb1 (i := 3) (by decide)) qfb29) (fun X3 (h3 : KC qkb10 X3) => ?_)
  refine st_zif (v := (1 : Int32)) OK1 (z_separation h3 (i := 0) (j := 3) (lt_nn qnb1 (i := 0) (by decide)) (lt_nn qnb1 (i := 3) (by decide)) qfb30) (fun X4 (h4 : KC qkb10 X4) => ?_)
  refine st_zif (v := (1 : Int32)) OK1 (z_separation h4 (i := 3) (j := 4) (lt_nn qnb1 (i := 3) (by decide)) (lt_nn qnb1 (i := 4) (by decide)) qfb31) (fun X5 (h5 : KC qkb10 X5) => ?_)
  refine st_zif (v := (1 : Int32)) OK1 (z_separation h5 (i := 0) (j := 4) (lt_nn qnb1 (i := 0) (by decide)) (lt_nn qnb1 (i := 4) (by decide)) qfb32) (fun X6 (h6 : KC qkb10 X6) => ?_)
  refine st_zif (v := (-99 : Int32)) OK1 (z_separation h6 (i := 0) (j := 2) (lt_nn qnb1 (i := 0) (by decide)) (lt_nn qnb1 (i := 2) (by decide)) qfb33) (fun X7 (h7 : KC qkb10 X7) => ?_)
  refine st_zif (v := (-99 : Int32)) OK1 (z_separation h7 (i := 2) (j := 4) (lt_nn qnb1 (i := 2) (by decide)) (lt_nn qnb1 (i := 4) (by decide)) qfb34) (fun X8 (h8 : KC qkb10 X8) => ?_)
  refine st_zif (v := (-99 : Int32)) OK1 (z_separation h8 (i := 4) (j := 3) (lt_nn qnb1 (i := 4) (by decide)) (lt_nn qnb1 (i := 3) (by decide)) qfb35) (fun X9 (h9 : KC qkb10 X9) => ?_)
  refine st_zif (v := (-99 : Int32)) OK1 (z_separation h9 (i := 3) (j := 3) (lt_nn qnb1 (i := 3) (by decide)) (lt_nn qnb1 (i := 3) (by decide)) qfb36) (fun X10 (h10 : KC qkb10 X10) => ?_)
  refine st_zif (v := (0 : Int32)) OK1 (z_carried h10 (i := 1) (j := 0) (lt_nn qnb1 (i := 1) (by decide)) (lt_nn qnb1 (i := 0) (by decide)) qfb37) (fun X11 (h11 : KC qkb10 X11) => ?_)
  refine st_zif (v := (0 : Int32)) OK1 (z_carried h11 (i := 3) (j := 0) (lt_nn qnb1 (i := 3) (by decide)) (lt_nn qnb1 (i := 0) (by decide)) qfb38) (fun X12 (h12 : KC qkb10 X12) => ?_)
  refine st_zif (v := (-2 : Int32)) OK1 (z_carried h12 (i := 3) (j := 2) (lt_nn qnb1 (i := 3) (by decide)) (lt_nn qnb1 (i := 2) (by decide)) qfb39) (fun X13 (h13 : KC qkb10 X13) => ?_)
  refine st_zif (v := (-99 : Int32)) OK1 (z_carried h13 (i := 0) (j := 1) (lt_nn qnb1 (i := 0) (by decide)) (lt_nn qnb1 (i := 1) (by decide)) qfb40) (fun X14 (h14 : KC qkb10 X14) => ?_)
  refine st_zif (v := (1 : Int32)) OK1 (z_carried h14 (i := 4) (j := 4) (lt_nn qnb1 (i := 4) (by decide)) (lt_nn qnb1 (i := 4) (by decide)) qfb41) (fun X15 (h15 : KC qkb10 X15) => ?_)
  refine st_zif (v := (1 : Int32)) OK1 (z_carried h15 (i := 3) (j := 3) (lt_nn qnb1 (i := 3) (by decide)) (lt_nn qnb1 (i := 3) (by decide)) qfb42) (fun X16 (h16 : KC qkb10 X16) => ?_)
  refine st_zif (v := (1 : Int32)) OK1 (z_carried h16 (i := 3) (j := 4) (lt_nn qnb1 (i := 3) (by decide)) (lt_nn qnb1 (i := 4) (by decide)) qfb43) (fun X17 (h17 : KC qkb10 X17) => ?_)
  refine st_zif (v := (0 : Int32)) OK1 (z_carried h17 (i := 4) (j := 3) (lt_nn qnb1 (i := 4) (by decide)) (lt_nn qnb1 (i := 3) (by decide)) qfb44) (fun X18 (h18 : KC qkb10 X18) => ?_)
  exact g_bundles_L384 h18
theorem g_bundles_L146 {X : Mem} (h : KC qkb3 X) : OK1 (fL_bundles_L146 X) := by
  unfold fL_bundles_L146
  refine st_bel (v := (1 : Int32)) OK1 (x_types (c := qkb3) (l := []) h qfb21 (by decide) (by decide)) (by decide) (fun X1 (h1 : KC qkb4 X1) => ?_)
  refine st_bel (v := (1 : Int32)) OK1 (x_types (c := qkb4) (l := [97, 61, 53, 59, 98, 61, 97, 43]) h1 qfb22 (by decide) (by decide)) (by decide) (fun X2 (h2 : KC qkb5 X2) => ?_)
  refine st_bel (v := (1 : Int32)) OK1 (x_types (c := qkb5) (l := [97, 61, 53, 59, 98, 61, 97, 43, 97, 59, 99, 61, 98, 42, 98, 59]) h2 qfb23 (by decide) (by decide)) (by decide) (fun X3 (h3 : KC qkb6 X3) => ?_)
  refine st_bel (v := (1 : Int32)) OK1 (x_types (c := qkb6) (l := [97, 61, 53, 59, 98, 61, 97, 43, 97, 59, 99, 61, 98, 42, 98, 59, 91, 97, 43, 48, 93, 61, 99, 59]) h3 qfb24 (by decide) (by decide)) (by decide) (fun X4 (h4 : KC qkb7 X4) => ?_)
  refine st_zif (v := (5 : Int32)) OK1 (z_addAll h4 qfb25 (K := 5) qwsb0 (by decide) rfl (w := 5) (by rw [show nn (Cf.S qkb7) = 0 from qnb0]) (by decide) (S' := qsb1) (agb_of qfb26) qwb1) (fun X5 (h5 : KC qkb9 X5) => ?_)
  refine st_bif (v := (0 : Int32)) OK1 (z_clearBuffer h5 (M := 0) rfl) (fun X6 (h6 : KC qkb10 X6) => ?_)
  exact g_bundles_L201 h6
theorem ok_bundles {μ : Mem} : OK1 (fL_bundles μ) := by
  unfold fL_bundles
  refine st_bif (v := (-2013 : Int32)) OK1 (by rw [call_10]; exact clo_x (k := 3) (n_undo qstartb rfl)) (fun X1 (h1 : KC qkb2 X1) => ?_)
  refine st_bif (v := (-2013 : Int32)) OK1 (by rw [call_11]; exact clo_x (k := 3) (n_goBack h1 rfl)) (fun X2 (h2 : KC qkb2 X2) => ?_)
  refine st_bif (v := (0 : Int32)) OK1 (z_pack h2 qfb4 (S' := qsb0) (pck_is qfb1 qfb5) qwb0) (fun X3 (h3 : KC qkb3 X3) => ?_)
  refine st_bif (v := (0 : Int32)) OK1 (z_bundles h3 qfb6) (fun X4 (h4 : KC qkb3 X4) => ?_)
  refine st_bif (v := (0 : Int32)) OK1 (z_whyWrong h4 qfb7) (fun X5 (h5 : KC qkb3 X5) => ?_)
  refine st_bif (v := (-1 : Int32)) OK1 (z_wrongAt h5 qfb8) (fun X6 (h6 : KC qkb3 X6) => ?_)
  refine st_bd OK1 (z_filledShare h6 qfb9) (fun X7 (h7 : KC qkb3 X7) => ?_)
  rw [if_pos (by decide +kernel)]
  refine st_bel (v := (1 : Int32)) OK1 (z_doesAgree h7 qfb11) (by decide) (fun X8 (h8 : KC qkb3 X8) => ?_)
  refine st_bif (v := (1 : Int32)) OK1 (z_beatByUnits h8 qfb12) (fun X9 (h9 : KC qkb3 X9) => ?_)
  refine st_bif (v := (1 : Int32)) OK1 (z_beatByCircles h9 qfb13) (fun X10 (h10 : KC qkb3 X10) => ?_)
  refine st_bif (v := (2 : Int32)) OK1 (z_beat h10 qfb14) (fun X11 (h11 : KC qkb3 X11) => ?_)
  refine st_bif (v := (0 : Int32)) OK1 (z_jumpBundle h11 qfb15) (fun X12 (h12 : KC qkb3 X12) => ?_)
  refine st_bif (v := (0 : Int32)) OK1 (z_overlap h12 qfb17) (fun X13 (h13 : KC qkb3 X13) => ?_)
  refine st_zif (v := (0 : Int32)) OK1 (z_loopBundles h13 (r := 20) (by decide) qfb18) (fun X14 (h14 : KC qkb3 X14) => ?_)
  refine st_bif (v := (0 : Int32)) OK1 (z_spanByEarliest h14 qfb20) (fun X15 (h15 : KC qkb3 X15) => ?_)
  refine st_bel (v := (1 : Int32)) OK1 (x_refused h15 rfl) (by decide) (fun X16 (h16 : KC qkb3 X16) => ?_)
  exact g_bundles_L146 h16
