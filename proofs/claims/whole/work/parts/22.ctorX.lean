def adX (h0 : Nat) (a2 : Nat → Nat) (a4 : Nat → Nat) (a6 : Nat → Nat) (a8 : Nat → Nat) (a10 : Nat → Nat) (a12 : Nat → Nat) (a14 : Nat → Nat) (a16 : Nat → Nat) (a18 : Nat → Nat) (q19 : Nat) (q20 : Nat) (q21 : Nat) (q22 : Nat) : Nat → Nat := fun k => if k = 0 then h0 else if k < 11 then a2 (k - 1) else if k < 63 then a4 (k - 11) else if k < 73 then a6 (k - 63) else if k < 75 then a8 (k - 73) else if k < 83 then a10 (k - 75) else if k < 86 then a12 (k - 83) else if k < 89 then a14 (k - 86) else if k < 92 then a16 (k - 89) else if k < 97 then a18 (k - 92) else if k < 98 then q19 else if k < 99 then q20 else if k < 100 then q21 else if k < 101 then q22 else 0
def wX8 (cI cR : ClassId) (h0 : Nat) (a2 : Nat → Nat) (a4 : Nat → Nat) (a6 : Nat → Nat) (a8 : Nat → Nat) (a10 : Nat → Nat) (a12 : Nat → Nat) (a14 : Nat → Nat) (a16 : Nat → Nat) (a18 : Nat → Nat) (q19 : Nat) (q20 : Nat) (q21 : Nat) (q22 : Nat) : va_W := ((h0, .inr (8, [.ref (a2 0), .ref (a4 0), .ref (a6 0), .int 0, .ref (a8 0), .ref (a10 0), .int 0, .ref (a12 0), .ref (a14 0), .ref (a16 0), .int 0, .ref (a18 0), .ref q19, .ref q20, .ref q21, .ref q22])) :: (((((((((((((([] : va_W) ++ wL6 cI a2) ++ wL1 cI cR a4) ++ wL6 cI a6) ++ wL7 cI a8) ++ wL2 cI a10) ++ wL4 cI a12) ++ wL0 cI a14) ++ wL3 cI a16) ++ wL5 cI a18) ++ [(q19, .inl (cI, 24, .inl (fun _ => 0)))]) ++ [(q20, .inl (cI, 24, .inl (fun _ => 0)))]) ++ [(q21, .inl (cI, 24, .inl (fun _ => 0)))]) ++ [(q22, .inl (cI, 24, .inl (fun _ => 0)))]))
set_option maxRecDepth 100000 in
theorem x8_at_0 {cI cR : ClassId} {h0 : Nat} {a2 : Nat → Nat} {a4 : Nat → Nat} {a6 : Nat → Nat} {a8 : Nat → Nat} {a10 : Nat → Nat} {a12 : Nat → Nat} {a14 : Nat → Nat} {a16 : Nat → Nat} {a18 : Nat → Nat} {q19 : Nat} {q20 : Nat} {q21 : Nat} {q22 : Nat} : (wX8 cI cR h0 a2 a4 a6 a8 a10 a12 a14 a16 a18 q19 q20 q21 q22)[0]? = some (adX h0 a2 a4 a6 a8 a10 a12 a14 a16 a18 q19 q20 q21 q22 0, cont cI cR (adX h0 a2 a4 a6 a8 a10 a12 a14 a16 a18 q19 q20 q21 q22) (shX 0) (μ0X 0)) := rfl
set_option maxRecDepth 100000 in
theorem x8_at_1 {cI cR : ClassId} {h0 : Nat} {a2 : Nat → Nat} {a4 : Nat → Nat} {a6 : Nat → Nat} {a8 : Nat → Nat} {a10 : Nat → Nat} {a12 : Nat → Nat} {a14 : Nat → Nat} {a16 : Nat → Nat} {a18 : Nat → Nat} {q19 : Nat} {q20 : Nat} {q21 : Nat} {q22 : Nat} : (wX8 cI cR h0 a2 a4 a6 a8 a10 a12 a14 a16 a18 q19 q20 q21 q22)[1]? = some (adX h0 a2 a4 a6 a8 a10 a12 a14 a16 a18 q19 q20 q21 q22 1, cont cI cR (adX h0 a2 a4 a6 a8 a10 a12 a14 a16 a18 q19 q20 q21 q22) (shX 1) (μ0X 1)) := rfl
set_option maxRecDepth 100000 in
theorem x8_at_2 {cI cR : ClassId} {h0 : Nat} {a2 : Nat → Nat} {a4 : Nat → Nat} {a6 : Nat → Nat} {a8 : Nat → Nat} {a10 : Nat → Nat} {a12 : Nat → Nat} {a14 : Nat → Nat} {a16 : Nat → Nat} {a18 : Nat → Nat} {q19 : Nat} {q20 : Nat} {q21 : Nat} {q22 : Nat} : (wX8 cI cR h0 a2 a4 a6 a8 a10 a12 a14 a16 a18 q19 q20 q21 q22)[2]? = some (adX h0 a2 a4 a6 a8 a10 a12 a14 a16 a18 q19 q20 q21 q22 2, cont cI cR (adX h0 a2 a4 a6 a8 a10 a12 a14 a16 a18 q19 q20 q21 q22) (shX 2) (μ0X 2)) := rfl
set_option maxRecDepth 100000 in
theorem x8_at_3 {cI cR : ClassId} {h0 : Nat} {a2 : Nat → Nat} {a4 : Nat → Nat} {a6 : Nat → Nat} {a8 : Nat → Nat} {a10 : Nat → Nat} {a12 : Nat → Nat} {a14 : Nat → Nat} {a16 : Nat → Nat} {a18 : Nat → Nat} {q19 : Nat} {q20 : Nat} {q21 : Nat} {q22 : Nat} : (wX8 cI cR h0 a2 a4 a6 a8 a10 a12 a14 a16 a18 q19 q20 q21 q22)[3]? = some (adX h0 a2 a4 a6 a8 a10 a12 a14 a16 a18 q19 q20 q21 q22 3, cont cI cR (adX h0 a2 a4 a6 a8 a10 a12 a14 a16 a18 q19 q20 q21 q22) (shX 3) (μ0X 3)) := rfl
set_option maxRecDepth 100000 in
theorem x8_at_4 {cI cR : ClassId} {h0 : Nat} {a2 : Nat → Nat} {a4 : Nat → Nat} {a6 : Nat → Nat} {a8 : Nat → Nat} {a10 : Nat → Nat} {a12 : Nat → Nat} {a14 : Nat → Nat} {a16 : Nat → Nat} {a18 : Nat → Nat} {q19 : Nat} {q20 : Nat} {q21 : Nat} {q22 : Nat} : (wX8 cI cR h0 a2 a4 a6 a8 a10 a12 a14 a16 a18 q19 q20 q21 q22)[4]? = some (adX h0 a2 a4 a6 a8 a10 a12 a14 a16 a18 q19 q20 q21 q22 4, cont cI cR (adX h0 a2 a4 a6 a8 a10 a12 a14 a16 a18 q19 q20 q21 q22) (shX 4) (μ0X 4)) := rfl
set_option maxRecDepth 100000 in
theorem x8_at_5 {cI cR : ClassId} {h0 : Nat} {a2 : Nat → Nat} {a4 : Nat → Nat} {a6 : Nat → Nat} {a8 : Nat → Nat} {a10 : Nat → Nat} {a12 : Nat → Nat} {a14 : Nat → Nat} {a16 : Nat → Nat} {a18 : Nat → Nat} {q19 : Nat} {q20 : Nat} {q21 : Nat} {q22 : Nat} : (wX8 cI cR h0 a2 a4 a6 a8 a10 a12 a14 a16 a18 q19 q20 q21 q22)[5]? = some (adX h0 a2 a4 a6 a8 a10 a12 a14 a16 a18 q19 q20 q21 q22 5, cont cI cR (adX h0 a2 a4 a6 a8 a10 a12 a14 a16 a18 q19 q20 q21 q22) (shX 5) (μ0X 5)) := rfl
set_option maxRecDepth 100000 in
theorem x8_at_6 {cI cR : ClassId} {h0 : Nat} {a2 : Nat → Nat} {a4 : Nat → Nat} {a6 : Nat → Nat} {a8 : Nat → Nat} {a10 : Nat → Nat} {a12 : Nat → Nat} {a14 : Nat → Nat} {a16 : Nat → Nat} {a18 : Nat → Nat} {q19 : Nat} {q20 : Nat} {q21 : Nat} {q22 : Nat} : (wX8 cI cR h0 a2 a4 a6 a8 a10 a12 a14 a16 a18 q19 q20 q21 q22)[6]? = some (adX h0 a2 a4 a6 a8 a10 a12 a14 a16 a18 q19 q20 q21 q22 6, cont cI cR (adX h0 a2 a4 a6 a8 a10 a12 a14 a16 a18 q19 q20 q21 q22) (shX 6) (μ0X 6)) := rfl
set_option maxRecDepth 100000 in
theorem x8_at_7 {cI cR : ClassId} {h0 : Nat} {a2 : Nat → Nat} {a4 : Nat → Nat} {a6 : Nat → Nat} {a8 : Nat → Nat} {a10 : Nat → Nat} {a12 : Nat → Nat} {a14 : Nat → Nat} {a16 : Nat → Nat} {a18 : Nat → Nat} {q19 : Nat} {q20 : Nat} {q21 : Nat} {q22 : Nat} : (wX8 cI cR h0 a2 a4 a6 a8 a10 a12 a14 a16 a18 q19 q20 q21 q22)[7]? = some (adX h0 a2 a4 a6 a8 a10 a12 a14 a16 a18 q19 q20 q21 q22 7, cont cI cR (adX h0 a2 a4 a6 a8 a10 a12 a14 a16 a18 q19 q20 q21 q22) (shX 7) (μ0X 7)) := rfl
set_option maxRecDepth 100000 in
theorem x8_at_8 {cI cR : ClassId} {h0 : Nat} {a2 : Nat → Nat} {a4 : Nat → Nat} {a6 : Nat → Nat} {a8 : Nat → Nat} {a10 : Nat → Nat} {a12 : Nat → Nat} {a14 : Nat → Nat} {a16 : Nat → Nat} {a18 : Nat → Nat} {q19 : Nat} {q20 : Nat} {q21 : Nat} {q22 : Nat} : (wX8 cI cR h0 a2 a4 a6 a8 a10 a12 a14 a16 a18 q19 q20 q21 q22)[8]? = some (adX h0 a2 a4 a6 a8 a10 a12 a14 a16 a18 q19 q20 q21 q22 8, cont cI cR (adX h0 a2 a4 a6 a8 a10 a12 a14 a16 a18 q19 q20 q21 q22) (shX 8) (μ0X 8)) := rfl
set_option maxRecDepth 100000 in
theorem x8_at_9 {cI cR : ClassId} {h0 : Nat} {a2 : Nat → Nat} {a4 : Nat → Nat} {a6 : Nat → Nat} {a8 : Nat → Nat} {a10 : Nat → Nat} {a12 : Nat → Nat} {a14 : Nat → Nat} {a16 : Nat → Nat} {a18 : Nat → Nat} {q19 : Nat} {q20 : Nat} {q21 : Nat} {q22 : Nat} : (wX8 cI cR h0 a2 a4 a6 a8 a10 a12 a14 a16 a18 q19 q20 q21 q22)[9]? = some (adX h0 a2 a4 a6 a8 a10 a12 a14 a16 a18 q19 q20 q21 q22 9, cont cI cR (adX h0 a2 a4 a6 a8 a10 a12 a14 a16 a18 q19 q20 q21 q22) (shX 9) (μ0X 9)) := rfl
set_option maxRecDepth 100000 in
theorem x8_at_10 {cI cR : ClassId} {h0 : Nat} {a2 : Nat → Nat} {a4 : Nat → Nat} {a6 : Nat → Nat} {a8 : Nat → Nat} {a10 : Nat → Nat} {a12 : Nat → Nat} {a14 : Nat → Nat} {a16 : Nat → Nat} {a18 : Nat → Nat} {q19 : Nat} {q20 : Nat} {q21 : Nat} {q22 : Nat} : (wX8 cI cR h0 a2 a4 a6 a8 a10 a12 a14 a16 a18 q19 q20 q21 q22)[10]? = some (adX h0 a2 a4 a6 a8 a10 a12 a14 a16 a18 q19 q20 q21 q22 10, cont cI cR (adX h0 a2 a4 a6 a8 a10 a12 a14 a16 a18 q19 q20 q21 q22) (shX 10) (μ0X 10)) := rfl
set_option maxRecDepth 100000 in
theorem x8_at_11 {cI cR : ClassId} {h0 : Nat} {a2 : Nat → Nat} {a4 : Nat → Nat} {a6 : Nat → Nat} {a8 : Nat → Nat} {a10 : Nat → Nat} {a12 : Nat → Nat} {a14 : Nat → Nat} {a16 : Nat → Nat} {a18 : Nat → Nat} {q19 : Nat} {q20 : Nat} {q21 : Nat} {q22 : Nat} : (wX8 cI cR h0 a2 a4 a6 a8 a10 a12 a14 a16 a18 q19 q20 q21 q22)[11]? = some (adX h0 a2 a4 a6 a8 a10 a12 a14 a16 a18 q19 q20 q21 q22 11, cont cI cR (adX h0 a2 a4 a6 a8 a10 a12 a14 a16 a18 q19 q20 q21 q22) (shX 11) (μ0X 11)) := rfl
set_option maxRecDepth 100000 in
theorem x8_at_13 {cI cR : ClassId} {h0 : Nat} {a2 : Nat → Nat} {a4 : Nat → Nat} {a6 : Nat → Nat} {a8 : Nat → Nat} {a10 : Nat → Nat} {a12 : Nat → Nat} {a14 : Nat → Nat} {a16 : Nat → Nat} {a18 : Nat → Nat} {q19 : Nat} {q20 : Nat} {q21 : Nat} {q22 : Nat} : (wX8 cI cR h0 a2 a4 a6 a8 a10 a12 a14 a16 a18 q19 q20 q21 q22)[13]? = some (adX h0 a2 a4 a6 a8 a10 a12 a14 a16 a18 q19 q20 q21 q22 13, cont cI cR (adX h0 a2 a4 a6 a8 a10 a12 a14 a16 a18 q19 q20 q21 q22) (shX 13) (μ0X 13)) := rfl
set_option maxRecDepth 100000 in
theorem x8_at_14 {cI cR : ClassId} {h0 : Nat} {a2 : Nat → Nat} {a4 : Nat → Nat} {a6 : Nat → Nat} {a8 : Nat → Nat} {a10 : Nat → Nat} {a12 : Nat → Nat} {a14 : Nat → Nat} {a16 : Nat → Nat} {a18 : Nat → Nat} {q19 : Nat} {q20 : Nat} {q21 : Nat} {q22 : Nat} : (wX8 cI cR h0 a2 a4 a6 a8 a10 a12 a14 a16 a18 q19 q20 q21 q22)[14]? = some (adX h0 a2 a4 a6 a8 a10 a12 a14 a16 a18 q19 q20 q21 q22 14, cont cI cR (adX h0 a2 a4 a6 a8 a10 a12 a14 a16 a18 q19 q20 q21 q22) (shX 14) (μ0X 14)) := rfl
set_option maxRecDepth 100000 in
theorem x8_at_15 {cI cR : ClassId} {h0 : Nat} {a2 : Nat → Nat} {a4 : Nat → Nat} {a6 : Nat → Nat} {a8 : Nat → Nat} {a10 : Nat → Nat} {a12 : Nat → Nat} {a14 : Nat → Nat} {a16 : Nat → Nat} {a18 : Nat → Nat} {q19 : Nat} {q20 : Nat} {q21 : Nat} {q22 : Nat} : (wX8 cI cR h0 a2 a4 a6 a8 a10 a12 a14 a16 a18 q19 q20 q21 q22)[15]? = some (adX h0 a2 a4 a6 a8 a10 a12 a14 a16 a18 q19 q20 q21 q22 15, cont cI cR (adX h0 a2 a4 a6 a8 a10 a12 a14 a16 a18 q19 q20 q21 q22) (shX 15) (μ0X 15)) := rfl
set_option maxRecDepth 100000 in
theorem x8_at_16 {cI cR : ClassId} {h0 : Nat} {a2 : Nat → Nat} {a4 : Nat → Nat} {a6 : Nat → Nat} {a8 : Nat → Nat} {a10 : Nat → Nat} {a12 : Nat → Nat} {a14 : Nat → Nat} {a16 : Nat → Nat} {a18 : Nat → Nat} {q19 : Nat} {q20 : Nat} {q21 : Nat} {q22 : Nat} : (wX8 cI cR h0 a2 a4 a6 a8 a10 a12 a14 a16 a18 q19 q20 q21 q22)[16]? = some (adX h0 a2 a4 a6 a8 a10 a12 a14 a16 a18 q19 q20 q21 q22 16, cont cI cR (adX h0 a2 a4 a6 a8 a10 a12 a14 a16 a18 q19 q20 q21 q22) (shX 16) (μ0X 16)) := rfl
set_option maxRecDepth 100000 in
theorem x8_at_17 {cI cR : ClassId} {h0 : Nat} {a2 : Nat → Nat} {a4 : Nat → Nat} {a6 : Nat → Nat} {a8 : Nat → Nat} {a10 : Nat → Nat} {a12 : Nat → Nat} {a14 : Nat → Nat} {a16 : Nat → Nat} {a18 : Nat → Nat} {q19 : Nat} {q20 : Nat} {q21 : Nat} {q22 : Nat} : (wX8 cI cR h0 a2 a4 a6 a8 a10 a12 a14 a16 a18 q19 q20 q21 q22)[17]? = some (adX h0 a2 a4 a6 a8 a10 a12 a14 a16 a18 q19 q20 q21 q22 17, cont cI cR (adX h0 a2 a4 a6 a8 a10 a12 a14 a16 a18 q19 q20 q21 q22) (shX 17) (μ0X 17)) := rfl
set_option maxRecDepth 100000 in
theorem x8_at_18 {cI cR : ClassId} {h0 : Nat} {a2 : Nat → Nat} {a4 : Nat → Nat} {a6 : Nat → Nat} {a8 : Nat → Nat} {a10 : Nat → Nat} {a12 : Nat → Nat} {a14 : Nat → Nat} {a16 : Nat → Nat} {a18 : Nat → Nat} {q19 : Nat} {q20 : Nat} {q21 : Nat} {q22 : Nat} : (wX8 cI cR h0 a2 a4 a6 a8 a10 a12 a14 a16 a18 q19 q20 q21 q22)[18]? = some (adX h0 a2 a4 a6 a8 a10 a12 a14 a16 a18 q19 q20 q21 q22 18, cont cI cR (adX h0 a2 a4 a6 a8 a10 a12 a14 a16 a18 q19 q20 q21 q22) (shX 18) (μ0X 18)) := rfl
set_option maxRecDepth 100000 in
theorem x8_at_19 {cI cR : ClassId} {h0 : Nat} {a2 : Nat → Nat} {a4 : Nat → Nat} {a6 : Nat → Nat} {a8 : Nat → Nat} {a10 : Nat → Nat} {a12 : Nat → Nat} {a14 : Nat → Nat} {a16 : Nat → Nat} {a18 : Nat → Nat} {q19 : Nat} {q20 : Nat} {q21 : Nat} {q22 : Nat} : (wX8 cI cR h0 a2 a4 a6 a8 a10 a12 a14 a16 a18 q19 q20 q21 q22)[19]? = some (adX h0 a2 a4 a6 a8 a10 a12 a14 a16 a18 q19 q20 q21 q22 19, cont cI cR (adX h0 a2 a4 a6 a8 a10 a12 a14 a16 a18 q19 q20 q21 q22) (shX 19) (μ0X 19)) := rfl
set_option maxRecDepth 100000 in
theorem x8_at_20 {cI cR : ClassId} {h0 : Nat} {a2 : Nat → Nat} {a4 : Nat → Nat} {a6 : Nat → Nat} {a8 : Nat → Nat} {a10 : Nat → Nat} {a12 : Nat → Nat} {a14 : Nat → Nat} {a16 : Nat → Nat} {a18 : Nat → Nat} {q19 : Nat} {q20 : Nat} {q21 : Nat} {q22 : Nat} : (wX8 cI cR h0 a2 a4 a6 a8 a10 a12 a14 a16 a18 q19 q20 q21 q22)[20]? = some (adX h0 a2 a4 a6 a8 a10 a12 a14 a16 a18 q19 q20 q21 q22 20, cont cI cR (adX h0 a2 a4 a6 a8 a10 a12 a14 a16 a18 q19 q20 q21 q22) (shX 20) (μ0X 20)) := rfl
set_option maxRecDepth 100000 in
theorem x8_at_21 {cI cR : ClassId} {h0 : Nat} {a2 : Nat → Nat} {a4 : Nat → Nat} {a6 : Nat → Nat} {a8 : Nat → Nat} {a10 : Nat → Nat} {a12 : Nat → Nat} {a14 : Nat → Nat} {a16 : Nat → Nat} {a18 : Nat → Nat} {q19 : Nat} {q20 : Nat} {q21 : Nat} {q22 : Nat} : (wX8 cI cR h0 a2 a4 a6 a8 a10 a12 a14 a16 a18 q19 q20 q21 q22)[21]? = some (adX h0 a2 a4 a6 a8 a10 a12 a14 a16 a18 q19 q20 q21 q22 21, cont cI cR (adX h0 a2 a4 a6 a8 a10 a12 a14 a16 a18 q19 q20 q21 q22) (shX 21) (μ0X 21)) := rfl
set_option maxRecDepth 100000 in
theorem x8_at_22 {cI cR : ClassId} {h0 : Nat} {a2 : Nat → Nat} {a4 : Nat → Nat} {a6 : Nat → Nat} {a8 : Nat → Nat} {a10 : Nat → Nat} {a12 : Nat → Nat} {a14 : Nat → Nat} {a16 : Nat → Nat} {a18 : Nat → Nat} {q19 : Nat} {q20 : Nat} {q21 : Nat} {q22 : Nat} : (wX8 cI cR h0 a2 a4 a6 a8 a10 a12 a14 a16 a18 q19 q20 q21 q22)[22]? = some (adX h0 a2 a4 a6 a8 a10 a12 a14 a16 a18 q19 q20 q21 q22 22, cont cI cR (adX h0 a2 a4 a6 a8 a10 a12 a14 a16 a18 q19 q20 q21 q22) (shX 22) (μ0X 22)) := rfl
set_option maxRecDepth 100000 in
theorem x8_at_23 {cI cR : ClassId} {h0 : Nat} {a2 : Nat → Nat} {a4 : Nat → Nat} {a6 : Nat → Nat} {a8 : Nat → Nat} {a10 : Nat → Nat} {a12 : Nat → Nat} {a14 : Nat → Nat} {a16 : Nat → Nat} {a18 : Nat → Nat} {q19 : Nat} {q20 : Nat} {q21 : Nat} {q22 : Nat} : (wX8 cI cR h0 a2 a4 a6 a8 a10 a12 a14 a16 a18 q19 q20 q21 q22)[23]? = some (adX h0 a2 a4 a6 a8 a10 a12 a14 a16 a18 q19 q20 q21 q22 23, cont cI cR (adX h0 a2 a4 a6 a8 a10 a12 a14 a16 a18 q19 q20 q21 q22) (shX 23) (μ0X 23)) := rfl
set_option maxRecDepth 100000 in
theorem x8_at_24 {cI cR : ClassId} {h0 : Nat} {a2 : Nat → Nat} {a4 : Nat → Nat} {a6 : Nat → Nat} {a8 : Nat → Nat} {a10 : Nat → Nat} {a12 : Nat → Nat} {a14 : Nat → Nat} {a16 : Nat → Nat} {a18 : Nat → Nat} {q19 : Nat} {q20 : Nat} {q21 : Nat} {q22 : Nat} : (wX8 cI cR h0 a2 a4 a6 a8 a10 a12 a14 a16 a18 q19 q20 q21 q22)[24]? = some (adX h0 a2 a4 a6 a8 a10 a12 a14 a16 a18 q19 q20 q21 q22 24, cont cI cR (adX h0 a2 a4 a6 a8 a10 a12 a14 a16 a18 q19 q20 q21 q22) (shX 24) (μ0X 24)) := rfl
set_option maxRecDepth 100000 in
theorem x8_at_25 {cI cR : ClassId} {h0 : Nat} {a2 : Nat → Nat} {a4 : Nat → Nat} {a6 : Nat → Nat} {a8 : Nat → Nat} {a10 : Nat → Nat} {a12 : Nat → Nat} {a14 : Nat → Nat} {a16 : Nat → Nat} {a18 : Nat → Nat} {q19 : Nat} {q20 : Nat} {q21 : Nat} {q22 : Nat} : (wX8 cI cR h0 a2 a4 a6 a8 a10 a12 a14 a16 a18 q19 q20 q21 q22)[25]? = some (adX h0 a2 a4 a6 a8 a10 a12 a14 a16 a18 q19 q20 q21 q22 25, cont cI cR (adX h0 a2 a4 a6 a8 a10 a12 a14 a16 a18 q19 q20 q21 q22) (shX 25) (μ0X 25)) := rfl
set_option maxRecDepth 100000 in
theorem x8_at_26 {cI cR : ClassId} {h0 : Nat} {a2 : Nat → Nat} {a4 : Nat → Nat} {a6 : Nat → Nat} {a8 : Nat → Nat} {a10 : Nat → Nat} {a12 : Nat → Nat} {a14 : Nat → Nat} {a16 : Nat → Nat} {a18 : Nat → Nat} {q19 : Nat} {q20 : Nat} {q21 : Nat} {q22 : Nat} : (wX8 cI cR h0 a2 a4 a6 a8 a10 a12 a14 a16 a18 q19 q20 q21 q22)[26]? = some (adX h0 a2 a4 a6 a8 a10 a12 a14 a16 a18 q19 q20 q21 q22 26, cont cI cR (adX h0 a2 a4 a6 a8 a10 a12 a14 a16 a18 q19 q20 q21 q22) (shX 26) (μ0X 26)) := rfl
set_option maxRecDepth 100000 in
theorem x8_at_27 {cI cR : ClassId} {h0 : Nat} {a2 : Nat → Nat} {a4 : Nat → Nat} {a6 : Nat → Nat} {a8 : Nat → Nat} {a10 : Nat → Nat} {a12 : Nat → Nat} {a14 : Nat → Nat} {a16 : Nat → Nat} {a18 : Nat → Nat} {q19 : Nat} {q20 : Nat} {q21 : Nat} {q22 : Nat} : (wX8 cI cR h0 a2 a4 a6 a8 a10 a12 a14 a16 a18 q19 q20 q21 q22)[27]? = some (adX h0 a2 a4 a6 a8 a10 a12 a14 a16 a18 q19 q20 q21 q22 27, cont cI cR (adX h0 a2 a4 a6 a8 a10 a12 a14 a16 a18 q19 q20 q21 q22) (shX 27) (μ0X 27)) := rfl
set_option maxRecDepth 100000 in
theorem x8_at_28 {cI cR : ClassId} {h0 : Nat} {a2 : Nat → Nat} {a4 : Nat → Nat} {a6 : Nat → Nat} {a8 : Nat → Nat} {a10 : Nat → Nat} {a12 : Nat → Nat} {a14 : Nat → Nat} {a16 : Nat → Nat} {a18 : Nat → Nat} {q19 : Nat} {q20 : Nat} {q21 : Nat} {q22 : Nat} : (wX8 cI cR h0 a2 a4 a6 a8 a10 a12 a14 a16 a18 q19 q20 q21 q22)[28]? = some (adX h0 a2 a4 a6 a8 a10 a12 a14 a16 a18 q19 q20 q21 q22 28, cont cI cR (adX h0 a2 a4 a6 a8 a10 a12 a14 a16 a18 q19 q20 q21 q22) (shX 28) (μ0X 28)) := rfl
set_option maxRecDepth 100000 in
theorem x8_at_29 {cI cR : ClassId} {h0 : Nat} {a2 : Nat → Nat} {a4 : Nat → Nat} {a6 : Nat → Nat} {a8 : Nat → Nat} {a10 : Nat → Nat} {a12 : Nat → Nat} {a14 : Nat → Nat} {a16 : Nat → Nat} {a18 : Nat → Nat} {q19 : Nat} {q20 : Nat} {q21 : Nat} {q22 : Nat} : (wX8 cI cR h0 a2 a4 a6 a8 a10 a12 a14 a16 a18 q19 q20 q21 q22)[29]? = some (adX h0 a2 a4 a6 a8 a10 a12 a14 a16 a18 q19 q20 q21 q22 29, cont cI cR (adX h0 a2 a4 a6 a8 a10 a12 a14 a16 a18 q19 q20 q21 q22) (shX 29) (μ0X 29)) := rfl
set_option maxRecDepth 100000 in
theorem x8_at_30 {cI cR : ClassId} {h0 : Nat} {a2 : Nat → Nat} {a4 : Nat → Nat} {a6 : Nat → Nat} {a8 : Nat → Nat} {a10 : Nat → Nat} {a12 : Nat → Nat} {a14 : Nat → Nat} {a16 : Nat → Nat} {a18 : Nat → Nat} {q19 : Nat} {q20 : Nat} {q21 : Nat} {q22 : Nat} : (wX8 cI cR h0 a2 a4 a6 a8 a10 a12 a14 a16 a18 q19 q20 q21 q22)[30]? = some (adX h0 a2 a4 a6 a8 a10 a12 a14 a16 a18 q19 q20 q21 q22 30, cont cI cR (adX h0 a2 a4 a6 a8 a10 a12 a14 a16 a18 q19 q20 q21 q22) (shX 30) (μ0X 30)) := rfl
set_option maxRecDepth 100000 in
theorem x8_at_31 {cI cR : ClassId} {h0 : Nat} {a2 : Nat → Nat} {a4 : Nat → Nat} {a6 : Nat → Nat} {a8 : Nat → Nat} {a10 : Nat → Nat} {a12 : Nat → Nat} {a14 : Nat → Nat} {a16 : Nat → Nat} {a18 : Nat → Nat} {q19 : Nat} {q20 : Nat} {q21 : Nat} {q22 : Nat} : (wX8 cI cR h0 a2 a4 a6 a8 a10 a12 a14 a16 a18 q19 q20 q21 q22)[31]? = some (adX h0 a2 a4 a6 a8 a10 a12 a14 a16 a18 q19 q20 q21 q22 31, cont cI cR (adX h0 a2 a4 a6 a8 a10 a12 a14 a16 a18 q19 q20 q21 q22) (shX 31) (μ0X 31)) := rfl
set_option maxRecDepth 100000 in
theorem x8_at_32 {cI cR : ClassId} {h0 : Nat} {a2 : Nat → Nat} {a4 : Nat → Nat} {a6 : Nat → Nat} {a8 : Nat → Nat} {a10 : Nat → Nat} {a12 : Nat → Nat} {a14 : Nat → Nat} {a16 : Nat → Nat} {a18 : Nat → Nat} {q19 : Nat} {q20 : Nat} {q21 : Nat} {q22 : Nat} : (wX8 cI cR h0 a2 a4 a6 a8 a10 a12 a14 a16 a18 q19 q20 q21 q22)[32]? = some (adX h0 a2 a4 a6 a8 a10 a12 a14 a16 a18 q19 q20 q21 q22 32, cont cI cR (adX h0 a2 a4 a6 a8 a10 a12 a14 a16 a18 q19 q20 q21 q22) (shX 32) (μ0X 32)) := rfl
set_option maxRecDepth 100000 in
theorem x8_at_33 {cI cR : ClassId} {h0 : Nat} {a2 : Nat → Nat} {a4 : Nat → Nat} {a6 : Nat → Nat} {a8 : Nat → Nat} {a10 : Nat → Nat} {a12 : Nat → Nat} {a14 : Nat → Nat} {a16 : Nat → Nat} {a18 : Nat → Nat} {q19 : Nat} {q20 : Nat} {q21 : Nat} {q22 : Nat} : (wX8 cI cR h0 a2 a4 a6 a8 a10 a12 a14 a16 a18 q19 q20 q21 q22)[33]? = some (adX h0 a2 a4 a6 a8 a10 a12 a14 a16 a18 q19 q20 q21 q22 33, cont cI cR (adX h0 a2 a4 a6 a8 a10 a12 a14 a16 a18 q19 q20 q21 q22) (shX 33) (μ0X 33)) := rfl
set_option maxRecDepth 100000 in
theorem x8_at_34 {cI cR : ClassId} {h0 : Nat} {a2 : Nat → Nat} {a4 : Nat → Nat} {a6 : Nat → Nat} {a8 : Nat → Nat} {a10 : Nat → Nat} {a12 : Nat → Nat} {a14 : Nat → Nat} {a16 : Nat → Nat} {a18 : Nat → Nat} {q19 : Nat} {q20 : Nat} {q21 : Nat} {q22 : Nat} : (wX8 cI cR h0 a2 a4 a6 a8 a10 a12 a14 a16 a18 q19 q20 q21 q22)[34]? = some (adX h0 a2 a4 a6 a8 a10 a12 a14 a16 a18 q19 q20 q21 q22 34, cont cI cR (adX h0 a2 a4 a6 a8 a10 a12 a14 a16 a18 q19 q20 q21 q22) (shX 34) (μ0X 34)) := rfl
set_option maxRecDepth 100000 in
theorem x8_at_35 {cI cR : ClassId} {h0 : Nat} {a2 : Nat → Nat} {a4 : Nat → Nat} {a6 : Nat → Nat} {a8 : Nat → Nat} {a10 : Nat → Nat} {a12 : Nat → Nat} {a14 : Nat → Nat} {a16 : Nat → Nat} {a18 : Nat → Nat} {q19 : Nat} {q20 : Nat} {q21 : Nat} {q22 : Nat} : (wX8 cI cR h0 a2 a4 a6 a8 a10 a12 a14 a16 a18 q19 q20 q21 q22)[35]? = some (adX h0 a2 a4 a6 a8 a10 a12 a14 a16 a18 q19 q20 q21 q22 35, cont cI cR (adX h0 a2 a4 a6 a8 a10 a12 a14 a16 a18 q19 q20 q21 q22) (shX 35) (μ0X 35)) := rfl
set_option maxRecDepth 100000 in
theorem x8_at_36 {cI cR : ClassId} {h0 : Nat} {a2 : Nat → Nat} {a4 : Nat → Nat} {a6 : Nat → Nat} {a8 : Nat → Nat} {a10 : Nat → Nat} {a12 : Nat → Nat} {a14 : Nat → Nat} {a16 : Nat → Nat} {a18 : Nat → Nat} {q19 : Nat} {q20 : Nat} {q21 : Nat} {q22 : Nat} : (wX8 cI cR h0 a2 a4 a6 a8 a10 a12 a14 a16 a18 q19 q20 q21 q22)[36]? = some (adX h0 a2 a4 a6 a8 a10 a12 a14 a16 a18 q19 q20 q21 q22 36, cont cI cR (adX h0 a2 a4 a6 a8 a10 a12 a14 a16 a18 q19 q20 q21 q22) (shX 36) (μ0X 36)) := rfl
set_option maxRecDepth 100000 in
theorem x8_at_37 {cI cR : ClassId} {h0 : Nat} {a2 : Nat → Nat} {a4 : Nat → Nat} {a6 : Nat → Nat} {a8 : Nat → Nat} {a10 : Nat → Nat} {a12 : Nat → Nat} {a14 : Nat → Nat} {a16 : Nat → Nat} {a18 : Nat → Nat} {q19 : Nat} {q20 : Nat} {q21 : Nat} {q22 : Nat} : (wX8 cI cR h0 a2 a4 a6 a8 a10 a12 a14 a16 a18 q19 q20 q21 q22)[37]? = some (adX h0 a2 a4 a6 a8 a10 a12 a14 a16 a18 q19 q20 q21 q22 37, cont cI cR (adX h0 a2 a4 a6 a8 a10 a12 a14 a16 a18 q19 q20 q21 q22) (shX 37) (μ0X 37)) := rfl
set_option maxRecDepth 100000 in
theorem x8_at_38 {cI cR : ClassId} {h0 : Nat} {a2 : Nat → Nat} {a4 : Nat → Nat} {a6 : Nat → Nat} {a8 : Nat → Nat} {a10 : Nat → Nat} {a12 : Nat → Nat} {a14 : Nat → Nat} {a16 : Nat → Nat} {a18 : Nat → Nat} {q19 : Nat} {q20 : Nat} {q21 : Nat} {q22 : Nat} : (wX8 cI cR h0 a2 a4 a6 a8 a10 a12 a14 a16 a18 q19 q20 q21 q22)[38]? = some (adX h0 a2 a4 a6 a8 a10 a12 a14 a16 a18 q19 q20 q21 q22 38, cont cI cR (adX h0 a2 a4 a6 a8 a10 a12 a14 a16 a18 q19 q20 q21 q22) (shX 38) (μ0X 38)) := rfl
set_option maxRecDepth 100000 in
theorem x8_at_39 {cI cR : ClassId} {h0 : Nat} {a2 : Nat → Nat} {a4 : Nat → Nat} {a6 : Nat → Nat} {a8 : Nat → Nat} {a10 : Nat → Nat} {a12 : Nat → Nat} {a14 : Nat → Nat} {a16 : Nat → Nat} {a18 : Nat → Nat} {q19 : Nat} {q20 : Nat} {q21 : Nat} {q22 : Nat} : (wX8 cI cR h0 a2 a4 a6 a8 a10 a12 a14 a16 a18 q19 q20 q21 q22)[39]? = some (adX h0 a2 a4 a6 a8 a10 a12 a14 a16 a18 q19 q20 q21 q22 39, cont cI cR (adX h0 a2 a4 a6 a8 a10 a12 a14 a16 a18 q19 q20 q21 q22) (shX 39) (μ0X 39)) := rfl
set_option maxRecDepth 100000 in
theorem x8_at_40 {cI cR : ClassId} {h0 : Nat} {a2 : Nat → Nat} {a4 : Nat → Nat} {a6 : Nat → Nat} {a8 : Nat → Nat} {a10 : Nat → Nat} {a12 : Nat → Nat} {a14 : Nat → Nat} {a16 : Nat → Nat} {a18 : Nat → Nat} {q19 : Nat} {q20 : Nat} {q21 : Nat} {q22 : Nat} : (wX8 cI cR h0 a2 a4 a6 a8 a10 a12 a14 a16 a18 q19 q20 q21 q22)[40]? = some (adX h0 a2 a4 a6 a8 a10 a12 a14 a16 a18 q19 q20 q21 q22 40, cont cI cR (adX h0 a2 a4 a6 a8 a10 a12 a14 a16 a18 q19 q20 q21 q22) (shX 40) (μ0X 40)) := rfl
set_option maxRecDepth 100000 in
theorem x8_at_41 {cI cR : ClassId} {h0 : Nat} {a2 : Nat → Nat} {a4 : Nat → Nat} {a6 : Nat → Nat} {a8 : Nat → Nat} {a10 : Nat → Nat} {a12 : Nat → Nat} {a14 : Nat → Nat} {a16 : Nat → Nat} {a18 : Nat → Nat} {q19 : Nat} {q20 : Nat} {q21 : Nat} {q22 : Nat} : (wX8 cI cR h0 a2 a4 a6 a8 a10 a12 a14 a16 a18 q19 q20 q21 q22)[41]? = some (adX h0 a2 a4 a6 a8 a10 a12 a14 a16 a18 q19 q20 q21 q22 41, cont cI cR (adX h0 a2 a4 a6 a8 a10 a12 a14 a16 a18 q19 q20 q21 q22) (shX 41) (μ0X 41)) := rfl
set_option maxRecDepth 100000 in
theorem x8_at_42 {cI cR : ClassId} {h0 : Nat} {a2 : Nat → Nat} {a4 : Nat → Nat} {a6 : Nat → Nat} {a8 : Nat → Nat} {a10 : Nat → Nat} {a12 : Nat → Nat} {a14 : Nat → Nat} {a16 : Nat → Nat} {a18 : Nat → Nat} {q19 : Nat} {q20 : Nat} {q21 : Nat} {q22 : Nat} : (wX8 cI cR h0 a2 a4 a6 a8 a10 a12 a14 a16 a18 q19 q20 q21 q22)[42]? = some (adX h0 a2 a4 a6 a8 a10 a12 a14 a16 a18 q19 q20 q21 q22 42, cont cI cR (adX h0 a2 a4 a6 a8 a10 a12 a14 a16 a18 q19 q20 q21 q22) (shX 42) (μ0X 42)) := rfl
set_option maxRecDepth 100000 in
theorem x8_at_43 {cI cR : ClassId} {h0 : Nat} {a2 : Nat → Nat} {a4 : Nat → Nat} {a6 : Nat → Nat} {a8 : Nat → Nat} {a10 : Nat → Nat} {a12 : Nat → Nat} {a14 : Nat → Nat} {a16 : Nat → Nat} {a18 : Nat → Nat} {q19 : Nat} {q20 : Nat} {q21 : Nat} {q22 : Nat} : (wX8 cI cR h0 a2 a4 a6 a8 a10 a12 a14 a16 a18 q19 q20 q21 q22)[43]? = some (adX h0 a2 a4 a6 a8 a10 a12 a14 a16 a18 q19 q20 q21 q22 43, cont cI cR (adX h0 a2 a4 a6 a8 a10 a12 a14 a16 a18 q19 q20 q21 q22) (shX 43) (μ0X 43)) := rfl
set_option maxRecDepth 100000 in
theorem x8_at_44 {cI cR : ClassId} {h0 : Nat} {a2 : Nat → Nat} {a4 : Nat → Nat} {a6 : Nat → Nat} {a8 : Nat → Nat} {a10 : Nat → Nat} {a12 : Nat → Nat} {a14 : Nat → Nat} {a16 : Nat → Nat} {a18 : Nat → Nat} {q19 : Nat} {q20 : Nat} {q21 : Nat} {q22 : Nat} : (wX8 cI cR h0 a2 a4 a6 a8 a10 a12 a14 a16 a18 q19 q20 q21 q22)[44]? = some (adX h0 a2 a4 a6 a8 a10 a12 a14 a16 a18 q19 q20 q21 q22 44, cont cI cR (adX h0 a2 a4 a6 a8 a10 a12 a14 a16 a18 q19 q20 q21 q22) (shX 44) (μ0X 44)) := rfl
set_option maxRecDepth 100000 in
theorem x8_at_45 {cI cR : ClassId} {h0 : Nat} {a2 : Nat → Nat} {a4 : Nat → Nat} {a6 : Nat → Nat} {a8 : Nat → Nat} {a10 : Nat → Nat} {a12 : Nat → Nat} {a14 : Nat → Nat} {a16 : Nat → Nat} {a18 : Nat → Nat} {q19 : Nat} {q20 : Nat} {q21 : Nat} {q22 : Nat} : (wX8 cI cR h0 a2 a4 a6 a8 a10 a12 a14 a16 a18 q19 q20 q21 q22)[45]? = some (adX h0 a2 a4 a6 a8 a10 a12 a14 a16 a18 q19 q20 q21 q22 45, cont cI cR (adX h0 a2 a4 a6 a8 a10 a12 a14 a16 a18 q19 q20 q21 q22) (shX 45) (μ0X 45)) := rfl
set_option maxRecDepth 100000 in
theorem x8_at_46 {cI cR : ClassId} {h0 : Nat} {a2 : Nat → Nat} {a4 : Nat → Nat} {a6 : Nat → Nat} {a8 : Nat → Nat} {a10 : Nat → Nat} {a12 : Nat → Nat} {a14 : Nat → Nat} {a16 : Nat → Nat} {a18 : Nat → Nat} {q19 : Nat} {q20 : Nat} {q21 : Nat} {q22 : Nat} : (wX8 cI cR h0 a2 a4 a6 a8 a10 a12 a14 a16 a18 q19 q20 q21 q22)[46]? = some (adX h0 a2 a4 a6 a8 a10 a12 a14 a16 a18 q19 q20 q21 q22 46, cont cI cR (adX h0 a2 a4 a6 a8 a10 a12 a14 a16 a18 q19 q20 q21 q22) (shX 46) (μ0X 46)) := rfl
set_option maxRecDepth 100000 in
theorem x8_at_47 {cI cR : ClassId} {h0 : Nat} {a2 : Nat → Nat} {a4 : Nat → Nat} {a6 : Nat → Nat} {a8 : Nat → Nat} {a10 : Nat → Nat} {a12 : Nat → Nat} {a14 : Nat → Nat} {a16 : Nat → Nat} {a18 : Nat → Nat} {q19 : Nat} {q20 : Nat} {q21 : Nat} {q22 : Nat} : (wX8 cI cR h0 a2 a4 a6 a8 a10 a12 a14 a16 a18 q19 q20 q21 q22)[47]? = some (adX h0 a2 a4 a6 a8 a10 a12 a14 a16 a18 q19 q20 q21 q22 47, cont cI cR (adX h0 a2 a4 a6 a8 a10 a12 a14 a16 a18 q19 q20 q21 q22) (shX 47) (μ0X 47)) := rfl
set_option maxRecDepth 100000 in
theorem x8_at_48 {cI cR : ClassId} {h0 : Nat} {a2 : Nat → Nat} {a4 : Nat → Nat} {a6 : Nat → Nat} {a8 : Nat → Nat} {a10 : Nat → Nat} {a12 : Nat → Nat} {a14 : Nat → Nat} {a16 : Nat → Nat} {a18 : Nat → Nat} {q19 : Nat} {q20 : Nat} {q21 : Nat} {q22 : Nat} : (wX8 cI cR h0 a2 a4 a6 a8 a10 a12 a14 a16 a18 q19 q20 q21 q22)[48]? = some (adX h0 a2 a4 a6 a8 a10 a12 a14 a16 a18 q19 q20 q21 q22 48, cont cI cR (adX h0 a2 a4 a6 a8 a10 a12 a14 a16 a18 q19 q20 q21 q22) (shX 48) (μ0X 48)) := rfl
set_option maxRecDepth 100000 in
theorem x8_at_49 {cI cR : ClassId} {h0 : Nat} {a2 : Nat → Nat} {a4 : Nat → Nat} {a6 : Nat → Nat} {a8 : Nat → Nat} {a10 : Nat → Nat} {a12 : Nat → Nat} {a14 : Nat → Nat} {a16 : Nat → Nat} {a18 : Nat → Nat} {q19 : Nat} {q20 : Nat} {q21 : Nat} {q22 : Nat} : (wX8 cI cR h0 a2 a4 a6 a8 a10 a12 a14 a16 a18 q19 q20 q21 q22)[49]? = some (adX h0 a2 a4 a6 a8 a10 a12 a14 a16 a18 q19 q20 q21 q22 49, cont cI cR (adX h0 a2 a4 a6 a8 a10 a12 a14 a16 a18 q19 q20 q21 q22) (shX 49) (μ0X 49)) := rfl
set_option maxRecDepth 100000 in
theorem x8_at_50 {cI cR : ClassId} {h0 : Nat} {a2 : Nat → Nat} {a4 : Nat → Nat} {a6 : Nat → Nat} {a8 : Nat → Nat} {a10 : Nat → Nat} {a12 : Nat → Nat} {a14 : Nat → Nat} {a16 : Nat → Nat} {a18 : Nat → Nat} {q19 : Nat} {q20 : Nat} {q21 : Nat} {q22 : Nat} : (wX8 cI cR h0 a2 a4 a6 a8 a10 a12 a14 a16 a18 q19 q20 q21 q22)[50]? = some (adX h0 a2 a4 a6 a8 a10 a12 a14 a16 a18 q19 q20 q21 q22 50, cont cI cR (adX h0 a2 a4 a6 a8 a10 a12 a14 a16 a18 q19 q20 q21 q22) (shX 50) (μ0X 50)) := rfl
set_option maxRecDepth 100000 in
theorem x8_at_51 {cI cR : ClassId} {h0 : Nat} {a2 : Nat → Nat} {a4 : Nat → Nat} {a6 : Nat → Nat} {a8 : Nat → Nat} {a10 : Nat → Nat} {a12 : Nat → Nat} {a14 : Nat → Nat} {a16 : Nat → Nat} {a18 : Nat → Nat} {q19 : Nat} {q20 : Nat} {q21 : Nat} {q22 : Nat} : (wX8 cI cR h0 a2 a4 a6 a8 a10 a12 a14 a16 a18 q19 q20 q21 q22)[51]? = some (adX h0 a2 a4 a6 a8 a10 a12 a14 a16 a18 q19 q20 q21 q22 51, cont cI cR (adX h0 a2 a4 a6 a8 a10 a12 a14 a16 a18 q19 q20 q21 q22) (shX 51) (μ0X 51)) := rfl
set_option maxRecDepth 100000 in
theorem x8_at_52 {cI cR : ClassId} {h0 : Nat} {a2 : Nat → Nat} {a4 : Nat → Nat} {a6 : Nat → Nat} {a8 : Nat → Nat} {a10 : Nat → Nat} {a12 : Nat → Nat} {a14 : Nat → Nat} {a16 : Nat → Nat} {a18 : Nat → Nat} {q19 : Nat} {q20 : Nat} {q21 : Nat} {q22 : Nat} : (wX8 cI cR h0 a2 a4 a6 a8 a10 a12 a14 a16 a18 q19 q20 q21 q22)[52]? = some (adX h0 a2 a4 a6 a8 a10 a12 a14 a16 a18 q19 q20 q21 q22 52, cont cI cR (adX h0 a2 a4 a6 a8 a10 a12 a14 a16 a18 q19 q20 q21 q22) (shX 52) (μ0X 52)) := rfl
set_option maxRecDepth 100000 in
theorem x8_at_53 {cI cR : ClassId} {h0 : Nat} {a2 : Nat → Nat} {a4 : Nat → Nat} {a6 : Nat → Nat} {a8 : Nat → Nat} {a10 : Nat → Nat} {a12 : Nat → Nat} {a14 : Nat → Nat} {a16 : Nat → Nat} {a18 : Nat → Nat} {q19 : Nat} {q20 : Nat} {q21 : Nat} {q22 : Nat} : (wX8 cI cR h0 a2 a4 a6 a8 a10 a12 a14 a16 a18 q19 q20 q21 q22)[53]? = some (adX h0 a2 a4 a6 a8 a10 a12 a14 a16 a18 q19 q20 q21 q22 53, cont cI cR (adX h0 a2 a4 a6 a8 a10 a12 a14 a16 a18 q19 q20 q21 q22) (shX 53) (μ0X 53)) := rfl
set_option maxRecDepth 100000 in
theorem x8_at_54 {cI cR : ClassId} {h0 : Nat} {a2 : Nat → Nat} {a4 : Nat → Nat} {a6 : Nat → Nat} {a8 : Nat → Nat} {a10 : Nat → Nat} {a12 : Nat → Nat} {a14 : Nat → Nat} {a16 : Nat → Nat} {a18 : Nat → Nat} {q19 : Nat} {q20 : Nat} {q21 : Nat} {q22 : Nat} : (wX8 cI cR h0 a2 a4 a6 a8 a10 a12 a14 a16 a18 q19 q20 q21 q22)[54]? = some (adX h0 a2 a4 a6 a8 a10 a12 a14 a16 a18 q19 q20 q21 q22 54, cont cI cR (adX h0 a2 a4 a6 a8 a10 a12 a14 a16 a18 q19 q20 q21 q22) (shX 54) (μ0X 54)) := rfl
set_option maxRecDepth 100000 in
theorem x8_at_55 {cI cR : ClassId} {h0 : Nat} {a2 : Nat → Nat} {a4 : Nat → Nat} {a6 : Nat → Nat} {a8 : Nat → Nat} {a10 : Nat → Nat} {a12 : Nat → Nat} {a14 : Nat → Nat} {a16 : Nat → Nat} {a18 : Nat → Nat} {q19 : Nat} {q20 : Nat} {q21 : Nat} {q22 : Nat} : (wX8 cI cR h0 a2 a4 a6 a8 a10 a12 a14 a16 a18 q19 q20 q21 q22)[55]? = some (adX h0 a2 a4 a6 a8 a10 a12 a14 a16 a18 q19 q20 q21 q22 55, cont cI cR (adX h0 a2 a4 a6 a8 a10 a12 a14 a16 a18 q19 q20 q21 q22) (shX 55) (μ0X 55)) := rfl
set_option maxRecDepth 100000 in
theorem x8_at_56 {cI cR : ClassId} {h0 : Nat} {a2 : Nat → Nat} {a4 : Nat → Nat} {a6 : Nat → Nat} {a8 : Nat → Nat} {a10 : Nat → Nat} {a12 : Nat → Nat} {a14 : Nat → Nat} {a16 : Nat → Nat} {a18 : Nat → Nat} {q19 : Nat} {q20 : Nat} {q21 : Nat} {q22 : Nat} : (wX8 cI cR h0 a2 a4 a6 a8 a10 a12 a14 a16 a18 q19 q20 q21 q22)[56]? = some (adX h0 a2 a4 a6 a8 a10 a12 a14 a16 a18 q19 q20 q21 q22 56, cont cI cR (adX h0 a2 a4 a6 a8 a10 a12 a14 a16 a18 q19 q20 q21 q22) (shX 56) (μ0X 56)) := rfl
set_option maxRecDepth 100000 in
theorem x8_at_57 {cI cR : ClassId} {h0 : Nat} {a2 : Nat → Nat} {a4 : Nat → Nat} {a6 : Nat → Nat} {a8 : Nat → Nat} {a10 : Nat → Nat} {a12 : Nat → Nat} {a14 : Nat → Nat} {a16 : Nat → Nat} {a18 : Nat → Nat} {q19 : Nat} {q20 : Nat} {q21 : Nat} {q22 : Nat} : (wX8 cI cR h0 a2 a4 a6 a8 a10 a12 a14 a16 a18 q19 q20 q21 q22)[57]? = some (adX h0 a2 a4 a6 a8 a10 a12 a14 a16 a18 q19 q20 q21 q22 57, cont cI cR (adX h0 a2 a4 a6 a8 a10 a12 a14 a16 a18 q19 q20 q21 q22) (shX 57) (μ0X 57)) := rfl
set_option maxRecDepth 100000 in
theorem x8_at_58 {cI cR : ClassId} {h0 : Nat} {a2 : Nat → Nat} {a4 : Nat → Nat} {a6 : Nat → Nat} {a8 : Nat → Nat} {a10 : Nat → Nat} {a12 : Nat → Nat} {a14 : Nat → Nat} {a16 : Nat → Nat} {a18 : Nat → Nat} {q19 : Nat} {q20 : Nat} {q21 : Nat} {q22 : Nat} : (wX8 cI cR h0 a2 a4 a6 a8 a10 a12 a14 a16 a18 q19 q20 q21 q22)[58]? = some (adX h0 a2 a4 a6 a8 a10 a12 a14 a16 a18 q19 q20 q21 q22 58, cont cI cR (adX h0 a2 a4 a6 a8 a10 a12 a14 a16 a18 q19 q20 q21 q22) (shX 58) (μ0X 58)) := rfl
set_option maxRecDepth 100000 in
theorem x8_at_59 {cI cR : ClassId} {h0 : Nat} {a2 : Nat → Nat} {a4 : Nat → Nat} {a6 : Nat → Nat} {a8 : Nat → Nat} {a10 : Nat → Nat} {a12 : Nat → Nat} {a14 : Nat → Nat} {a16 : Nat → Nat} {a18 : Nat → Nat} {q19 : Nat} {q20 : Nat} {q21 : Nat} {q22 : Nat} : (wX8 cI cR h0 a2 a4 a6 a8 a10 a12 a14 a16 a18 q19 q20 q21 q22)[59]? = some (adX h0 a2 a4 a6 a8 a10 a12 a14 a16 a18 q19 q20 q21 q22 59, cont cI cR (adX h0 a2 a4 a6 a8 a10 a12 a14 a16 a18 q19 q20 q21 q22) (shX 59) (μ0X 59)) := rfl
set_option maxRecDepth 100000 in
theorem x8_at_60 {cI cR : ClassId} {h0 : Nat} {a2 : Nat → Nat} {a4 : Nat → Nat} {a6 : Nat → Nat} {a8 : Nat → Nat} {a10 : Nat → Nat} {a12 : Nat → Nat} {a14 : Nat → Nat} {a16 : Nat → Nat} {a18 : Nat → Nat} {q19 : Nat} {q20 : Nat} {q21 : Nat} {q22 : Nat} : (wX8 cI cR h0 a2 a4 a6 a8 a10 a12 a14 a16 a18 q19 q20 q21 q22)[60]? = some (adX h0 a2 a4 a6 a8 a10 a12 a14 a16 a18 q19 q20 q21 q22 60, cont cI cR (adX h0 a2 a4 a6 a8 a10 a12 a14 a16 a18 q19 q20 q21 q22) (shX 60) (μ0X 60)) := rfl
set_option maxRecDepth 100000 in
theorem x8_at_61 {cI cR : ClassId} {h0 : Nat} {a2 : Nat → Nat} {a4 : Nat → Nat} {a6 : Nat → Nat} {a8 : Nat → Nat} {a10 : Nat → Nat} {a12 : Nat → Nat} {a14 : Nat → Nat} {a16 : Nat → Nat} {a18 : Nat → Nat} {q19 : Nat} {q20 : Nat} {q21 : Nat} {q22 : Nat} : (wX8 cI cR h0 a2 a4 a6 a8 a10 a12 a14 a16 a18 q19 q20 q21 q22)[61]? = some (adX h0 a2 a4 a6 a8 a10 a12 a14 a16 a18 q19 q20 q21 q22 61, cont cI cR (adX h0 a2 a4 a6 a8 a10 a12 a14 a16 a18 q19 q20 q21 q22) (shX 61) (μ0X 61)) := rfl
set_option maxRecDepth 100000 in
theorem x8_at_62 {cI cR : ClassId} {h0 : Nat} {a2 : Nat → Nat} {a4 : Nat → Nat} {a6 : Nat → Nat} {a8 : Nat → Nat} {a10 : Nat → Nat} {a12 : Nat → Nat} {a14 : Nat → Nat} {a16 : Nat → Nat} {a18 : Nat → Nat} {q19 : Nat} {q20 : Nat} {q21 : Nat} {q22 : Nat} : (wX8 cI cR h0 a2 a4 a6 a8 a10 a12 a14 a16 a18 q19 q20 q21 q22)[62]? = some (adX h0 a2 a4 a6 a8 a10 a12 a14 a16 a18 q19 q20 q21 q22 62, cont cI cR (adX h0 a2 a4 a6 a8 a10 a12 a14 a16 a18 q19 q20 q21 q22) (shX 62) (μ0X 62)) := rfl
set_option maxRecDepth 100000 in
theorem x8_at_63 {cI cR : ClassId} {h0 : Nat} {a2 : Nat → Nat} {a4 : Nat → Nat} {a6 : Nat → Nat} {a8 : Nat → Nat} {a10 : Nat → Nat} {a12 : Nat → Nat} {a14 : Nat → Nat} {a16 : Nat → Nat} {a18 : Nat → Nat} {q19 : Nat} {q20 : Nat} {q21 : Nat} {q22 : Nat} : (wX8 cI cR h0 a2 a4 a6 a8 a10 a12 a14 a16 a18 q19 q20 q21 q22)[63]? = some (adX h0 a2 a4 a6 a8 a10 a12 a14 a16 a18 q19 q20 q21 q22 63, cont cI cR (adX h0 a2 a4 a6 a8 a10 a12 a14 a16 a18 q19 q20 q21 q22) (shX 63) (μ0X 63)) := rfl
set_option maxRecDepth 100000 in
theorem x8_at_64 {cI cR : ClassId} {h0 : Nat} {a2 : Nat → Nat} {a4 : Nat → Nat} {a6 : Nat → Nat} {a8 : Nat → Nat} {a10 : Nat → Nat} {a12 : Nat → Nat} {a14 : Nat → Nat} {a16 : Nat → Nat} {a18 : Nat → Nat} {q19 : Nat} {q20 : Nat} {q21 : Nat} {q22 : Nat} : (wX8 cI cR h0 a2 a4 a6 a8 a10 a12 a14 a16 a18 q19 q20 q21 q22)[64]? = some (adX h0 a2 a4 a6 a8 a10 a12 a14 a16 a18 q19 q20 q21 q22 64, cont cI cR (adX h0 a2 a4 a6 a8 a10 a12 a14 a16 a18 q19 q20 q21 q22) (shX 64) (μ0X 64)) := rfl
set_option maxRecDepth 100000 in
theorem x8_at_65 {cI cR : ClassId} {h0 : Nat} {a2 : Nat → Nat} {a4 : Nat → Nat} {a6 : Nat → Nat} {a8 : Nat → Nat} {a10 : Nat → Nat} {a12 : Nat → Nat} {a14 : Nat → Nat} {a16 : Nat → Nat} {a18 : Nat → Nat} {q19 : Nat} {q20 : Nat} {q21 : Nat} {q22 : Nat} : (wX8 cI cR h0 a2 a4 a6 a8 a10 a12 a14 a16 a18 q19 q20 q21 q22)[65]? = some (adX h0 a2 a4 a6 a8 a10 a12 a14 a16 a18 q19 q20 q21 q22 65, cont cI cR (adX h0 a2 a4 a6 a8 a10 a12 a14 a16 a18 q19 q20 q21 q22) (shX 65) (μ0X 65)) := rfl
set_option maxRecDepth 100000 in
theorem x8_at_66 {cI cR : ClassId} {h0 : Nat} {a2 : Nat → Nat} {a4 : Nat → Nat} {a6 : Nat → Nat} {a8 : Nat → Nat} {a10 : Nat → Nat} {a12 : Nat → Nat} {a14 : Nat → Nat} {a16 : Nat → Nat} {a18 : Nat → Nat} {q19 : Nat} {q20 : Nat} {q21 : Nat} {q22 : Nat} : (wX8 cI cR h0 a2 a4 a6 a8 a10 a12 a14 a16 a18 q19 q20 q21 q22)[66]? = some (adX h0 a2 a4 a6 a8 a10 a12 a14 a16 a18 q19 q20 q21 q22 66, cont cI cR (adX h0 a2 a4 a6 a8 a10 a12 a14 a16 a18 q19 q20 q21 q22) (shX 66) (μ0X 66)) := rfl
set_option maxRecDepth 100000 in
theorem x8_at_67 {cI cR : ClassId} {h0 : Nat} {a2 : Nat → Nat} {a4 : Nat → Nat} {a6 : Nat → Nat} {a8 : Nat → Nat} {a10 : Nat → Nat} {a12 : Nat → Nat} {a14 : Nat → Nat} {a16 : Nat → Nat} {a18 : Nat → Nat} {q19 : Nat} {q20 : Nat} {q21 : Nat} {q22 : Nat} : (wX8 cI cR h0 a2 a4 a6 a8 a10 a12 a14 a16 a18 q19 q20 q21 q22)[67]? = some (adX h0 a2 a4 a6 a8 a10 a12 a14 a16 a18 q19 q20 q21 q22 67, cont cI cR (adX h0 a2 a4 a6 a8 a10 a12 a14 a16 a18 q19 q20 q21 q22) (shX 67) (μ0X 67)) := rfl
set_option maxRecDepth 100000 in
theorem x8_at_68 {cI cR : ClassId} {h0 : Nat} {a2 : Nat → Nat} {a4 : Nat → Nat} {a6 : Nat → Nat} {a8 : Nat → Nat} {a10 : Nat → Nat} {a12 : Nat → Nat} {a14 : Nat → Nat} {a16 : Nat → Nat} {a18 : Nat → Nat} {q19 : Nat} {q20 : Nat} {q21 : Nat} {q22 : Nat} : (wX8 cI cR h0 a2 a4 a6 a8 a10 a12 a14 a16 a18 q19 q20 q21 q22)[68]? = some (adX h0 a2 a4 a6 a8 a10 a12 a14 a16 a18 q19 q20 q21 q22 68, cont cI cR (adX h0 a2 a4 a6 a8 a10 a12 a14 a16 a18 q19 q20 q21 q22) (shX 68) (μ0X 68)) := rfl
set_option maxRecDepth 100000 in
theorem x8_at_69 {cI cR : ClassId} {h0 : Nat} {a2 : Nat → Nat} {a4 : Nat → Nat} {a6 : Nat → Nat} {a8 : Nat → Nat} {a10 : Nat → Nat} {a12 : Nat → Nat} {a14 : Nat → Nat} {a16 : Nat → Nat} {a18 : Nat → Nat} {q19 : Nat} {q20 : Nat} {q21 : Nat} {q22 : Nat} : (wX8 cI cR h0 a2 a4 a6 a8 a10 a12 a14 a16 a18 q19 q20 q21 q22)[69]? = some (adX h0 a2 a4 a6 a8 a10 a12 a14 a16 a18 q19 q20 q21 q22 69, cont cI cR (adX h0 a2 a4 a6 a8 a10 a12 a14 a16 a18 q19 q20 q21 q22) (shX 69) (μ0X 69)) := rfl
set_option maxRecDepth 100000 in
theorem x8_at_70 {cI cR : ClassId} {h0 : Nat} {a2 : Nat → Nat} {a4 : Nat → Nat} {a6 : Nat → Nat} {a8 : Nat → Nat} {a10 : Nat → Nat} {a12 : Nat → Nat} {a14 : Nat → Nat} {a16 : Nat → Nat} {a18 : Nat → Nat} {q19 : Nat} {q20 : Nat} {q21 : Nat} {q22 : Nat} : (wX8 cI cR h0 a2 a4 a6 a8 a10 a12 a14 a16 a18 q19 q20 q21 q22)[70]? = some (adX h0 a2 a4 a6 a8 a10 a12 a14 a16 a18 q19 q20 q21 q22 70, cont cI cR (adX h0 a2 a4 a6 a8 a10 a12 a14 a16 a18 q19 q20 q21 q22) (shX 70) (μ0X 70)) := rfl
set_option maxRecDepth 100000 in
theorem x8_at_71 {cI cR : ClassId} {h0 : Nat} {a2 : Nat → Nat} {a4 : Nat → Nat} {a6 : Nat → Nat} {a8 : Nat → Nat} {a10 : Nat → Nat} {a12 : Nat → Nat} {a14 : Nat → Nat} {a16 : Nat → Nat} {a18 : Nat → Nat} {q19 : Nat} {q20 : Nat} {q21 : Nat} {q22 : Nat} : (wX8 cI cR h0 a2 a4 a6 a8 a10 a12 a14 a16 a18 q19 q20 q21 q22)[71]? = some (adX h0 a2 a4 a6 a8 a10 a12 a14 a16 a18 q19 q20 q21 q22 71, cont cI cR (adX h0 a2 a4 a6 a8 a10 a12 a14 a16 a18 q19 q20 q21 q22) (shX 71) (μ0X 71)) := rfl
set_option maxRecDepth 100000 in
theorem x8_at_72 {cI cR : ClassId} {h0 : Nat} {a2 : Nat → Nat} {a4 : Nat → Nat} {a6 : Nat → Nat} {a8 : Nat → Nat} {a10 : Nat → Nat} {a12 : Nat → Nat} {a14 : Nat → Nat} {a16 : Nat → Nat} {a18 : Nat → Nat} {q19 : Nat} {q20 : Nat} {q21 : Nat} {q22 : Nat} : (wX8 cI cR h0 a2 a4 a6 a8 a10 a12 a14 a16 a18 q19 q20 q21 q22)[72]? = some (adX h0 a2 a4 a6 a8 a10 a12 a14 a16 a18 q19 q20 q21 q22 72, cont cI cR (adX h0 a2 a4 a6 a8 a10 a12 a14 a16 a18 q19 q20 q21 q22) (shX 72) (μ0X 72)) := rfl
set_option maxRecDepth 100000 in
theorem x8_at_73 {cI cR : ClassId} {h0 : Nat} {a2 : Nat → Nat} {a4 : Nat → Nat} {a6 : Nat → Nat} {a8 : Nat → Nat} {a10 : Nat → Nat} {a12 : Nat → Nat} {a14 : Nat → Nat} {a16 : Nat → Nat} {a18 : Nat → Nat} {q19 : Nat} {q20 : Nat} {q21 : Nat} {q22 : Nat} : (wX8 cI cR h0 a2 a4 a6 a8 a10 a12 a14 a16 a18 q19 q20 q21 q22)[73]? = some (adX h0 a2 a4 a6 a8 a10 a12 a14 a16 a18 q19 q20 q21 q22 73, cont cI cR (adX h0 a2 a4 a6 a8 a10 a12 a14 a16 a18 q19 q20 q21 q22) (shX 73) (μ0X 73)) := rfl
set_option maxRecDepth 100000 in
theorem x8_at_74 {cI cR : ClassId} {h0 : Nat} {a2 : Nat → Nat} {a4 : Nat → Nat} {a6 : Nat → Nat} {a8 : Nat → Nat} {a10 : Nat → Nat} {a12 : Nat → Nat} {a14 : Nat → Nat} {a16 : Nat → Nat} {a18 : Nat → Nat} {q19 : Nat} {q20 : Nat} {q21 : Nat} {q22 : Nat} : (wX8 cI cR h0 a2 a4 a6 a8 a10 a12 a14 a16 a18 q19 q20 q21 q22)[74]? = some (adX h0 a2 a4 a6 a8 a10 a12 a14 a16 a18 q19 q20 q21 q22 74, cont cI cR (adX h0 a2 a4 a6 a8 a10 a12 a14 a16 a18 q19 q20 q21 q22) (shX 74) (μ0X 74)) := rfl
set_option maxRecDepth 100000 in
theorem x8_at_75 {cI cR : ClassId} {h0 : Nat} {a2 : Nat → Nat} {a4 : Nat → Nat} {a6 : Nat → Nat} {a8 : Nat → Nat} {a10 : Nat → Nat} {a12 : Nat → Nat} {a14 : Nat → Nat} {a16 : Nat → Nat} {a18 : Nat → Nat} {q19 : Nat} {q20 : Nat} {q21 : Nat} {q22 : Nat} : (wX8 cI cR h0 a2 a4 a6 a8 a10 a12 a14 a16 a18 q19 q20 q21 q22)[75]? = some (adX h0 a2 a4 a6 a8 a10 a12 a14 a16 a18 q19 q20 q21 q22 75, cont cI cR (adX h0 a2 a4 a6 a8 a10 a12 a14 a16 a18 q19 q20 q21 q22) (shX 75) (μ0X 75)) := rfl
set_option maxRecDepth 100000 in
theorem x8_at_76 {cI cR : ClassId} {h0 : Nat} {a2 : Nat → Nat} {a4 : Nat → Nat} {a6 : Nat → Nat} {a8 : Nat → Nat} {a10 : Nat → Nat} {a12 : Nat → Nat} {a14 : Nat → Nat} {a16 : Nat → Nat} {a18 : Nat → Nat} {q19 : Nat} {q20 : Nat} {q21 : Nat} {q22 : Nat} : (wX8 cI cR h0 a2 a4 a6 a8 a10 a12 a14 a16 a18 q19 q20 q21 q22)[76]? = some (adX h0 a2 a4 a6 a8 a10 a12 a14 a16 a18 q19 q20 q21 q22 76, cont cI cR (adX h0 a2 a4 a6 a8 a10 a12 a14 a16 a18 q19 q20 q21 q22) (shX 76) (μ0X 76)) := rfl
set_option maxRecDepth 100000 in
theorem x8_at_77 {cI cR : ClassId} {h0 : Nat} {a2 : Nat → Nat} {a4 : Nat → Nat} {a6 : Nat → Nat} {a8 : Nat → Nat} {a10 : Nat → Nat} {a12 : Nat → Nat} {a14 : Nat → Nat} {a16 : Nat → Nat} {a18 : Nat → Nat} {q19 : Nat} {q20 : Nat} {q21 : Nat} {q22 : Nat} : (wX8 cI cR h0 a2 a4 a6 a8 a10 a12 a14 a16 a18 q19 q20 q21 q22)[77]? = some (adX h0 a2 a4 a6 a8 a10 a12 a14 a16 a18 q19 q20 q21 q22 77, cont cI cR (adX h0 a2 a4 a6 a8 a10 a12 a14 a16 a18 q19 q20 q21 q22) (shX 77) (μ0X 77)) := rfl
set_option maxRecDepth 100000 in
theorem x8_at_78 {cI cR : ClassId} {h0 : Nat} {a2 : Nat → Nat} {a4 : Nat → Nat} {a6 : Nat → Nat} {a8 : Nat → Nat} {a10 : Nat → Nat} {a12 : Nat → Nat} {a14 : Nat → Nat} {a16 : Nat → Nat} {a18 : Nat → Nat} {q19 : Nat} {q20 : Nat} {q21 : Nat} {q22 : Nat} : (wX8 cI cR h0 a2 a4 a6 a8 a10 a12 a14 a16 a18 q19 q20 q21 q22)[78]? = some (adX h0 a2 a4 a6 a8 a10 a12 a14 a16 a18 q19 q20 q21 q22 78, cont cI cR (adX h0 a2 a4 a6 a8 a10 a12 a14 a16 a18 q19 q20 q21 q22) (shX 78) (μ0X 78)) := rfl
set_option maxRecDepth 100000 in
theorem x8_at_79 {cI cR : ClassId} {h0 : Nat} {a2 : Nat → Nat} {a4 : Nat → Nat} {a6 : Nat → Nat} {a8 : Nat → Nat} {a10 : Nat → Nat} {a12 : Nat → Nat} {a14 : Nat → Nat} {a16 : Nat → Nat} {a18 : Nat → Nat} {q19 : Nat} {q20 : Nat} {q21 : Nat} {q22 : Nat} : (wX8 cI cR h0 a2 a4 a6 a8 a10 a12 a14 a16 a18 q19 q20 q21 q22)[79]? = some (adX h0 a2 a4 a6 a8 a10 a12 a14 a16 a18 q19 q20 q21 q22 79, cont cI cR (adX h0 a2 a4 a6 a8 a10 a12 a14 a16 a18 q19 q20 q21 q22) (shX 79) (μ0X 79)) := rfl
set_option maxRecDepth 100000 in
theorem x8_at_80 {cI cR : ClassId} {h0 : Nat} {a2 : Nat → Nat} {a4 : Nat → Nat} {a6 : Nat → Nat} {a8 : Nat → Nat} {a10 : Nat → Nat} {a12 : Nat → Nat} {a14 : Nat → Nat} {a16 : Nat → Nat} {a18 : Nat → Nat} {q19 : Nat} {q20 : Nat} {q21 : Nat} {q22 : Nat} : (wX8 cI cR h0 a2 a4 a6 a8 a10 a12 a14 a16 a18 q19 q20 q21 q22)[80]? = some (adX h0 a2 a4 a6 a8 a10 a12 a14 a16 a18 q19 q20 q21 q22 80, cont cI cR (adX h0 a2 a4 a6 a8 a10 a12 a14 a16 a18 q19 q20 q21 q22) (shX 80) (μ0X 80)) := rfl
set_option maxRecDepth 100000 in
theorem x8_at_81 {cI cR : ClassId} {h0 : Nat} {a2 : Nat → Nat} {a4 : Nat → Nat} {a6 : Nat → Nat} {a8 : Nat → Nat} {a10 : Nat → Nat} {a12 : Nat → Nat} {a14 : Nat → Nat} {a16 : Nat → Nat} {a18 : Nat → Nat} {q19 : Nat} {q20 : Nat} {q21 : Nat} {q22 : Nat} : (wX8 cI cR h0 a2 a4 a6 a8 a10 a12 a14 a16 a18 q19 q20 q21 q22)[81]? = some (adX h0 a2 a4 a6 a8 a10 a12 a14 a16 a18 q19 q20 q21 q22 81, cont cI cR (adX h0 a2 a4 a6 a8 a10 a12 a14 a16 a18 q19 q20 q21 q22) (shX 81) (μ0X 81)) := rfl
set_option maxRecDepth 100000 in
theorem x8_at_82 {cI cR : ClassId} {h0 : Nat} {a2 : Nat → Nat} {a4 : Nat → Nat} {a6 : Nat → Nat} {a8 : Nat → Nat} {a10 : Nat → Nat} {a12 : Nat → Nat} {a14 : Nat → Nat} {a16 : Nat → Nat} {a18 : Nat → Nat} {q19 : Nat} {q20 : Nat} {q21 : Nat} {q22 : Nat} : (wX8 cI cR h0 a2 a4 a6 a8 a10 a12 a14 a16 a18 q19 q20 q21 q22)[82]? = some (adX h0 a2 a4 a6 a8 a10 a12 a14 a16 a18 q19 q20 q21 q22 82, cont cI cR (adX h0 a2 a4 a6 a8 a10 a12 a14 a16 a18 q19 q20 q21 q22) (shX 82) (μ0X 82)) := rfl
set_option maxRecDepth 100000 in
theorem x8_at_83 {cI cR : ClassId} {h0 : Nat} {a2 : Nat → Nat} {a4 : Nat → Nat} {a6 : Nat → Nat} {a8 : Nat → Nat} {a10 : Nat → Nat} {a12 : Nat → Nat} {a14 : Nat → Nat} {a16 : Nat → Nat} {a18 : Nat → Nat} {q19 : Nat} {q20 : Nat} {q21 : Nat} {q22 : Nat} : (wX8 cI cR h0 a2 a4 a6 a8 a10 a12 a14 a16 a18 q19 q20 q21 q22)[83]? = some (adX h0 a2 a4 a6 a8 a10 a12 a14 a16 a18 q19 q20 q21 q22 83, cont cI cR (adX h0 a2 a4 a6 a8 a10 a12 a14 a16 a18 q19 q20 q21 q22) (shX 83) (μ0X 83)) := rfl
set_option maxRecDepth 100000 in
theorem x8_at_84 {cI cR : ClassId} {h0 : Nat} {a2 : Nat → Nat} {a4 : Nat → Nat} {a6 : Nat → Nat} {a8 : Nat → Nat} {a10 : Nat → Nat} {a12 : Nat → Nat} {a14 : Nat → Nat} {a16 : Nat → Nat} {a18 : Nat → Nat} {q19 : Nat} {q20 : Nat} {q21 : Nat} {q22 : Nat} : (wX8 cI cR h0 a2 a4 a6 a8 a10 a12 a14 a16 a18 q19 q20 q21 q22)[84]? = some (adX h0 a2 a4 a6 a8 a10 a12 a14 a16 a18 q19 q20 q21 q22 84, cont cI cR (adX h0 a2 a4 a6 a8 a10 a12 a14 a16 a18 q19 q20 q21 q22) (shX 84) (μ0X 84)) := rfl
set_option maxRecDepth 100000 in
theorem x8_at_85 {cI cR : ClassId} {h0 : Nat} {a2 : Nat → Nat} {a4 : Nat → Nat} {a6 : Nat → Nat} {a8 : Nat → Nat} {a10 : Nat → Nat} {a12 : Nat → Nat} {a14 : Nat → Nat} {a16 : Nat → Nat} {a18 : Nat → Nat} {q19 : Nat} {q20 : Nat} {q21 : Nat} {q22 : Nat} : (wX8 cI cR h0 a2 a4 a6 a8 a10 a12 a14 a16 a18 q19 q20 q21 q22)[85]? = some (adX h0 a2 a4 a6 a8 a10 a12 a14 a16 a18 q19 q20 q21 q22 85, cont cI cR (adX h0 a2 a4 a6 a8 a10 a12 a14 a16 a18 q19 q20 q21 q22) (shX 85) (μ0X 85)) := rfl
set_option maxRecDepth 100000 in
theorem x8_at_86 {cI cR : ClassId} {h0 : Nat} {a2 : Nat → Nat} {a4 : Nat → Nat} {a6 : Nat → Nat} {a8 : Nat → Nat} {a10 : Nat → Nat} {a12 : Nat → Nat} {a14 : Nat → Nat} {a16 : Nat → Nat} {a18 : Nat → Nat} {q19 : Nat} {q20 : Nat} {q21 : Nat} {q22 : Nat} : (wX8 cI cR h0 a2 a4 a6 a8 a10 a12 a14 a16 a18 q19 q20 q21 q22)[86]? = some (adX h0 a2 a4 a6 a8 a10 a12 a14 a16 a18 q19 q20 q21 q22 86, cont cI cR (adX h0 a2 a4 a6 a8 a10 a12 a14 a16 a18 q19 q20 q21 q22) (shX 86) (μ0X 86)) := rfl
set_option maxRecDepth 100000 in
theorem x8_at_87 {cI cR : ClassId} {h0 : Nat} {a2 : Nat → Nat} {a4 : Nat → Nat} {a6 : Nat → Nat} {a8 : Nat → Nat} {a10 : Nat → Nat} {a12 : Nat → Nat} {a14 : Nat → Nat} {a16 : Nat → Nat} {a18 : Nat → Nat} {q19 : Nat} {q20 : Nat} {q21 : Nat} {q22 : Nat} : (wX8 cI cR h0 a2 a4 a6 a8 a10 a12 a14 a16 a18 q19 q20 q21 q22)[87]? = some (adX h0 a2 a4 a6 a8 a10 a12 a14 a16 a18 q19 q20 q21 q22 87, cont cI cR (adX h0 a2 a4 a6 a8 a10 a12 a14 a16 a18 q19 q20 q21 q22) (shX 87) (μ0X 87)) := rfl
set_option maxRecDepth 100000 in
theorem x8_at_88 {cI cR : ClassId} {h0 : Nat} {a2 : Nat → Nat} {a4 : Nat → Nat} {a6 : Nat → Nat} {a8 : Nat → Nat} {a10 : Nat → Nat} {a12 : Nat → Nat} {a14 : Nat → Nat} {a16 : Nat → Nat} {a18 : Nat → Nat} {q19 : Nat} {q20 : Nat} {q21 : Nat} {q22 : Nat} : (wX8 cI cR h0 a2 a4 a6 a8 a10 a12 a14 a16 a18 q19 q20 q21 q22)[88]? = some (adX h0 a2 a4 a6 a8 a10 a12 a14 a16 a18 q19 q20 q21 q22 88, cont cI cR (adX h0 a2 a4 a6 a8 a10 a12 a14 a16 a18 q19 q20 q21 q22) (shX 88) (μ0X 88)) := rfl
set_option maxRecDepth 100000 in
theorem x8_at_89 {cI cR : ClassId} {h0 : Nat} {a2 : Nat → Nat} {a4 : Nat → Nat} {a6 : Nat → Nat} {a8 : Nat → Nat} {a10 : Nat → Nat} {a12 : Nat → Nat} {a14 : Nat → Nat} {a16 : Nat → Nat} {a18 : Nat → Nat} {q19 : Nat} {q20 : Nat} {q21 : Nat} {q22 : Nat} : (wX8 cI cR h0 a2 a4 a6 a8 a10 a12 a14 a16 a18 q19 q20 q21 q22)[89]? = some (adX h0 a2 a4 a6 a8 a10 a12 a14 a16 a18 q19 q20 q21 q22 89, cont cI cR (adX h0 a2 a4 a6 a8 a10 a12 a14 a16 a18 q19 q20 q21 q22) (shX 89) (μ0X 89)) := rfl
set_option maxRecDepth 100000 in
theorem x8_at_90 {cI cR : ClassId} {h0 : Nat} {a2 : Nat → Nat} {a4 : Nat → Nat} {a6 : Nat → Nat} {a8 : Nat → Nat} {a10 : Nat → Nat} {a12 : Nat → Nat} {a14 : Nat → Nat} {a16 : Nat → Nat} {a18 : Nat → Nat} {q19 : Nat} {q20 : Nat} {q21 : Nat} {q22 : Nat} : (wX8 cI cR h0 a2 a4 a6 a8 a10 a12 a14 a16 a18 q19 q20 q21 q22)[90]? = some (adX h0 a2 a4 a6 a8 a10 a12 a14 a16 a18 q19 q20 q21 q22 90, cont cI cR (adX h0 a2 a4 a6 a8 a10 a12 a14 a16 a18 q19 q20 q21 q22) (shX 90) (μ0X 90)) := rfl
set_option maxRecDepth 100000 in
theorem x8_at_91 {cI cR : ClassId} {h0 : Nat} {a2 : Nat → Nat} {a4 : Nat → Nat} {a6 : Nat → Nat} {a8 : Nat → Nat} {a10 : Nat → Nat} {a12 : Nat → Nat} {a14 : Nat → Nat} {a16 : Nat → Nat} {a18 : Nat → Nat} {q19 : Nat} {q20 : Nat} {q21 : Nat} {q22 : Nat} : (wX8 cI cR h0 a2 a4 a6 a8 a10 a12 a14 a16 a18 q19 q20 q21 q22)[91]? = some (adX h0 a2 a4 a6 a8 a10 a12 a14 a16 a18 q19 q20 q21 q22 91, cont cI cR (adX h0 a2 a4 a6 a8 a10 a12 a14 a16 a18 q19 q20 q21 q22) (shX 91) (μ0X 91)) := rfl
set_option maxRecDepth 100000 in
theorem x8_at_92 {cI cR : ClassId} {h0 : Nat} {a2 : Nat → Nat} {a4 : Nat → Nat} {a6 : Nat → Nat} {a8 : Nat → Nat} {a10 : Nat → Nat} {a12 : Nat → Nat} {a14 : Nat → Nat} {a16 : Nat → Nat} {a18 : Nat → Nat} {q19 : Nat} {q20 : Nat} {q21 : Nat} {q22 : Nat} : (wX8 cI cR h0 a2 a4 a6 a8 a10 a12 a14 a16 a18 q19 q20 q21 q22)[92]? = some (adX h0 a2 a4 a6 a8 a10 a12 a14 a16 a18 q19 q20 q21 q22 92, cont cI cR (adX h0 a2 a4 a6 a8 a10 a12 a14 a16 a18 q19 q20 q21 q22) (shX 92) (μ0X 92)) := rfl
set_option maxRecDepth 100000 in
theorem x8_at_93 {cI cR : ClassId} {h0 : Nat} {a2 : Nat → Nat} {a4 : Nat → Nat} {a6 : Nat → Nat} {a8 : Nat → Nat} {a10 : Nat → Nat} {a12 : Nat → Nat} {a14 : Nat → Nat} {a16 : Nat → Nat} {a18 : Nat → Nat} {q19 : Nat} {q20 : Nat} {q21 : Nat} {q22 : Nat} : (wX8 cI cR h0 a2 a4 a6 a8 a10 a12 a14 a16 a18 q19 q20 q21 q22)[93]? = some (adX h0 a2 a4 a6 a8 a10 a12 a14 a16 a18 q19 q20 q21 q22 93, cont cI cR (adX h0 a2 a4 a6 a8 a10 a12 a14 a16 a18 q19 q20 q21 q22) (shX 93) (μ0X 93)) := rfl
set_option maxRecDepth 100000 in
theorem x8_at_94 {cI cR : ClassId} {h0 : Nat} {a2 : Nat → Nat} {a4 : Nat → Nat} {a6 : Nat → Nat} {a8 : Nat → Nat} {a10 : Nat → Nat} {a12 : Nat → Nat} {a14 : Nat → Nat} {a16 : Nat → Nat} {a18 : Nat → Nat} {q19 : Nat} {q20 : Nat} {q21 : Nat} {q22 : Nat} : (wX8 cI cR h0 a2 a4 a6 a8 a10 a12 a14 a16 a18 q19 q20 q21 q22)[94]? = some (adX h0 a2 a4 a6 a8 a10 a12 a14 a16 a18 q19 q20 q21 q22 94, cont cI cR (adX h0 a2 a4 a6 a8 a10 a12 a14 a16 a18 q19 q20 q21 q22) (shX 94) (μ0X 94)) := rfl
set_option maxRecDepth 100000 in
theorem x8_at_95 {cI cR : ClassId} {h0 : Nat} {a2 : Nat → Nat} {a4 : Nat → Nat} {a6 : Nat → Nat} {a8 : Nat → Nat} {a10 : Nat → Nat} {a12 : Nat → Nat} {a14 : Nat → Nat} {a16 : Nat → Nat} {a18 : Nat → Nat} {q19 : Nat} {q20 : Nat} {q21 : Nat} {q22 : Nat} : (wX8 cI cR h0 a2 a4 a6 a8 a10 a12 a14 a16 a18 q19 q20 q21 q22)[95]? = some (adX h0 a2 a4 a6 a8 a10 a12 a14 a16 a18 q19 q20 q21 q22 95, cont cI cR (adX h0 a2 a4 a6 a8 a10 a12 a14 a16 a18 q19 q20 q21 q22) (shX 95) (μ0X 95)) := rfl
set_option maxRecDepth 100000 in
theorem x8_at_96 {cI cR : ClassId} {h0 : Nat} {a2 : Nat → Nat} {a4 : Nat → Nat} {a6 : Nat → Nat} {a8 : Nat → Nat} {a10 : Nat → Nat} {a12 : Nat → Nat} {a14 : Nat → Nat} {a16 : Nat → Nat} {a18 : Nat → Nat} {q19 : Nat} {q20 : Nat} {q21 : Nat} {q22 : Nat} : (wX8 cI cR h0 a2 a4 a6 a8 a10 a12 a14 a16 a18 q19 q20 q21 q22)[96]? = some (adX h0 a2 a4 a6 a8 a10 a12 a14 a16 a18 q19 q20 q21 q22 96, cont cI cR (adX h0 a2 a4 a6 a8 a10 a12 a14 a16 a18 q19 q20 q21 q22) (shX 96) (μ0X 96)) := rfl
set_option maxRecDepth 100000 in
theorem x8_at_97 {cI cR : ClassId} {h0 : Nat} {a2 : Nat → Nat} {a4 : Nat → Nat} {a6 : Nat → Nat} {a8 : Nat → Nat} {a10 : Nat → Nat} {a12 : Nat → Nat} {a14 : Nat → Nat} {a16 : Nat → Nat} {a18 : Nat → Nat} {q19 : Nat} {q20 : Nat} {q21 : Nat} {q22 : Nat} : (wX8 cI cR h0 a2 a4 a6 a8 a10 a12 a14 a16 a18 q19 q20 q21 q22)[97]? = some (adX h0 a2 a4 a6 a8 a10 a12 a14 a16 a18 q19 q20 q21 q22 97, cont cI cR (adX h0 a2 a4 a6 a8 a10 a12 a14 a16 a18 q19 q20 q21 q22) (shX 97) (μ0X 97)) := rfl
set_option maxRecDepth 100000 in
theorem x8_at_98 {cI cR : ClassId} {h0 : Nat} {a2 : Nat → Nat} {a4 : Nat → Nat} {a6 : Nat → Nat} {a8 : Nat → Nat} {a10 : Nat → Nat} {a12 : Nat → Nat} {a14 : Nat → Nat} {a16 : Nat → Nat} {a18 : Nat → Nat} {q19 : Nat} {q20 : Nat} {q21 : Nat} {q22 : Nat} : (wX8 cI cR h0 a2 a4 a6 a8 a10 a12 a14 a16 a18 q19 q20 q21 q22)[98]? = some (adX h0 a2 a4 a6 a8 a10 a12 a14 a16 a18 q19 q20 q21 q22 98, cont cI cR (adX h0 a2 a4 a6 a8 a10 a12 a14 a16 a18 q19 q20 q21 q22) (shX 98) (μ0X 98)) := rfl
set_option maxRecDepth 100000 in
theorem x8_at_99 {cI cR : ClassId} {h0 : Nat} {a2 : Nat → Nat} {a4 : Nat → Nat} {a6 : Nat → Nat} {a8 : Nat → Nat} {a10 : Nat → Nat} {a12 : Nat → Nat} {a14 : Nat → Nat} {a16 : Nat → Nat} {a18 : Nat → Nat} {q19 : Nat} {q20 : Nat} {q21 : Nat} {q22 : Nat} : (wX8 cI cR h0 a2 a4 a6 a8 a10 a12 a14 a16 a18 q19 q20 q21 q22)[99]? = some (adX h0 a2 a4 a6 a8 a10 a12 a14 a16 a18 q19 q20 q21 q22 99, cont cI cR (adX h0 a2 a4 a6 a8 a10 a12 a14 a16 a18 q19 q20 q21 q22) (shX 99) (μ0X 99)) := rfl
set_option maxRecDepth 100000 in
theorem x8_at_100 {cI cR : ClassId} {h0 : Nat} {a2 : Nat → Nat} {a4 : Nat → Nat} {a6 : Nat → Nat} {a8 : Nat → Nat} {a10 : Nat → Nat} {a12 : Nat → Nat} {a14 : Nat → Nat} {a16 : Nat → Nat} {a18 : Nat → Nat} {q19 : Nat} {q20 : Nat} {q21 : Nat} {q22 : Nat} : (wX8 cI cR h0 a2 a4 a6 a8 a10 a12 a14 a16 a18 q19 q20 q21 q22)[100]? = some (adX h0 a2 a4 a6 a8 a10 a12 a14 a16 a18 q19 q20 q21 q22 100, cont cI cR (adX h0 a2 a4 a6 a8 a10 a12 a14 a16 a18 q19 q20 q21 q22) (shX 100) (μ0X 100)) := rfl
theorem x8_at {cI cR : ClassId} {h0 : Nat} {a2 : Nat → Nat} {a4 : Nat → Nat} {a6 : Nat → Nat} {a8 : Nat → Nat} {a10 : Nat → Nat} {a12 : Nat → Nat} {a14 : Nat → Nat} {a16 : Nat → Nat} {a18 : Nat → Nat} {q19 : Nat} {q20 : Nat} {q21 : Nat} {q22 : Nat} (k : Nat) (hk : k < 101) (h12 : k ≠ 12) : (wX8 cI cR h0 a2 a4 a6 a8 a10 a12 a14 a16 a18 q19 q20 q21 q22)[k]? = some (adX h0 a2 a4 a6 a8 a10 a12 a14 a16 a18 q19 q20 q21 q22 k, cont cI cR (adX h0 a2 a4 a6 a8 a10 a12 a14 a16 a18 q19 q20 q21 q22) (shX k) (μ0X k)) := by
  match k, hk, h12 with
  | 0, _, _ => exact x8_at_0
  | 1, _, _ => exact x8_at_1
  | 2, _, _ => exact x8_at_2
  | 3, _, _ => exact x8_at_3
  | 4, _, _ => exact x8_at_4
  | 5, _, _ => exact x8_at_5
  | 6, _, _ => exact x8_at_6
  | 7, _, _ => exact x8_at_7
  | 8, _, _ => exact x8_at_8
  | 9, _, _ => exact x8_at_9
  | 10, _, _ => exact x8_at_10
  | 11, _, _ => exact x8_at_11
  | 12, _, h => exact absurd rfl h
  | 13, _, _ => exact x8_at_13
  | 14, _, _ => exact x8_at_14
  | 15, _, _ => exact x8_at_15
  | 16, _, _ => exact x8_at_16
  | 17, _, _ => exact x8_at_17
  | 18, _, _ => exact x8_at_18
  | 19, _, _ => exact x8_at_19
  | 20, _, _ => exact x8_at_20
  | 21, _, _ => exact x8_at_21
  | 22, _, _ => exact x8_at_22
  | 23, _, _ => exact x8_at_23
  | 24, _, _ => exact x8_at_24
  | 25, _, _ => exact x8_at_25
  | 26, _, _ => exact x8_at_26
  | 27, _, _ => exact x8_at_27
  | 28, _, _ => exact x8_at_28
  | 29, _, _ => exact x8_at_29
  | 30, _, _ => exact x8_at_30
  | 31, _, _ => exact x8_at_31
  | 32, _, _ => exact x8_at_32
  | 33, _, _ => exact x8_at_33
  | 34, _, _ => exact x8_at_34
  | 35, _, _ => exact x8_at_35
  | 36, _, _ => exact x8_at_36
  | 37, _, _ => exact x8_at_37
  | 38, _, _ => exact x8_at_38
  | 39, _, _ => exact x8_at_39
  | 40, _, _ => exact x8_at_40
  | 41, _, _ => exact x8_at_41
  | 42, _, _ => exact x8_at_42
  | 43, _, _ => exact x8_at_43
  | 44, _, _ => exact x8_at_44
  | 45, _, _ => exact x8_at_45
  | 46, _, _ => exact x8_at_46
  | 47, _, _ => exact x8_at_47
  | 48, _, _ => exact x8_at_48
  | 49, _, _ => exact x8_at_49
  | 50, _, _ => exact x8_at_50
  | 51, _, _ => exact x8_at_51
  | 52, _, _ => exact x8_at_52
  | 53, _, _ => exact x8_at_53
  | 54, _, _ => exact x8_at_54
  | 55, _, _ => exact x8_at_55
  | 56, _, _ => exact x8_at_56
  | 57, _, _ => exact x8_at_57
  | 58, _, _ => exact x8_at_58
  | 59, _, _ => exact x8_at_59
  | 60, _, _ => exact x8_at_60
  | 61, _, _ => exact x8_at_61
  | 62, _, _ => exact x8_at_62
  | 63, _, _ => exact x8_at_63
  | 64, _, _ => exact x8_at_64
  | 65, _, _ => exact x8_at_65
  | 66, _, _ => exact x8_at_66
  | 67, _, _ => exact x8_at_67
  | 68, _, _ => exact x8_at_68
  | 69, _, _ => exact x8_at_69
  | 70, _, _ => exact x8_at_70
  | 71, _, _ => exact x8_at_71
  | 72, _, _ => exact x8_at_72
  | 73, _, _ => exact x8_at_73
  | 74, _, _ => exact x8_at_74
  | 75, _, _ => exact x8_at_75
  | 76, _, _ => exact x8_at_76
  | 77, _, _ => exact x8_at_77
  | 78, _, _ => exact x8_at_78
  | 79, _, _ => exact x8_at_79
  | 80, _, _ => exact x8_at_80
  | 81, _, _ => exact x8_at_81
  | 82, _, _ => exact x8_at_82
  | 83, _, _ => exact x8_at_83
  | 84, _, _ => exact x8_at_84
  | 85, _, _ => exact x8_at_85
  | 86, _, _ => exact x8_at_86
  | 87, _, _ => exact x8_at_87
  | 88, _, _ => exact x8_at_88
  | 89, _, _ => exact x8_at_89
  | 90, _, _ => exact x8_at_90
  | 91, _, _ => exact x8_at_91
  | 92, _, _ => exact x8_at_92
  | 93, _, _ => exact x8_at_93
  | 94, _, _ => exact x8_at_94
  | 95, _, _ => exact x8_at_95
  | 96, _, _ => exact x8_at_96
  | 97, _, _ => exact x8_at_97
  | 98, _, _ => exact x8_at_98
  | 99, _, _ => exact x8_at_99
  | 100, _, _ => exact x8_at_100
  | n + 101, h, _ => exact absurd h (by omega)
set_option maxRecDepth 100000 in
theorem x8_12 {cI cR : ClassId} {h0 : Nat} {a2 : Nat → Nat} {a4 : Nat → Nat} {a6 : Nat → Nat} {a8 : Nat → Nat} {a10 : Nat → Nat} {a12 : Nat → Nat} {a14 : Nat → Nat} {a16 : Nat → Nat} {a18 : Nat → Nat} {q19 : Nat} {q20 : Nat} {q21 : Nat} {q22 : Nat} : (wX8 cI cR h0 a2 a4 a6 a8 a10 a12 a14 a16 a18 q19 q20 q21 q22)[12]? = some (adX h0 a2 a4 a6 a8 a10 a12 a14 a16 a18 q19 q20 q21 q22 12, .inl (cR, 5, .inr (.inr (.inr (.inr (rows0 (adX h0 a2 a4 a6 a8 a10 a12 a14 a16 a18 q19 q20 q21 q22))))))) := rfl
theorem dX8_init_0 : decode cX8_init 0 = .ok (.aload_n 0, 1) := by decide +kernel
theorem dX8_init_1 : decode cX8_init 1 = .ok (.invokespecial 3, 3) := by decide +kernel
theorem dX8_init_4 : decode cX8_init 4 = .ok (.aload_n 0, 1) := by decide +kernel
theorem dX8_init_5 : decode cX8_init 5 = .ok (.new 9, 3) := by decide +kernel
theorem dX8_init_8 : decode cX8_init 8 = .ok (.dup, 1) := by decide +kernel
theorem dX8_init_9 : decode cX8_init 9 = .ok (.invokespecial 11, 3) := by decide +kernel
theorem dX8_init_12 : decode cX8_init 12 = .ok (.putfield 12, 3) := by decide +kernel
theorem dX8_init_15 : decode cX8_init 15 = .ok (.aload_n 0, 1) := by decide +kernel
theorem dX8_init_16 : decode cX8_init 16 = .ok (.new 16, 3) := by decide +kernel
theorem dX8_init_19 : decode cX8_init 19 = .ok (.dup, 1) := by decide +kernel
theorem dX8_init_20 : decode cX8_init 20 = .ok (.invokespecial 18, 3) := by decide +kernel
theorem dX8_init_23 : decode cX8_init 23 = .ok (.putfield 19, 3) := by decide +kernel
theorem dX8_init_26 : decode cX8_init 26 = .ok (.aload_n 0, 1) := by decide +kernel
theorem dX8_init_27 : decode cX8_init 27 = .ok (.new 9, 3) := by decide +kernel
theorem dX8_init_30 : decode cX8_init 30 = .ok (.dup, 1) := by decide +kernel
theorem dX8_init_31 : decode cX8_init 31 = .ok (.invokespecial 11, 3) := by decide +kernel
theorem dX8_init_34 : decode cX8_init 34 = .ok (.putfield 23, 3) := by decide +kernel
theorem dX8_init_37 : decode cX8_init 37 = .ok (.aload_n 0, 1) := by decide +kernel
theorem dX8_init_38 : decode cX8_init 38 = .ok (.new 26, 3) := by decide +kernel
theorem dX8_init_41 : decode cX8_init 41 = .ok (.dup, 1) := by decide +kernel
theorem dX8_init_42 : decode cX8_init 42 = .ok (.invokespecial 28, 3) := by decide +kernel
theorem dX8_init_45 : decode cX8_init 45 = .ok (.putfield 29, 3) := by decide +kernel
theorem dX8_init_48 : decode cX8_init 48 = .ok (.aload_n 0, 1) := by decide +kernel
theorem dX8_init_49 : decode cX8_init 49 = .ok (.new 33, 3) := by decide +kernel
theorem dX8_init_52 : decode cX8_init 52 = .ok (.dup, 1) := by decide +kernel
theorem dX8_init_53 : decode cX8_init 53 = .ok (.invokespecial 35, 3) := by decide +kernel
theorem dX8_init_56 : decode cX8_init 56 = .ok (.putfield 36, 3) := by decide +kernel
theorem dX8_init_59 : decode cX8_init 59 = .ok (.aload_n 0, 1) := by decide +kernel
theorem dX8_init_60 : decode cX8_init 60 = .ok (.new 40, 3) := by decide +kernel
theorem dX8_init_63 : decode cX8_init 63 = .ok (.dup, 1) := by decide +kernel
theorem dX8_init_64 : decode cX8_init 64 = .ok (.invokespecial 42, 3) := by decide +kernel
theorem dX8_init_67 : decode cX8_init 67 = .ok (.putfield 43, 3) := by decide +kernel
theorem dX8_init_70 : decode cX8_init 70 = .ok (.aload_n 0, 1) := by decide +kernel
theorem dX8_init_71 : decode cX8_init 71 = .ok (.new 47, 3) := by decide +kernel
theorem dX8_init_74 : decode cX8_init 74 = .ok (.dup, 1) := by decide +kernel
theorem dX8_init_75 : decode cX8_init 75 = .ok (.invokespecial 49, 3) := by decide +kernel
theorem dX8_init_78 : decode cX8_init 78 = .ok (.putfield 50, 3) := by decide +kernel
theorem dX8_init_81 : decode cX8_init 81 = .ok (.aload_n 0, 1) := by decide +kernel
theorem dX8_init_82 : decode cX8_init 82 = .ok (.new 54, 3) := by decide +kernel
theorem dX8_init_85 : decode cX8_init 85 = .ok (.dup, 1) := by decide +kernel
theorem dX8_init_86 : decode cX8_init 86 = .ok (.invokespecial 56, 3) := by decide +kernel
theorem dX8_init_89 : decode cX8_init 89 = .ok (.putfield 57, 3) := by decide +kernel
theorem dX8_init_92 : decode cX8_init 92 = .ok (.aload_n 0, 1) := by decide +kernel
theorem dX8_init_93 : decode cX8_init 93 = .ok (.new 61, 3) := by decide +kernel
theorem dX8_init_96 : decode cX8_init 96 = .ok (.dup, 1) := by decide +kernel
theorem dX8_init_97 : decode cX8_init 97 = .ok (.invokespecial 63, 3) := by decide +kernel
theorem dX8_init_100 : decode cX8_init 100 = .ok (.putfield 64, 3) := by decide +kernel
theorem dX8_init_103 : decode cX8_init 103 = .ok (.aload_n 0, 1) := by decide +kernel
theorem dX8_init_104 : decode cX8_init 104 = .ok (.bipush 24, 2) := by decide +kernel
theorem dX8_init_106 : decode cX8_init 106 = .ok (.newarray .int, 2) := by decide +kernel
theorem dX8_init_108 : decode cX8_init 108 = .ok (.putfield 68, 3) := by decide +kernel
theorem dX8_init_111 : decode cX8_init 111 = .ok (.aload_n 0, 1) := by decide +kernel
theorem dX8_init_112 : decode cX8_init 112 = .ok (.bipush 24, 2) := by decide +kernel
theorem dX8_init_114 : decode cX8_init 114 = .ok (.newarray .int, 2) := by decide +kernel
theorem dX8_init_116 : decode cX8_init 116 = .ok (.putfield 72, 3) := by decide +kernel
theorem dX8_init_119 : decode cX8_init 119 = .ok (.aload_n 0, 1) := by decide +kernel
theorem dX8_init_120 : decode cX8_init 120 = .ok (.bipush 24, 2) := by decide +kernel
theorem dX8_init_122 : decode cX8_init 122 = .ok (.newarray .int, 2) := by decide +kernel
theorem dX8_init_124 : decode cX8_init 124 = .ok (.putfield 75, 3) := by decide +kernel
theorem dX8_init_127 : decode cX8_init 127 = .ok (.aload_n 0, 1) := by decide +kernel
theorem dX8_init_128 : decode cX8_init 128 = .ok (.bipush 24, 2) := by decide +kernel
theorem dX8_init_130 : decode cX8_init 130 = .ok (.newarray .int, 2) := by decide +kernel
theorem dX8_init_132 : decode cX8_init 132 = .ok (.putfield 78, 3) := by decide +kernel
theorem dX8_init_135 : decode cX8_init 135 = .ok (.return_, 1) := by decide +kernel
set_option maxHeartbeats 20000000 in
set_option maxRecDepth 100000 in
theorem ctX8_init {l : Launch} {D : va_G} {cI cR : ClassId} : CI l yX8_init cX8_init 1 3 100 4543 D cI cR (.inr (8, [.null, .null, .null, .int 0, .null, .null, .int 0, .null, .null, .null, .int 0, .null, .null, .null, .null, .null])) (fun a => wo cI cR a shX NX μ0X) := by
  refine ci_of (own := RX8) (by decide +kernel) rfl rfl (Nat.le_of_ble_eq_true rfl) (fun h0 p e s m below meth c A0 E hr hin hA => ?_)
  refine lc_ws (ws' := ((h0, .inr (8, [.null, .null, .null, .int 0, .null, .null, .int 0, .null, .null, .null, .int 0, .null, .null, .null, .null, .null])) :: ([] : va_W))) rfl ?_
  refine lc_aload_n E (pc := 0) dX8_init_0 rfl ?_
  refine lc_obj E (pc := 1) dX8_init_1 mo_X8_3 mo_1 mo_2 ⟨(Nat.le_of_ble_eq_true rfl), (Nat.le_of_ble_eq_true rfl)⟩ (Nat.le_of_ble_eq_true rfl) ?_
  refine lc_aload_n E (pc := 4) dX8_init_4 rfl ?_
  refine lc_new E (pc := 5) (ci := 6) (fs := [.int 0, .null, .null, .null, .null, .null, .null, .null, .null, .null, .int 0]) dX8_init_5 rfl uw_6 tyX6_ok mk_X8_9 mi_6 mn_6 df_6 ⟨(Nat.le_of_ble_eq_true rfl), (Nat.le_of_ble_eq_true rfl)⟩ (fun q1 => ?_)
  refine lc_ws (ws' := ((h0, .inr (8, [.null, .null, .null, .int 0, .null, .null, .int 0, .null, .null, .null, .int 0, .null, .null, .null, .null, .null])) :: (([] : va_W) ++ [(q1, .inr (6, [.int 0, .null, .null, .null, .null, .null, .null, .null, .null, .null, .int 0]))]))) rfl ?_
  refine lc_dup E (pc := 8) dX8_init_8 rfl ?_
  refine lc_call E (wr := ((h0, .inr (8, [.null, .null, .null, .int 0, .null, .null, .int 0, .null, .null, .null, .int 0, .null, .null, .null, .null, .null])) :: ([] : va_W))) (pc := 9) (d := 1) (mc := 9) (ms := 150) dX8_init_9 ctX6_init (Or.inr ⟨_, E.2.2.2.2.2.2.2.2.1 ("BuntingBundles", 11, yX6_init, "BuntingBundles") (by decide +kernel)⟩) mj_6 mn_6 mc_6 rfl ⟨by decide +kernel, by decide +kernel, by decide +kernel⟩ (by decide) (Nat.le_of_ble_eq_true rfl) ⟨(Nat.le_of_ble_eq_true rfl), (Nat.le_of_ble_eq_true rfl)⟩ ⟨(Nat.le_of_ble_eq_true rfl), (Nat.le_of_ble_eq_true rfl)⟩ (fun a2 ha2 => ?_)
  subst ha2
  refine lc_ws (ws' := ((h0, .inr (8, [.null, .null, .null, .int 0, .null, .null, .int 0, .null, .null, .null, .int 0, .null, .null, .null, .null, .null])) :: (([] : va_W) ++ wL6 cI a2))) rfl ?_
  refine lc_putF E hin (pc := 12) (k9 := 0) (ws' := ((h0, .inr (8, [.ref (a2 0), .null, .null, .int 0, .null, .null, .int 0, .null, .null, .null, .int 0, .null, .null, .null, .null, .null])) :: (([] : va_W) ++ wL6 cI a2))) 0 dX8_init_12 ff_X8_12 rfl (Nat.le_of_ble_eq_true rfl) rfl ?_
  refine lc_aload_n E (pc := 15) dX8_init_15 rfl ?_
  refine lc_new E (pc := 16) (ci := 1) (fs := [.null, .int 0]) dX8_init_16 rfl uw_1 tyX1_ok mk_X8_16 mi_1 mn_1 df_1 ⟨(Nat.le_of_ble_eq_true rfl), (Nat.le_of_ble_eq_true rfl)⟩ (fun q3 => ?_)
  refine lc_ws (ws' := ((h0, .inr (8, [.ref (a2 0), .null, .null, .int 0, .null, .null, .int 0, .null, .null, .null, .int 0, .null, .null, .null, .null, .null])) :: ((([] : va_W) ++ wL6 cI a2) ++ [(q3, .inr (1, [.null, .int 0]))]))) rfl ?_
  refine lc_dup E (pc := 19) dX8_init_19 rfl ?_
  refine lc_call E (wr := ((h0, .inr (8, [.ref (a2 0), .null, .null, .int 0, .null, .null, .int 0, .null, .null, .null, .int 0, .null, .null, .null, .null, .null])) :: (([] : va_W) ++ wL6 cI a2))) (pc := 20) (d := 2) (mc := 51) (ms := 810) dX8_init_20 ctX1_init (Or.inl ml_X8_18) mj_1 mn_1 mc_1 rfl ⟨by decide +kernel, by decide +kernel, by decide +kernel⟩ (by decide) (Nat.le_of_ble_eq_true rfl) ⟨(Nat.le_of_ble_eq_true rfl), (Nat.le_of_ble_eq_true rfl)⟩ ⟨(Nat.le_of_ble_eq_true rfl), (Nat.le_of_ble_eq_true rfl)⟩ (fun a4 ha4 => ?_)
  subst ha4
  refine lc_ws (ws' := ((h0, .inr (8, [.ref (a2 0), .null, .null, .int 0, .null, .null, .int 0, .null, .null, .null, .int 0, .null, .null, .null, .null, .null])) :: ((([] : va_W) ++ wL6 cI a2) ++ wL1 cI cR a4))) rfl ?_
  refine lc_putF E hin (pc := 23) (k9 := 1) (ws' := ((h0, .inr (8, [.ref (a2 0), .ref (a4 0), .null, .int 0, .null, .null, .int 0, .null, .null, .null, .int 0, .null, .null, .null, .null, .null])) :: ((([] : va_W) ++ wL6 cI a2) ++ wL1 cI cR a4))) 0 dX8_init_23 ff_X8_19 rfl (Nat.le_of_ble_eq_true rfl) rfl ?_
  refine lc_aload_n E (pc := 26) dX8_init_26 rfl ?_
  refine lc_new E (pc := 27) (ci := 6) (fs := [.int 0, .null, .null, .null, .null, .null, .null, .null, .null, .null, .int 0]) dX8_init_27 rfl uw_6 tyX6_ok mk_X8_9 mi_6 mn_6 df_6 ⟨(Nat.le_of_ble_eq_true rfl), (Nat.le_of_ble_eq_true rfl)⟩ (fun q5 => ?_)
  refine lc_ws (ws' := ((h0, .inr (8, [.ref (a2 0), .ref (a4 0), .null, .int 0, .null, .null, .int 0, .null, .null, .null, .int 0, .null, .null, .null, .null, .null])) :: (((([] : va_W) ++ wL6 cI a2) ++ wL1 cI cR a4) ++ [(q5, .inr (6, [.int 0, .null, .null, .null, .null, .null, .null, .null, .null, .null, .int 0]))]))) rfl ?_
  refine lc_dup E (pc := 30) dX8_init_30 rfl ?_
  refine lc_call E (wr := ((h0, .inr (8, [.ref (a2 0), .ref (a4 0), .null, .int 0, .null, .null, .int 0, .null, .null, .null, .int 0, .null, .null, .null, .null, .null])) :: ((([] : va_W) ++ wL6 cI a2) ++ wL1 cI cR a4))) (pc := 31) (d := 1) (mc := 9) (ms := 150) dX8_init_31 ctX6_init (Or.inr ⟨_, E.2.2.2.2.2.2.2.2.1 ("BuntingBundles", 11, yX6_init, "BuntingBundles") (by decide +kernel)⟩) mj_6 mn_6 mc_6 rfl ⟨by decide +kernel, by decide +kernel, by decide +kernel⟩ (by decide) (Nat.le_of_ble_eq_true rfl) ⟨(Nat.le_of_ble_eq_true rfl), (Nat.le_of_ble_eq_true rfl)⟩ ⟨(Nat.le_of_ble_eq_true rfl), (Nat.le_of_ble_eq_true rfl)⟩ (fun a6 ha6 => ?_)
  subst ha6
  refine lc_ws (ws' := ((h0, .inr (8, [.ref (a2 0), .ref (a4 0), .null, .int 0, .null, .null, .int 0, .null, .null, .null, .int 0, .null, .null, .null, .null, .null])) :: (((([] : va_W) ++ wL6 cI a2) ++ wL1 cI cR a4) ++ wL6 cI a6))) rfl ?_
  refine lc_putF E hin (pc := 34) (k9 := 2) (ws' := ((h0, .inr (8, [.ref (a2 0), .ref (a4 0), .ref (a6 0), .int 0, .null, .null, .int 0, .null, .null, .null, .int 0, .null, .null, .null, .null, .null])) :: (((([] : va_W) ++ wL6 cI a2) ++ wL1 cI cR a4) ++ wL6 cI a6))) 0 dX8_init_34 ff_X8_23 rfl (Nat.le_of_ble_eq_true rfl) rfl ?_
  refine lc_aload_n E (pc := 37) dX8_init_37 rfl ?_
  refine lc_new E (pc := 38) (ci := 7) (fs := [.null, .int 0]) dX8_init_38 rfl uw_7 tyX7_ok mk_X8_26 mi_7 mn_7 df_7 ⟨(Nat.le_of_ble_eq_true rfl), (Nat.le_of_ble_eq_true rfl)⟩ (fun q7 => ?_)
  refine lc_ws (ws' := ((h0, .inr (8, [.ref (a2 0), .ref (a4 0), .ref (a6 0), .int 0, .null, .null, .int 0, .null, .null, .null, .int 0, .null, .null, .null, .null, .null])) :: ((((([] : va_W) ++ wL6 cI a2) ++ wL1 cI cR a4) ++ wL6 cI a6) ++ [(q7, .inr (7, [.null, .int 0]))]))) rfl ?_
  refine lc_dup E (pc := 41) dX8_init_41 rfl ?_
  refine lc_call E (wr := ((h0, .inr (8, [.ref (a2 0), .ref (a4 0), .ref (a6 0), .int 0, .null, .null, .int 0, .null, .null, .null, .int 0, .null, .null, .null, .null, .null])) :: (((([] : va_W) ++ wL6 cI a2) ++ wL1 cI cR a4) ++ wL6 cI a6))) (pc := 42) (d := 1) (mc := 1) (ms := 60) dX8_init_42 ctX7_init (Or.inr ⟨_, E.2.2.2.2.2.2.2.2.1 ("BuntingBundles", 28, yX7_init, "BuntingBundles") (by decide +kernel)⟩) mj_7 mn_7 mc_7 rfl ⟨by decide +kernel, by decide +kernel, by decide +kernel⟩ (by decide) (Nat.le_of_ble_eq_true rfl) ⟨(Nat.le_of_ble_eq_true rfl), (Nat.le_of_ble_eq_true rfl)⟩ ⟨(Nat.le_of_ble_eq_true rfl), (Nat.le_of_ble_eq_true rfl)⟩ (fun a8 ha8 => ?_)
  subst ha8
  refine lc_ws (ws' := ((h0, .inr (8, [.ref (a2 0), .ref (a4 0), .ref (a6 0), .int 0, .null, .null, .int 0, .null, .null, .null, .int 0, .null, .null, .null, .null, .null])) :: ((((([] : va_W) ++ wL6 cI a2) ++ wL1 cI cR a4) ++ wL6 cI a6) ++ wL7 cI a8))) rfl ?_
  refine lc_putF E hin (pc := 45) (k9 := 4) (ws' := ((h0, .inr (8, [.ref (a2 0), .ref (a4 0), .ref (a6 0), .int 0, .ref (a8 0), .null, .int 0, .null, .null, .null, .int 0, .null, .null, .null, .null, .null])) :: ((((([] : va_W) ++ wL6 cI a2) ++ wL1 cI cR a4) ++ wL6 cI a6) ++ wL7 cI a8))) 0 dX8_init_45 ff_X8_29 rfl (Nat.le_of_ble_eq_true rfl) rfl ?_
  refine lc_aload_n E (pc := 48) dX8_init_48 rfl ?_
  refine lc_new E (pc := 49) (ci := 2) (fs := [.int 0, .null, .null, .null, .null, .null, .null, .null]) dX8_init_49 rfl uw_2 tyX2_ok mk_X8_33 mi_2 mn_2 df_2 ⟨(Nat.le_of_ble_eq_true rfl), (Nat.le_of_ble_eq_true rfl)⟩ (fun q9 => ?_)
  refine lc_ws (ws' := ((h0, .inr (8, [.ref (a2 0), .ref (a4 0), .ref (a6 0), .int 0, .ref (a8 0), .null, .int 0, .null, .null, .null, .int 0, .null, .null, .null, .null, .null])) :: (((((([] : va_W) ++ wL6 cI a2) ++ wL1 cI cR a4) ++ wL6 cI a6) ++ wL7 cI a8) ++ [(q9, .inr (2, [.int 0, .null, .null, .null, .null, .null, .null, .null]))]))) rfl ?_
  refine lc_dup E (pc := 52) dX8_init_52 rfl ?_
  refine lc_call E (wr := ((h0, .inr (8, [.ref (a2 0), .ref (a4 0), .ref (a6 0), .int 0, .ref (a8 0), .null, .int 0, .null, .null, .null, .int 0, .null, .null, .null, .null, .null])) :: ((((([] : va_W) ++ wL6 cI a2) ++ wL1 cI cR a4) ++ wL6 cI a6) ++ wL7 cI a8))) (pc := 53) (d := 1) (mc := 7) (ms := 900) dX8_init_53 ctX2_init (Or.inr ⟨_, E.2.2.2.2.2.2.2.2.1 ("BuntingBundles", 35, yX2_init, "BuntingBundles") (by decide +kernel)⟩) mj_2 mn_2 mc_2 rfl ⟨by decide +kernel, by decide +kernel, by decide +kernel⟩ (by decide) (Nat.le_of_ble_eq_true rfl) ⟨(Nat.le_of_ble_eq_true rfl), (Nat.le_of_ble_eq_true rfl)⟩ ⟨(Nat.le_of_ble_eq_true rfl), (Nat.le_of_ble_eq_true rfl)⟩ (fun a10 ha10 => ?_)
  subst ha10
  refine lc_ws (ws' := ((h0, .inr (8, [.ref (a2 0), .ref (a4 0), .ref (a6 0), .int 0, .ref (a8 0), .null, .int 0, .null, .null, .null, .int 0, .null, .null, .null, .null, .null])) :: (((((([] : va_W) ++ wL6 cI a2) ++ wL1 cI cR a4) ++ wL6 cI a6) ++ wL7 cI a8) ++ wL2 cI a10))) rfl ?_
  refine lc_putF E hin (pc := 56) (k9 := 5) (ws' := ((h0, .inr (8, [.ref (a2 0), .ref (a4 0), .ref (a6 0), .int 0, .ref (a8 0), .ref (a10 0), .int 0, .null, .null, .null, .int 0, .null, .null, .null, .null, .null])) :: (((((([] : va_W) ++ wL6 cI a2) ++ wL1 cI cR a4) ++ wL6 cI a6) ++ wL7 cI a8) ++ wL2 cI a10))) 0 dX8_init_56 ff_X8_36 rfl (Nat.le_of_ble_eq_true rfl) rfl ?_
  refine lc_aload_n E (pc := 59) dX8_init_59 rfl ?_
  refine lc_new E (pc := 60) (ci := 4) (fs := [.null, .null]) dX8_init_60 rfl uw_4 tyX4_ok mk_X8_40 mi_4 mn_4 df_4 ⟨(Nat.le_of_ble_eq_true rfl), (Nat.le_of_ble_eq_true rfl)⟩ (fun q11 => ?_)
  refine lc_ws (ws' := ((h0, .inr (8, [.ref (a2 0), .ref (a4 0), .ref (a6 0), .int 0, .ref (a8 0), .ref (a10 0), .int 0, .null, .null, .null, .int 0, .null, .null, .null, .null, .null])) :: ((((((([] : va_W) ++ wL6 cI a2) ++ wL1 cI cR a4) ++ wL6 cI a6) ++ wL7 cI a8) ++ wL2 cI a10) ++ [(q11, .inr (4, [.null, .null]))]))) rfl ?_
  refine lc_dup E (pc := 63) dX8_init_63 rfl ?_
  refine lc_call E (wr := ((h0, .inr (8, [.ref (a2 0), .ref (a4 0), .ref (a6 0), .int 0, .ref (a8 0), .ref (a10 0), .int 0, .null, .null, .null, .int 0, .null, .null, .null, .null, .null])) :: (((((([] : va_W) ++ wL6 cI a2) ++ wL1 cI cR a4) ++ wL6 cI a6) ++ wL7 cI a8) ++ wL2 cI a10))) (pc := 64) (d := 1) (mc := 2) (ms := 23) dX8_init_64 ctX4_init (Or.inr ⟨_, E.2.2.2.2.2.2.2.2.1 ("BuntingBundles", 42, yX4_init, "BuntingBundles") (by decide +kernel)⟩) mj_4 mn_4 mc_4 rfl ⟨by decide +kernel, by decide +kernel, by decide +kernel⟩ (by decide) (Nat.le_of_ble_eq_true rfl) ⟨(Nat.le_of_ble_eq_true rfl), (Nat.le_of_ble_eq_true rfl)⟩ ⟨(Nat.le_of_ble_eq_true rfl), (Nat.le_of_ble_eq_true rfl)⟩ (fun a12 ha12 => ?_)
  subst ha12
  refine lc_ws (ws' := ((h0, .inr (8, [.ref (a2 0), .ref (a4 0), .ref (a6 0), .int 0, .ref (a8 0), .ref (a10 0), .int 0, .null, .null, .null, .int 0, .null, .null, .null, .null, .null])) :: ((((((([] : va_W) ++ wL6 cI a2) ++ wL1 cI cR a4) ++ wL6 cI a6) ++ wL7 cI a8) ++ wL2 cI a10) ++ wL4 cI a12))) rfl ?_
  refine lc_putF E hin (pc := 67) (k9 := 7) (ws' := ((h0, .inr (8, [.ref (a2 0), .ref (a4 0), .ref (a6 0), .int 0, .ref (a8 0), .ref (a10 0), .int 0, .ref (a12 0), .null, .null, .int 0, .null, .null, .null, .null, .null])) :: ((((((([] : va_W) ++ wL6 cI a2) ++ wL1 cI cR a4) ++ wL6 cI a6) ++ wL7 cI a8) ++ wL2 cI a10) ++ wL4 cI a12))) 0 dX8_init_67 ff_X8_43 rfl (Nat.le_of_ble_eq_true rfl) rfl ?_
  refine lc_aload_n E (pc := 70) dX8_init_70 rfl ?_
  refine lc_new E (pc := 71) (ci := 0) (fs := [.null, .null]) dX8_init_71 rfl uw_0 tyX0_ok mk_X8_47 mi_0 mn_0 df_0 ⟨(Nat.le_of_ble_eq_true rfl), (Nat.le_of_ble_eq_true rfl)⟩ (fun q13 => ?_)
  refine lc_ws (ws' := ((h0, .inr (8, [.ref (a2 0), .ref (a4 0), .ref (a6 0), .int 0, .ref (a8 0), .ref (a10 0), .int 0, .ref (a12 0), .null, .null, .int 0, .null, .null, .null, .null, .null])) :: (((((((([] : va_W) ++ wL6 cI a2) ++ wL1 cI cR a4) ++ wL6 cI a6) ++ wL7 cI a8) ++ wL2 cI a10) ++ wL4 cI a12) ++ [(q13, .inr (0, [.null, .null]))]))) rfl ?_
  refine lc_dup E (pc := 74) dX8_init_74 rfl ?_
  refine lc_call E (wr := ((h0, .inr (8, [.ref (a2 0), .ref (a4 0), .ref (a6 0), .int 0, .ref (a8 0), .ref (a10 0), .int 0, .ref (a12 0), .null, .null, .int 0, .null, .null, .null, .null, .null])) :: ((((((([] : va_W) ++ wL6 cI a2) ++ wL1 cI cR a4) ++ wL6 cI a6) ++ wL7 cI a8) ++ wL2 cI a10) ++ wL4 cI a12))) (pc := 75) (d := 1) (mc := 2) (ms := 420) dX8_init_75 ctX0_init (Or.inr ⟨_, E.2.2.2.2.2.2.2.2.1 ("BuntingBundles", 49, yX0_init, "BuntingBundles") (by decide +kernel)⟩) mj_0 mn_0 mc_0 rfl ⟨by decide +kernel, by decide +kernel, by decide +kernel⟩ (by decide) (Nat.le_of_ble_eq_true rfl) ⟨(Nat.le_of_ble_eq_true rfl), (Nat.le_of_ble_eq_true rfl)⟩ ⟨(Nat.le_of_ble_eq_true rfl), (Nat.le_of_ble_eq_true rfl)⟩ (fun a14 ha14 => ?_)
  subst ha14
  refine lc_ws (ws' := ((h0, .inr (8, [.ref (a2 0), .ref (a4 0), .ref (a6 0), .int 0, .ref (a8 0), .ref (a10 0), .int 0, .ref (a12 0), .null, .null, .int 0, .null, .null, .null, .null, .null])) :: (((((((([] : va_W) ++ wL6 cI a2) ++ wL1 cI cR a4) ++ wL6 cI a6) ++ wL7 cI a8) ++ wL2 cI a10) ++ wL4 cI a12) ++ wL0 cI a14))) rfl ?_
  refine lc_putF E hin (pc := 78) (k9 := 8) (ws' := ((h0, .inr (8, [.ref (a2 0), .ref (a4 0), .ref (a6 0), .int 0, .ref (a8 0), .ref (a10 0), .int 0, .ref (a12 0), .ref (a14 0), .null, .int 0, .null, .null, .null, .null, .null])) :: (((((((([] : va_W) ++ wL6 cI a2) ++ wL1 cI cR a4) ++ wL6 cI a6) ++ wL7 cI a8) ++ wL2 cI a10) ++ wL4 cI a12) ++ wL0 cI a14))) 0 dX8_init_78 ff_X8_50 rfl (Nat.le_of_ble_eq_true rfl) rfl ?_
  refine lc_aload_n E (pc := 81) dX8_init_81 rfl ?_
  refine lc_new E (pc := 82) (ci := 3) (fs := [.null, .null, .int 0, .int 0]) dX8_init_82 rfl uw_3 tyX3_ok mk_X8_54 mi_3 mn_3 df_3 ⟨(Nat.le_of_ble_eq_true rfl), (Nat.le_of_ble_eq_true rfl)⟩ (fun q15 => ?_)
  refine lc_ws (ws' := ((h0, .inr (8, [.ref (a2 0), .ref (a4 0), .ref (a6 0), .int 0, .ref (a8 0), .ref (a10 0), .int 0, .ref (a12 0), .ref (a14 0), .null, .int 0, .null, .null, .null, .null, .null])) :: ((((((((([] : va_W) ++ wL6 cI a2) ++ wL1 cI cR a4) ++ wL6 cI a6) ++ wL7 cI a8) ++ wL2 cI a10) ++ wL4 cI a12) ++ wL0 cI a14) ++ [(q15, .inr (3, [.null, .null, .int 0, .int 0]))]))) rfl ?_
  refine lc_dup E (pc := 85) dX8_init_85 rfl ?_
  refine lc_call E (wr := ((h0, .inr (8, [.ref (a2 0), .ref (a4 0), .ref (a6 0), .int 0, .ref (a8 0), .ref (a10 0), .int 0, .ref (a12 0), .ref (a14 0), .null, .int 0, .null, .null, .null, .null, .null])) :: (((((((([] : va_W) ++ wL6 cI a2) ++ wL1 cI cR a4) ++ wL6 cI a6) ++ wL7 cI a8) ++ wL2 cI a10) ++ wL4 cI a12) ++ wL0 cI a14))) (pc := 86) (d := 1) (mc := 2) (ms := 1040) dX8_init_86 ctX3_init (Or.inr ⟨_, E.2.2.2.2.2.2.2.2.1 ("BuntingBundles", 56, yX3_init, "BuntingBundles") (by decide +kernel)⟩) mj_3 mn_3 mc_3 rfl ⟨by decide +kernel, by decide +kernel, by decide +kernel⟩ (by decide) (Nat.le_of_ble_eq_true rfl) ⟨(Nat.le_of_ble_eq_true rfl), (Nat.le_of_ble_eq_true rfl)⟩ ⟨(Nat.le_of_ble_eq_true rfl), (Nat.le_of_ble_eq_true rfl)⟩ (fun a16 ha16 => ?_)
  subst ha16
  refine lc_ws (ws' := ((h0, .inr (8, [.ref (a2 0), .ref (a4 0), .ref (a6 0), .int 0, .ref (a8 0), .ref (a10 0), .int 0, .ref (a12 0), .ref (a14 0), .null, .int 0, .null, .null, .null, .null, .null])) :: ((((((((([] : va_W) ++ wL6 cI a2) ++ wL1 cI cR a4) ++ wL6 cI a6) ++ wL7 cI a8) ++ wL2 cI a10) ++ wL4 cI a12) ++ wL0 cI a14) ++ wL3 cI a16))) rfl ?_
  refine lc_putF E hin (pc := 89) (k9 := 9) (ws' := ((h0, .inr (8, [.ref (a2 0), .ref (a4 0), .ref (a6 0), .int 0, .ref (a8 0), .ref (a10 0), .int 0, .ref (a12 0), .ref (a14 0), .ref (a16 0), .int 0, .null, .null, .null, .null, .null])) :: ((((((((([] : va_W) ++ wL6 cI a2) ++ wL1 cI cR a4) ++ wL6 cI a6) ++ wL7 cI a8) ++ wL2 cI a10) ++ wL4 cI a12) ++ wL0 cI a14) ++ wL3 cI a16))) 0 dX8_init_89 ff_X8_57 rfl (Nat.le_of_ble_eq_true rfl) rfl ?_
  refine lc_aload_n E (pc := 92) dX8_init_92 rfl ?_
  refine lc_new E (pc := 93) (ci := 5) (fs := [.null, .null, .null, .null]) dX8_init_93 rfl uw_5 tyX5_ok mk_X8_61 mi_5 mn_5 df_5 ⟨(Nat.le_of_ble_eq_true rfl), (Nat.le_of_ble_eq_true rfl)⟩ (fun q17 => ?_)
  refine lc_ws (ws' := ((h0, .inr (8, [.ref (a2 0), .ref (a4 0), .ref (a6 0), .int 0, .ref (a8 0), .ref (a10 0), .int 0, .ref (a12 0), .ref (a14 0), .ref (a16 0), .int 0, .null, .null, .null, .null, .null])) :: (((((((((([] : va_W) ++ wL6 cI a2) ++ wL1 cI cR a4) ++ wL6 cI a6) ++ wL7 cI a8) ++ wL2 cI a10) ++ wL4 cI a12) ++ wL0 cI a14) ++ wL3 cI a16) ++ [(q17, .inr (5, [.null, .null, .null, .null]))]))) rfl ?_
  refine lc_dup E (pc := 96) dX8_init_96 rfl ?_
  refine lc_call E (wr := ((h0, .inr (8, [.ref (a2 0), .ref (a4 0), .ref (a6 0), .int 0, .ref (a8 0), .ref (a10 0), .int 0, .ref (a12 0), .ref (a14 0), .ref (a16 0), .int 0, .null, .null, .null, .null, .null])) :: ((((((((([] : va_W) ++ wL6 cI a2) ++ wL1 cI cR a4) ++ wL6 cI a6) ++ wL7 cI a8) ++ wL2 cI a10) ++ wL4 cI a12) ++ wL0 cI a14) ++ wL3 cI a16))) (pc := 97) (d := 1) (mc := 4) (ms := 848) dX8_init_97 ctX5_init (Or.inr ⟨_, E.2.2.2.2.2.2.2.2.1 ("BuntingBundles", 63, yX5_init, "BuntingBundles") (by decide +kernel)⟩) mj_5 mn_5 mc_5 rfl ⟨by decide +kernel, by decide +kernel, by decide +kernel⟩ (by decide) (Nat.le_of_ble_eq_true rfl) ⟨(Nat.le_of_ble_eq_true rfl), (Nat.le_of_ble_eq_true rfl)⟩ ⟨(Nat.le_of_ble_eq_true rfl), (Nat.le_of_ble_eq_true rfl)⟩ (fun a18 ha18 => ?_)
  subst ha18
  refine lc_ws (ws' := ((h0, .inr (8, [.ref (a2 0), .ref (a4 0), .ref (a6 0), .int 0, .ref (a8 0), .ref (a10 0), .int 0, .ref (a12 0), .ref (a14 0), .ref (a16 0), .int 0, .null, .null, .null, .null, .null])) :: (((((((((([] : va_W) ++ wL6 cI a2) ++ wL1 cI cR a4) ++ wL6 cI a6) ++ wL7 cI a8) ++ wL2 cI a10) ++ wL4 cI a12) ++ wL0 cI a14) ++ wL3 cI a16) ++ wL5 cI a18))) rfl ?_
  refine lc_putF E hin (pc := 100) (k9 := 11) (ws' := ((h0, .inr (8, [.ref (a2 0), .ref (a4 0), .ref (a6 0), .int 0, .ref (a8 0), .ref (a10 0), .int 0, .ref (a12 0), .ref (a14 0), .ref (a16 0), .int 0, .ref (a18 0), .null, .null, .null, .null])) :: (((((((((([] : va_W) ++ wL6 cI a2) ++ wL1 cI cR a4) ++ wL6 cI a6) ++ wL7 cI a8) ++ wL2 cI a10) ++ wL4 cI a12) ++ wL0 cI a14) ++ wL3 cI a16) ++ wL5 cI a18))) 0 dX8_init_100 ff_X8_64 rfl (Nat.le_of_ble_eq_true rfl) rfl ?_
  refine lc_aload_n E (pc := 103) dX8_init_103 rfl ?_
  refine lc_bipush E (pc := 104) dX8_init_104 kb_24 ?_
  refine lc_newa E (pc := 106) (N' := 24) dX8_init_106 mw_ai (by decide) (by decide +kernel) (by decide) ⟨(Nat.le_of_ble_eq_true rfl), (Nat.le_of_ble_eq_true rfl)⟩ (fun q19 => ?_)
  refine lc_ws (ws' := ((h0, .inr (8, [.ref (a2 0), .ref (a4 0), .ref (a6 0), .int 0, .ref (a8 0), .ref (a10 0), .int 0, .ref (a12 0), .ref (a14 0), .ref (a16 0), .int 0, .ref (a18 0), .null, .null, .null, .null])) :: ((((((((((([] : va_W) ++ wL6 cI a2) ++ wL1 cI cR a4) ++ wL6 cI a6) ++ wL7 cI a8) ++ wL2 cI a10) ++ wL4 cI a12) ++ wL0 cI a14) ++ wL3 cI a16) ++ wL5 cI a18) ++ [(q19, .inl (cI, 24, .inl (fun _ => 0)))]))) rfl ?_
  refine lc_putF E hin (pc := 108) (k9 := 12) (ws' := ((h0, .inr (8, [.ref (a2 0), .ref (a4 0), .ref (a6 0), .int 0, .ref (a8 0), .ref (a10 0), .int 0, .ref (a12 0), .ref (a14 0), .ref (a16 0), .int 0, .ref (a18 0), .ref q19, .null, .null, .null])) :: ((((((((((([] : va_W) ++ wL6 cI a2) ++ wL1 cI cR a4) ++ wL6 cI a6) ++ wL7 cI a8) ++ wL2 cI a10) ++ wL4 cI a12) ++ wL0 cI a14) ++ wL3 cI a16) ++ wL5 cI a18) ++ [(q19, .inl (cI, 24, .inl (fun _ => 0)))]))) 0 dX8_init_108 ff_X8_68 rfl (Nat.le_of_ble_eq_true rfl) rfl ?_
  refine lc_aload_n E (pc := 111) dX8_init_111 rfl ?_
  refine lc_bipush E (pc := 112) dX8_init_112 kb_24 ?_
  refine lc_newa E (pc := 114) (N' := 24) dX8_init_114 mw_ai (by decide) (by decide +kernel) (by decide) ⟨(Nat.le_of_ble_eq_true rfl), (Nat.le_of_ble_eq_true rfl)⟩ (fun q20 => ?_)
  refine lc_ws (ws' := ((h0, .inr (8, [.ref (a2 0), .ref (a4 0), .ref (a6 0), .int 0, .ref (a8 0), .ref (a10 0), .int 0, .ref (a12 0), .ref (a14 0), .ref (a16 0), .int 0, .ref (a18 0), .ref q19, .null, .null, .null])) :: (((((((((((([] : va_W) ++ wL6 cI a2) ++ wL1 cI cR a4) ++ wL6 cI a6) ++ wL7 cI a8) ++ wL2 cI a10) ++ wL4 cI a12) ++ wL0 cI a14) ++ wL3 cI a16) ++ wL5 cI a18) ++ [(q19, .inl (cI, 24, .inl (fun _ => 0)))]) ++ [(q20, .inl (cI, 24, .inl (fun _ => 0)))]))) rfl ?_
  refine lc_putF E hin (pc := 116) (k9 := 13) (ws' := ((h0, .inr (8, [.ref (a2 0), .ref (a4 0), .ref (a6 0), .int 0, .ref (a8 0), .ref (a10 0), .int 0, .ref (a12 0), .ref (a14 0), .ref (a16 0), .int 0, .ref (a18 0), .ref q19, .ref q20, .null, .null])) :: (((((((((((([] : va_W) ++ wL6 cI a2) ++ wL1 cI cR a4) ++ wL6 cI a6) ++ wL7 cI a8) ++ wL2 cI a10) ++ wL4 cI a12) ++ wL0 cI a14) ++ wL3 cI a16) ++ wL5 cI a18) ++ [(q19, .inl (cI, 24, .inl (fun _ => 0)))]) ++ [(q20, .inl (cI, 24, .inl (fun _ => 0)))]))) 0 dX8_init_116 ff_X8_72 rfl (Nat.le_of_ble_eq_true rfl) rfl ?_
  refine lc_aload_n E (pc := 119) dX8_init_119 rfl ?_
  refine lc_bipush E (pc := 120) dX8_init_120 kb_24 ?_
  refine lc_newa E (pc := 122) (N' := 24) dX8_init_122 mw_ai (by decide) (by decide +kernel) (by decide) ⟨(Nat.le_of_ble_eq_true rfl), (Nat.le_of_ble_eq_true rfl)⟩ (fun q21 => ?_)
  refine lc_ws (ws' := ((h0, .inr (8, [.ref (a2 0), .ref (a4 0), .ref (a6 0), .int 0, .ref (a8 0), .ref (a10 0), .int 0, .ref (a12 0), .ref (a14 0), .ref (a16 0), .int 0, .ref (a18 0), .ref q19, .ref q20, .null, .null])) :: ((((((((((((([] : va_W) ++ wL6 cI a2) ++ wL1 cI cR a4) ++ wL6 cI a6) ++ wL7 cI a8) ++ wL2 cI a10) ++ wL4 cI a12) ++ wL0 cI a14) ++ wL3 cI a16) ++ wL5 cI a18) ++ [(q19, .inl (cI, 24, .inl (fun _ => 0)))]) ++ [(q20, .inl (cI, 24, .inl (fun _ => 0)))]) ++ [(q21, .inl (cI, 24, .inl (fun _ => 0)))]))) rfl ?_
  refine lc_putF E hin (pc := 124) (k9 := 14) (ws' := ((h0, .inr (8, [.ref (a2 0), .ref (a4 0), .ref (a6 0), .int 0, .ref (a8 0), .ref (a10 0), .int 0, .ref (a12 0), .ref (a14 0), .ref (a16 0), .int 0, .ref (a18 0), .ref q19, .ref q20, .ref q21, .null])) :: ((((((((((((([] : va_W) ++ wL6 cI a2) ++ wL1 cI cR a4) ++ wL6 cI a6) ++ wL7 cI a8) ++ wL2 cI a10) ++ wL4 cI a12) ++ wL0 cI a14) ++ wL3 cI a16) ++ wL5 cI a18) ++ [(q19, .inl (cI, 24, .inl (fun _ => 0)))]) ++ [(q20, .inl (cI, 24, .inl (fun _ => 0)))]) ++ [(q21, .inl (cI, 24, .inl (fun _ => 0)))]))) 0 dX8_init_124 ff_X8_75 rfl (Nat.le_of_ble_eq_true rfl) rfl ?_
  refine lc_aload_n E (pc := 127) dX8_init_127 rfl ?_
  refine lc_bipush E (pc := 128) dX8_init_128 kb_24 ?_
  refine lc_newa E (pc := 130) (N' := 24) dX8_init_130 mw_ai (by decide) (by decide +kernel) (by decide) ⟨(Nat.le_of_ble_eq_true rfl), (Nat.le_of_ble_eq_true rfl)⟩ (fun q22 => ?_)
  refine lc_ws (ws' := ((h0, .inr (8, [.ref (a2 0), .ref (a4 0), .ref (a6 0), .int 0, .ref (a8 0), .ref (a10 0), .int 0, .ref (a12 0), .ref (a14 0), .ref (a16 0), .int 0, .ref (a18 0), .ref q19, .ref q20, .ref q21, .null])) :: (((((((((((((([] : va_W) ++ wL6 cI a2) ++ wL1 cI cR a4) ++ wL6 cI a6) ++ wL7 cI a8) ++ wL2 cI a10) ++ wL4 cI a12) ++ wL0 cI a14) ++ wL3 cI a16) ++ wL5 cI a18) ++ [(q19, .inl (cI, 24, .inl (fun _ => 0)))]) ++ [(q20, .inl (cI, 24, .inl (fun _ => 0)))]) ++ [(q21, .inl (cI, 24, .inl (fun _ => 0)))]) ++ [(q22, .inl (cI, 24, .inl (fun _ => 0)))]))) rfl ?_
  refine lc_putF E hin (pc := 132) (k9 := 15) (ws' := ((h0, .inr (8, [.ref (a2 0), .ref (a4 0), .ref (a6 0), .int 0, .ref (a8 0), .ref (a10 0), .int 0, .ref (a12 0), .ref (a14 0), .ref (a16 0), .int 0, .ref (a18 0), .ref q19, .ref q20, .ref q21, .ref q22])) :: (((((((((((((([] : va_W) ++ wL6 cI a2) ++ wL1 cI cR a4) ++ wL6 cI a6) ++ wL7 cI a8) ++ wL2 cI a10) ++ wL4 cI a12) ++ wL0 cI a14) ++ wL3 cI a16) ++ wL5 cI a18) ++ [(q19, .inl (cI, 24, .inl (fun _ => 0)))]) ++ [(q20, .inl (cI, 24, .inl (fun _ => 0)))]) ++ [(q21, .inl (cI, 24, .inl (fun _ => 0)))]) ++ [(q22, .inl (cI, 24, .inl (fun _ => 0)))]))) 0 dX8_init_132 ff_X8_78 rfl (Nat.le_of_ble_eq_true rfl) rfl ?_
  refine lc_ws (ws' := wX8 cI cR h0 a2 a4 a6 a8 a10 a12 a14 a16 a18 q19 q20 q21 q22) rfl ?_
  refine lc_fin (ws' := wo cI cR (adX h0 a2 a4 a6 a8 a10 a12 a14 a16 a18 q19 q20 q21 q22) shX NX μ0X) (x8_finP (fun k h1 h2 => x8_at k h1 h2) x8_12) (x8_finD (fun k h1 h2 => x8_at k h1 h2) x8_12) ?_
  exact lc_ret E (pc := 135) (adX h0 a2 a4 a6 a8 a10 a12 a14 a16 a18 q19 q20 q21 q22) hr hA dX8_init_135 rfl rfl ⟨rfl, rfl⟩
