/-! printed by wip/gen/gen_all.py: functions of the reader's group -/
def f_Reader_readPair (S : ASh) (R : Nat → ASt → Int → Int → Option (Int × ASt)) (V : ASt) (x0 x1 : Int) : Option (Int × ASt) :=
  gd (isO S x0 5) (bnd (f_Reader_step S V x0) (fun r1 V2 => bnd (f_Reader_openBracket S V2 x0 40) (fun r4 V5 => bnd (R 4 V5 x0 0) (fun r7 V8 => bnd (f_Reader_take S V8 x0 44) (fun r10 V11 => bnd (R 4 V11 x0 0) (fun r13 V14 => bnd (f_Reader_take S V14 x0 41) (fun r16 V17 => wV (aset V17 x0 5 (w32 ((V17 x0 5) - 1))) (fun V19 => gd (isO S (V19 x0 4) 1) (gd (isO S (aF S (V19 x0 4) 5) 8) (bnd (f_Tests_emit S V19 (aF S (V19 x0 4) 5) x1) (fun r21 V22 => some (0, V22))))))))))))
def b_Reader_readPart_J226 (S : ASh) (R : Nat → ASt → Int → Int → Option (Int × ASt)) (V : ASt) (x0 s0 s1 : Int) : Option (Int × ASt) :=
  gd (isO S s0 8) (bnd (f_Tests_emit S V s0 s1) (fun r1 V2 => some (0, V2)))
def f_Reader_readPart (S : ASh) (R : Nat → ASt → Int → Int → Option (Int × ASt)) (V : ASt) (x0 : Int) : Option (Int × ASt) :=
  gd (isO S x0 5) (bnd (f_Reader_type S V x0) (fun r5 V6 => if r5 = 2 then (gd (isO S (V6 x0 4) 1) (bnd (f_Reader_takeNameOfPiece S V6 x0) (fun r10 V11 => if r10 = 0 then (b_Reader_readPart_J226 S R V11 x0 (aF S (V6 x0 4) 5) (-18)) else (b_Reader_readPart_J226 S R V11 x0 (aF S (V6 x0 4) 5) (-19))))) else (if r5 = 3 then (gd (isO S (V6 x0 4) 1) (bnd (f_Reader_content S V6 x0) (fun r15 V16 => gd (isO S (aF S (V6 x0 4) 5) 8) (bnd (f_Tests_emit S V16 (aF S (V6 x0 4) 5) r15) (fun r18 V19 => bnd (f_Reader_step S V19 x0) (fun r22 V23 => some (0, V23))))))) else (if r5 = 40 then (bnd (f_Reader_openBracket S V6 x0 40) (fun r26 V27 => bnd (R 4 V27 x0 0) (fun r29 V30 => bnd (f_Reader_take S V30 x0 41) (fun r32 V33 => wV (aset V33 x0 5 (w32 ((V33 x0 5) - 1))) (fun V35 => some (0, V35)))))) else (if r5 = 274 then (gd (isO S (V6 x0 4) 1) (gd (isO S (aF S (V6 x0 4) 5) 8) (bnd (f_Tests_emit S V6 (aF S (V6 x0 4) 5) (-15)) (fun r38 V39 => bnd (f_Reader_step S V39 x0) (fun r42 V43 => some (0, V43)))))) else (if r5 = 275 then (gd (isO S (V6 x0 4) 1) (gd (isO S (aF S (V6 x0 4) 5) 8) (bnd (f_Tests_emit S V6 (aF S (V6 x0 4) 5) (-16)) (fun r47 V48 => bnd (f_Reader_step S V48 x0) (fun r51 V52 => some (0, V52)))))) else (if r5 = 276 then (gd (isO S (V6 x0 4) 1) (gd (isO S (aF S (V6 x0 4) 5) 8) (bnd (f_Tests_emit S V6 (aF S (V6 x0 4) 5) (-17)) (fun r56 V57 => bnd (f_Reader_step S V57 x0) (fun r60 V61 => some (0, V61)))))) else (if r5 = 277 then (bnd (R 3 V6 x0 (-7)) (fun r64 V65 => some (0, V65))) else (if r5 = 278 then (bnd (R 3 V6 x0 (-8)) (fun r68 V69 => some (0, V69))) else (bnd (f_Reader_fail S V6 x0 1) (fun r71 V72 => some (0, V72))))))))))))
def b_Reader_readProduct_L6 (S : ASh) (R : Nat → ASt → Int → Int → Option (Int × ASt)) (x0 : Int) : Nat → ASt → Int → Option (Int × ASt)
  | 0, _, _ => none
  | n + 1, V, x1 =>
    if 1800 ≤ x1 then (some (0, V)) else (bnd (f_Reader_factorTold S V x0) (fun r1 V2 => if r1 = (-1) then (some (0, V2)) else (bnd (f_Reader_factorTold S V2 x0) (fun r4 V5 => bnd (f_Reader_step S V5 x0) (fun r7 V8 => bnd (R 6 V8 x0 0) (fun r10 V11 => gd (isO S (V11 x0 4) 1) (gd (isO S (aF S (V11 x0 4) 5) 8) (bnd (f_Tests_emit S V11 (aF S (V11 x0 4) 5) r4) (fun r14 V15 => (b_Reader_readProduct_L6 S R x0 n) V15 (w32 (x1 + 1)))))))))))
def f_Reader_readProduct (S : ASh) (R : Nat → ASt → Int → Int → Option (Int × ASt)) (V : ASt) (x0 : Int) : Option (Int × ASt) :=
  gd (isO S x0 5) (bnd (R 6 V x0 0) (fun r18 V19 => b_Reader_readProduct_L6 S R x0 FU V19 0))
def b_Reader_readSum_J47 (S : ASh) (R : Nat → ASt → Int → Int → Option (Int × ASt)) (K6 : ASt → Int → Option (Int × ASt)) (V : ASt) (x0 x1 s0 : Int) : Option (Int × ASt) :=
  bnd (f_Reader_step S V x0) (fun r1 V2 => bnd (R 5 V2 x0 0) (fun r4 V5 => gd (isO S (V5 x0 4) 1) (gd (isO S (aF S (V5 x0 4) 5) 8) (bnd (f_Tests_emit S V5 (aF S (V5 x0 4) 5) s0) (fun r8 V9 => K6 V9 (w32 (x1 + 1)))))))
def b_Reader_readSum_J31 (S : ASh) (R : Nat → ASt → Int → Int → Option (Int × ASt)) (K6 : ASt → Int → Option (Int × ASt)) (V : ASt) (x0 x1 : Int) : Option (Int × ASt) :=
  bnd (f_Reader_type S V x0) (fun r12 V13 => if r12 = 43 then (b_Reader_readSum_J47 S R K6 V13 x0 x1 (-2)) else (b_Reader_readSum_J47 S R K6 V13 x0 x1 (-3)))
def b_Reader_readSum_L6 (S : ASh) (R : Nat → ASt → Int → Int → Option (Int × ASt)) (x0 : Int) : Nat → ASt → Int → Option (Int × ASt)
  | 0, _, _ => none
  | n + 1, V, x1 =>
    if 1800 ≤ x1 then (some (0, V)) else (bnd (f_Reader_type S V x0) (fun r15 V16 => if r15 = 43 then (b_Reader_readSum_J31 S R ((b_Reader_readSum_L6 S R x0 n)) V16 x0 x1) else (bnd (f_Reader_type S V16 x0) (fun r18 V19 => if r18 = 45 then (b_Reader_readSum_J31 S R ((b_Reader_readSum_L6 S R x0 n)) V19 x0 x1) else (some (0, V19))))))
def f_Reader_readSum (S : ASh) (R : Nat → ASt → Int → Int → Option (Int × ASt)) (V : ASt) (x0 : Int) : Option (Int × ASt) :=
  gd (isO S x0 5) (bnd (R 5 V x0 0) (fun r21 V22 => b_Reader_readSum_L6 S R x0 FU V22 0))
def b_Reader_readFact_J148 (S : ASh) (R : Nat → ASt → Int → Int → Option (Int × ASt)) (V : ASt) (x0 x1 : Int) : Option (Int × ASt) :=
  if x1 = 0 then (some (0, V)) else (gd (isO S (V x0 4) 1) (gd (isO S (aF S (V x0 4) 5) 8) (bnd (f_Tests_emit S V (aF S (V x0 4) 5) (-14)) (fun r2 V3 => some (0, V3)))))
def b_Reader_readFact_J41 (S : ASh) (R : Nat → ASt → Int → Int → Option (Int × ASt)) (V : ASt) (x0 x1 : Int) : Option (Int × ASt) :=
  bnd (f_Reader_type S V x0) (fun r6 V7 => if r6 = 91 then (bnd (f_Reader_openBracket S V7 x0 91) (fun r40 V41 => bnd (R 0 V41 x0 0) (fun r43 V44 => bnd (f_Reader_take S V44 x0 93) (fun r46 V47 => wV (aset V47 x0 5 (w32 ((V47 x0 5) - 1))) (fun V49 => b_Reader_readFact_J148 S R V49 x0 x1))))) else (bnd (f_Reader_type S V7 x0) (fun r9 V10 => if r9 = 273 then (bnd (f_Reader_step S V10 x0) (fun r32 V33 => gd (isO S (V33 x0 4) 1) (gd (isO S (aF S (V33 x0 4) 5) 8) (bnd (f_Tests_emit S V33 (aF S (V33 x0 4) 5) 1) (fun r36 V37 => b_Reader_readFact_J148 S R V37 x0 x1))))) else (bnd (R 4 V10 x0 0) (fun r12 V13 => bnd (f_Reader_comparisonTold S V13 x0) (fun r15 V16 => if r15 = (-1) then (bnd (f_Reader_fail S V16 x0 1) (fun r29 V30 => b_Reader_readFact_J148 S R V30 x0 x1)) else (bnd (f_Reader_step S V16 x0) (fun r18 V19 => bnd (R 4 V19 x0 0) (fun r21 V22 => gd (isO S (V22 x0 4) 1) (gd (isO S (aF S (V22 x0 4) 5) 8) (bnd (f_Tests_emit S V22 (aF S (V22 x0 4) 5) r15) (fun r25 V26 => b_Reader_readFact_J148 S R V26 x0 x1))))))))))))
def b_Reader_readFact_L4 (S : ASh) (R : Nat → ASt → Int → Int → Option (Int × ASt)) (x0 : Int) : Nat → ASt → Int → Int → Option (Int × ASt)
  | 0, _, _, _ => none
  | n + 1, V, x1, x2 =>
    if 1800 ≤ x2 then (b_Reader_readFact_J41 S R V x0 x1) else (bnd (f_Reader_type S V x0) (fun r50 V51 => if r50 = 266 then (bnd (f_Reader_step S V51 x0) (fun r53 V54 => if x1 = 0 then ((b_Reader_readFact_L4 S R x0 n) V54 1 (w32 (x2 + 1))) else ((b_Reader_readFact_L4 S R x0 n) V54 0 (w32 (x2 + 1))))) else (b_Reader_readFact_J41 S R V51 x0 x1)))
def f_Reader_readFact (S : ASh) (R : Nat → ASt → Int → Int → Option (Int × ASt)) (V : ASt) (x0 : Int) : Option (Int × ASt) :=
  gd (isO S x0 5) (b_Reader_readFact_L4 S R x0 FU V 0 0)
def b_Reader_readBoth_L6 (S : ASh) (R : Nat → ASt → Int → Int → Option (Int × ASt)) (x0 : Int) : Nat → ASt → Int → Option (Int × ASt)
  | 0, _, _ => none
  | n + 1, V, x1 =>
    if 1800 ≤ x1 then (some (0, V)) else (bnd (f_Reader_type S V x0) (fun r1 V2 => if r1 = 272 then (bnd (f_Reader_step S V2 x0) (fun r4 V5 => bnd (R 2 V5 x0 0) (fun r7 V8 => gd (isO S (V8 x0 4) 1) (gd (isO S (aF S (V8 x0 4) 5) 8) (bnd (f_Tests_emit S V8 (aF S (V8 x0 4) 5) (-12)) (fun r11 V12 => (b_Reader_readBoth_L6 S R x0 n) V12 (w32 (x1 + 1)))))))) else (some (0, V2))))
def f_Reader_readBoth (S : ASh) (R : Nat → ASt → Int → Int → Option (Int × ASt)) (V : ASt) (x0 : Int) : Option (Int × ASt) :=
  gd (isO S x0 5) (bnd (R 2 V x0 0) (fun r15 V16 => b_Reader_readBoth_L6 S R x0 FU V16 0))
def b_Reader_readTest_L6 (S : ASh) (R : Nat → ASt → Int → Int → Option (Int × ASt)) (x0 : Int) : Nat → ASt → Int → Option (Int × ASt)
  | 0, _, _ => none
  | n + 1, V, x1 =>
    if 1800 ≤ x1 then (some (0, V)) else (bnd (f_Reader_type S V x0) (fun r1 V2 => if r1 = 271 then (bnd (f_Reader_step S V2 x0) (fun r4 V5 => bnd (R 1 V5 x0 0) (fun r7 V8 => gd (isO S (V8 x0 4) 1) (gd (isO S (aF S (V8 x0 4) 5) 8) (bnd (f_Tests_emit S V8 (aF S (V8 x0 4) 5) (-13)) (fun r11 V12 => (b_Reader_readTest_L6 S R x0 n) V12 (w32 (x1 + 1)))))))) else (some (0, V2))))
def f_Reader_readTest (S : ASh) (R : Nat → ASt → Int → Int → Option (Int × ASt)) (V : ASt) (x0 : Int) : Option (Int × ASt) :=
  gd (isO S x0 5) (bnd (R 1 V x0 0) (fun r15 V16 => b_Reader_readTest_L6 S R x0 FU V16 0))
/-- the reader's group of methods that call one another: by fuel, then by number -/
def f_RD (S : ASh) : Nat → Nat → ASt → Int → Int → Option (Int × ASt)
  | 0, _, _, _, _ => none
  | n + 1, k, V, x0, x1 => if k = 0 then f_Reader_readTest S (f_RD S n) V x0 else if k = 1 then f_Reader_readBoth S (f_RD S n) V x0 else if k = 2 then f_Reader_readFact S (f_RD S n) V x0 else if k = 3 then f_Reader_readPair S (f_RD S n) V x0 x1 else if k = 4 then f_Reader_readSum S (f_RD S n) V x0 else if k = 5 then f_Reader_readProduct S (f_RD S n) V x0 else if k = 6 then f_Reader_readPart S (f_RD S n) V x0 else none
def RF : Nat := 100
