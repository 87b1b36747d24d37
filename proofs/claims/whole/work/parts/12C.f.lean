/-! printed by wip/gen/gen_all.py: functions of the reader, moves, values, worths -/
def b_Reader_takeNumber_J31 (S : ASh) (V : ASt) (x0 x3 : Int) : Option (Int × ASt) :=
  bnd (f_Reader_fail S V x0 4) (fun r1 V2 => some (x3, V2))
def f_Reader_takeNumber (S : ASh) (V : ASt) (x0 x1 x2 : Int) : Option (Int × ASt) :=
  gd (isO S x0 5) (bnd (f_Reader_content S V x0) (fun r4 V5 => bnd (f_Reader_type S V5 x0) (fun r7 V8 => if r7 = 3 then (if r4 < x1 then (b_Reader_takeNumber_J31 S  V8 x0 r4) else (if r4 ≤ x2 then (bnd (f_Reader_step S V8 x0) (fun r10 V11 => some (r4, V11))) else (b_Reader_takeNumber_J31 S  V8 x0 r4))) else (bnd (f_Reader_fail S V8 x0 1) (fun r13 V14 => some (r4, V14))))))
def f_Reader_readBoard (S : ASh) (V : ASt) (x0 : Int) : Option (Int × ASt) :=
  gd (isO S x0 5) (bnd (f_Reader_take S V x0 256) (fun r1 V2 => bnd (f_Reader_takeNumber S V2 x0 2 9) (fun r4 V5 => gd (isO S (V2 x0 4) 1) (wV (aset V5 (V2 x0 4) 0 r4) (fun V8 => some (0, V8))))))
def b_Reader_readPiece_J53 (S : ASh) (V : ASt) (x0 x1 : Int) : Option (Int × ASt) :=
  bnd (f_Reader_take S V x0 2) (fun r1 V2 => bnd (f_Reader_take S V2 x0 258) (fun r4 V5 => gd (isO S (V5 x0 4) 1) (bnd (f_Reader_takeNumber S V5 x0 0 (w32 ((V5 (V5 x0 4) 0) - 1))) (fun r8 V9 => bnd (f_Reader_take S V9 x0 259) (fun r11 V12 => bnd (f_Reader_takeNumber S V12 x0 0 2) (fun r14 V15 => if (V15 x0 0) = 0 then (gd (isO S (V15 x0 4) 1) (bnd (f_Game_addPiece S V15 (V15 x0 4) x1 r8 r14) (fun r17 V18 => some (0, V18)))) else (some (0, V15))))))))
def b_Reader_readPiece_J16 (S : ASh) (V : ASt) (x0 : Int) : Option (Int × ASt) :=
  bnd (f_Reader_take S V x0 257) (fun r21 V22 => bnd (f_Reader_content S V22 x0) (fun r24 V25 => bnd (f_Reader_type S V25 x0) (fun r27 V28 => if r27 = 2 then (gd (isO S (V28 x0 4) 1) (bnd (f_Game_pieceNamed S V28 (V28 x0 4) r24) (fun r30 V31 => if r30 = (-1) then (b_Reader_readPiece_J53 S  V31 x0 r24) else (bnd (f_Reader_fail S V31 x0 2) (fun r34 V35 => b_Reader_readPiece_J53 S  V35 x0 r24))))) else (b_Reader_readPiece_J53 S  V28 x0 r24))))
def f_Reader_readPiece (S : ASh) (V : ASt) (x0 : Int) : Option (Int × ASt) :=
  gd (isO S x0 5) (gd (isO S (V x0 4) 1) (if (V (V x0 4) 1) = 2 then (bnd (f_Reader_fail S V x0 5) (fun r38 V39 => b_Reader_readPiece_J16 S  V39 x0)) else (b_Reader_readPiece_J16 S  V x0)))
def b_Reader_readStuck_J75 (S : ASh) (V : ASt) (x0 : Int) : Option (Int × ASt) :=
  bnd (f_Reader_step S V x0) (fun r1 V2 => some (0, V2))
def f_Reader_readStuck (S : ASh) (V : ASt) (x0 : Int) : Option (Int × ASt) :=
  gd (isO S x0 5) (bnd (f_Reader_take S V x0 261) (fun r4 V5 => bnd (f_Reader_type S V5 x0) (fun r7 V8 => if r7 = 262 then (gd (isO S (V8 x0 4) 1) (wV (aset V8 (V8 x0 4) 4 0) (fun V24 => b_Reader_readStuck_J75 S  V24 x0))) else (bnd (f_Reader_type S V8 x0) (fun r10 V11 => if r10 = 263 then (gd (isO S (V11 x0 4) 1) (wV (aset V11 (V11 x0 4) 4 1) (fun V22 => b_Reader_readStuck_J75 S  V22 x0))) else (bnd (f_Reader_type S V11 x0) (fun r13 V14 => if r13 = 264 then (gd (isO S (V14 x0 4) 1) (wV (aset V14 (V14 x0 4) 4 2) (fun V20 => b_Reader_readStuck_J75 S  V20 x0))) else (bnd (f_Reader_fail S V14 x0 1) (fun r16 V17 => b_Reader_readStuck_J75 S  V17 x0)))))))))
def f_Reader_kindTold (S : ASh) (V : ASt) (x0 : Int) : Option (Int × ASt) :=
  gd (isO S x0 5) (bnd (f_Reader_type S V x0) (fun r1 V2 => if r1 = 262 then (some (3, V2)) else (if r1 = 263 then (some ((-1), V2)) else (if r1 = 264 then (some (2, V2)) else (if r1 = 265 then (some (0, V2)) else (if r1 = 266 then (some (1, V2)) else (some ((-1), V2))))))))
def f_Reader_wayTold (S : ASh) (V : ASt) (x0 : Int) : Option (Int × ASt) :=
  gd (isO S x0 5) (bnd (f_Reader_type S V x0) (fun r1 V2 => if r1 = 267 then (some (0, V2)) else (if r1 = 268 then (some (1, V2)) else (if r1 = 269 then (some (2, V2)) else (some ((-1), V2))))))
def b_Reader_readMove_J46 (S : ASh) (V : ASt) (x0 s0 s1 s2 s3 : Int) : Option (Int × ASt) :=
  gd (isO S s0 1) (bnd (f_Game_setMoveOfLatest S V s0 s1 s2 s3) (fun r1 V2 => some (0, V2)))
def f_Reader_readMove (S : ASh) (V : ASt) (x0 : Int) : Option (Int × ASt) :=
  gd (isO S x0 5) (bnd (f_Reader_takeNameOfPiece S V x0) (fun r5 V6 => bnd (f_Reader_wayTold S V6 x0) (fun r8 V9 => if r8 = (-1) then (bnd (f_Reader_fail S V9 x0 1) (fun r17 V18 => some (0, V18))) else (bnd (f_Reader_step S V9 x0) (fun r11 V12 => if r8 = 2 then (b_Reader_readMove_J46 S  V12 x0 (V12 x0 4) r5 r8 0) else (bnd (f_Reader_takeNumber S V12 x0 1 3) (fun r14 V15 => b_Reader_readMove_J46 S  V15 x0 (V12 x0 4) r5 r8 r14)))))))
def b_Reader_readRule_J83 (S : ASh) (V : ASt) (x0 : Int) : Option (Int × ASt) :=
  bnd (f_Reader_take S V x0 270) (fun r1 V2 => bnd (f_RD S RF 0 V2 x0 0) (fun r4 V5 => gd (isO S (V5 x0 4) 1) (gd (isO S (aF S (V5 x0 4) 5) 8) (bnd (f_Tests_close S V5 (aF S (V5 x0 4) 5)) (fun r8 V9 => some (0, V9))))))
def b_Reader_readRule_J79 (S : ASh) (V : ASt) (x0 : Int) : Option (Int × ASt) :=
  bnd (f_Reader_readMove S V x0) (fun r12 V13 => b_Reader_readRule_J83 S  V13 x0)
def b_Reader_readRule_J41 (S : ASh) (V : ASt) (x0 x1 : Int) : Option (Int × ASt) :=
  bnd (f_Reader_kindTold S V x0) (fun r15 V16 => if r15 = (-1) then (bnd (f_Reader_fail S V16 x0 1) (fun r25 V26 => some (0, V26))) else (bnd (f_Reader_step S V16 x0) (fun r18 V19 => gd (isO S (V19 x0 4) 1) (bnd (f_Game_addRule S V19 (V19 x0 4) r15 x1) (fun r21 V22 => if r15 = 0 then (b_Reader_readRule_J79 S  V22 x0) else (if r15 = 1 then (b_Reader_readRule_J79 S  V22 x0) else (b_Reader_readRule_J83 S  V22 x0)))))))
def b_Reader_readRule_J32 (S : ASh) (V : ASt) (x0 s0 : Int) : Option (Int × ASt) :=
  if s0 = 0 then (b_Reader_readRule_J41 S  V x0 s0) else (bnd (f_Reader_step S V x0) (fun r28 V29 => b_Reader_readRule_J41 S  V29 x0 s0))
def b_Reader_readRule_J17 (S : ASh) (V : ASt) (x0 : Int) : Option (Int × ASt) :=
  bnd (f_Reader_type S V x0) (fun r31 V32 => if r31 = 260 then (b_Reader_readRule_J32 S  V32 x0 1) else (b_Reader_readRule_J32 S  V32 x0 0))
def f_Reader_readRule (S : ASh) (V : ASt) (x0 : Int) : Option (Int × ASt) :=
  gd (isO S x0 5) (gd (isO S (V x0 4) 1) (if (V (V x0 4) 2) = 12 then (bnd (f_Reader_fail S V x0 5) (fun r35 V36 => b_Reader_readRule_J17 S  V36 x0)) else (b_Reader_readRule_J17 S  V x0)))
def b_Reader_readStatement_J52 (S : ASh) (V : ASt) (x0 : Int) : Option (Int × ASt) :=
  bnd (f_Reader_readRule S V x0) (fun r1 V2 => some (0, V2))
def f_Reader_readStatement (S : ASh) (V : ASt) (x0 : Int) : Option (Int × ASt) :=
  gd (isO S x0 5) (bnd (f_Reader_type S V x0) (fun r4 V5 => if r4 = 257 then (bnd (f_Reader_readPiece S V5 x0) (fun r22 V23 => some (0, V23))) else (bnd (f_Reader_type S V5 x0) (fun r7 V8 => if r7 = 261 then (bnd (f_Reader_readStuck S V8 x0) (fun r19 V20 => some (0, V20))) else (bnd (f_Reader_type S V8 x0) (fun r10 V11 => if r10 = 260 then (b_Reader_readStatement_J52 S  V11 x0) else (bnd (f_Reader_kindTold S V11 x0) (fun r13 V14 => if r13 = (-1) then (bnd (f_Reader_fail S V14 x0 1) (fun r16 V17 => some (0, V17))) else (b_Reader_readStatement_J52 S  V14 x0)))))))))
def b_Reader_readGame_J96 (S : ASh) (V : ASt) (x0 x3 : Int) : Option (Int × ASt) :=
  if (V x0 0) = 0 then (some (x3, V)) else (some ((-1), V))
def b_Reader_readGame_L55 (S : ASh) (x0 : Int) : Nat → ASt → Int → Int → Option (Int × ASt)
  | 0, _, _, _ => none
  | n + 1, V, x3, x4 =>
    if 1800 ≤ x4 then (b_Reader_readGame_J96 S  V x0 x3) else (if (V x0 0) = 0 then (bnd (f_Reader_type S V x0) (fun r1 V2 => if r1 = 0 then (b_Reader_readGame_J96 S  V2 x0 x3) else (bnd (f_Reader_readStatement S V2 x0) (fun r4 V5 => bnd (f_Reader_take S V5 x0 59) (fun r7 V8 => (b_Reader_readGame_L55 S x0 n) V8 (w32 (x3 + 1)) (w32 (x4 + 1))))))) else (b_Reader_readGame_J96 S  V x0 x3))
def f_Reader_readGame (S : ASh) (V : ASt) (x0 x1 x2 : Int) : Option (Int × ASt) :=
  gd (isO S x0 5) (wV (aset V x0 4 x2) (fun V10 => gd (isO S (V10 x0 4) 1) (bnd (f_Game_clear S V10 (V10 x0 4)) (fun r11 V12 => wV (aset V12 x0 0 0) (fun V15 => wV (aset V15 x0 1 (-1)) (fun V16 => wV (aset V16 x0 5 0) (fun V17 => wV (aset V17 x0 3 0) (fun V18 => gd (isO S (aF S x0 2) 9) (bnd (f_Tokens_cut S V18 (aF S x0 2) x1) (fun r19 V20 => bnd (f_Reader_readBoard S V20 x0) (fun r23 V24 => bnd (f_Reader_take S V24 x0 59) (fun r26 V27 => b_Reader_readGame_L55 S x0 FU V27 1 0))))))))))))
def f_Match_begin (S : ASh) (V : ASt) (x0 x1 : Int) : Option (Int × ASt) :=
  gd (isO S x0 3) (wV (aset V x0 0 x1) (fun V1 => wV (aset V1 x0 1 0) (fun V2 => wV (aset V2 x0 2 (-1)) (fun V3 => some (0, V3)))))
def f_Moves_countOf (S : ASh) (V : ASt) (x0 x1 : Int) : Option (Int × ASt) :=
  gd (isO S x0 4) (if x1 < 0 then (some (0, V)) else (if 200 ≤ x1 then (some (0, V)) else (gd (isA S (aF S x0 5) 0 x1) (some ((V (aF S x0 5) x1), V)))))
def f_Moves_winnerWhenStuck (S : ASh) (V : ASt) (x0 x1 : Int) : Option (Int × ASt) :=
  gd (isO S x0 4) (gd (isO S (V x0 2) 1) (bnd (f_Game_winnerWhenStuck S V (V x0 2) (and32 x1 1)) (fun r1 V2 => some (r1, V2))))
def f_Match_winner (S : ASh) (V : ASt) (x0 x1 : Int) : Option (Int × ASt) :=
  gd (isO S x0 3) (if (V x0 2) = (-1) then (gd (isO S x1 4) (bnd (f_Moves_countOf S V x1 (V x0 0)) (fun r1 V2 => if r1 = 0 then (bnd (f_Moves_winnerWhenStuck S V2 x1 (V2 x0 0)) (fun r5 V6 => some (r5, V6))) else (some ((-1), V2))))) else (some ((V x0 2), V)))
def f_Moves_isMove (S : ASh) (V : ASt) (x0 x1 x2 : Int) : Option (Int × ASt) :=
  gd (isO S x0 4) (if x1 < 0 then (some (0, V)) else (if 200 ≤ x1 then (some (0, V)) else (if x2 < 0 then (some (0, V)) else (gd (isA S (aF S x0 5) 0 x1) (if (V (aF S x0 5) x1) ≤ x2 then (some (0, V)) else (some (1, V)))))))
def f_Moves_codeOf (S : ASh) (V : ASt) (x0 x1 x2 : Int) : Option (Int × ASt) :=
  gd (isO S x0 4) (bnd (f_Moves_isMove S V x0 x1 x2) (fun r1 V2 => if r1 = 0 then (some ((-1), V2)) else (gd (isA S (aF S x0 6) 0 (w32 ((w32 (x1 * 12)) + x2))) (some ((V2 (aF S x0 6) (w32 ((w32 (x1 * 12)) + x2))), V2)))))
def f_Moves_nextOf (S : ASh) (V : ASt) (x0 x1 x2 : Int) : Option (Int × ASt) :=
  gd (isO S x0 4) (bnd (f_Moves_isMove S V x0 x1 x2) (fun r1 V2 => if r1 = 0 then (some ((-2), V2)) else (gd (isA S (aF S x0 7) 0 (w32 ((w32 (x1 * 12)) + x2))) (some ((V2 (aF S x0 7) (w32 ((w32 (x1 * 12)) + x2))), V2)))))
def b_Match_step_J90 (S : ASh) (V : ASt) (x0 x2 x3 : Int) : Option (Int × ASt) :=
  gd (isO S x2 1) (bnd (f_Game_positionBehind S V x2 (V x0 0) (w32 (Int.tdiv x3 10)) (Int.tmod x3 10)) (fun r1 V2 => wV (aset V2 x0 0 r1) (fun V5 => wV (aset V5 x0 1 (w32 ((V5 x0 1) + 1))) (fun V6 => some (1, V6)))))
def b_Match_step_J87 (S : ASh) (V : ASt) (x0 x2 x3 s0 s1 : Int) : Option (Int × ASt) :=
  gd (isO S s0 3) (wV (aset V s0 2 s1) (fun V8 => b_Match_step_J90 S  V8 x0 x2 x3))
def b_Match_step_L25 (S : ASh) (x0 x1 x2 x3 x4 : Int) : Nat → ASt → Int → Option (Int × ASt)
  | 0, _, _ => none
  | n + 1, V, x5 =>
    if x4 ≤ x5 then (some (0, V)) else (gd (isO S x1 4) (bnd (f_Moves_codeOf S V x1 (V x0 0) x5) (fun r9 V10 => if r9 = x3 then (bnd (f_Moves_nextOf S V10 x1 (V10 x0 0) x5) (fun r13 V14 => if 0 ≤ r13 then (b_Match_step_J90 S  V14 x0 x2 x3) else (if r13 = (-1) then (b_Match_step_J87 S  V14 x0 x2 x3 x0 (and32 (V10 x0 0) 1)) else (b_Match_step_J87 S  V14 x0 x2 x3 x0 (w32 (1 - (and32 (V10 x0 0) 1))))))) else ((b_Match_step_L25 S x0 x1 x2 x3 x4 n) V10 (w32 (x5 + 1))))))
def f_Match_step (S : ASh) (V : ASt) (x0 x1 x2 x3 : Int) : Option (Int × ASt) :=
  gd (isO S x0 3) (if (V x0 2) = (-1) then (gd (isO S x1 4) (bnd (f_Moves_countOf S V x1 (V x0 0)) (fun r16 V17 => b_Match_step_L25 S x0 x1 x2 x3 r16 FU V17 0))) else (b_Match_step_L25 S x0 x1 x2 x3 0 FU V 0))
def b_Moves_addRule_J59 (S : ASh) (V : ASt) (x0 s0 s1 s2 : Int) : Option (Int × ASt) :=
  gd (isA S s0 0 s1) (wV (aset V s0 s1 s2) (fun V2 => wV (aset V2 x0 14 (w32 ((V2 x0 14) + 1))) (fun V3 => some (0, V3))))
def b_Moves_addRule_J21 (S : ASh) (V : ASt) (x0 x1 x2 : Int) : Option (Int × ASt) :=
  if 12 ≤ (V x0 14) then (some (0, V)) else (gd (isA S (aF S x0 12) 0 (V x0 14)) (wV (aset V (aF S x0 12) (V x0 14) x1) (fun V5 => if x2 = 2 then (b_Moves_addRule_J59 S  V5 x0 (aF S x0 13) (V5 x0 14) (-1)) else (b_Moves_addRule_J59 S  V5 x0 (aF S x0 13) (V5 x0 14) (-2)))))
def b_Moves_addRule_J148 (S : ASh) (V : ASt) (x0 x4 s0 s1 s2 : Int) : Option (Int × ASt) :=
  gd (isA S s0 2 s1) (gd (zb s2) (wV (aset V s0 s1 s2) (fun V8 => gd (isA S (aF S x0 11) 0 x4) (wV (aset V8 (aF S x0 11) x4 (w32 ((V8 (aF S x0 11) x4) + 1))) (fun V10 => some (0, V10))))))
def b_Moves_addRule_J132 (S : ASh) (V : ASt) (x0 x2 x4 x5 s0 s1 s2 : Int) : Option (Int × ASt) :=
  gd (isA S s0 0 s1) (wV (aset V s0 s1 s2) (fun V12 => if x2 = 0 then (b_Moves_addRule_J148 S  V12 x0 x4 (aF S x0 10) x5 1) else (b_Moves_addRule_J148 S  V12 x0 x4 (aF S x0 10) x5 0)))
def f_Moves_addRule (S : ASh) (V : ASt) (x0 x1 x2 x3 : Int) : Option (Int × ASt) :=
  gd (isO S x0 4) (gd (isO S (V x0 2) 1) (bnd (f_Game_pieceOf S V (V x0 2) x1) (fun r13 V14 => if r13 < 0 then (b_Moves_addRule_J21 S  V14 x0 x1 x2) else (if r13 < 2 then (gd (isA S (aF S x0 11) 0 r13) (if 12 ≤ (V14 (aF S x0 11) r13) then (some (0, V14)) else (gd (isA S (aF S x0 8) 0 (w32 ((w32 (r13 * 12)) + (V14 (aF S x0 11) r13)))) (wV (aset V14 (aF S x0 8) (w32 ((w32 (r13 * 12)) + (V14 (aF S x0 11) r13))) x1) (fun V19 => gd (isO S (V19 x0 2) 1) (bnd (f_Game_wayOf S V19 (V19 x0 2) x1) (fun r20 V21 => if r20 = 1 then (b_Moves_addRule_J132 S  V21 x0 x2 r13 (w32 ((w32 (r13 * 12)) + (V14 (aF S x0 11) r13))) (aF S x0 9) (w32 ((w32 (r13 * 12)) + (V14 (aF S x0 11) r13))) (w32 (-x3))) else (b_Moves_addRule_J132 S  V21 x0 x2 r13 (w32 ((w32 (r13 * 12)) + (V14 (aF S x0 11) r13))) (aF S x0 9) (w32 ((w32 (r13 * 12)) + (V14 (aF S x0 11) r13))) x3)))))))) else (b_Moves_addRule_J21 S  V14 x0 x1 x2)))))
def b_Moves_prepare_L43 (S : ASh) (x0 x2 : Int) : Nat → ASt → Int → Option (Int × ASt)
  | 0, _, _ => none
  | n + 1, V, x3 =>
    if x3 < 0 then (some (0, V)) else (gd (isO S x2 6) (bnd (f_Slate_isStruck S V x2 x3) (fun r1 V2 => if r1 = 0 then (bnd (f_Slate_ruleAt S V2 x2 x3) (fun r5 V6 => bnd (f_Slate_kindAt S V6 x2 x3 (V6 x0 2)) (fun r8 V9 => bnd (f_Slate_stepAt S V9 x2 x3) (fun r11 V12 => bnd (f_Moves_addRule S V12 x0 r5 r8 r11) (fun r14 V15 => (b_Moves_prepare_L43 S x0 x2 n) V15 (w32 (x3 + (-1)))))))) else ((b_Moves_prepare_L43 S x0 x2 n) V2 (w32 (x3 + (-1)))))))
def f_Moves_prepare (S : ASh) (V : ASt) (x0 x1 x2 : Int) : Option (Int × ASt) :=
  gd (isO S x0 4) (wV (aset V x0 2 x1) (fun V17 => wV (aset V17 x0 0 0) (fun V18 => wV (aset V18 x0 1 0) (fun V19 => bnd (f_Arrays_fill S V19 (aF S x0 5) 0) (fun r20 V21 => bnd (f_Arrays_fill S V21 (aF S x0 11) 0) (fun r23 V24 => wV (aset V24 x0 14 0) (fun V26 => gd (isO S x2 6) (b_Moves_prepare_L43 S x0 x2 FU V26 (w32 ((V26 x2 0) - 1))))))))))
def f_Moves_listedAt (S : ASh) (V : ASt) (x0 x1 : Int) : Option (Int × ASt) :=
  gd (isO S x0 4) (if x1 < 0 then (some (0, V)) else (if (V x0 1) ≤ x1 then (some (0, V)) else (gd (isA S (aF S x0 3) 0 x1) (some ((V (aF S x0 3) x1), V)))))
def f_Moves_clearList (S : ASh) (V : ASt) (x0 : Int) : Option (Int × ASt) :=
  gd (isO S x0 4) (wV (aset V x0 1 0) (fun V1 => bnd (f_Arrays_fill S V1 (aF S x0 4) 0) (fun r2 V3 => some (0, V3))))
def f_Moves_enlist (S : ASh) (V : ASt) (x0 x1 : Int) : Option (Int × ASt) :=
  gd (isO S x0 4) (if x1 < 0 then (some (0, V)) else (if 200 ≤ x1 then (some (0, V)) else (gd (isA S (aF S x0 4) 0 x1) (if (V (aF S x0 4) x1) = 0 then (wV (aset V (aF S x0 4) x1 1) (fun V2 => gd (isA S (aF S x0 3) 0 (V2 x0 1)) (wV (aset V2 (aF S x0 3) (V2 x0 1) x1) (fun V4 => wV (aset V4 x0 1 (w32 ((V4 x0 1) + 1))) (fun V5 => some (0, V5)))))) else (some (0, V))))))
def b_Moves_listAll_L6 (S : ASh) (x0 : Int) : Nat → ASt → Int → Option (Int × ASt)
  | 0, _, _ => none
  | n + 1, V, x1 =>
    gd (isO S (V x0 2) 1) (if (V (V x0 2) 3) ≤ x1 then (some (0, V)) else (bnd (f_Moves_enlist S V x0 x1) (fun r2 V3 => (b_Moves_listAll_L6 S x0 n) V3 (w32 (x1 + 1)))))
def f_Moves_listAll (S : ASh) (V : ASt) (x0 : Int) : Option (Int × ASt) :=
  gd (isO S x0 4) (bnd (f_Moves_clearList S V x0) (fun r5 V6 => b_Moves_listAll_L6 S x0 FU V6 0))
def b_Moves_enlistNextsOf_L2 (S : ASh) (x0 x1 : Int) : Nat → ASt → Int → Option (Int × ASt)
  | 0, _, _ => none
  | n + 1, V, x2 =>
    gd (isA S (aF S x0 5) 0 x1) (if (V (aF S x0 5) x1) ≤ x2 then (some (0, V)) else (gd (isA S (aF S x0 7) 0 (w32 ((w32 (x1 * 12)) + x2))) (bnd (f_Moves_enlist S V x0 (V (aF S x0 7) (w32 ((w32 (x1 * 12)) + x2)))) (fun r3 V4 => (b_Moves_enlistNextsOf_L2 S x0 x1 n) V4 (w32 (x2 + 1))))))
def f_Moves_enlistNextsOf (S : ASh) (V : ASt) (x0 x1 : Int) : Option (Int × ASt) :=
  gd (isO S x0 4) (b_Moves_enlistNextsOf_L2 S x0 x1 FU V 0)
def b_Moves_listFrom_L11 (S : ASh) (x0 : Int) : Nat → ASt → Int → Option (Int × ASt)
  | 0, _, _ => none
  | n + 1, V, x2 =>
    if (V x0 1) ≤ x2 then (some (0, V)) else (if 200 ≤ x2 then (some (0, V)) else (gd (isA S (aF S x0 3) 0 x2) (bnd (f_Moves_enlistNextsOf S V x0 (V (aF S x0 3) x2)) (fun r2 V3 => (b_Moves_listFrom_L11 S x0 n) V3 (w32 (x2 + 1))))))
def f_Moves_listFrom (S : ASh) (V : ASt) (x0 x1 : Int) : Option (Int × ASt) :=
  gd (isO S x0 4) (bnd (f_Moves_clearList S V x0) (fun r5 V6 => bnd (f_Moves_enlist S V6 x0 x1) (fun r8 V9 => b_Moves_listFrom_L11 S x0 FU V9 0)))
def b_Moves_layPiece_J103 (S : ASh) (K28 : ASt → Int → Int → Int → Option (Int × ASt)) (V : ASt) (x0 x1 x2 x3 x4 x5 x6 x7 s0 : Int) : Option (Int × ASt) :=
  if s0 = 0 then (K28 V x4 x5 (w32 (x6 + 1))) else (gd (isA S (aF S x0 8) 0 x6) (gd (isO S (V x0 2) 1) (bnd (f_Game_holds S V (V x0 2) (V (aF S x0 8) x6) x1 x2 x7) (fun r2 V3 => if r2 = 0 then (K28 V3 x4 x5 (w32 (x6 + 1))) else (gd (isA S (aF S x0 10) 2 x6) (if (V3 (aF S x0 10) x6) = 0 then (K28 V3 (or32 x4 (shl32 1 x7)) (or32 x5 0) (w32 (x6 + 1))) else (K28 V3 (or32 x4 (shl32 1 x7)) (or32 x5 (shl32 1 x7)) (w32 (x6 + 1)))))))))
def b_Moves_layPiece_J80 (S : ASh) (K28 : ASt → Int → Int → Int → Option (Int × ASt)) (V : ASt) (x0 x1 x2 x3 x4 x5 x6 s0 : Int) : Option (Int × ASt) :=
  if s0 = (-1) then (b_Moves_layPiece_J103 S K28 V x0 x1 x2 x3 x4 x5 x6 s0 0) else (if (and32 (shr32 x4 s0) 1) = 0 then (b_Moves_layPiece_J103 S K28 V x0 x1 x2 x3 x4 x5 x6 s0 1) else (b_Moves_layPiece_J103 S K28 V x0 x1 x2 x3 x4 x5 x6 s0 0))
def b_Moves_layPiece_L172 (S : ASh) (x0 x1 x2 x5 : Int) : Nat → ASt → Int → Option (Int × ASt)
  | 0, _, _ => none
  | n + 1, V, x6 =>
    if 10 ≤ x6 then (some (0, V)) else (if (shr32 x5 x6) = 0 then (some (0, V)) else (if (and32 (shr32 x5 x6) 1) = 0 then ((b_Moves_layPiece_L172 S x0 x1 x2 x5 n) V (w32 (x6 + 1))) else (gd (isA S (aF S x0 5) 0 x1) (if 12 ≤ (V (aF S x0 5) x1) then ((b_Moves_layPiece_L172 S x0 x1 x2 x5 n) V (w32 (x6 + 1))) else (gd (isA S (aF S x0 6) 0 (w32 ((w32 (x1 * 12)) + (V (aF S x0 5) x1)))) (wV (aset V (aF S x0 6) (w32 ((w32 (x1 * 12)) + (V (aF S x0 5) x1))) (w32 ((w32 (x2 * 10)) + x6))) (fun V9 => wV (aset V9 (aF S x0 5) x1 (w32 ((V9 (aF S x0 5) x1) + 1))) (fun V10 => (b_Moves_layPiece_L172 S x0 x1 x2 x5 n) V10 (w32 (x6 + 1))))))))))
def b_Moves_layPiece_L28 (S : ASh) (x0 x1 x2 x3 : Int) : Nat → ASt → Int → Int → Int → Option (Int × ASt)
  | 0, _, _, _, _ => none
  | n + 1, V, x4, x5, x6 =>
    gd (isA S (aF S x0 11) 0 x2) (if (w32 ((w32 (x2 * 12)) + (V (aF S x0 11) x2))) ≤ x6 then (b_Moves_layPiece_L172 S x0 x1 x2 x5 FU V 0) else (gd (isA S (aF S x0 9) 0 x6) (if (V (aF S x0 9) x6) = 0 then (gd (isO S (V x0 2) 1) (b_Moves_layPiece_J80 S ((b_Moves_layPiece_L28 S x0 x1 x2 x3 n)) V x0 x1 x2 x3 x4 x5 x6 (V (V x0 2) 0))) else (gd (isO S (V x0 2) 1) (bnd (f_Game_fieldOrNone S V (V x0 2) (w32 (x3 + (V (aF S x0 9) x6)))) (fun r13 V14 => b_Moves_layPiece_J80 S ((b_Moves_layPiece_L28 S x0 x1 x2 x3 n)) V14 x0 x1 x2 x3 x4 x5 x6 r13))))))
def f_Moves_layPiece (S : ASh) (V : ASt) (x0 x1 x2 : Int) : Option (Int × ASt) :=
  gd (isO S x0 4) (gd (isO S (V x0 2) 1) (bnd (f_Game_spotToLeave S V (V x0 2) x1 x2) (fun r18 V19 => if r18 = (-1) then (some (0, V19)) else (b_Moves_layPiece_L28 S x0 x1 x2 r18 FU V19 0 0 (w32 (x2 * 12))))))
def b_Moves_layNexts_J104 (S : ASh) (K2 : ASt → Int → Option (Int × ASt)) (V : ASt) (x0 x1 x2 x6 : Int) : Option (Int × ASt) :=
  gd (isA S (aF S x0 7) 0 (w32 ((w32 (x1 * 12)) + x2))) (wV (aset V (aF S x0 7) (w32 ((w32 (x1 * 12)) + x2)) x6) (fun V2 => K2 V2 (w32 (x2 + 1))))
def b_Moves_layNexts_L53 (S : ASh) (K2 : ASt → Int → Option (Int × ASt)) (x0 x1 x2 x4 x5 : Int) : Nat → ASt → Int → Int → Option (Int × ASt)
  | 0, _, _, _ => none
  | n + 1, V, x6, x7 =>
    if (V x0 14) ≤ x7 then (b_Moves_layNexts_J104 S K2 V x0 x1 x2 x6) else (if x6 < 0 then (b_Moves_layNexts_J104 S K2 V x0 x1 x2 x6) else (gd (isA S (aF S x0 12) 0 x7) (gd (isO S (V x0 2) 1) (bnd (f_Game_holds S V (V x0 2) (V (aF S x0 12) x7) x1 x4 x5) (fun r4 V5 => if r4 = 0 then ((b_Moves_layNexts_L53 S K2 x0 x1 x2 x4 x5 n) V5 x6 (w32 (x7 + 1))) else (gd (isA S (aF S x0 13) 0 x7) ((b_Moves_layNexts_L53 S K2 x0 x1 x2 x4 x5 n) V5 (V5 (aF S x0 13) x7) (w32 (x7 + 1)))))))))
def b_Moves_layNexts_L2 (S : ASh) (x0 x1 : Int) : Nat → ASt → Int → Option (Int × ASt)
  | 0, _, _ => none
  | n + 1, V, x2 =>
    gd (isA S (aF S x0 5) 0 x1) (if (V (aF S x0 5) x1) ≤ x2 then (some (0, V)) else (gd (isA S (aF S x0 6) 0 (w32 ((w32 (x1 * 12)) + x2))) (gd (isO S (V x0 2) 1) (bnd (f_Game_positionBehind S V (V x0 2) x1 (w32 (Int.tdiv (V (aF S x0 6) (w32 ((w32 (x1 * 12)) + x2))) 10)) (Int.tmod (V (aF S x0 6) (w32 ((w32 (x1 * 12)) + x2))) 10)) (fun r11 V12 => b_Moves_layNexts_L53 S ((b_Moves_layNexts_L2 S x0 x1 n)) x0 x1 x2 (w32 (Int.tdiv (V (aF S x0 6) (w32 ((w32 (x1 * 12)) + x2))) 10)) (Int.tmod (V (aF S x0 6) (w32 ((w32 (x1 * 12)) + x2))) 10) FU V12 r11 0)))))
def f_Moves_layNexts (S : ASh) (V : ASt) (x0 x1 : Int) : Option (Int × ASt) :=
  gd (isO S x0 4) (b_Moves_layNexts_L2 S x0 x1 FU V 0)
def b_Moves_layOut_L84 (S : ASh) (K52 : ASt → Int → Option (Int × ASt)) (x0 x1 x2 x3 : Int) : Nat → ASt → Int → Option (Int × ASt)
  | 0, _, _ => none
  | n + 1, V, x4 =>
    if 2 ≤ x4 then (bnd (f_Moves_layNexts S V x0 x3) (fun r1 V2 => bnd (f_Moves_enlistNextsOf S V2 x0 x3) (fun r4 V5 => K52 V5 (w32 (x2 + 1))))) else (bnd (f_Moves_layPiece S V x0 x3 x4) (fun r7 V8 => (b_Moves_layOut_L84 S K52 x0 x1 x2 x3 n) V8 (w32 (x4 + 1))))
def b_Moves_layOut_J119 (S : ASh) (V : ASt) (x0 x1 : Int) : Option (Int × ASt) :=
  gd (zb x1) (wV (aset V x0 0 x1) (fun V10 => some (0, V10)))
def b_Moves_layOut_L52 (S : ASh) (x0 x1 : Int) : Nat → ASt → Int → Option (Int × ASt)
  | 0, _, _ => none
  | n + 1, V, x2 =>
    if (V x0 1) ≤ x2 then (b_Moves_layOut_J119 S  V x0 x1) else (if 200 ≤ x2 then (b_Moves_layOut_J119 S  V x0 x1) else (gd (isA S (aF S x0 3) 0 x2) (gd (isA S (aF S x0 5) 0 (V (aF S x0 3) x2)) (wV (aset V (aF S x0 5) (V (aF S x0 3) x2) 0) (fun V14 => b_Moves_layOut_L84 S ((b_Moves_layOut_L52 S x0 x1 n)) x0 x1 x2 (V (aF S x0 3) x2) FU V14 0)))))
def f_Moves_layOut (S : ASh) (V : ASt) (x0 x1 : Int) : Option (Int × ASt) :=
  gd (isO S x0 4) (gd (isO S (V x0 2) 1) (if (V (V x0 2) 0) = 0 then (some (0, V)) else (bnd (f_Moves_clearList S V x0) (fun r16 V17 => if x1 = 0 then (gd (isO S (V17 x0 2) 1) (bnd (f_Game_beginningOf S V17 (V17 x0 2) 0) (fun r19 V20 => bnd (f_Moves_enlist S V20 x0 r19) (fun r23 V24 => gd (isO S (V24 x0 2) 1) (bnd (f_Game_beginningOf S V24 (V24 x0 2) 1) (fun r26 V27 => bnd (f_Moves_enlist S V27 x0 r26) (fun r30 V31 => b_Moves_layOut_L52 S x0 x1 FU V31 0))))))) else (bnd (f_Moves_listAll S V17 x0) (fun r33 V34 => b_Moves_layOut_L52 S x0 x1 FU V34 0))))))
def b_Spring_isLike_L22 (S : ASh) (x0 x1 x2 : Int) : Nat → ASt → Int → Int → Option (Int × ASt)
  | 0, _, _, _ => none
  | n + 1, V, x3, x4 =>
    gd (isO S x1 4) (bnd (f_Moves_countOf S V x1 x0) (fun r1 V2 => if r1 ≤ x4 then (gd (zb x3) (some (x3, V2))) else (if x3 = 0 then (gd (zb x3) (some (x3, V2))) else (bnd (f_Moves_codeOf S V2 x1 x0 x4) (fun r7 V8 => gd (isO S x2 4) (bnd (f_Moves_codeOf S V8 x2 x0 x4) (fun r10 V11 => if r7 = r10 then (bnd (f_Moves_nextOf S V11 x1 x0 x4) (fun r14 V15 => bnd (f_Moves_nextOf S V15 x2 x0 x4) (fun r17 V18 => if r14 = r17 then ((b_Spring_isLike_L22 S x0 x1 x2 n) V18 1 (w32 (x4 + 1))) else ((b_Spring_isLike_L22 S x0 x1 x2 n) V18 0 (w32 (x4 + 1)))))) else ((b_Spring_isLike_L22 S x0 x1 x2 n) V11 0 (w32 (x4 + 1))))))))))
def f_Spring_isLike (S : ASh) (V : ASt) (x0 x1 x2 : Int) : Option (Int × ASt) :=
  gd (isO S x1 4) (bnd (f_Moves_countOf S V x1 x0) (fun r20 V21 => gd (isO S x2 4) (bnd (f_Moves_countOf S V21 x2 x0) (fun r24 V25 => if r20 = r24 then (b_Spring_isLike_L22 S x0 x1 x2 FU V25 1 0) else (b_Spring_isLike_L22 S x0 x1 x2 FU V25 0 0)))))
def b_Spring_compareAt_L54 (S : ASh) (K6 : ASt → Int → Int → Option (Int × ASt)) (x0 x1 x2 x3 x5 : Int) : Nat → ASt → Int → Int → Option (Int × ASt)
  | 0, _, _, _ => none
  | n + 1, V, x4, x6 =>
    gd (isO S x2 4) (bnd (f_Moves_countOf S V x2 x5) (fun r1 V2 => if r1 ≤ x6 then (K6 V2 x4 (w32 (x5 + 1))) else (bnd (f_Moves_nextOf S V2 x2 x5 x6) (fun r5 V6 => if r5 < 0 then ((b_Spring_compareAt_L54 S K6 x0 x1 x2 x3 x5 n) V6 x4 (w32 (x6 + 1))) else (if 200 ≤ r5 then ((b_Spring_compareAt_L54 S K6 x0 x1 x2 x3 x5 n) V6 x4 (w32 (x6 + 1))) else (gd (isA S (aF S x0 4) 0 r5) (if (V6 (aF S x0 4) r5) = (-1) then (wV (aset V6 (aF S x0 4) r5 (w32 (x1 + 1))) (fun V9 => (b_Spring_compareAt_L54 S K6 x0 x1 x2 x3 x5 n) V9 1 (w32 (x6 + 1)))) else ((b_Spring_compareAt_L54 S K6 x0 x1 x2 x3 x5 n) V6 x4 (w32 (x6 + 1))))))))))
def b_Spring_compareAt_L6 (S : ASh) (x0 x1 x2 x3 : Int) : Nat → ASt → Int → Int → Option (Int × ASt)
  | 0, _, _, _ => none
  | n + 1, V, x4, x5 =>
    if 200 ≤ x5 then (gd (zb x4) (some (x4, V))) else (gd (isA S (aF S x0 4) 0 x5) (if (V (aF S x0 4) x5) = x1 then (bnd (f_Spring_isLike S V x5 x2 x3) (fun r12 V13 => if r12 = 0 then (wV (aset V13 x0 2 x1) (fun V15 => wV (aset V15 x0 3 x5) (fun V16 => some (0, V16)))) else (b_Spring_compareAt_L54 S ((b_Spring_compareAt_L6 S x0 x1 x2 x3 n)) x0 x1 x2 x3 x5 FU V13 x4 0))) else ((b_Spring_compareAt_L6 S x0 x1 x2 x3 n) V x4 (w32 (x5 + 1)))))
def f_Spring_compareAt (S : ASh) (V : ASt) (x0 x1 x2 x3 : Int) : Option (Int × ASt) :=
  gd (isO S x0 7) (b_Spring_compareAt_L6 S x0 x1 x2 x3 FU V 0 0)
def b_Spring_compare_L42 (S : ASh) (x0 x1 x2 : Int) : Nat → ASt → Int → Int → Option (Int × ASt)
  | 0, _, _, _ => none
  | n + 1, V, x4, x5 =>
    if 200 ≤ x5 then (some (0, V)) else (if x4 = 0 then (some (0, V)) else (if (V x0 3) = (-1) then (bnd (f_Spring_compareAt S V x0 x5 x1 x2) (fun r1 V2 => (b_Spring_compare_L42 S x0 x1 x2 n) V2 r1 (w32 (x5 + 1)))) else (some (0, V))))
def f_Spring_compare (S : ASh) (V : ASt) (x0 x1 x2 x3 : Int) : Option (Int × ASt) :=
  gd (isO S x0 7) (wV (aset V x0 2 (-1)) (fun V4 => wV (aset V4 x0 3 (-1)) (fun V5 => bnd (f_Arrays_fill S V5 (aF S x0 4) (-1)) (fun r6 V7 => if x3 < 0 then (b_Spring_compare_L42 S x0 x1 x2 FU V7 1 0) else (if 200 ≤ x3 then (b_Spring_compare_L42 S x0 x1 x2 FU V7 1 0) else (gd (isA S (aF S x0 4) 0 x3) (wV (aset V7 (aF S x0 4) x3 0) (fun V10 => b_Spring_compare_L42 S x0 x1 x2 FU V10 1 0))))))))
def f_Values_worthOf (S : ASh) (V : ASt) (x0 x1 : Int) : Option (Int × ASt) :=
  gd (isO S x0 10) (if x1 < 0 then (some (0, V)) else (if 200 ≤ x1 then (some (0, V)) else (gd (isA S (aF S x0 2) 0 x1) (some ((V (aF S x0 2) x1), V)))))
def f_Values_stepsOf (S : ASh) (V : ASt) (x0 x1 : Int) : Option (Int × ASt) :=
  gd (isO S x0 10) (bnd (f_Values_worthOf S V x0 x1) (fun r1 V2 => if r1 = 0 then (some ((-1), V2)) else (gd (isA S (aF S x0 3) 0 x1) (some ((V2 (aF S x0 3) x1), V2)))))
def b_Values_bestMoveOf_J76 (S : ASh) (K8 : ASt → Int → Option (Int × ASt)) (V : ASt) (x0 x1 x2 x3 x5 s0 : Int) : Option (Int × ASt) :=
  if x5 = x2 then (if x2 = 0 then (some (x3, V)) else (bnd (f_Values_stepsOf S V x0 x1) (fun r1 V2 => if s0 = r1 then (some (x3, V2)) else (K8 V2 (w32 (x3 + 1)))))) else (K8 V (w32 (x3 + 1)))
def b_Values_bestMoveOf_J57 (S : ASh) (K8 : ASt → Int → Option (Int × ASt)) (V : ASt) (x0 x1 x2 x3 x4 s0 : Int) : Option (Int × ASt) :=
  if x4 < 0 then (b_Values_bestMoveOf_J76 S K8 V x0 x1 x2 x3 s0 1) else (bnd (f_Values_stepsOf S V x0 x4) (fun r4 V5 => b_Values_bestMoveOf_J76 S K8 V5 x0 x1 x2 x3 s0 (w32 (r4 + 1))))
def b_Values_bestMoveOf_L8 (S : ASh) (x0 x1 x2 : Int) : Nat → ASt → Int → Option (Int × ASt)
  | 0, _, _ => none
  | n + 1, V, x3 =>
    gd (isO S (aF S x0 1) 4) (bnd (f_Moves_countOf S V (aF S x0 1) x1) (fun r7 V8 => if r7 ≤ x3 then (some ((-1), V8)) else (bnd (f_Moves_nextOf S V8 (aF S x0 1) x1 x3) (fun r11 V12 => if r11 < 0 then (if r11 = (-1) then (b_Values_bestMoveOf_J57 S ((b_Values_bestMoveOf_L8 S x0 x1 x2 n)) V12 x0 x1 x2 x3 r11 1) else (b_Values_bestMoveOf_J57 S ((b_Values_bestMoveOf_L8 S x0 x1 x2 n)) V12 x0 x1 x2 x3 r11 (-1))) else (bnd (f_Values_worthOf S V12 x0 r11) (fun r14 V15 => b_Values_bestMoveOf_J57 S ((b_Values_bestMoveOf_L8 S x0 x1 x2 n)) V15 x0 x1 x2 x3 r11 (w32 (-r14))))))))
def f_Values_bestMoveOf (S : ASh) (V : ASt) (x0 x1 : Int) : Option (Int × ASt) :=
  gd (isO S x0 10) (bnd (f_Values_worthOf S V x0 x1) (fun r17 V18 => b_Values_bestMoveOf_L8 S x0 x1 r17 FU V18 0))
def b_Values_findSources_L32 (S : ASh) (K10 : ASt → Int → Option (Int × ASt)) (x0 x1 x2 : Int) : Nat → ASt → Int → Option (Int × ASt)
  | 0, _, _ => none
  | n + 1, V, x3 =>
    gd (isO S (aF S x0 1) 4) (bnd (f_Moves_countOf S V (aF S x0 1) x2) (fun r1 V2 => if r1 ≤ x3 then (K10 V2 (w32 (x1 + 1))) else (bnd (f_Moves_nextOf S V2 (aF S x0 1) x2 x3) (fun r5 V6 => if r5 < 0 then ((b_Values_findSources_L32 S K10 x0 x1 x2 n) V6 (w32 (x3 + 1))) else (if 200 ≤ r5 then ((b_Values_findSources_L32 S K10 x0 x1 x2 n) V6 (w32 (x3 + 1))) else (gd (isA S (aF S x0 5) 0 r5) (wV (aset V6 (aF S x0 5) r5 (w32 ((V6 (aF S x0 5) r5) + 1))) (fun V9 => (b_Values_findSources_L32 S K10 x0 x1 x2 n) V9 (w32 (x3 + 1))))))))))
def b_Values_findSources_L147 (S : ASh) (K125 : ASt → Int → Option (Int × ASt)) (x0 x1 x2 : Int) : Nat → ASt → Int → Option (Int × ASt)
  | 0, _, _ => none
  | n + 1, V, x3 =>
    gd (isO S (aF S x0 1) 4) (bnd (f_Moves_countOf S V (aF S x0 1) x2) (fun r10 V11 => if r10 ≤ x3 then (K125 V11 (w32 (x1 + 1))) else (bnd (f_Moves_nextOf S V11 (aF S x0 1) x2 x3) (fun r14 V15 => if r14 < 0 then ((b_Values_findSources_L147 S K125 x0 x1 x2 n) V15 (w32 (x3 + 1))) else (if 200 ≤ r14 then ((b_Values_findSources_L147 S K125 x0 x1 x2 n) V15 (w32 (x3 + 1))) else (gd (isA S (aF S x0 5) 0 r14) (wV (aset V15 (aF S x0 5) r14 (w32 ((V15 (aF S x0 5) r14) - 1))) (fun V18 => gd (isA S (aF S x0 6) 0 (V18 (aF S x0 5) r14)) (wV (aset V18 (aF S x0 6) (V18 (aF S x0 5) r14) x2) (fun V20 => (b_Values_findSources_L147 S K125 x0 x1 x2 n) V20 (w32 (x3 + 1))))))))))))
def b_Values_findSources_L125 (S : ASh) (x0 : Int) : Nat → ASt → Int → Option (Int × ASt)
  | 0, _, _ => none
  | n + 1, V, x1 =>
    gd (isO S (aF S x0 1) 4) (if (V (aF S x0 1) 1) ≤ x1 then (some (0, V)) else (bnd (f_Moves_listedAt S V (aF S x0 1) x1) (fun r22 V23 => b_Values_findSources_L147 S ((b_Values_findSources_L125 S x0 n)) x0 x1 r22 FU V23 0)))
def b_Values_findSources_L93 (S : ASh) (x0 : Int) : Nat → ASt → Int → Option (Int × ASt)
  | 0, _, _ => none
  | n + 1, V, x1 =>
    if 200 < x1 then (b_Values_findSources_L125 S x0 FU V 0) else (gd (isA S (aF S x0 5) 0 x1) (gd (isA S (aF S x0 5) 0 (w32 (x1 - 1))) (wV (aset V (aF S x0 5) x1 (w32 ((V (aF S x0 5) x1) + (V (aF S x0 5) (w32 (x1 - 1)))))) (fun V27 => (b_Values_findSources_L93 S x0 n) V27 (w32 (x1 + 1))))))
def b_Values_findSources_L10 (S : ASh) (x0 : Int) : Nat → ASt → Int → Option (Int × ASt)
  | 0, _, _ => none
  | n + 1, V, x1 =>
    gd (isO S (aF S x0 1) 4) (if (V (aF S x0 1) 1) ≤ x1 then (b_Values_findSources_L93 S x0 FU V 1) else (bnd (f_Moves_listedAt S V (aF S x0 1) x1) (fun r29 V30 => b_Values_findSources_L32 S ((b_Values_findSources_L10 S x0 n)) x0 x1 r29 FU V30 0)))
def f_Values_findSources (S : ASh) (V : ASt) (x0 : Int) : Option (Int × ASt) :=
  gd (isO S x0 10) (bnd (f_Arrays_fill S V (aF S x0 5) 0) (fun r32 V33 => b_Values_findSources_L10 S x0 FU V33 0))
def f_Values_enqueue (S : ASh) (V : ASt) (x0 x1 : Int) : Option (Int × ASt) :=
  gd (isO S x0 10) (if 200 ≤ (V x0 8) then (some (0, V)) else (gd (isA S (aF S x0 7) 0 (V x0 8)) (wV (aset V (aF S x0 7) (V x0 8) x1) (fun V2 => wV (aset V2 x0 8 (w32 ((V2 x0 8) + 1))) (fun V3 => some (0, V3))))))
def f_Values_settle (S : ASh) (V : ASt) (x0 x1 x2 x3 : Int) : Option (Int × ASt) :=
  gd (isO S x0 10) (gd (isA S (aF S x0 2) 0 x1) (wV (aset V (aF S x0 2) x1 x2) (fun V2 => gd (isA S (aF S x0 3) 0 x1) (wV (aset V2 (aF S x0 3) x1 x3) (fun V4 => bnd (f_Values_enqueue S V4 x0 x1) (fun r5 V6 => some (0, V6)))))))
def b_Values_settleIfStuck_J46 (S : ASh) (V : ASt) (x0 s0 s1 s2 : Int) : Option (Int × ASt) :=
  gd (isO S s0 10) (bnd (f_Values_settle S V s0 s1 s2 0) (fun r1 V2 => some (0, V2)))
def f_Values_settleIfStuck (S : ASh) (V : ASt) (x0 x1 : Int) : Option (Int × ASt) :=
  gd (isO S x0 10) (gd (isA S (aF S x0 2) 0 x1) (wV (aset V (aF S x0 2) x1 0) (fun V6 => gd (isO S (aF S x0 1) 4) (bnd (f_Moves_countOf S V6 (aF S x0 1) x1) (fun r7 V8 => if r7 = 0 then (bnd (f_Moves_winnerWhenStuck S V8 (aF S x0 1) x1) (fun r11 V12 => if r11 = 2 then (some (0, V12)) else (if r11 = (and32 x1 1) then (b_Values_settleIfStuck_J46 S  V12 x0 x0 x1 1) else (b_Values_settleIfStuck_J46 S  V12 x0 x0 x1 (-1))))) else (some (0, V8)))))))
def b_Values_countLeadingOn_L4 (S : ASh) (x0 x1 : Int) : Nat → ASt → Int → Int → Option (Int × ASt)
  | 0, _, _, _ => none
  | n + 1, V, x2, x3 =>
    gd (isO S (aF S x0 1) 4) (bnd (f_Moves_countOf S V (aF S x0 1) x1) (fun r1 V2 => if r1 ≤ x3 then (some (x2, V2)) else (bnd (f_Moves_nextOf S V2 (aF S x0 1) x1 x3) (fun r5 V6 => if r5 < 0 then ((b_Values_countLeadingOn_L4 S x0 x1 n) V6 (w32 (x2 + 0)) (w32 (x3 + 1))) else ((b_Values_countLeadingOn_L4 S x0 x1 n) V6 (w32 (x2 + 1)) (w32 (x3 + 1)))))))
def f_Values_countLeadingOn (S : ASh) (V : ASt) (x0 x1 : Int) : Option (Int × ASt) :=
  gd (isO S x0 10) (b_Values_countLeadingOn_L4 S x0 x1 FU V 0 0)
def b_Values_settleIfEnding_L15 (S : ASh) (x0 x1 : Int) : Nat → ASt → Int → Int → Option (Int × ASt)
  | 0, _, _, _ => none
  | n + 1, V, x2, x3 =>
    gd (isO S (aF S x0 1) 4) (bnd (f_Moves_countOf S V (aF S x0 1) x1) (fun r1 V2 => if r1 ≤ x3 then (if x2 = 0 then (gd (isA S (aF S x0 4) 0 x1) (if (V2 (aF S x0 4) x1) = 0 then (bnd (f_Moves_countOf S V2 (aF S x0 1) x1) (fun r6 V7 => if r6 ≤ 0 then (some (0, V7)) else (bnd (f_Values_settle S V7 x0 x1 (-1) 1) (fun r9 V10 => some (0, V10))))) else (some (0, V2)))) else (bnd (f_Values_settle S V2 x0 x1 1 1) (fun r12 V13 => some (0, V13)))) else (bnd (f_Moves_nextOf S V2 (aF S x0 1) x1 x3) (fun r15 V16 => if r15 = (-1) then ((b_Values_settleIfEnding_L15 S x0 x1 n) V16 (or32 x2 1) (w32 (x3 + 1))) else ((b_Values_settleIfEnding_L15 S x0 x1 n) V16 (or32 x2 0) (w32 (x3 + 1)))))))
def f_Values_settleIfEnding (S : ASh) (V : ASt) (x0 x1 : Int) : Option (Int × ASt) :=
  gd (isO S x0 10) (bnd (f_Values_countLeadingOn S V x0 x1) (fun r18 V19 => gd (isA S (aF S x0 4) 0 x1) (wV (aset V19 (aF S x0 4) x1 r18) (fun V22 => b_Values_settleIfEnding_L15 S x0 x1 FU V22 0 0))))
def b_Values_settleSourcesOf_L7 (S : ASh) (x0 x1 : Int) : Nat → ASt → Int → Option (Int × ASt)
  | 0, _, _ => none
  | n + 1, V, x2 =>
    gd (isA S (aF S x0 5) 0 (w32 (x1 + 1))) (if (V (aF S x0 5) (w32 (x1 + 1))) ≤ x2 then (some (0, V)) else (gd (isA S (aF S x0 6) 0 x2) (gd (isA S (aF S x0 4) 0 (V (aF S x0 6) x2)) (wV (aset V (aF S x0 4) (V (aF S x0 6) x2) (w32 ((V (aF S x0 4) (V (aF S x0 6) x2)) - 1))) (fun V4 => gd (isA S (aF S x0 2) 0 (V (aF S x0 6) x2)) (if (V4 (aF S x0 2) (V (aF S x0 6) x2)) = 0 then (gd (isA S (aF S x0 2) 0 x1) (if 0 ≤ (V4 (aF S x0 2) x1) then (if (V4 (aF S x0 4) (V (aF S x0 6) x2)) = 0 then (gd (isA S (aF S x0 3) 0 x1) (bnd (f_Values_settle S V4 x0 (V (aF S x0 6) x2) (-1) (w32 ((V4 (aF S x0 3) x1) + 1))) (fun r8 V9 => (b_Values_settleSourcesOf_L7 S x0 x1 n) V9 (w32 (x2 + 1))))) else ((b_Values_settleSourcesOf_L7 S x0 x1 n) V4 (w32 (x2 + 1)))) else (gd (isA S (aF S x0 3) 0 x1) (bnd (f_Values_settle S V4 x0 (V (aF S x0 6) x2) 1 (w32 ((V4 (aF S x0 3) x1) + 1))) (fun r12 V13 => (b_Values_settleSourcesOf_L7 S x0 x1 n) V13 (w32 (x2 + 1))))))) else ((b_Values_settleSourcesOf_L7 S x0 x1 n) V4 (w32 (x2 + 1)))))))))
def f_Values_settleSourcesOf (S : ASh) (V : ASt) (x0 x1 : Int) : Option (Int × ASt) :=
  gd (isO S x0 10) (gd (isA S (aF S x0 5) 0 x1) (b_Values_settleSourcesOf_L7 S x0 x1 FU V (V (aF S x0 5) x1)))
def b_Values_solve_J104 (S : ASh) (V : ASt) (x0 : Int) : Option (Int × ASt) :=
  wV (aset V x0 0 1) (fun V1 => some (0, V1))
def b_Values_solve_L73 (S : ASh) (x0 : Int) : Nat → ASt → Int → Option (Int × ASt)
  | 0, _, _ => none
  | n + 1, V, x1 =>
    if (V x0 8) ≤ x1 then (b_Values_solve_J104 S  V x0) else (if 200 ≤ x1 then (b_Values_solve_J104 S  V x0) else (gd (isA S (aF S x0 7) 0 x1) (bnd (f_Values_settleSourcesOf S V x0 (V (aF S x0 7) x1)) (fun r3 V4 => (b_Values_solve_L73 S x0 n) V4 (w32 (x1 + 1))))))
def b_Values_solve_L42 (S : ASh) (x0 : Int) : Nat → ASt → Int → Option (Int × ASt)
  | 0, _, _ => none
  | n + 1, V, x1 =>
    gd (isO S (aF S x0 1) 4) (if (V (aF S x0 1) 1) ≤ x1 then (b_Values_solve_L73 S x0 FU V 0) else (bnd (f_Moves_listedAt S V (aF S x0 1) x1) (fun r7 V8 => bnd (f_Values_settleIfEnding S V8 x0 r7) (fun r10 V11 => (b_Values_solve_L42 S x0 n) V11 (w32 (x1 + 1))))))
def b_Values_solve_L11 (S : ASh) (x0 : Int) : Nat → ASt → Int → Option (Int × ASt)
  | 0, _, _ => none
  | n + 1, V, x1 =>
    gd (isO S (aF S x0 1) 4) (if (V (aF S x0 1) 1) ≤ x1 then (b_Values_solve_L42 S x0 FU V 0) else (bnd (f_Moves_listedAt S V (aF S x0 1) x1) (fun r14 V15 => bnd (f_Values_settleIfStuck S V15 x0 r14) (fun r17 V18 => (b_Values_solve_L11 S x0 n) V18 (w32 (x1 + 1))))))
def f_Values_solve (S : ASh) (V : ASt) (x0 : Int) : Option (Int × ASt) :=
  gd (isO S x0 10) (bnd (f_Values_findSources S V x0) (fun r20 V21 => wV (aset V21 x0 8 0) (fun V23 => b_Values_solve_L11 S x0 FU V23 0)))
def b_Values_lengthenSourcesOf_L7 (S : ASh) (x0 x1 : Int) : Nat → ASt → Int → Option (Int × ASt)
  | 0, _, _ => none
  | n + 1, V, x2 =>
    gd (isA S (aF S x0 5) 0 (w32 (x1 + 1))) (if (V (aF S x0 5) (w32 (x1 + 1))) ≤ x2 then (some (0, V)) else (gd (isA S (aF S x0 6) 0 x2) (gd (isA S (aF S x0 9) 0 (V (aF S x0 6) x2)) (gd (isA S (aF S x0 9) 0 x1) (bnd (f_Math_max_II S V (V (aF S x0 9) (V (aF S x0 6) x2)) (w32 ((V (aF S x0 9) x1) + 1))) (fun r5 V6 => wV (aset V6 (aF S x0 9) (V (aF S x0 6) x2) r5) (fun V8 => gd (isA S (aF S x0 4) 0 (V (aF S x0 6) x2)) (wV (aset V8 (aF S x0 4) (V (aF S x0 6) x2) (w32 ((V8 (aF S x0 4) (V (aF S x0 6) x2)) - 1))) (fun V10 => if (V10 (aF S x0 4) (V (aF S x0 6) x2)) = 0 then (bnd (f_Values_enqueue S V10 x0 (V (aF S x0 6) x2)) (fun r11 V12 => (b_Values_lengthenSourcesOf_L7 S x0 x1 n) V12 (w32 (x2 + 1)))) else ((b_Values_lengthenSourcesOf_L7 S x0 x1 n) V10 (w32 (x2 + 1))))))))))))
def f_Values_lengthenSourcesOf (S : ASh) (V : ASt) (x0 x1 : Int) : Option (Int × ASt) :=
  gd (isO S x0 10) (gd (isA S (aF S x0 5) 0 x1) (b_Values_lengthenSourcesOf_L7 S x0 x1 FU V (V (aF S x0 5) x1)))
def b_Values_longestFrom_J52 (S : ASh) (K11 : ASt → Int → Option (Int × ASt)) (V : ASt) (x0 x1 x2 x3 s0 s1 s2 : Int) : Option (Int × ASt) :=
  gd (isA S s0 0 s1) (wV (aset V s0 s1 s2) (fun V2 => bnd (f_Values_countLeadingOn S V2 x0 x3) (fun r3 V4 => gd (isA S (aF S x0 4) 0 x3) (wV (aset V4 (aF S x0 4) x3 r3) (fun V7 => if (V7 (aF S x0 4) x3) = 0 then (bnd (f_Values_enqueue S V7 x0 x3) (fun r8 V9 => K11 V9 (w32 (x2 + 1)))) else (K11 V7 (w32 (x2 + 1))))))))
def b_Values_longestFrom_J147 (S : ASh) (V : ASt) (x0 x1 s0 : Int) : Option (Int × ASt) :=
  if s0 = 0 then (some ((-1), V)) else (gd (isA S (aF S x0 9) 0 x1) (some ((V (aF S x0 9) x1), V)))
def b_Values_longestFrom_J117 (S : ASh) (V : ASt) (x0 x1 : Int) : Option (Int × ASt) :=
  gd (isO S (aF S x0 1) 4) (if (V x0 8) = (V (aF S x0 1) 1) then (if x1 < 0 then (b_Values_longestFrom_J147 S  V x0 x1 0) else (if 200 ≤ x1 then (b_Values_longestFrom_J147 S  V x0 x1 0) else (b_Values_longestFrom_J147 S  V x0 x1 1))) else (b_Values_longestFrom_J147 S  V x0 x1 0))
def b_Values_longestFrom_L86 (S : ASh) (x0 x1 : Int) : Nat → ASt → Int → Option (Int × ASt)
  | 0, _, _ => none
  | n + 1, V, x2 =>
    if (V x0 8) ≤ x2 then (b_Values_longestFrom_J117 S  V x0 x1) else (if 200 ≤ x2 then (b_Values_longestFrom_J117 S  V x0 x1) else (gd (isA S (aF S x0 7) 0 x2) (bnd (f_Values_lengthenSourcesOf S V x0 (V (aF S x0 7) x2)) (fun r14 V15 => (b_Values_longestFrom_L86 S x0 x1 n) V15 (w32 (x2 + 1))))))
def b_Values_longestFrom_L11 (S : ASh) (x0 x1 : Int) : Nat → ASt → Int → Option (Int × ASt)
  | 0, _, _ => none
  | n + 1, V, x2 =>
    gd (isO S (aF S x0 1) 4) (if (V (aF S x0 1) 1) ≤ x2 then (b_Values_longestFrom_L86 S x0 x1 FU V 0) else (bnd (f_Moves_listedAt S V (aF S x0 1) x2) (fun r18 V19 => bnd (f_Moves_countOf S V19 (aF S x0 1) r18) (fun r21 V22 => if r21 ≤ 0 then (b_Values_longestFrom_J52 S ((b_Values_longestFrom_L11 S x0 x1 n)) V22 x0 x1 x2 r18 (aF S x0 9) r18 0) else (b_Values_longestFrom_J52 S ((b_Values_longestFrom_L11 S x0 x1 n)) V22 x0 x1 x2 r18 (aF S x0 9) r18 1)))))
def f_Values_longestFrom (S : ASh) (V : ASt) (x0 x1 : Int) : Option (Int × ASt) :=
  gd (isO S x0 10) (bnd (f_Values_findSources S V x0) (fun r24 V25 => wV (aset V25 x0 8 0) (fun V27 => b_Values_longestFrom_L11 S x0 x1 FU V27 0)))
def f_Values_chanceOfWinner (S : ASh) (V : ASt) (x0 : Int) : Option (Int × ASt) :=
  if x0 = 0 then (some (1000000000, V)) else (some (0, V))
def b_Values_chanceOneMoveOn_J85 (S : ASh) (K34 : ASt → Int → Int → Int → Option (Int × ASt)) (V : ASt) (x0 x1 x2 x3 x4 x5 x7 x9 s0 : Int) : Option (Int × ASt) :=
  gd (isA S (aF S x0 10) 0 x1) (if x9 = (V (aF S x0 10) x1) then (K34 V (w64 (x5 + s0)) s0 (w32 (x9 + 1))) else (K34 V (w64 (x5 + s0)) x7 (w32 (x9 + 1))))
def b_Values_chanceOneMoveOn_J82 (S : ASh) (K34 : ASt → Int → Int → Int → Option (Int × ASt)) (V : ASt) (x0 x1 x2 x3 x4 x5 x7 x9 s0 : Int) : Option (Int × ASt) :=
  bnd (f_Values_chanceOfWinner S V s0) (fun r2 V3 => b_Values_chanceOneMoveOn_J85 S K34 V3 x0 x1 x2 x3 x4 x5 x7 x9 r2)
def b_Values_chanceOneMoveOn_J135 (S : ASh) (V : ASt) (x0 x3 x5 x7 s0 : Int) : Option (Int × ASt) :=
  gd (nz x3) (some ((w64 (Int.tdiv (w64 ((w64 ((w32 (100 - s0)) * x7)) + (w64 (s0 * (w64 (Int.tdiv x5 x3)))))) 100)), V))
def b_Values_chanceOneMoveOn_L34 (S : ASh) (x0 x1 x2 x3 x4 : Int) : Nat → ASt → Int → Int → Int → Option (Int × ASt)
  | 0, _, _, _, _ => none
  | n + 1, V, x5, x7, x9 =>
    if x3 ≤ x9 then (gd (isO S x2 100) (if (aLn S x2) ≤ x4 then (b_Values_chanceOneMoveOn_J135 S  V x0 x3 x5 x7 0) else (gd (isA S x2 0 x4) (b_Values_chanceOneMoveOn_J135 S  V x0 x3 x5 x7 (V x2 x4))))) else (gd (isO S (aF S x0 1) 4) (bnd (f_Moves_nextOf S V (aF S x0 1) x1 x9) (fun r8 V9 => if r8 < 0 then (if r8 = (-1) then (b_Values_chanceOneMoveOn_J82 S ((b_Values_chanceOneMoveOn_L34 S x0 x1 x2 x3 x4 n)) V9 x0 x1 x2 x3 x4 x5 x7 x9 x4) else (b_Values_chanceOneMoveOn_J82 S ((b_Values_chanceOneMoveOn_L34 S x0 x1 x2 x3 x4 n)) V9 x0 x1 x2 x3 x4 x5 x7 x9 (w32 (1 - x4)))) else (gd (isA S (V9 x0 12) 1 r8) (b_Values_chanceOneMoveOn_J85 S ((b_Values_chanceOneMoveOn_L34 S x0 x1 x2 x3 x4 n)) V9 x0 x1 x2 x3 x4 x5 x7 x9 (V9 (V9 x0 12) r8))))))
def f_Values_chanceOneMoveOn (S : ASh) (V : ASt) (x0 x1 x2 : Int) : Option (Int × ASt) :=
  gd (isO S x0 10) (gd (isO S (aF S x0 1) 4) (bnd (f_Moves_countOf S V (aF S x0 1) x1) (fun r13 V14 => if r13 = 0 then (gd (isA S (V14 x0 12) 1 x1) (some ((V14 (V14 x0 12) x1), V14))) else (b_Values_chanceOneMoveOn_L34 S x0 x1 x2 r13 (and32 x1 1) FU V14 0 0 0))))
def b_Values_chanceFrom_J73 (S : ASh) (K3 : ASt → Int → Option (Int × ASt)) (V : ASt) (x0 x1 x2 x3 x4 s0 s1 s2 : Int) : Option (Int × ASt) :=
  gd (isA S s0 1 s1) (wV (aset V s0 s1 s2) (fun V2 => K3 V2 (w32 (x4 + 1))))
def b_Values_chanceFrom_L112 (S : ASh) (K83 : ASt → Int → Option (Int × ASt)) (x0 x1 x2 x3 x4 : Int) : Nat → ASt → Int → Option (Int × ASt)
  | 0, _, _ => none
  | n + 1, V, x6 =>
    gd (isO S (aF S x0 1) 4) (if (V (aF S x0 1) 1) ≤ x6 then (K83 V (w32 (x4 + 1))) else (bnd (f_Moves_listedAt S V (aF S x0 1) x6) (fun r4 V5 => bnd (f_Values_chanceOneMoveOn S V5 x0 r4 x3) (fun r7 V8 => gd (isA S (V5 x0 11) 1 r4) (wV (aset V8 (V5 x0 11) r4 r7) (fun V11 => (b_Values_chanceFrom_L112 S K83 x0 x1 x2 x3 x4 n) V11 (w32 (x6 + 1))))))))
def b_Values_chanceFrom_L83 (S : ASh) (x0 x1 x2 x3 : Int) : Nat → ASt → Int → Option (Int × ASt)
  | 0, _, _ => none
  | n + 1, V, x4 =>
    if x2 ≤ x4 then (if x1 < 0 then (some (0, V)) else (if 200 ≤ x1 then (some (0, V)) else (gd (isA S (V x0 11) 1 x1) (some ((w32 (V (V x0 11) x1)), V))))) else (gd (nn (V x0 12)) (wV (aset V x0 12 (V x0 11)) (fun V14 => wV (aset V14 x0 11 (V x0 12)) (fun V15 => b_Values_chanceFrom_L112 S ((b_Values_chanceFrom_L83 S x0 x1 x2 x3 n)) x0 x1 x2 x3 x4 FU V15 0))))
def b_Values_chanceFrom_L3 (S : ASh) (x0 x1 x2 x3 : Int) : Nat → ASt → Int → Option (Int × ASt)
  | 0, _, _ => none
  | n + 1, V, x4 =>
    gd (isO S (aF S x0 1) 4) (if (V (aF S x0 1) 1) ≤ x4 then (b_Values_chanceFrom_L83 S x0 x1 x2 x3 FU V 0) else (bnd (f_Moves_listedAt S V (aF S x0 1) x4) (fun r17 V18 => bnd (f_Values_bestMoveOf S V18 x0 r17) (fun r20 V21 => gd (isA S (aF S x0 10) 0 r17) (wV (aset V21 (aF S x0 10) r17 r20) (fun V24 => bnd (f_Moves_countOf S V24 (aF S x0 1) r17) (fun r25 V26 => if r25 = 0 then (bnd (f_Moves_winnerWhenStuck S V26 (aF S x0 1) r17) (fun r28 V29 => bnd (f_Values_chanceOfWinner S V29 r28) (fun r31 V32 => b_Values_chanceFrom_J73 S ((b_Values_chanceFrom_L3 S x0 x1 x2 x3 n)) V32 x0 x1 x2 x3 x4 (V24 x0 11) r17 r31))) else (b_Values_chanceFrom_J73 S ((b_Values_chanceFrom_L3 S x0 x1 x2 x3 n)) V26 x0 x1 x2 x3 x4 (V24 x0 11) r17 0))))))))
def f_Values_chanceFrom (S : ASh) (V : ASt) (x0 x1 x2 x3 : Int) : Option (Int × ASt) :=
  gd (isO S x0 10) (b_Values_chanceFrom_L3 S x0 x1 x2 x3 FU V 0)
def f_Worths_forget (S : ASh) (V : ASt) (x0 : Int) : Option (Int × ASt) :=
  gd (isO S x0 11) (wV (aset V x0 2 0) (fun V1 => some (0, V1)))
def b_Worths_referTo_J18 (S : ASh) (V : ASt) (x0 x1 x2 : Int) : Option (Int × ASt) :=
  wV (aset V x0 2 1) (fun V1 => wV (aset V1 x0 1 x1) (fun V2 => gd (isO S (aF S x0 3) 6) (bnd (f_Slate_copyFrom S V2 (aF S x0 3) x2) (fun r3 V4 => bnd (f_Arrays_fill S V4 (aF S x0 5) 9) (fun r7 V8 => some (0, V8))))))
def f_Worths_referTo (S : ASh) (V : ASt) (x0 x1 x2 : Int) : Option (Int × ASt) :=
  gd (isO S x0 11) (if (V x0 2) = 0 then (b_Worths_referTo_J18 S  V x0 x1 x2) else (gd (isO S (aF S x0 3) 6) (bnd (f_Slate_isLike S V (aF S x0 3) x2) (fun r10 V11 => if r10 = 0 then (b_Worths_referTo_J18 S  V11 x0 x1 x2) else (some (0, V11))))))
def f_Worths_slotOf (S : ASh) (V : ASt) (x0 x1 : Int) : Option (Int × ASt) :=
  if x0 < 0 then (some ((w32 ((w32 (2 * 72)) + (and32 x1 1))), V)) else (if 72 ≤ x0 then (some ((w32 ((w32 (2 * 72)) + (and32 x1 1))), V)) else (some ((w32 ((w32 (2 * x0)) + (and32 x1 1))), V)))
def b_Worths_reckon_J40 (S : ASh) (V : ASt) (x0 x1 : Int) : Option (Int × ASt) :=
  gd (isO S (aF S x0 0) 10) (gd (isO S (aF S (aF S x0 0) 1) 4) (bnd (f_Moves_prepare S V (aF S (aF S x0 0) 1) (V x0 1) (aF S x0 4)) (fun r2 V3 => bnd (f_Moves_layOut S V3 (aF S (aF S x0 0) 1) 0) (fun r6 V7 => bnd (f_Values_solve S V7 (aF S x0 0)) (fun r9 V10 => bnd (f_Worths_slotOf S V10 x1 0) (fun r12 V13 => gd (isO S (V13 x0 1) 1) (bnd (f_Game_beginningOf S V13 (V13 x0 1) 0) (fun r15 V16 => bnd (f_Values_worthOf S V16 (aF S x0 0) r15) (fun r19 V20 => gd (isA S (aF S x0 5) 0 r12) (wV (aset V20 (aF S x0 5) r12 r19) (fun V23 => bnd (f_Worths_slotOf S V23 x1 1) (fun r24 V25 => gd (isO S (V25 x0 1) 1) (bnd (f_Game_beginningOf S V25 (V25 x0 1) 1) (fun r27 V28 => bnd (f_Values_worthOf S V28 (aF S x0 0) r27) (fun r31 V32 => gd (isA S (aF S x0 5) 0 r24) (wV (aset V32 (aF S x0 5) r24 r31) (fun V35 => some (0, V35))))))))))))))))))
def f_Worths_reckon (S : ASh) (V : ASt) (x0 x1 : Int) : Option (Int × ASt) :=
  gd (isO S x0 11) (bnd (f_Worths_slotOf S V x1 0) (fun r36 V37 => gd (isA S (aF S x0 5) 0 r36) (if (V37 (aF S x0 5) r36) = 9 then (gd (isO S (aF S x0 4) 6) (bnd (f_Slate_copyFrom S V37 (aF S x0 4) (aF S x0 3)) (fun r40 V41 => if x1 = (-1) then (b_Worths_reckon_J40 S  V41 x0 x1) else (bnd (f_Slate_apply S V41 (aF S x0 4) x1) (fun r44 V45 => b_Worths_reckon_J40 S  V45 x0 x1))))) else (some (0, V37)))))
def f_Worths_worthBy (S : ASh) (V : ASt) (x0 x1 x2 : Int) : Option (Int × ASt) :=
  gd (isO S x0 11) (bnd (f_Worths_reckon S V x0 x1) (fun r1 V2 => bnd (f_Worths_slotOf S V2 x1 x2) (fun r4 V5 => gd (isA S (aF S x0 5) 0 r4) (some ((V5 (aF S x0 5) r4), V5)))))
def f_Worths_loserOf (S : ASh) (V : ASt) (x0 x1 : Int) : Option (Int × ASt) :=
  gd (isO S x0 11) (bnd (f_Worths_reckon S V x0 (-1)) (fun r1 V2 => bnd (f_Worths_slotOf S V2 (-1) x1) (fun r4 V5 => gd (isA S (aF S x0 5) 0 r4) (if (V5 (aF S x0 5) r4) = 0 then (some ((-1), V5)) else (if 0 ≤ (V5 (aF S x0 5) r4) then (some ((w32 (1 - x1)), V5)) else (some (x1, V5)))))))
def f_Worths_likingOf (S : ASh) (V : ASt) (x0 x1 x2 : Int) : Option (Int × ASt) :=
  if x1 = 2 then (if x0 = 0 then (some (1, V)) else (some (0, V))) else (if x2 = 0 then (some ((w32 (-x0)), V)) else (some (x0, V)))
def b_Worths_choiceOf_J146 (S : ASh) (K64 : ASt → Int → Int → Int → Option (Int × ASt)) (V : ASt) (x0 x1 x3 x4 x5 x7 x8 s0 : Int) : Option (Int × ASt) :=
  bnd (f_Math_max_II S V x5 x8) (fun r1 V2 => K64 V2 r1 s0 (w32 (x7 + 1)))
def b_Worths_choiceOf_J127 (S : ASh) (K64 : ASt → Int → Int → Int → Option (Int × ASt)) (V : ASt) (x0 x1 x3 x4 x5 x6 x7 s0 s1 s2 : Int) : Option (Int × ASt) :=
  bnd (f_Worths_likingOf S V s0 s1 s2) (fun r4 V5 => if r4 ≤ x5 then (b_Worths_choiceOf_J146 S K64 V5 x0 x1 x3 x4 x5 x7 r4 x6) else (b_Worths_choiceOf_J146 S K64 V5 x0 x1 x3 x4 x5 x7 r4 x7))
def b_Worths_choiceOf_L64 (S : ASh) (x0 x1 x3 x4 : Int) : Nat → ASt → Int → Int → Int → Option (Int × ASt)
  | 0, _, _, _, _ => none
  | n + 1, V, x5, x6, x7 =>
    gd (isO S (aF S x0 3) 6) (bnd (f_Slate_codeCount S V (aF S x0 3)) (fun r7 V8 => if r7 ≤ x7 then (some (x6, V8)) else (if 1 ≤ x5 then (some (x6, V8)) else (bnd (f_Slate_allows S V8 (aF S x0 3) (V8 x0 1) x7) (fun r11 V12 => if r11 = 0 then ((b_Worths_choiceOf_L64 S x0 x1 x3 x4 n) V12 x5 x6 (w32 (x7 + 1))) else (bnd (f_Worths_reckon S V12 x0 x7) (fun r14 V15 => bnd (f_Worths_slotOf S V15 x7 x3) (fun r17 V18 => gd (isA S (aF S x0 5) 0 r17) (if x1 = x3 then (b_Worths_choiceOf_J127 S ((b_Worths_choiceOf_L64 S x0 x1 x3 x4 n)) V18 x0 x1 x3 x4 x5 x6 x7 (V18 (aF S x0 5) r17) x4 1) else (b_Worths_choiceOf_J127 S ((b_Worths_choiceOf_L64 S x0 x1 x3 x4 n)) V18 x0 x1 x3 x4 x5 x6 x7 (V18 (aF S x0 5) r17) x4 0))))))))))
def b_Worths_choiceOf_J53 (S : ASh) (V : ASt) (x0 x1 x3 x4 s0 s1 s2 : Int) : Option (Int × ASt) :=
  bnd (f_Worths_likingOf S V s0 s1 s2) (fun r21 V22 => b_Worths_choiceOf_L64 S x0 x1 x3 x4 FU V22 r21 (-1) 0)
def b_Worths_choiceOf_J17 (S : ASh) (V : ASt) (x0 x1 x3 s0 : Int) : Option (Int × ASt) :=
  if s0 = 0 then (some ((-1), V)) else (bnd (f_Worths_reckon S V x0 (-1)) (fun r24 V25 => bnd (f_Worths_slotOf S V25 (-1) x3) (fun r27 V28 => gd (isA S (aF S x0 5) 0 r27) (if x1 = x3 then (b_Worths_choiceOf_J53 S  V28 x0 x1 x3 s0 (V28 (aF S x0 5) r27) s0 1) else (b_Worths_choiceOf_J53 S  V28 x0 x1 x3 s0 (V28 (aF S x0 5) r27) s0 0)))))
def f_Worths_choiceOf (S : ASh) (V : ASt) (x0 x1 x2 x3 : Int) : Option (Int × ASt) :=
  gd (isO S x0 11) (if x1 < 0 then (b_Worths_choiceOf_J17 S  V x0 x1 x3 0) else (gd (isO S x2 100) (if (aLn S x2) ≤ x1 then (b_Worths_choiceOf_J17 S  V x0 x1 x3 0) else (gd (isA S x2 0 x1) (b_Worths_choiceOf_J17 S  V x0 x1 x3 (V x2 x1))))))
