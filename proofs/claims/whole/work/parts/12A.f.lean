/-! printed by wip/gen/gen_all.py: functions of the leaves -/
def f_Bytes_put (S : ASh) (V : ASt) (x0 x1 : Int) : Option (Int × ASt) :=
  gd (isO S x0 0) (if (V x0 0) < 0 then (some (0, V)) else (gd (isO S (aF S x0 1) 100) (if (aLn S (aF S x0 1)) ≤ (V x0 0) then (some (0, V)) else (gd (isA S (aF S x0 1) 0 (V x0 0)) (wV (aset V (aF S x0 1) (V x0 0) (and32 x1 255)) (fun V3 => wV (aset V3 x0 0 (w32 ((V3 x0 0) + 1))) (fun V4 => some (0, V4))))))))
def b_Bytes_putFour_L3 (S : ASh) (x0 x1 : Int) : Nat → ASt → Int → Option (Int × ASt)
  | 0, _, _ => none
  | n + 1, V, x2 =>
    if x2 < 0 then (some (0, V)) else (bnd (f_Bytes_put S V x0 (ushr32 x1 x2)) (fun r1 V2 => (b_Bytes_putFour_L3 S x0 x1 n) V2 (w32 (x2 + (-8)))))
def f_Bytes_putFour (S : ASh) (V : ASt) (x0 x1 : Int) : Option (Int × ASt) :=
  gd (isO S x0 0) (b_Bytes_putFour_L3 S x0 x1 FU V 24)
def f_Bytes_at (S : ASh) (V : ASt) (x0 x1 : Int) : Option (Int × ASt) :=
  gd (isO S x0 0) (if x1 < 0 then (some ((-1), V)) else (if (V x0 0) ≤ x1 then (some ((-1), V)) else (gd (isO S (aF S x0 1) 100) (if (aLn S (aF S x0 1)) ≤ x1 then (some ((-1), V)) else (gd (isA S (aF S x0 1) 0 x1) (some ((V (aF S x0 1) x1), V)))))))
def b_Bytes_checkOfFirst_L5 (S : ASh) (x0 x1 : Int) : Nat → ASt → Int → Int → Option (Int × ASt)
  | 0, _, _, _ => none
  | n + 1, V, x2, x3 =>
    if x1 ≤ x3 then (some (x2, V)) else (gd (isO S (aF S x0 1) 100) (if (aLn S (aF S x0 1)) ≤ x3 then (some (x2, V)) else (gd (isA S (aF S x0 1) 0 x3) ((b_Bytes_checkOfFirst_L5 S x0 x1 n) V (Int.tmod (w32 ((w32 (7 * x2)) + (V (aF S x0 1) x3))) 223) (w32 (x3 + 1))))))
def f_Bytes_checkOfFirst (S : ASh) (V : ASt) (x0 x1 : Int) : Option (Int × ASt) :=
  gd (isO S x0 0) (b_Bytes_checkOfFirst_L5 S x0 x1 FU V 37 0)
def f_Tests_clear (S : ASh) (V : ASt) (x0 : Int) : Option (Int × ASt) :=
  gd (isO S x0 8) (wV (aset V x0 2 0) (fun V1 => wV (aset V1 x0 3 0) (fun V2 => some (0, V2))))
def f_Game_clear (S : ASh) (V : ASt) (x0 : Int) : Option (Int × ASt) :=
  gd (isO S x0 1) (wV (aset V x0 0 0) (fun V1 => wV (aset V1 x0 1 0) (fun V2 => wV (aset V2 x0 2 0) (fun V3 => wV (aset V3 x0 3 0) (fun V4 => wV (aset V4 x0 4 0) (fun V5 => gd (isO S (aF S x0 5) 8) (bnd (f_Tests_clear S V5 (aF S x0 5)) (fun r6 V7 => some (0, V7)))))))))
def f_Game_addPiece (S : ASh) (V : ASt) (x0 x1 x2 x3 : Int) : Option (Int × ASt) :=
  gd (isO S x0 1) (if 2 ≤ (V x0 1) then (some (0, V)) else (gd (isA S (aF S x0 6) 0 (V x0 1)) (wV (aset V (aF S x0 6) (V x0 1) x1) (fun V2 => gd (isA S (aF S x0 7) 0 (V2 x0 1)) (wV (aset V2 (aF S x0 7) (V2 x0 1) x2) (fun V4 => gd (isA S (aF S x0 8) 0 (V4 x0 1)) (wV (aset V4 (aF S x0 8) (V4 x0 1) x3) (fun V6 => wV (aset V6 x0 1 (w32 ((V6 x0 1) + 1))) (fun V7 => some (0, V7))))))))))
def f_Game_addRule (S : ASh) (V : ASt) (x0 x1 x2 : Int) : Option (Int × ASt) :=
  gd (isO S x0 1) (if 12 ≤ (V x0 2) then (some (0, V)) else (gd (isA S (aF S x0 9) 0 (V x0 2)) (wV (aset V (aF S x0 9) (V x0 2) x1) (fun V2 => gd (isA S (aF S x0 13) 2 (V2 x0 2)) (gd (zb x2) (wV (aset V2 (aF S x0 13) (V2 x0 2) x2) (fun V5 => gd (isA S (aF S x0 10) 0 (V5 x0 2)) (wV (aset V5 (aF S x0 10) (V5 x0 2) (-1)) (fun V7 => gd (isA S (aF S x0 11) 0 (V7 x0 2)) (wV (aset V7 (aF S x0 11) (V7 x0 2) (-1)) (fun V9 => gd (isA S (aF S x0 12) 0 (V9 x0 2)) (wV (aset V9 (aF S x0 12) (V9 x0 2) 0) (fun V11 => wV (aset V11 x0 2 (w32 ((V11 x0 2) + 1))) (fun V12 => some (0, V12)))))))))))))))
def f_Game_setMoveOfLatest (S : ASh) (V : ASt) (x0 x1 x2 x3 : Int) : Option (Int × ASt) :=
  gd (isO S x0 1) (if (V x0 2) ≤ 0 then (some (0, V)) else (gd (isA S (aF S x0 10) 0 (w32 ((V x0 2) - 1))) (wV (aset V (aF S x0 10) (w32 ((V x0 2) - 1)) x1) (fun V2 => gd (isA S (aF S x0 11) 0 (w32 ((V2 x0 2) - 1))) (wV (aset V2 (aF S x0 11) (w32 ((V2 x0 2) - 1)) x2) (fun V4 => gd (isA S (aF S x0 12) 0 (w32 ((V4 x0 2) - 1))) (wV (aset V4 (aF S x0 12) (w32 ((V4 x0 2) - 1)) x3) (fun V6 => some (0, V6)))))))))
def b_Arrays_fill_L5 (S : ASh) (x0 x1 x3 : Int) : Nat → ASt → Int → Option (Int × ASt)
  | 0, _, _ => none
  | n + 1, V, x2 =>
    if x3 ≤ x2 then (some (0, V)) else (gd (isA S x0 0 x2) (wV (aset V x0 x2 x1) (fun V2 => (b_Arrays_fill_L5 S x0 x1 x3 n) V2 (w32 (x2 + 1)))))
def f_Arrays_fill (S : ASh) (V : ASt) (x0 x1 : Int) : Option (Int × ASt) :=
  gd (isO S x0 100) (b_Arrays_fill_L5 S x0 x1 (aLn S x0) FU V 0)
def b_Game_numberPositions_L85 (S : ASh) (K68 : ASt → Int → Option (Int × ASt)) (K76 : ASt → Int → Option (Int × ASt)) (x0 x1 x2 x3 x4 : Int) : Nat → ASt → Int → Option (Int × ASt)
  | 0, _, _ => none
  | n + 1, V, x5 =>
    if 2 ≤ x5 then (K76 V (w32 (x4 + 1))) else (if 200 ≤ (V x0 3) then (K76 V (w32 (x4 + 1))) else (gd (isA S (aF S x0 15) 0 (w32 ((V x0 3) * 2))) (wV (aset V (aF S x0 15) (w32 ((V x0 3) * 2)) x3) (fun V2 => gd (isA S (aF S x0 15) 0 (w32 ((w32 ((V2 x0 3) * 2)) + 1))) (wV (aset V2 (aF S x0 15) (w32 ((w32 ((V2 x0 3) * 2)) + 1)) x4) (fun V4 => wV (aset V4 x0 3 (w32 ((V4 x0 3) + 1))) (fun V5 => (b_Game_numberPositions_L85 S K68 K76 x0 x1 x2 x3 x4 n) V5 (w32 (x5 + 1)))))))))
def b_Game_numberPositions_L76 (S : ASh) (K68 : ASt → Int → Option (Int × ASt)) (x0 x1 x2 x3 : Int) : Nat → ASt → Int → Option (Int × ASt)
  | 0, _, _ => none
  | n + 1, V, x4 =>
    if x2 ≤ x4 then (K68 V (w32 (x3 + 1))) else (b_Game_numberPositions_L85 S K68 ((b_Game_numberPositions_L76 S K68 x0 x1 x2 x3 n)) x0 x1 x2 x3 x4 FU V 0)
def b_Game_numberPositions_L68 (S : ASh) (x0 x1 x2 : Int) : Nat → ASt → Int → Option (Int × ASt)
  | 0, _, _ => none
  | n + 1, V, x3 =>
    if x1 ≤ x3 then (some (0, V)) else (b_Game_numberPositions_L76 S ((b_Game_numberPositions_L68 S x0 x1 x2 n)) x0 x1 x2 x3 FU V 0)
def b_Game_numberPositions_J44 (S : ASh) (V : ASt) (x0 x1 s0 : Int) : Option (Int × ASt) :=
  gd (isA S (aF S x0 14) 0 0) (wV (aset V (aF S x0 14) 0 (w32 (2 * s0))) (fun V7 => gd (isA S (aF S x0 14) 0 1) (wV (aset V7 (aF S x0 14) 1 2) (fun V9 => wV (aset V9 x0 3 0) (fun V10 => b_Game_numberPositions_L68 S x0 x1 s0 FU V10 0)))))
def b_Game_numberPositions_J25 (S : ASh) (V : ASt) (x0 s0 : Int) : Option (Int × ASt) :=
  if (V x0 1) ≤ 1 then (b_Game_numberPositions_J44 S  V x0 s0 1) else (b_Game_numberPositions_J44 S  V x0 s0 (w32 ((V x0 0) + 1)))
def f_Game_numberPositions (S : ASh) (V : ASt) (x0 : Int) : Option (Int × ASt) :=
  gd (isO S x0 1) (bnd (f_Arrays_fill S V (aF S x0 16) 0) (fun r11 V12 => if (V12 x0 1) ≤ 0 then (b_Game_numberPositions_J25 S  V12 x0 1) else (b_Game_numberPositions_J25 S  V12 x0 (w32 ((V12 x0 0) + 1)))))
def f_Game_isPosition (S : ASh) (V : ASt) (x0 x1 : Int) : Option (Int × ASt) :=
  gd (isO S x0 1) (if x1 < 0 then (some (0, V)) else (if (V x0 3) ≤ x1 then (some (0, V)) else (some (1, V))))
def f_Game_isRule (S : ASh) (V : ASt) (x0 x1 : Int) : Option (Int × ASt) :=
  gd (isO S x0 1) (if x1 < 0 then (some (0, V)) else (if (V x0 2) ≤ x1 then (some (0, V)) else (some (1, V))))
def f_Game_kindOf (S : ASh) (V : ASt) (x0 x1 : Int) : Option (Int × ASt) :=
  gd (isO S x0 1) (bnd (f_Game_isRule S V x0 x1) (fun r1 V2 => if r1 = 0 then (some ((-1), V2)) else (gd (isA S (aF S x0 9) 0 x1) (some ((V2 (aF S x0 9) x1), V2)))))
def f_Game_pieceOf (S : ASh) (V : ASt) (x0 x1 : Int) : Option (Int × ASt) :=
  gd (isO S x0 1) (bnd (f_Game_isRule S V x0 x1) (fun r1 V2 => if r1 = 0 then (some ((-1), V2)) else (gd (isA S (aF S x0 10) 0 x1) (some ((V2 (aF S x0 10) x1), V2)))))
def f_Game_wayOf (S : ASh) (V : ASt) (x0 x1 : Int) : Option (Int × ASt) :=
  gd (isO S x0 1) (bnd (f_Game_isRule S V x0 x1) (fun r1 V2 => if r1 = 0 then (some ((-1), V2)) else (gd (isA S (aF S x0 11) 0 x1) (some ((V2 (aF S x0 11) x1), V2)))))
def f_Game_stepOf (S : ASh) (V : ASt) (x0 x1 : Int) : Option (Int × ASt) :=
  gd (isO S x0 1) (bnd (f_Game_isRule S V x0 x1) (fun r1 V2 => if r1 = 0 then (some (0, V2)) else (gd (isA S (aF S x0 12) 0 x1) (some ((V2 (aF S x0 12) x1), V2)))))
def f_Game_isEver (S : ASh) (V : ASt) (x0 x1 : Int) : Option (Int × ASt) :=
  gd (isO S x0 1) (bnd (f_Game_isRule S V x0 x1) (fun r1 V2 => if r1 = 0 then (some (0, V2)) else (gd (isA S (aF S x0 13) 2 x1) (if (V2 (aF S x0 13) x1) = 0 then (some (0, V2)) else (some (1, V2))))))
def b_Game_pieceNamed_L2 (S : ASh) (x0 x1 : Int) : Nat → ASt → Int → Option (Int × ASt)
  | 0, _, _ => none
  | n + 1, V, x2 =>
    if (V x0 1) ≤ x2 then (some ((-1), V)) else (gd (isA S (aF S x0 6) 0 x2) (if (V (aF S x0 6) x2) = x1 then (some (x2, V)) else ((b_Game_pieceNamed_L2 S x0 x1 n) V (w32 (x2 + 1)))))
def f_Game_pieceNamed (S : ASh) (V : ASt) (x0 x1 : Int) : Option (Int × ASt) :=
  gd (isO S x0 1) (b_Game_pieceNamed_L2 S x0 x1 FU V 0)
def b_Tokens_letterOf_J24 (S : ASh) (V : ASt) (s0 : Int) : Option (Int × ASt) :=
  if s0 = 0 then (some ((-1), V)) else (some ((w32 ((w32 (s0 + 97)) - 1)), V))
def f_Tokens_letterOf (S : ASh) (V : ASt) (x0 x1 : Int) : Option (Int × ASt) :=
  if x1 < 0 then (b_Tokens_letterOf_J24 S  V 0) else (if 6 ≤ x1 then (b_Tokens_letterOf_J24 S  V 0) else (b_Tokens_letterOf_J24 S  V (and32 (shr32 x0 (w32 (5 * (w32 (5 - x1))))) 31)))
def f_Game_letterOf (S : ASh) (V : ASt) (x0 x1 x2 : Int) : Option (Int × ASt) :=
  gd (isO S x0 1) (if x1 < 0 then (some ((-1), V)) else (if (V x0 1) ≤ x1 then (some ((-1), V)) else (gd (isA S (aF S x0 6) 0 x1) (bnd (f_Tokens_letterOf S V (V (aF S x0 6) x1) x2) (fun r2 V3 => some (r2, V3))))))
def b_Game_beginningOf_L4 (S : ASh) (x0 : Int) : Nat → ASt → Int → Int → Option (Int × ASt)
  | 0, _, _, _ => none
  | n + 1, V, x2, x3 =>
    if (V x0 1) ≤ x3 then (some (x2, V)) else (gd (isA S (aF S x0 7) 0 x3) (gd (isA S (aF S x0 14) 0 x3) ((b_Game_beginningOf_L4 S x0 n) V (w32 (x2 + (w32 ((V (aF S x0 7) x3) * (V (aF S x0 14) x3))))) (w32 (x3 + 1)))))
def f_Game_beginningOf (S : ASh) (V : ASt) (x0 x1 : Int) : Option (Int × ASt) :=
  gd (isO S x0 1) (b_Game_beginningOf_L4 S x0 FU V x1 0)
def b_Game_spotToLeave_J60 (S : ASh) (V : ASt) (x0 x3 s0 : Int) : Option (Int × ASt) :=
  if s0 = 0 then (some ((-1), V)) else (if (V x0 0) ≤ x3 then (some ((-1), V)) else (some (x3, V)))
def f_Game_spotToLeave (S : ASh) (V : ASt) (x0 x1 x2 : Int) : Option (Int × ASt) :=
  gd (isO S x0 1) (bnd (f_Game_isPosition S V x0 x1) (fun r1 V2 => if r1 = 0 then (some ((-1), V2)) else (if x2 < 0 then (some ((-1), V2)) else (if x2 < (V2 x0 1) then (gd (isA S (aF S x0 15) 0 (w32 ((w32 (x1 * 2)) + x2))) (gd (isA S (aF S x0 8) 0 x2) (if (V2 (aF S x0 8) x2) = 2 then (b_Game_spotToLeave_J60 S  V2 x0 (V2 (aF S x0 15) (w32 ((w32 (x1 * 2)) + x2))) 1) else (if (V2 (aF S x0 8) x2) = (and32 x1 1) then (b_Game_spotToLeave_J60 S  V2 x0 (V2 (aF S x0 15) (w32 ((w32 (x1 * 2)) + x2))) 1) else (b_Game_spotToLeave_J60 S  V2 x0 (V2 (aF S x0 15) (w32 ((w32 (x1 * 2)) + x2))) 0))))) else (some ((-1), V2))))))
def f_Game_fieldOrNone (S : ASh) (V : ASt) (x0 x1 : Int) : Option (Int × ASt) :=
  gd (isO S x0 1) (if x1 < 0 then (some ((-1), V)) else (if (V x0 0) ≤ x1 then (some ((-1), V)) else (some (x1, V))))
def f_Game_positionBehind (S : ASh) (V : ASt) (x0 x1 x2 x3 : Int) : Option (Int × ASt) :=
  gd (isO S x0 1) (bnd (f_Game_isPosition S V x0 x1) (fun r1 V2 => if r1 = 0 then (some (x1, V2)) else (if x2 < 0 then (some (x1, V2)) else (if x2 < (V2 x0 1) then (gd (isA S (aF S x0 15) 0 (w32 ((w32 (x1 * 2)) + x2))) (gd (isA S (aF S x0 14) 0 x2) (some ((xor32 (w32 (x1 + (w32 ((w32 (x3 - (V2 (aF S x0 15) (w32 ((w32 (x1 * 2)) + x2))))) * (V2 (aF S x0 14) x2))))) 1), V2)))) else (some (x1, V2))))))
def f_Game_winnerWhenStuck (S : ASh) (V : ASt) (x0 x1 : Int) : Option (Int × ASt) :=
  gd (isO S x0 1) (if (V x0 4) = 1 then (some (2, V)) else (if (V x0 4) = 2 then (some (x1, V)) else (some ((w32 (1 - x1)), V))))
def f_Math_floorDiv (S : ASh) (V : ASt) (x0 x2 : Int) : Option (Int × ASt) :=
  gd (nz x2) (if 0 ≤ (cmp64 (xor64 x0 x2) 0) then (some ((w64 (Int.tdiv x0 x2)), V)) else (if (cmp64 (w64 ((w64 (Int.tdiv x0 x2)) * x2)) x0) = 0 then (some ((w64 (Int.tdiv x0 x2)), V)) else (some ((w64 ((w64 (Int.tdiv x0 x2)) - 1)), V))))
def f_Math_floorMod (S : ASh) (V : ASt) (x0 x2 : Int) : Option (Int × ASt) :=
  gd (nz x2) (if 0 ≤ (cmp64 (xor64 x0 x2) 0) then (some ((Int.tmod x0 x2), V)) else (if (cmp64 (Int.tmod x0 x2) 0) = 0 then (some ((Int.tmod x0 x2), V)) else (some ((w64 ((Int.tmod x0 x2) + x2)), V))))
def f_Math_min_JJ (S : ASh) (V : ASt) (x0 x2 : Int) : Option (Int × ASt) :=
  if 0 < (cmp64 x0 x2) then (some (x2, V)) else (some (x0, V))
def f_Math_max_JJ (S : ASh) (V : ASt) (x0 x2 : Int) : Option (Int × ASt) :=
  if (cmp64 x0 x2) < 0 then (some (x2, V)) else (some (x0, V))
def b_Tests_combine_J209 (S : ASh) (V : ASt) (x5 : Int) : Option (Int × ASt) :=
  bnd (f_Math_min_JJ S V 1000000 x5) (fun r1 V2 => bnd (f_Math_max_JJ S V2 (-1000000) r1) (fun r4 V5 => some ((w32 r4), V5)))
def f_Tests_combine (S : ASh) (V : ASt) (x0 x1 x3 : Int) : Option (Int × ASt) :=
  if x0 = (-12) then (b_Tests_combine_J209 S  V (and64 x1 x3)) else (if x0 = (-11) then (if (cmp64 x1 x3) = 0 then (b_Tests_combine_J209 S  V 1) else (b_Tests_combine_J209 S  V 0)) else (if x0 = (-10) then (if (cmp64 x1 x3) ≤ 0 then (b_Tests_combine_J209 S  V 0) else (b_Tests_combine_J209 S  V 1)) else (if x0 = (-9) then (if 0 ≤ (cmp64 x1 x3) then (b_Tests_combine_J209 S  V 0) else (b_Tests_combine_J209 S  V 1)) else (if x0 = (-8) then (bnd (f_Math_max_JJ S V x1 x3) (fun r12 V13 => b_Tests_combine_J209 S  V13 r12)) else (if x0 = (-7) then (bnd (f_Math_min_JJ S V x1 x3) (fun r16 V17 => b_Tests_combine_J209 S  V17 r16)) else (if x0 = (-6) then (if (cmp64 x3 0) = 0 then (b_Tests_combine_J209 S  V 0) else (bnd (f_Math_floorMod S V x1 x3) (fun r20 V21 => b_Tests_combine_J209 S  V21 r20))) else (if x0 = (-5) then (if (cmp64 x3 0) = 0 then (b_Tests_combine_J209 S  V 0) else (bnd (f_Math_floorDiv S V x1 x3) (fun r24 V25 => b_Tests_combine_J209 S  V25 r24))) else (if x0 = (-4) then (b_Tests_combine_J209 S  V (w64 (x1 * x3))) else (if x0 = (-3) then (b_Tests_combine_J209 S  V (w64 (x1 - x3))) else (if x0 = (-2) then (b_Tests_combine_J209 S  V (w64 (x1 + x3))) else (b_Tests_combine_J209 S  V (or64 x1 x3))))))))))))
def b_Tests_evaluate_J130 (S : ASh) (K25 : ASt → Int → Int → Option (Int × ASt)) (V : ASt) (x0 x1 x2 x3 x4 x5 x6 x7 x8 s0 s1 s2 : Int) : Option (Int × ASt) :=
  gd (isA S s0 0 s1) (wV (aset V s0 s1 s2) (fun V2 => K25 V2 (w32 (x7 + 1)) (w32 (x8 + 1))))
def b_Tests_evaluate_J59 (S : ASh) (K25 : ASt → Int → Int → Option (Int × ASt)) (V : ASt) (x0 x1 x2 x3 x4 x5 x6 x7 x8 x9 : Int) : Option (Int × ASt) :=
  if 64 ≤ x7 then (K25 V x7 (w32 (x8 + 1))) else (if x9 < 0 then (if x9 = (-15) then (b_Tests_evaluate_J130 S K25 V x0 x1 x2 x3 x4 x5 x6 x7 x8 (aF S x0 4) x7 x2) else (if x9 = (-16) then (b_Tests_evaluate_J130 S K25 V x0 x1 x2 x3 x4 x5 x6 x7 x8 (aF S x0 4) x7 x3) else (if x9 = (-17) then (b_Tests_evaluate_J130 S K25 V x0 x1 x2 x3 x4 x5 x6 x7 x8 (aF S x0 4) x7 x4) else (if x9 = (-18) then (b_Tests_evaluate_J130 S K25 V x0 x1 x2 x3 x4 x5 x6 x7 x8 (aF S x0 4) x7 x5) else (b_Tests_evaluate_J130 S K25 V x0 x1 x2 x3 x4 x5 x6 x7 x8 (aF S x0 4) x7 x6))))) else (b_Tests_evaluate_J130 S K25 V x0 x1 x2 x3 x4 x5 x6 x7 x8 (aF S x0 4) x7 x9))
def b_Tests_evaluate_J173 (S : ASh) (K25 : ASt → Int → Int → Option (Int × ASt)) (V : ASt) (x0 x1 x2 x3 x4 x5 x6 x7 x8 x9 : Int) : Option (Int × ASt) :=
  if x7 < 2 then (K25 V x7 (w32 (x8 + 1))) else (gd (isA S (aF S x0 4) 0 (w32 ((w32 (x7 + (-1))) - 1))) (gd (isA S (aF S x0 4) 0 (w32 (x7 + (-1)))) (bnd (f_Tests_combine S V x9 (V (aF S x0 4) (w32 ((w32 (x7 + (-1))) - 1))) (V (aF S x0 4) (w32 (x7 + (-1))))) (fun r5 V6 => wV (aset V6 (aF S x0 4) (w32 ((w32 (x7 + (-1))) - 1)) r5) (fun V8 => K25 V8 (w32 (x7 + (-1))) (w32 (x8 + 1)))))))
def b_Tests_evaluate_L25 (S : ASh) (x0 x1 x2 x3 x4 x5 x6 : Int) : Nat → ASt → Int → Int → Option (Int × ASt)
  | 0, _, _, _ => none
  | n + 1, V, x7, x8 =>
    gd (isA S (aF S x0 1) 0 (w32 (x1 + 1))) (if (V (aF S x0 1) (w32 (x1 + 1))) ≤ x8 then (if x7 ≤ 0 then (some (0, V)) else (gd (isA S (aF S x0 4) 0 0) (if (V (aF S x0 4) 0) = 0 then (some (0, V)) else (some (1, V))))) else (gd (isA S (aF S x0 0) 0 x8) (if 0 ≤ (V (aF S x0 0) x8) then (b_Tests_evaluate_J59 S ((b_Tests_evaluate_L25 S x0 x1 x2 x3 x4 x5 x6 n)) V x0 x1 x2 x3 x4 x5 x6 x7 x8 (V (aF S x0 0) x8)) else (if (-15) < (V (aF S x0 0) x8) then (if (V (aF S x0 0) x8) = (-14) then (if x7 < 1 then (b_Tests_evaluate_J173 S ((b_Tests_evaluate_L25 S x0 x1 x2 x3 x4 x5 x6 n)) V x0 x1 x2 x3 x4 x5 x6 x7 x8 (V (aF S x0 0) x8)) else (gd (isA S (aF S x0 4) 0 (w32 (x7 - 1))) (wV (aset V (aF S x0 4) (w32 (x7 - 1)) (w32 (1 - (V (aF S x0 4) (w32 (x7 - 1)))))) (fun V13 => (b_Tests_evaluate_L25 S x0 x1 x2 x3 x4 x5 x6 n) V13 x7 (w32 (x8 + 1)))))) else (b_Tests_evaluate_J173 S ((b_Tests_evaluate_L25 S x0 x1 x2 x3 x4 x5 x6 n)) V x0 x1 x2 x3 x4 x5 x6 x7 x8 (V (aF S x0 0) x8))) else (b_Tests_evaluate_J59 S ((b_Tests_evaluate_L25 S x0 x1 x2 x3 x4 x5 x6 n)) V x0 x1 x2 x3 x4 x5 x6 x7 x8 (V (aF S x0 0) x8))))))
def f_Tests_evaluate (S : ASh) (V : ASt) (x0 x1 x2 x3 x4 x5 x6 : Int) : Option (Int × ASt) :=
  gd (isO S x0 8) (if x1 < 0 then (some (0, V)) else (if x1 < (V x0 3) then (gd (isA S (aF S x0 1) 0 x1) (b_Tests_evaluate_L25 S x0 x1 x2 x3 x4 x5 x6 FU V 0 (V (aF S x0 1) x1))) else (some (0, V))))
def b_Game_holds_J225 (S : ASh) (V : ASt) (x0 x6 x7 : Int) : Option (Int × ASt) :=
  gd (isA S (aF S x0 16) 0 x6) (if (and32 (V (aF S x0 16) x6) x7) = 0 then (some (0, V)) else (some (1, V)))
def b_Game_holds_J222 (S : ASh) (V : ASt) (x0 x6 x7 s0 s1 s2 s3 s4 : Int) : Option (Int × ASt) :=
  gd (isA S s0 0 s1) (wV (aset V s0 s1 (or32 s2 (or32 s3 s4))) (fun V3 => b_Game_holds_J225 S  V3 x0 x6 x7))
def b_Game_holds_J175 (S : ASh) (V : ASt) (x0 x1 x2 x4 x6 x7 x8 x10 s0 : Int) : Option (Int × ASt) :=
  gd (isO S (aF S x0 5) 8) (bnd (f_Tests_evaluate S V (aF S x0 5) x1 x10 x4 (and32 x2 1) x8 s0) (fun r4 V5 => gd (isA S (aF S x0 16) 0 x6) (if r4 = 0 then (b_Game_holds_J222 S  V5 x0 x6 x7 (aF S x0 16) x6 (V5 (aF S x0 16) x6) (shl32 x7 12) 0) else (b_Game_holds_J222 S  V5 x0 x6 x7 (aF S x0 16) x6 (V5 (aF S x0 16) x6) (shl32 x7 12) x7))))
def b_Game_holds_J156 (S : ASh) (V : ASt) (x0 x1 x2 x3 x4 x6 x7 x9 x10 x11 s0 : Int) : Option (Int × ASt) :=
  if x11 = 0 then (b_Game_holds_J175 S  V x0 x1 x2 x4 x6 x7 s0 x10 x9) else (if x3 = 1 then (b_Game_holds_J175 S  V x0 x1 x2 x4 x6 x7 s0 x10 x4) else (b_Game_holds_J175 S  V x0 x1 x2 x4 x6 x7 s0 x10 x9))
def b_Game_holds_J138 (S : ASh) (V : ASt) (x0 x1 x2 x3 x4 x6 x7 x8 x9 x10 s0 : Int) : Option (Int × ASt) :=
  if s0 = 0 then (b_Game_holds_J156 S  V x0 x1 x2 x3 x4 x6 x7 x9 x10 s0 x8) else (if x3 = 0 then (b_Game_holds_J156 S  V x0 x1 x2 x3 x4 x6 x7 x9 x10 s0 x4) else (b_Game_holds_J156 S  V x0 x1 x2 x3 x4 x6 x7 x9 x10 s0 x8))
def b_Game_holds_J121 (S : ASh) (V : ASt) (x0 x1 x2 x3 x4 x6 x7 x8 x9 s0 : Int) : Option (Int × ASt) :=
  gd (isA S (aF S x0 9) 0 x1) (if (V (aF S x0 9) x1) < 2 then (b_Game_holds_J138 S  V x0 x1 x2 x3 x4 x6 x7 x8 x9 s0 0) else (b_Game_holds_J138 S  V x0 x1 x2 x3 x4 x6 x7 x8 x9 s0 1))
def b_Game_holds_J21 (S : ASh) (V : ASt) (x0 x1 x2 x3 x4 s0 : Int) : Option (Int × ASt) :=
  if s0 = 0 then (some (0, V)) else (if x3 < 0 then (some (0, V)) else (if (V x0 1) ≤ x3 then (some (0, V)) else (if x4 < 0 then (some (0, V)) else (if x4 < 10 then (gd (isA S (aF S x0 16) 0 (w32 ((w32 ((w32 ((w32 (x2 * 2)) + x3)) * 10)) + x4))) (if (and32 (V (aF S x0 16) (w32 ((w32 ((w32 ((w32 (x2 * 2)) + x3)) * 10)) + x4))) (shl32 (shl32 1 x1) 12)) = 0 then (gd (isA S (aF S x0 15) 0 (w32 (x2 * 2))) (gd (isA S (aF S x0 15) 0 (w32 ((w32 (x2 * 2)) + 1))) (if x3 = 0 then (b_Game_holds_J121 S  V x0 x1 x2 x3 x4 (w32 ((w32 ((w32 ((w32 (x2 * 2)) + x3)) * 10)) + x4)) (shl32 1 x1) (V (aF S x0 15) (w32 (x2 * 2))) (V (aF S x0 15) (w32 ((w32 (x2 * 2)) + 1))) (V (aF S x0 15) (w32 (x2 * 2)))) else (b_Game_holds_J121 S  V x0 x1 x2 x3 x4 (w32 ((w32 ((w32 ((w32 (x2 * 2)) + x3)) * 10)) + x4)) (shl32 1 x1) (V (aF S x0 15) (w32 (x2 * 2))) (V (aF S x0 15) (w32 ((w32 (x2 * 2)) + 1))) (V (aF S x0 15) (w32 ((w32 (x2 * 2)) + 1))))))) else (b_Game_holds_J225 S  V x0 (w32 ((w32 ((w32 ((w32 (x2 * 2)) + x3)) * 10)) + x4)) (shl32 1 x1)))) else (some (0, V))))))
def f_Game_holds (S : ASh) (V : ASt) (x0 x1 x2 x3 x4 : Int) : Option (Int × ASt) :=
  gd (isO S x0 1) (bnd (f_Game_isRule S V x0 x1) (fun r13 V14 => if r13 = 0 then (b_Game_holds_J21 S  V14 x0 x1 x2 x3 x4 0) else (bnd (f_Game_isPosition S V14 x0 x2) (fun r16 V17 => if r16 = 0 then (b_Game_holds_J21 S  V17 x0 x1 x2 x3 x4 0) else (b_Game_holds_J21 S  V17 x0 x1 x2 x3 x4 1)))))
def f_Slate_isPlace (S : ASh) (V : ASt) (x0 x1 : Int) : Option (Int × ASt) :=
  gd (isO S x0 6) (if x1 < 0 then (some (0, V)) else (if (V x0 0) ≤ x1 then (some (0, V)) else (if 12 ≤ x1 then (some (0, V)) else (some (1, V)))))
def f_Slate_packedAt (S : ASh) (V : ASt) (x0 x1 : Int) : Option (Int × ASt) :=
  gd (isO S x0 6) (bnd (f_Slate_isPlace S V x0 x1) (fun r1 V2 => if r1 = 0 then (some (0, V2)) else (gd (isA S (aF S x0 1) 0 x1) (some ((V2 (aF S x0 1) x1), V2)))))
def f_Slate_setPacked (S : ASh) (V : ASt) (x0 x1 x2 : Int) : Option (Int × ASt) :=
  gd (isO S x0 6) (bnd (f_Slate_isPlace S V x0 x1) (fun r1 V2 => if r1 = 0 then (some (0, V2)) else (gd (isA S (aF S x0 1) 0 x1) (wV (aset V2 (aF S x0 1) x1 x2) (fun V5 => some (0, V5))))))
def f_Slate_ruleAt (S : ASh) (V : ASt) (x0 x1 : Int) : Option (Int × ASt) :=
  gd (isO S x0 6) (bnd (f_Slate_packedAt S V x0 x1) (fun r1 V2 => some ((shr32 r1 4), V2)))
def f_Slate_flagsAt (S : ASh) (V : ASt) (x0 x1 : Int) : Option (Int × ASt) :=
  gd (isO S x0 6) (bnd (f_Slate_packedAt S V x0 x1) (fun r1 V2 => some ((and32 r1 3), V2)))
def f_Slate_setPlace (S : ASh) (V : ASt) (x0 x1 x2 x3 x4 : Int) : Option (Int × ASt) :=
  gd (isO S x0 6) (bnd (f_Slate_setPacked S V x0 x1 (w32 ((w32 ((w32 (x2 * 16)) + (w32 (x4 * 4)))) + x3))) (fun r1 V2 => some (0, V2)))
def f_Slate_apply (S : ASh) (V : ASt) (x0 x1 : Int) : Option (Int × ASt) :=
  gd (isO S x0 6) (bnd (f_Slate_packedAt S V x0 (w32 (Int.tdiv x1 6))) (fun r1 V2 => if (Int.tmod x1 6) = 0 then (bnd (f_Slate_setPacked S V2 x0 (w32 (Int.tdiv x1 6)) (xor32 r1 1)) (fun r25 V26 => some (0, V26))) else (if (Int.tmod x1 6) = 1 then (bnd (f_Slate_setPacked S V2 x0 (w32 (Int.tdiv x1 6)) (xor32 r1 2)) (fun r22 V23 => some (0, V23))) else (if (Int.tmod x1 6) = 5 then (bnd (f_Slate_packedAt S V2 x0 (w32 ((w32 (Int.tdiv x1 6)) + 1))) (fun r13 V14 => bnd (f_Slate_setPacked S V14 x0 (w32 (Int.tdiv x1 6)) r13) (fun r16 V17 => bnd (f_Slate_setPacked S V17 x0 (w32 ((w32 (Int.tdiv x1 6)) + 1)) r1) (fun r19 V20 => some (0, V20))))) else (bnd (f_Slate_ruleAt S V2 x0 (w32 (Int.tdiv x1 6))) (fun r4 V5 => bnd (f_Slate_flagsAt S V5 x0 (w32 (Int.tdiv x1 6))) (fun r7 V8 => bnd (f_Slate_setPlace S V8 x0 (w32 (Int.tdiv x1 6)) r4 r7 (w32 ((Int.tmod x1 6) - 1))) (fun r10 V11 => some (0, V11)))))))))
def b_History_applyTo_J45 (S : ASh) (V : ASt) (x0 x1 x2 : Int) : Option (Int × ASt) :=
  gd (isA S (aF S x0 1) 0 (V x0 0)) (wV (aset V (aF S x0 1) (V x0 0) x2) (fun V2 => gd (isO S x1 6) (bnd (f_Slate_packedAt S V2 x1 (w32 (Int.tdiv x2 6))) (fun r3 V4 => gd (isA S (aF S x0 2) 0 (V2 x0 0)) (wV (aset V4 (aF S x0 2) (V2 x0 0) r3) (fun V8 => wV (aset V8 x0 0 (w32 ((V8 x0 0) + 1))) (fun V9 => bnd (f_Slate_apply S V9 x1 x2) (fun r10 V11 => some (0, V11)))))))))
def f_History_applyTo (S : ASh) (V : ASt) (x0 x1 x2 : Int) : Option (Int × ASt) :=
  gd (isO S x0 2) (if (V x0 0) < 40 then (b_History_applyTo_J45 S  V x0 x1 x2) else (gd (cpG S (aF S x0 1) 1 (aF S x0 1) 0 39) (wV (arow V (aF S x0 1) (cpI (V (aF S x0 1)) (V (aF S x0 1)) 1 0 39)) (fun V13 => gd (cpG S (aF S x0 2) 1 (aF S x0 2) 0 39) (wV (arow V13 (aF S x0 2) (cpI (V13 (aF S x0 2)) (V13 (aF S x0 2)) 1 0 39)) (fun V15 => wV (aset V15 x0 0 39) (fun V17 => b_History_applyTo_J45 S  V17 x0 x1 x2)))))))
def f_History_takeBackFrom (S : ASh) (V : ASt) (x0 x1 : Int) : Option (Int × ASt) :=
  gd (isO S x0 2) (if (V x0 0) ≤ 0 then (some (0, V)) else (if (V x0 0) ≤ 40 then (wV (aset V x0 0 (w32 ((V x0 0) - 1))) (fun V1 => gd (isA S (aF S x0 1) 0 (V1 x0 0)) (if (Int.tmod (V1 (aF S x0 1) (V1 x0 0)) 6) = 5 then (gd (isO S x1 6) (bnd (f_Slate_apply S V1 x1 (V1 (aF S x0 1) (V1 x0 0))) (fun r8 V9 => some (0, V9)))) else (gd (isA S (aF S x0 2) 0 (V1 x0 0)) (gd (isO S x1 6) (bnd (f_Slate_setPacked S V1 x1 (w32 (Int.tdiv (V1 (aF S x0 1) (V1 x0 0)) 6)) (V1 (aF S x0 2) (V1 x0 0))) (fun r4 V5 => some (0, V5)))))))) else (some (0, V))))
def b_Slate_takeAsTold_L10 (S : ASh) (x0 x1 : Int) : Nat → ASt → Int → Option (Int × ASt)
  | 0, _, _ => none
  | n + 1, V, x2 =>
    if (V x0 0) ≤ x2 then (some (0, V)) else (if 12 ≤ x2 then (some (0, V)) else (gd (isO S x1 1) (bnd (f_Game_stepOf S V x1 x2) (fun r1 V2 => bnd (f_Slate_setPlace S V2 x0 x2 x2 0 r1) (fun r5 V6 => (b_Slate_takeAsTold_L10 S x0 x1 n) V6 (w32 (x2 + 1)))))))
def f_Slate_takeAsTold (S : ASh) (V : ASt) (x0 x1 : Int) : Option (Int × ASt) :=
  gd (isO S x0 6) (gd (isO S x1 1) (wV (aset V x0 0 (V x1 2)) (fun V9 => b_Slate_takeAsTold_L10 S x0 x1 FU V9 0)))
def f_Slate_copyFrom (S : ASh) (V : ASt) (x0 x1 : Int) : Option (Int × ASt) :=
  gd (isO S x0 6) (gd (isO S x1 6) (wV (aset V x0 0 (V x1 0)) (fun V2 => gd (cpG S (aF S x1 1) 0 (aF S x0 1) 0 12) (wV (arow V2 (aF S x0 1) (cpI (V2 (aF S x1 1)) (V2 (aF S x0 1)) 0 0 12)) (fun V3 => some (0, V3))))))
def b_Slate_isLike_L19 (S : ASh) (x0 x1 : Int) : Nat → ASt → Int → Int → Option (Int × ASt)
  | 0, _, _, _ => none
  | n + 1, V, x2, x3 =>
    if (V x0 0) ≤ x3 then (gd (zb x2) (some (x2, V))) else (if 12 ≤ x3 then (gd (zb x2) (some (x2, V))) else (if x2 = 0 then (gd (zb x2) (some (x2, V))) else (gd (isA S (aF S x0 1) 0 x3) (gd (isO S x1 6) (gd (isA S (aF S x1 1) 0 x3) (if (V (aF S x0 1) x3) = (V (aF S x1 1) x3) then ((b_Slate_isLike_L19 S x0 x1 n) V 1 (w32 (x3 + 1))) else ((b_Slate_isLike_L19 S x0 x1 n) V 0 (w32 (x3 + 1)))))))))
def f_Slate_isLike (S : ASh) (V : ASt) (x0 x1 : Int) : Option (Int × ASt) :=
  gd (isO S x0 6) (gd (isO S x1 6) (if (V x0 0) = (V x1 0) then (b_Slate_isLike_L19 S x0 x1 FU V 1 0) else (b_Slate_isLike_L19 S x0 x1 FU V 0 0)))
def f_Slate_stepAt (S : ASh) (V : ASt) (x0 x1 : Int) : Option (Int × ASt) :=
  gd (isO S x0 6) (bnd (f_Slate_packedAt S V x0 x1) (fun r1 V2 => some ((and32 (shr32 r1 2) 3), V2)))
def f_Slate_isStruck (S : ASh) (V : ASt) (x0 x1 : Int) : Option (Int × ASt) :=
  gd (isO S x0 6) (bnd (f_Slate_packedAt S V x0 x1) (fun r1 V2 => if (and32 r1 1) = 0 then (some (0, V2)) else (some (1, V2))))
def f_Slate_kindAt (S : ASh) (V : ASt) (x0 x1 x2 : Int) : Option (Int × ASt) :=
  gd (isO S x0 6) (bnd (f_Slate_packedAt S V x0 x1) (fun r1 V2 => gd (isO S x2 1) (bnd (f_Game_kindOf S V2 x2 (shr32 r1 4)) (fun r4 V5 => if (and32 r1 2) = 0 then (some (r4, V5)) else (some ((xor32 r4 1), V5))))))
def b_Slate_countStruck_L4 (S : ASh) (x0 : Int) : Nat → ASt → Int → Int → Option (Int × ASt)
  | 0, _, _, _ => none
  | n + 1, V, x1, x2 =>
    if (V x0 0) ≤ x2 then (some (x1, V)) else (bnd (f_Slate_isStruck S V x0 x2) (fun r1 V2 => if r1 = 0 then ((b_Slate_countStruck_L4 S x0 n) V2 (w32 (x1 + 0)) (w32 (x2 + 1))) else ((b_Slate_countStruck_L4 S x0 n) V2 (w32 (x1 + 1)) (w32 (x2 + 1)))))
def f_Slate_countStruck (S : ASh) (V : ASt) (x0 : Int) : Option (Int × ASt) :=
  gd (isO S x0 6) (b_Slate_countStruck_L4 S x0 FU V 0 0)
def f_Slate_codeCount (S : ASh) (V : ASt) (x0 : Int) : Option (Int × ASt) :=
  gd (isO S x0 6) (some ((w32 ((V x0 0) * 6)), V))
def f_Slate_allows (S : ASh) (V : ASt) (x0 x1 x2 : Int) : Option (Int × ASt) :=
  gd (isO S x0 6) (if x2 < 0 then (some (0, V)) else (bnd (f_Slate_codeCount S V x0) (fun r1 V2 => if x2 < r1 then (bnd (f_Slate_ruleAt S V2 x0 (w32 (Int.tdiv x2 6))) (fun r4 V5 => gd (isO S x1 1) (bnd (f_Game_isEver S V5 x1 r4) (fun r7 V8 => if r7 = 0 then (if (Int.tmod x2 6) = 5 then (if (V8 x0 0) ≤ (w32 ((w32 (Int.tdiv x2 6)) + 1)) then (some (0, V8)) else (bnd (f_Slate_ruleAt S V8 x0 (w32 ((w32 (Int.tdiv x2 6)) + 1))) (fun r14 V15 => bnd (f_Game_isEver S V15 x1 r14) (fun r17 V18 => if r17 = 0 then (some (1, V18)) else (some (0, V18)))))) else (bnd (f_Slate_stepAt S V8 x0 (w32 (Int.tdiv x2 6))) (fun r11 V12 => if (Int.tmod x2 6) = 0 then (some (1, V12)) else (if (Int.tmod x2 6) = 1 then (some (1, V12)) else (if r11 = 0 then (some (0, V12)) else (if r11 = (w32 ((Int.tmod x2 6) - 1)) then (some (0, V12)) else (some (1, V12)))))))) else (some (0, V8)))))) else (some (0, V2)))))
def f_Tests_emit (S : ASh) (V : ASt) (x0 x1 : Int) : Option (Int × ASt) :=
  gd (isO S x0 8) (if 1800 ≤ (V x0 2) then (some (0, V)) else (gd (isA S (aF S x0 0) 0 (V x0 2)) (wV (aset V (aF S x0 0) (V x0 2) x1) (fun V2 => wV (aset V2 x0 2 (w32 ((V2 x0 2) + 1))) (fun V3 => some (0, V3))))))
def f_Tests_close (S : ASh) (V : ASt) (x0 : Int) : Option (Int × ASt) :=
  gd (isO S x0 8) (if 12 ≤ (V x0 3) then (some (0, V)) else (wV (aset V x0 3 (w32 ((V x0 3) + 1))) (fun V1 => gd (isA S (aF S x0 1) 0 (V1 x0 3)) (wV (aset V1 (aF S x0 1) (V1 x0 3) (V1 x0 2)) (fun V3 => some (0, V3))))))
def f_Tokens_isBlank (S : ASh) (V : ASt) (x0 : Int) : Option (Int × ASt) :=
  if x0 = 10 then (some (1, V)) else (if x0 = 32 then (some (1, V)) else (some (0, V)))
def f_Tokens_add (S : ASh) (V : ASt) (x0 x1 x2 x3 : Int) : Option (Int × ASt) :=
  gd (isO S x0 9) (if 1801 ≤ (V x0 4) then (some (x1, V)) else (gd (isA S (aF S x0 1) 0 (V x0 4)) (wV (aset V (aF S x0 1) (V x0 4) x1) (fun V2 => gd (isA S (aF S x0 2) 0 (V2 x0 4)) (wV (aset V2 (aF S x0 2) (V2 x0 4) x2) (fun V4 => gd (isA S (aF S x0 3) 0 (V4 x0 4)) (wV (aset V4 (aF S x0 3) (V4 x0 4) x3) (fun V6 => wV (aset V6 x0 4 (w32 ((V6 x0 4) + 1))) (fun V7 => some (x1, V7))))))))))
def f_Tokens_isLetter (S : ASh) (V : ASt) (x0 : Int) : Option (Int × ASt) :=
  if x0 < 97 then (some (0, V)) else (if 122 < x0 then (some (0, V)) else (some (1, V)))
def f_Tokens_isDigit (S : ASh) (V : ASt) (x0 : Int) : Option (Int × ASt) :=
  if x0 < 48 then (some (0, V)) else (if 57 < x0 then (some (0, V)) else (some (1, V)))
def f_Tokens_withLetter (S : ASh) (V : ASt) (x0 x1 x2 : Int) : Option (Int × ASt) :=
  some ((or32 x0 (shl32 (w32 ((w32 (x2 - 97)) + 1)) (w32 (5 * (w32 (5 - x1)))))), V)
def b_Tokens_cutWord_L92 (S : ASh) (x0 x2 x3 : Int) : Nat → ASt → Int → Int → Option (Int × ASt)
  | 0, _, _, _ => none
  | n + 1, V, x4, x5 =>
    if 23 ≤ x5 then (bnd (f_Tokens_add S V x0 x4 x2 x3) (fun r1 V2 => some (r1, V2))) else (gd (isA S (aF S x0 0) 0 x5) (if (V (aF S x0 0) x5) = x3 then ((b_Tokens_cutWord_L92 S x0 x2 x3 n) V (w32 (256 + x5)) (w32 (x5 + 1))) else ((b_Tokens_cutWord_L92 S x0 x2 x3 n) V x4 (w32 (x5 + 1)))))
def b_Tokens_cutWord_L7 (S : ASh) (x0 x1 x2 : Int) : Nat → ASt → Int → Option (Int × ASt)
  | 0, _, _ => none
  | n + 1, V, x3 =>
    gd (isO S x1 0) (if (V x1 0) ≤ (V x0 5) then (b_Tokens_cutWord_L92 S x0 x2 x3 FU V 2 0) else (bnd (f_Bytes_at S V x1 (V x0 5)) (fun r6 V7 => bnd (f_Tokens_isLetter S V7 r6) (fun r9 V10 => if r9 = 0 then (b_Tokens_cutWord_L92 S x0 x2 x3 FU V10 2 0) else (if (w32 ((V10 x0 5) - x2)) = 6 then (bnd (f_Tokens_add S V10 x0 1 (V10 x0 5) 0) (fun r19 V20 => some (r19, V20))) else (bnd (f_Bytes_at S V10 x1 (V10 x0 5)) (fun r12 V13 => bnd (f_Tokens_withLetter S V13 x3 (w32 ((V10 x0 5) - x2)) r12) (fun r15 V16 => wV (aset V16 x0 5 (w32 ((V16 x0 5) + 1))) (fun V18 => (b_Tokens_cutWord_L7 S x0 x1 x2 n) V18 r15)))))))))
def f_Tokens_cutWord (S : ASh) (V : ASt) (x0 x1 : Int) : Option (Int × ASt) :=
  gd (isO S x0 9) (b_Tokens_cutWord_L7 S x0 x1 (V x0 5) FU V 0)
def b_Tokens_cutNumber_J83 (S : ASh) (V : ASt) (x0 x2 x3 : Int) : Option (Int × ASt) :=
  bnd (f_Tokens_add S V x0 3 x2 x3) (fun r1 V2 => some (r1, V2))
def b_Tokens_cutNumber_L7 (S : ASh) (x0 x1 x2 : Int) : Nat → ASt → Int → Option (Int × ASt)
  | 0, _, _ => none
  | n + 1, V, x3 =>
    gd (isO S x1 0) (if (V x1 0) ≤ (V x0 5) then (b_Tokens_cutNumber_J83 S  V x0 x2 x3) else (bnd (f_Bytes_at S V x1 (V x0 5)) (fun r5 V6 => bnd (f_Tokens_isDigit S V6 r5) (fun r8 V9 => if r8 = 0 then (b_Tokens_cutNumber_J83 S  V9 x0 x2 x3) else (if (w32 ((V9 x0 5) - x2)) = 4 then (bnd (f_Tokens_add S V9 x0 1 (V9 x0 5) 0) (fun r15 V16 => some (r15, V16))) else (bnd (f_Bytes_at S V9 x1 (V9 x0 5)) (fun r11 V12 => wV (aset V12 x0 5 (w32 ((V12 x0 5) + 1))) (fun V14 => (b_Tokens_cutNumber_L7 S x0 x1 x2 n) V14 (w32 ((w32 ((w32 (x3 * 10)) + r11)) - 48))))))))))
def f_Tokens_cutNumber (S : ASh) (V : ASt) (x0 x1 : Int) : Option (Int × ASt) :=
  gd (isO S x0 9) (b_Tokens_cutNumber_L7 S x0 x1 (V x0 5) FU V 0)
def f_Str_isLatin1 (S : ASh) (V : ASt) (x0 : Int) : Option (Int × ASt) :=
  gd (isS x0) (some (1, V))
def f_Str_coder (S : ASh) (V : ASt) (x0 : Int) : Option (Int × ASt) :=
  gd (isS x0) (gd (byOK 0) (some (0, V)))
def f_Str_length (S : ASh) (V : ASt) (x0 : Int) : Option (Int × ASt) :=
  gd (isS x0) (gd (isB (x0 - 3)) (bnd (f_Str_coder S V x0) (fun r2 V3 => some ((shr32 (sLn (x0 - 3)) r2), V3))))
def f_Lat_canEncode (S : ASh) (V : ASt) (x0 : Int) : Option (Int × ASt) :=
  if x0 < 0 then (some (0, V)) else (if 255 < x0 then (some (0, V)) else (some (1, V)))
def f_Math_max_II (S : ASh) (V : ASt) (x0 x1 : Int) : Option (Int × ASt) :=
  if x0 < x1 then (some (x1, V)) else (some (x0, V))
def f_Math_min_II (S : ASh) (V : ASt) (x0 x1 : Int) : Option (Int × ASt) :=
  if x1 < x0 then (some (x1, V)) else (some (x0, V))
def b_Lat_indexOfChar_L7 (S : ASh) (x0 x3 x4 : Int) : Nat → ASt → Int → Option (Int × ASt)
  | 0, _, _ => none
  | n + 1, V, x5 =>
    if x3 ≤ x5 then (some ((-1), V)) else (gd (isBi x0 x5) (if (sB x0 x5) = x4 then (some (x5, V)) else ((b_Lat_indexOfChar_L7 S x0 x3 x4 n) V (w32 (x5 + 1)))))
def f_Lat_indexOfChar (S : ASh) (V : ASt) (x0 x1 x2 x3 : Int) : Option (Int × ASt) :=
  b_Lat_indexOfChar_L7 S x0 x3 (byt8 x1) FU V x2
def f_Lat_indexOf (S : ASh) (V : ASt) (x0 x1 x2 x3 : Int) : Option (Int × ASt) :=
  bnd (f_Lat_canEncode S V x1) (fun r1 V2 => if r1 = 0 then (some ((-1), V2)) else (bnd (f_Math_max_II S V2 x2 0) (fun r4 V5 => gd (isB x0) (bnd (f_Math_min_II S V5 x3 (sLn x0)) (fun r8 V9 => if r4 < r8 then (bnd (f_Lat_indexOfChar S V9 x0 x1 r4 r8) (fun r11 V12 => some (r11, V12))) else (some ((-1), V9)))))))
def f_Str_indexOf_II (S : ASh) (V : ASt) (x0 x1 x2 : Int) : Option (Int × ASt) :=
  gd (isS x0) (bnd (f_Str_isLatin1 S V x0) (fun r1 V2 => if r1 = 0 then (none) else (bnd (f_Str_length S V2 x0) (fun r4 V5 => bnd (f_Lat_indexOf S V5 (x0 - 3) x1 x2 r4) (fun r7 V8 => some (r7, V8))))))
def f_Str_indexOf_I (S : ASh) (V : ASt) (x0 x1 : Int) : Option (Int × ASt) :=
  gd (isS x0) (bnd (f_Str_indexOf_II S V x0 x1 0) (fun r1 V2 => some (r1, V2)))
def b_Tokens_cutOne_J47 (S : ASh) (V : ASt) (x0 : Int) : Option (Int × ASt) :=
  bnd (f_Tokens_add S V x0 1 (V x0 5) 0) (fun r1 V2 => some (r1, V2))
def b_Tokens_cutOne_J108 (S : ASh) (V : ASt) (x0 s0 s1 : Int) : Option (Int × ASt) :=
  gd (isO S s0 9) (bnd (f_Tokens_add S V s0 s1 (w32 ((V x0 5) - 1)) 0) (fun r4 V5 => some (r4, V5)))
def b_Tokens_cutOne_J58 (S : ASh) (V : ASt) (x0 x1 x3 x4 : Int) : Option (Int × ASt) :=
  if x4 = 0 then (bnd (f_Tokens_isDigit S V x3) (fun r8 V9 => if r8 = 0 then (wV (aset V9 x0 5 (w32 ((V9 x0 5) + 1))) (fun V11 => gd (isS (-3)) (bnd (f_Str_indexOf_I S V11 (-3) (chr16 x3)) (fun r12 V13 => if r12 < 0 then (b_Tokens_cutOne_J108 S  V13 x0 x0 1) else (b_Tokens_cutOne_J108 S  V13 x0 x0 x3))))) else (bnd (f_Tokens_cutNumber S V9 x0 x1) (fun r16 V17 => some (r16, V17))))) else (bnd (f_Tokens_cutWord S V x0 x1) (fun r19 V20 => some (r19, V20)))
def f_Tokens_cutOne (S : ASh) (V : ASt) (x0 x1 x2 : Int) : Option (Int × ASt) :=
  gd (isO S x0 9) (gd (isO S x1 0) (bnd (f_Bytes_at S V x1 (V x0 5)) (fun r22 V23 => if r22 = (-1) then (bnd (f_Tokens_add S V23 x0 0 (V23 x0 5) 0) (fun r32 V33 => some (r32, V33))) else (bnd (f_Tokens_isLetter S V23 r22) (fun r26 V27 => if x2 = 0 then (b_Tokens_cutOne_J58 S  V27 x0 x1 r22 r26) else (if r26 = 0 then (bnd (f_Tokens_isDigit S V27 r22) (fun r29 V30 => if r29 = 0 then (b_Tokens_cutOne_J58 S  V30 x0 x1 r22 r26) else (b_Tokens_cutOne_J47 S  V30 x0))) else (b_Tokens_cutOne_J47 S  V27 x0)))))))
def b_Tokens_cut_J119 (S : ASh) (K14 : ASt → Int → Int → Option (Int × ASt)) (V : ASt) (x0 x1 x3 s0 s1 s2 : Int) : Option (Int × ASt) :=
  gd (isO S s0 9) (bnd (f_Tokens_cutOne S V s0 s1 s2) (fun r1 V2 => K14 V2 r1 (w32 (x3 + 1))))
def b_Tokens_cut_J98 (S : ASh) (K14 : ASt → Int → Int → Option (Int × ASt)) (V : ASt) (x0 x1 x3 x4 x5 : Int) : Option (Int × ASt) :=
  if x5 = 0 then (b_Tokens_cut_J119 S K14 V x0 x1 x3 x0 x1 0) else (if (V x0 5) = x4 then (b_Tokens_cut_J119 S K14 V x0 x1 x3 x0 x1 1) else (b_Tokens_cut_J119 S K14 V x0 x1 x3 x0 x1 0))
def b_Tokens_cut_L60 (S : ASh) (K14 : ASt → Int → Int → Option (Int × ASt)) (x0 x1 x3 x4 x5 : Int) : Nat → ASt → Option (Int × ASt)
  | 0, _ => none
  | n + 1, V =>
    gd (isO S x1 0) (if (V x1 0) ≤ (V x0 5) then (b_Tokens_cut_J98 S K14 V x0 x1 x3 x4 x5) else (bnd (f_Bytes_at S V x1 (V x0 5)) (fun r6 V7 => bnd (f_Tokens_isBlank S V7 r6) (fun r9 V10 => if r9 = 0 then (b_Tokens_cut_J98 S K14 V10 x0 x1 x3 x4 x5) else (wV (aset V10 x0 5 (w32 ((V10 x0 5) + 1))) (fun V12 => (b_Tokens_cut_L60 S K14 x0 x1 x3 x4 x5 n) V12 ))))))
def b_Tokens_cut_L14 (S : ASh) (x0 x1 : Int) : Nat → ASt → Int → Int → Option (Int × ASt)
  | 0, _, _, _ => none
  | n + 1, V, x2, x3 =>
    if 1801 ≤ x3 then (some (0, V)) else (if x2 = 0 then (some (0, V)) else (if x2 = 1 then (some (0, V)) else (if x2 = 3 then (b_Tokens_cut_L60 S ((b_Tokens_cut_L14 S x0 x1 n)) x0 x1 x3 (V x0 5) 1 FU V ) else (if x2 = 2 then (b_Tokens_cut_L60 S ((b_Tokens_cut_L14 S x0 x1 n)) x0 x1 x3 (V x0 5) 1 FU V ) else (if x2 < 256 then (b_Tokens_cut_L60 S ((b_Tokens_cut_L14 S x0 x1 n)) x0 x1 x3 (V x0 5) 0 FU V ) else (b_Tokens_cut_L60 S ((b_Tokens_cut_L14 S x0 x1 n)) x0 x1 x3 (V x0 5) 1 FU V ))))))
def f_Tokens_cut (S : ASh) (V : ASt) (x0 x1 : Int) : Option (Int × ASt) :=
  gd (isO S x0 9) (wV (aset V x0 4 0) (fun V13 => wV (aset V13 x0 5 0) (fun V14 => b_Tokens_cut_L14 S x0 x1 FU V14 (-1) 0)))
def f_Pre_checkIndex (S : ASh) (V : ASt) (x0 x1 x2 : Int) : Option (Int × ASt) :=
  if x0 < 0 then (none) else (if x0 < x1 then (some (x0, V)) else (none))
def f_Str_checkIndex (S : ASh) (V : ASt) (x0 x1 : Int) : Option (Int × ASt) :=
  bnd (f_Pre_checkIndex S V x0 x1 0) (fun r1 V2 => some (0, V2))
def f_Lat_charAt (S : ASh) (V : ASt) (x0 x1 : Int) : Option (Int × ASt) :=
  gd (isB x0) (bnd (f_Str_checkIndex S V x1 (sLn x0)) (fun r2 V3 => gd (isBi x0 x1) (gd (chOK (chr16 (and32 (sB x0 x1) 255))) (some ((chr16 (and32 (sB x0 x1) 255)), V3)))))
def f_Str_charAt (S : ASh) (V : ASt) (x0 x1 : Int) : Option (Int × ASt) :=
  gd (isS x0) (bnd (f_Str_isLatin1 S V x0) (fun r1 V2 => if r1 = 0 then (none) else (bnd (f_Lat_charAt S V2 (x0 - 3) x1) (fun r4 V5 => gd (chOK r4) (some (r4, V5))))))
def f_Reader_type (S : ASh) (V : ASt) (x0 : Int) : Option (Int × ASt) :=
  gd (isO S x0 5) (if (V x0 3) < 0 then (some (1, V)) else (gd (isO S (aF S x0 2) 9) (if (V (aF S x0 2) 4) ≤ (V x0 3) then (some (1, V)) else (gd (isA S (aF S (aF S x0 2) 1) 0 (V x0 3)) (some ((V (aF S (aF S x0 2) 1) (V x0 3)), V))))))
def f_Reader_content (S : ASh) (V : ASt) (x0 : Int) : Option (Int × ASt) :=
  gd (isO S x0 5) (if (V x0 3) < 0 then (some (0, V)) else (gd (isO S (aF S x0 2) 9) (if (V (aF S x0 2) 4) ≤ (V x0 3) then (some (0, V)) else (gd (isA S (aF S (aF S x0 2) 3) 0 (V x0 3)) (some ((V (aF S (aF S x0 2) 3) (V x0 3)), V))))))
def f_Reader_step (S : ASh) (V : ASt) (x0 : Int) : Option (Int × ASt) :=
  gd (isO S x0 5) (gd (isO S (aF S x0 2) 9) (if (V (aF S x0 2) 4) ≤ (w32 ((V x0 3) + 1)) then (some (0, V)) else (wV (aset V x0 3 (w32 ((V x0 3) + 1))) (fun V2 => some (0, V2)))))
def b_Reader_fail_J53 (S : ASh) (V : ASt) (x0 : Int) : Option (Int × ASt) :=
  gd (isO S (aF S x0 2) 9) (wV (aset V x0 3 (w32 ((V (aF S x0 2) 4) - 1))) (fun V2 => some (0, V2)))
def b_Reader_fail_J50 (S : ASh) (V : ASt) (x0 s0 s1 : Int) : Option (Int × ASt) :=
  gd (isO S s0 5) (wV (aset V s0 1 s1) (fun V4 => b_Reader_fail_J53 S  V4 x0))
def f_Reader_fail (S : ASh) (V : ASt) (x0 x1 : Int) : Option (Int × ASt) :=
  gd (isO S x0 5) (if (V x0 0) = 0 then (wV (aset V x0 0 x1) (fun V5 => if (V5 x0 3) < 0 then (b_Reader_fail_J50 S  V5 x0 x0 (-1)) else (gd (isO S (aF S x0 2) 9) (if (V5 (aF S x0 2) 4) ≤ (V5 x0 3) then (b_Reader_fail_J50 S  V5 x0 x0 (-1)) else (gd (isA S (aF S (aF S x0 2) 2) 0 (V5 x0 3)) (b_Reader_fail_J50 S  V5 x0 x0 (V5 (aF S (aF S x0 2) 2) (V5 x0 3)))))))) else (b_Reader_fail_J53 S  V x0))
def f_Reader_take (S : ASh) (V : ASt) (x0 x1 : Int) : Option (Int × ASt) :=
  gd (isO S x0 5) (bnd (f_Reader_type S V x0) (fun r1 V2 => if r1 = x1 then (bnd (f_Reader_step S V2 x0) (fun r7 V8 => some (0, V8))) else (bnd (f_Reader_fail S V2 x0 1) (fun r4 V5 => some (0, V5)))))
def f_Reader_takeNameOfPiece (S : ASh) (V : ASt) (x0 : Int) : Option (Int × ASt) :=
  gd (isO S x0 5) (bnd (f_Reader_content S V x0) (fun r1 V2 => gd (isO S (V x0 4) 1) (bnd (f_Game_pieceNamed S V2 (V x0 4) r1) (fun r4 V5 => bnd (f_Reader_type S V5 x0) (fun r8 V9 => if r8 = 2 then (if r4 = (-1) then (bnd (f_Reader_fail S V9 x0 3) (fun r14 V15 => some (r4, V15))) else (bnd (f_Reader_step S V9 x0) (fun r11 V12 => some (r4, V12)))) else (bnd (f_Reader_fail S V9 x0 1) (fun r17 V18 => some (r4, V18))))))))
def b_Reader_openBracket_J37 (S : ASh) (V : ASt) (x0 : Int) : Option (Int × ASt) :=
  wV (aset V x0 5 (w32 ((V x0 5) + 1))) (fun V1 => some (0, V1))
def f_Reader_openBracket (S : ASh) (V : ASt) (x0 x1 : Int) : Option (Int × ASt) :=
  gd (isO S x0 5) (bnd (f_Reader_type S V x0) (fun r2 V3 => if r2 = x1 then (if (V3 x0 5) < 8 then (bnd (f_Reader_step S V3 x0) (fun r5 V6 => b_Reader_openBracket_J37 S  V6 x0)) else (bnd (f_Reader_fail S V3 x0 5) (fun r8 V9 => b_Reader_openBracket_J37 S  V9 x0))) else (bnd (f_Reader_fail S V3 x0 1) (fun r11 V12 => b_Reader_openBracket_J37 S  V12 x0))))
def f_Reader_comparisonTold (S : ASh) (V : ASt) (x0 : Int) : Option (Int × ASt) :=
  gd (isO S x0 5) (bnd (f_Reader_type S V x0) (fun r1 V2 => if r1 = 60 then (some ((-9), V2)) else (if r1 = 61 then (some ((-11), V2)) else (if r1 = 62 then (some ((-10), V2)) else (some ((-1), V2))))))
def f_Reader_factorTold (S : ASh) (V : ASt) (x0 : Int) : Option (Int × ASt) :=
  gd (isO S x0 5) (bnd (f_Reader_type S V x0) (fun r1 V2 => if r1 = 37 then (some ((-6), V2)) else (if r1 = 42 then (some ((-4), V2)) else (if r1 = 47 then (some ((-5), V2)) else (some ((-1), V2))))))
