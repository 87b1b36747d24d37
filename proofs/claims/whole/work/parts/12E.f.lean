/-! printed by wip/gen/gen_all.py: functions of SundayGameModel -/
def f_M_is (S : ASh) (V : ASt) (x0 x1 x2 : Int) : Option (Int × ASt) :=
  if x0 < x1 then (some (0, V)) else (if x2 < x0 then (some (0, V)) else (some (1, V)))
def b_M_put_L3 (S : ASh) (x0 x1 : Int) : Nat → ASt → Int → Option (Int × ASt)
  | 0, _, _ => none
  | n + 1, V, x2 =>
    if x2 < 0 then (some (0, V)) else (gd (isA S (aF S x0 0) 0 (V x0 1)) (wV (aset V (aF S x0 0) (V x0 1) (and32 (shr32 x1 x2) 255)) (fun V2 => wV (aset V2 x0 1 (w32 ((V2 x0 1) + 1))) (fun V3 => (b_M_put_L3 S x0 x1 n) V3 (w32 (x2 + (-8)))))))
def f_M_put (S : ASh) (V : ASt) (x0 x1 : Int) : Option (Int × ASt) :=
  gd (isO S x0 13) (b_M_put_L3 S x0 x1 FU V 24)
def f_M_refuses (S : ASh) (V : ASt) (x0 x1 : Int) : Option (Int × ASt) :=
  gd (isO S x0 13) (gd (isA S (aF S x0 41) 0 x1) (wV (aset V (aF S x0 41) x1 (w32 ((V (aF S x0 41) x1) + 1))) (fun V2 => some ((-1), V2))))
def f_M_feed (S : ASh) (V : ASt) (x0 x1 x2 x3 x4 x5 : Int) : Option (Int × ASt) :=
  gd (isO S x0 13) (if (w32 ((V x0 1) + 20)) ≤ 1800 then (bnd (f_M_put S V x0 x1) (fun r1 V2 => bnd (f_M_put S V2 x0 x2) (fun r4 V5 => bnd (f_M_put S V5 x0 x3) (fun r7 V8 => bnd (f_M_put S V8 x0 x4) (fun r10 V11 => bnd (f_M_put S V11 x0 x5) (fun r13 V14 => some ((V14 x0 1), V14))))))) else (bnd (f_M_refuses S V x0 0) (fun r16 V17 => some (r16, V17))))
def b_M_end_J12 (S : ASh) (V : ASt) (x0 : Int) : Option (Int × ASt) :=
  bnd (f_M_refuses S V x0 0) (fun r1 V2 => if r1 < 0 then (some (0, V2)) else (some (1, V2)))
def f_M_end (S : ASh) (V : ASt) (x0 x1 : Int) : Option (Int × ASt) :=
  gd (isO S x0 13) (if x1 < 0 then (b_M_end_J12 S  V x0) else (if x1 ≤ (V x0 1) then (wV (aset V x0 1 x1) (fun V4 => some (1, V4))) else (b_M_end_J12 S  V x0)))
def f_M_blame (S : ASh) (V : ASt) (x0 x1 x2 : Int) : Option (Int × ASt) :=
  gd (isO S x0 13) (if (V x0 8) ≤ 0 then (wV (aset V x0 8 x1) (fun V1 => wV (aset V1 x0 9 x2) (fun V2 => some (0, V2)))) else (some (0, V)))
def f_M_isLetter (S : ASh) (V : ASt) (x0 : Int) : Option (Int × ASt) :=
  if x0 < 97 then (some (0, V)) else (if 122 < x0 then (some (0, V)) else (some (1, V)))
def f_M_isDigit (S : ASh) (V : ASt) (x0 : Int) : Option (Int × ASt) :=
  if x0 < 48 then (some (0, V)) else (if 57 < x0 then (some (0, V)) else (some (1, V)))
def b_M_ahead_J282 (S : ASh) (K200 : ASt → Int → Int → Option (Int × ASt)) (V : ASt) (x0 x1 x2 x3 x4 x5 : Int) : Option (Int × ASt) :=
  if x4 ≤ x5 then (K200 V (w32 (x1 + 1)) (w32 (x5 + 1))) else (if x3 = 0 then (K200 V (w32 (x1 + 1)) (w32 (x5 + 1))) else (gd (isA S (aF S x0 0) 0 x1) (wV (aset V x0 6 (w32 ((w32 ((w32 (10 * (V x0 6))) + (V (aF S x0 0) x1))) - 48))) (fun V2 => K200 V2 (w32 (x1 + 1)) (w32 (x5 + 1))))))
def b_M_ahead_J252 (S : ASh) (K200 : ASt → Int → Int → Option (Int × ASt)) (V : ASt) (x0 x1 x2 x3 x4 x5 : Int) : Option (Int × ASt) :=
  if x4 ≤ x5 then (b_M_ahead_J282 S K200 V x0 x1 x2 x3 x4 x5) else (if x2 = 0 then (b_M_ahead_J282 S K200 V x0 x1 x2 x3 x4 x5) else (gd (isA S (aF S x0 0) 0 x1) (wV (aset V x0 7 (or64 (shl64 (V x0 7) 8) (V (aF S x0 0) x1))) (fun V4 => b_M_ahead_J282 S K200 V4 x0 x1 x2 x3 x4 x5))))
def b_M_ahead_J239 (S : ASh) (K200 : ASt → Int → Int → Option (Int × ASt)) (V : ASt) (x0 x1 x2 x3 x4 x5 : Int) : Option (Int × ASt) :=
  if x5 = x4 then (bnd (f_M_blame S V x0 1 x1) (fun r5 V6 => b_M_ahead_J252 S K200 V6 x0 x1 x2 x3 x4 x5)) else (b_M_ahead_J252 S K200 V x0 x1 x2 x3 x4 x5)
def b_M_ahead_J323 (S : ASh) (V : ASt) (x0 x1 : Int) : Option (Int × ASt) :=
  wV (aset V x0 5 x1) (fun V8 => some (0, V8))
def b_M_ahead_L200 (S : ASh) (x0 x2 x3 x4 : Int) : Nat → ASt → Int → Int → Option (Int × ASt)
  | 0, _, _, _ => none
  | n + 1, V, x1, x5 =>
    if (V x0 2) ≤ x1 then (b_M_ahead_J323 S  V x0 x1) else (if x2 = 0 then (gd (isA S (aF S x0 0) 0 x1) (bnd (f_M_isDigit S V (V (aF S x0 0) x1)) (fun r10 V11 => if r10 = 0 then (b_M_ahead_J323 S  V11 x0 x1) else (b_M_ahead_J239 S ((b_M_ahead_L200 S x0 x2 x3 x4 n)) V11 x0 x1 x2 x3 x4 x5)))) else (gd (isA S (aF S x0 0) 0 x1) (bnd (f_M_isLetter S V (V (aF S x0 0) x1)) (fun r14 V15 => if r14 = 0 then (b_M_ahead_J323 S  V15 x0 x1) else (b_M_ahead_J239 S ((b_M_ahead_L200 S x0 x2 x3 x4 n)) V15 x0 x1 x2 x3 x4 x5)))))
def b_M_ahead_J182 (S : ASh) (V : ASt) (x0 x1 x2 x3 s0 s1 : Int) : Option (Int × ASt) :=
  gd (isO S s0 13) (wV (aset V s0 3 s1) (fun V18 => if x2 = 0 then (b_M_ahead_L200 S x0 x2 x3 4 FU V18 x1 0) else (b_M_ahead_L200 S x0 x2 x3 6 FU V18 x1 0)))
def b_M_ahead_J172 (S : ASh) (V : ASt) (x0 x1 x2 x3 : Int) : Option (Int × ASt) :=
  if x2 = 0 then (b_M_ahead_J182 S  V x0 x1 x2 x3 x0 2) else (b_M_ahead_J182 S  V x0 x1 x2 x3 x0 1)
def b_M_ahead_J131 (S : ASh) (V : ASt) (x0 x1 x2 x3 : Int) : Option (Int × ASt) :=
  wV (aset V x0 6 0) (fun V19 => wV (aset V19 x0 7 0) (fun V20 => wV (aset V20 x0 3 3) (fun V21 => wV (aset V21 x0 5 (w32 (x1 + 1))) (fun V22 => if x2 = 0 then (if x3 = 0 then (gd (isA S (aF S x0 0) 0 x1) (wV (aset V22 x0 6 (V22 (aF S x0 0) x1)) (fun V24 => some (0, V24)))) else (b_M_ahead_J172 S  V22 x0 x1 x2 x3)) else (b_M_ahead_J172 S  V22 x0 x1 x2 x3)))))
def b_M_ahead_J125 (S : ASh) (V : ASt) (x0 x1 x2 x3 : Int) : Option (Int × ASt) :=
  bnd (f_M_blame S V x0 1 x1) (fun r25 V26 => b_M_ahead_J131 S  V26 x0 x1 x2 x3)
def b_M_ahead_J93 (S : ASh) (V : ASt) (x0 x1 x2 x3 : Int) : Option (Int × ASt) :=
  if x1 ≤ 0 then (b_M_ahead_J131 S  V x0 x1 x2 x3) else (gd (isA S (aF S x0 0) 0 (w32 (x1 - 1))) (bnd (f_M_isLetter S V (V (aF S x0 0) (w32 (x1 - 1)))) (fun r29 V30 => if r29 = 0 then (bnd (f_M_isDigit S V30 (V30 (aF S x0 0) (w32 (x1 - 1)))) (fun r32 V33 => if r32 = 0 then (b_M_ahead_J131 S  V33 x0 x1 x2 x3) else (b_M_ahead_J125 S  V33 x0 x1 x2 x3))) else (b_M_ahead_J125 S  V30 x0 x1 x2 x3))))
def b_M_ahead_J41 (S : ASh) (V : ASt) (x0 x1 : Int) : Option (Int × ASt) :=
  wV (aset V x0 4 x1) (fun V35 => wV (aset V35 x0 5 x1) (fun V36 => wV (aset V36 x0 3 0) (fun V37 => if x1 < (V37 x0 2) then (gd (isA S (aF S x0 0) 0 x1) (bnd (f_M_isLetter S V37 (V37 (aF S x0 0) x1)) (fun r39 V40 => bnd (f_M_isDigit S V40 (V40 (aF S x0 0) x1)) (fun r42 V43 => if r39 = 0 then (if r42 = 0 then (b_M_ahead_J131 S  V43 x0 x1 r39 r42) else (b_M_ahead_J93 S  V43 x0 x1 r39 r42)) else (b_M_ahead_J93 S  V43 x0 x1 r39 r42))))) else (some (0, V37)))))
def b_M_ahead_L5 (S : ASh) (x0 : Int) : Nat → ASt → Int → Option (Int × ASt)
  | 0, _, _ => none
  | n + 1, V, x1 =>
    if (V x0 2) ≤ x1 then (b_M_ahead_J41 S  V x0 x1) else (gd (isA S (aF S x0 0) 0 x1) (if (V (aF S x0 0) x1) = 32 then ((b_M_ahead_L5 S x0 n) V (w32 (x1 + 1))) else (if (V (aF S x0 0) x1) = 10 then ((b_M_ahead_L5 S x0 n) V (w32 (x1 + 1))) else (b_M_ahead_J41 S  V x0 x1))))
def f_M_ahead (S : ASh) (V : ASt) (x0 : Int) : Option (Int × ASt) :=
  gd (isO S x0 13) (b_M_ahead_L5 S x0 FU V (V x0 5))
def f_M_isSign (S : ASh) (V : ASt) (x0 x1 : Int) : Option (Int × ASt) :=
  gd (isO S x0 13) (if (V x0 3) = 3 then (if (V x0 6) = x1 then (some (1, V)) else (some (0, V))) else (some (0, V)))
def f_M_isWord (S : ASh) (V : ASt) (x0 x1 : Int) : Option (Int × ASt) :=
  gd (isO S x0 13) (if (V x0 3) = 1 then (if (cmp64 (V x0 7) x1) = 0 then (some (1, V)) else (some (0, V))) else (some (0, V)))
def b_M_must_I_J17 (S : ASh) (V : ASt) (x0 : Int) : Option (Int × ASt) :=
  if (V x0 8) = 0 then (bnd (f_M_ahead S V x0) (fun r1 V2 => some (0, V2))) else (some (0, V))
def f_M_must_I (S : ASh) (V : ASt) (x0 x1 : Int) : Option (Int × ASt) :=
  gd (isO S x0 13) (bnd (f_M_isSign S V x0 x1) (fun r4 V5 => if r4 = 0 then (bnd (f_M_blame S V5 x0 1 (V5 x0 4)) (fun r7 V8 => b_M_must_I_J17 S  V8 x0)) else (b_M_must_I_J17 S  V5 x0)))
def f_M_isOwn (S : ASh) (V : ASt) (x0 x1 : Int) : Option (Int × ASt) :=
  gd (isO S x0 13) (if (cmp64 x1 422775452260) = 0 then (some (1, V)) else (if (cmp64 x1 482804589413) = 0 then (some (1, V)) else (if (cmp64 x1 24948) = 0 then (some (1, V)) else (if (cmp64 x1 28518) = 0 then (some (1, V)) else (if (cmp64 x1 1702258034) = 0 then (some (1, V)) else (if (cmp64 x1 495875089259) = 0 then (some (1, V)) else (if (cmp64 x1 465726301555) = 0 then (some (1, V)) else (if (cmp64 x1 431415719795) = 0 then (some (1, V)) else (if (cmp64 x1 2003398259) = 0 then (some (1, V)) else (if (cmp64 x1 7168377) = 0 then (some (1, V)) else (if (cmp64 x1 7237492) = 0 then (some (1, V)) else (if (cmp64 x1 30064) = 0 then (some (1, V)) else (if (cmp64 x1 1685026670) = 0 then (some (1, V)) else (if (cmp64 x1 7300710) = 0 then (some (1, V)) else (if (cmp64 x1 2003330414) = 0 then (some (1, V)) else (if (cmp64 x1 28530) = 0 then (some (1, V)) else (if (cmp64 x1 6385252) = 0 then (some (1, V)) else (if (cmp64 x1 6384748) = 0 then (some (1, V)) else (if (cmp64 x1 1936748404) = 0 then (some (1, V)) else (if (cmp64 x1 1735352684) = 0 then (some (1, V)) else (if (cmp64 x1 7825519) = 0 then (some (1, V)) else (if (cmp64 x1 7170414) = 0 then (some (1, V)) else (if (cmp64 x1 7168376) = 0 then (some (1, V)) else (some (0, V)))))))))))))))))))))))))
def b_M_named_L2 (S : ASh) (x0 x1 : Int) : Nat → ASt → Int → Option (Int × ASt)
  | 0, _, _ => none
  | n + 1, V, x3 =>
    gd (isA S (aF S x0 14) 0 (V x0 30)) (if (V (aF S x0 14) (V x0 30)) ≤ x3 then (some ((-1), V)) else (gd (isA S (aF S x0 15) 1 (w32 ((w32 (2 * (V x0 30))) + x3))) (if (cmp64 (V (aF S x0 15) (w32 ((w32 (2 * (V x0 30))) + x3))) x1) = 0 then (some (x3, V)) else ((b_M_named_L2 S x0 x1 n) V (w32 (x3 + 1))))))
def f_M_named (S : ASh) (V : ASt) (x0 x1 : Int) : Option (Int × ASt) :=
  gd (isO S x0 13) (b_M_named_L2 S x0 x1 FU V 0)
def b_M_number_J54 (S : ASh) (V : ASt) (x0 : Int) : Option (Int × ASt) :=
  if (V x0 8) = 0 then (bnd (f_M_ahead S V x0) (fun r1 V2 => some ((V x0 6), V2))) else (some ((V x0 6), V))
def b_M_number_J26 (S : ASh) (V : ASt) (x0 x1 x2 : Int) : Option (Int × ASt) :=
  if (V x0 8) = 0 then (bnd (f_M_is S V (V x0 6) x1 x2) (fun r4 V5 => if r4 = 0 then (bnd (f_M_blame S V5 x0 4 (V5 x0 4)) (fun r7 V8 => b_M_number_J54 S  V8 x0)) else (b_M_number_J54 S  V5 x0))) else (b_M_number_J54 S  V x0)
def f_M_number (S : ASh) (V : ASt) (x0 x1 x2 : Int) : Option (Int × ASt) :=
  gd (isO S x0 13) (if (V x0 8) ≤ 0 then (if (V x0 3) = 2 then (b_M_number_J26 S  V x0 x1 x2) else (bnd (f_M_blame S V x0 1 (V x0 4)) (fun r10 V11 => b_M_number_J26 S  V11 x0 x1 x2))) else (some (0, V)))
def f_M_add (S : ASh) (V : ASt) (x0 x1 x2 : Int) : Option (Int × ASt) :=
  gd (isO S x0 13) (gd (isA S (aF S x0 27) 0 (w32 ((w32 (1800 * (V x0 30))) + (V x0 29)))) (wV (aset V (aF S x0 27) (w32 ((w32 (1800 * (V x0 30))) + (V x0 29))) x1) (fun V2 => gd (isA S (aF S x0 28) 0 (w32 ((w32 (1800 * (V2 x0 30))) + (V2 x0 29)))) (wV (aset V2 (aF S x0 28) (w32 ((w32 (1800 * (V2 x0 30))) + (V2 x0 29))) x2) (fun V4 => wV (aset V4 x0 29 (w32 ((V4 x0 29) + 1))) (fun V5 => some (0, V5)))))))
def f_M_rank (S : ASh) (V : ASt) (x0 : Int) : Option (Int × ASt) :=
  if x0 = 21 then (some (1, V)) else (if x0 = 20 then (some (2, V)) else (if x0 = 22 then (some (3, V)) else (if x0 = 17 then (some (4, V)) else (if x0 = 18 then (some (4, V)) else (if x0 = 19 then (some (4, V)) else (if x0 = 10 then (some (5, V)) else (if x0 = 11 then (some (5, V)) else (some (6, V)))))))))
def b_M_joins_L0 (S : ASh) (x0 x1 : Int) : Nat → ASt → Option (Int × ASt)
  | 0, _ => none
  | n + 1, V =>
    gd (isA S (aF S x0 35) 0 (w32 ((V x0 36) - 1))) (if (V x0 39) ≤ (V (aF S x0 35) (w32 ((V x0 36) - 1))) then (some (0, V)) else (gd (isA S (aF S x0 38) 0 (w32 ((V x0 39) - 1))) (bnd (f_M_rank S V (V (aF S x0 38) (w32 ((V x0 39) - 1)))) (fun r3 V4 => if r3 < x1 then (some (0, V4)) else (wV (aset V4 x0 39 (w32 ((V4 x0 39) - 1))) (fun V6 => gd (isA S (aF S x0 38) 0 (V6 x0 39)) (bnd (f_M_add S V6 x0 (V6 (aF S x0 38) (V6 x0 39)) 0) (fun r8 V9 => (b_M_joins_L0 S x0 x1 n) V9 ))))))))
def f_M_joins (S : ASh) (V : ASt) (x0 x1 : Int) : Option (Int × ASt) :=
  gd (isO S x0 13) (b_M_joins_L0 S x0 x1 FU V )
def f_M_holdsBack (S : ASh) (V : ASt) (x0 x1 : Int) : Option (Int × ASt) :=
  gd (isO S x0 13) (gd (isA S (aF S x0 38) 0 (V x0 39)) (wV (aset V (aF S x0 38) (V x0 39) x1) (fun V2 => wV (aset V2 x0 39 (w32 ((V2 x0 39) + 1))) (fun V3 => some (0, V3)))))
def f_M_pushes (S : ASh) (V : ASt) (x0 x1 : Int) : Option (Int × ASt) :=
  gd (isO S x0 13) (gd (isA S (aF S x0 31) 0 (V x0 36)) (wV (aset V (aF S x0 31) (V x0 36) x1) (fun V2 => gd (isA S (aF S x0 32) 0 (V2 x0 36)) (wV (aset V2 (aF S x0 32) (V2 x0 36) 0) (fun V4 => gd (isA S (aF S x0 33) 2 (V4 x0 36)) (wV (aset V4 (aF S x0 33) (V4 x0 36) 1) (fun V6 => gd (isA S (aF S x0 35) 0 (V6 x0 36)) (wV (aset V6 (aF S x0 35) (V6 x0 36) (V6 x0 39)) (fun V8 => wV (aset V8 x0 36 (w32 ((V8 x0 36) + 1))) (fun V9 => some (0, V9)))))))))))
def b_M_opens_J18 (S : ASh) (V : ASt) (x0 x1 : Int) : Option (Int × ASt) :=
  if (V x0 8) ≤ 0 then (wV (aset V x0 37 (w32 ((V x0 37) + 1))) (fun V1 => bnd (f_M_ahead S V1 x0) (fun r2 V3 => bnd (f_M_pushes S V3 x0 x1) (fun r5 V6 => some (0, V6))))) else (some (0, V))
def f_M_opens (S : ASh) (V : ASt) (x0 x1 : Int) : Option (Int × ASt) :=
  gd (isO S x0 13) (if (V x0 37) = 8 then (bnd (f_M_blame S V x0 5 (V x0 4)) (fun r8 V9 => b_M_opens_J18 S  V9 x0 x1)) else (b_M_opens_J18 S  V x0 x1))
def f_M_isTest (S : ASh) (V : ASt) (x0 : Int) : Option (Int × ASt) :=
  if x0 = 1 then (some (1, V)) else (if x0 = 5 then (some (1, V)) else (some (0, V)))
def b_M_operand_J197 (S : ASh) (V : ASt) (x0 x3 : Int) : Option (Int × ASt) :=
  bnd (f_M_opens S V x0 3) (fun r1 V2 => if (V2 x0 8) = 0 then (gd (isA S (aF S x0 34) 0 (w32 ((V2 x0 36) - 1))) (wV (aset V2 (aF S x0 34) (w32 ((V2 x0 36) - 1)) x3) (fun V5 => some (0, V5)))) else (some (0, V2)))
def b_M_operand_J174 (S : ASh) (V : ASt) (x0 s0 : Int) : Option (Int × ASt) :=
  bnd (f_M_ahead S V x0) (fun r6 V7 => bnd (f_M_isSign S V7 x0 40) (fun r9 V10 => if r9 = 0 then (bnd (f_M_blame S V10 x0 1 (V10 x0 4)) (fun r12 V13 => b_M_operand_J197 S  V13 x0 s0)) else (b_M_operand_J197 S  V10 x0 s0)))
def b_M_operand_J157 (S : ASh) (V : ASt) (x0 : Int) : Option (Int × ASt) :=
  bnd (f_M_isWord S V x0 7170414) (fun r15 V16 => if r15 = 0 then (b_M_operand_J174 S  V16 x0 16) else (b_M_operand_J174 S  V16 x0 15))
def b_M_operand_J373 (S : ASh) (V : ASt) (x0 x3 : Int) : Option (Int × ASt) :=
  if (V x0 8) ≤ 0 then (bnd (f_M_add S V x0 x3 (V x0 6)) (fun r18 V19 => bnd (f_M_ahead S V19 x0) (fun r21 V22 => some (1, V22)))) else (some (1, V))
def b_M_operand_J359 (S : ASh) (V : ASt) (x0 x3 : Int) : Option (Int × ASt) :=
  if x3 = (-1) then (bnd (f_M_blame S V x0 1 (V x0 4)) (fun r24 V25 => b_M_operand_J373 S  V25 x0 x3)) else (b_M_operand_J373 S  V x0 x3)
def b_M_operand_J336 (S : ASh) (V : ASt) (x0 x3 x4 : Int) : Option (Int × ASt) :=
  if x4 = 0 then (b_M_operand_J359 S  V x0 x3) else (if (V x0 8) = 0 then (bnd (f_M_named S V x0 (V x0 7)) (fun r27 V28 => b_M_operand_J359 S  V28 x0 (w32 (4 + r27)))) else (b_M_operand_J359 S  V x0 x3))
def b_M_operand_J308 (S : ASh) (V : ASt) (x0 x3 s0 : Int) : Option (Int × ASt) :=
  if s0 = 0 then (b_M_operand_J336 S  V x0 x3 s0) else (bnd (f_M_named S V x0 (V x0 7)) (fun r30 V31 => if r30 = (-1) then (bnd (f_M_blame S V31 x0 3 (V31 x0 4)) (fun r33 V34 => b_M_operand_J336 S  V34 x0 x3 s0)) else (b_M_operand_J336 S  V31 x0 x3 s0)))
def b_M_operand_J278 (S : ASh) (V : ASt) (x0 s0 : Int) : Option (Int × ASt) :=
  if s0 = (-1) then (if (V x0 3) = 1 then (bnd (f_M_isOwn S V x0 (V x0 7)) (fun r36 V37 => if r36 = 0 then (b_M_operand_J308 S  V37 x0 s0 1) else (b_M_operand_J308 S  V37 x0 s0 0))) else (b_M_operand_J308 S  V x0 s0 0)) else (b_M_operand_J308 S  V x0 s0 0)
def b_M_operand_J121 (S : ASh) (V : ASt) (x0 : Int) : Option (Int × ASt) :=
  bnd (f_M_isSign S V x0 40) (fun r39 V40 => if r39 = 0 then (bnd (f_M_isWord S V40 x0 7170414) (fun r42 V43 => if r42 = 0 then (bnd (f_M_isWord S V43 x0 7168376) (fun r45 V46 => if r45 = 0 then (if (V46 x0 3) = 2 then (b_M_operand_J278 S  V46 x0 0) else (bnd (f_M_isWord S V46 x0 1936748404) (fun r48 V49 => if r48 = 0 then (bnd (f_M_isWord S V49 x0 1735352684) (fun r51 V52 => if r51 = 0 then (bnd (f_M_isWord S V52 x0 7825519) (fun r54 V55 => if r54 = 0 then (b_M_operand_J278 S  V55 x0 (-1)) else (b_M_operand_J278 S  V55 x0 3))) else (b_M_operand_J278 S  V52 x0 2))) else (b_M_operand_J278 S  V49 x0 1)))) else (b_M_operand_J157 S  V46 x0))) else (b_M_operand_J157 S  V43 x0))) else (bnd (f_M_opens S V40 x0 2) (fun r57 V58 => some (0, V58))))
def b_M_operand_J87 (S : ASh) (V : ASt) (x0 x1 x2 : Int) : Option (Int × ASt) :=
  if x2 = 0 then (b_M_operand_J121 S  V x0) else (bnd (f_M_isWord S V x0 6384748) (fun r60 V61 => if r60 = 0 then (b_M_operand_J121 S  V61 x0) else (bnd (f_M_add S V61 x0 9 0) (fun r63 V64 => gd (isA S (aF S x0 32) 0 x1) (wV (aset V64 (aF S x0 32) x1 2) (fun V67 => bnd (f_M_ahead S V67 x0) (fun r68 V69 => some (1, V69))))))))
def b_M_operand_J60 (S : ASh) (V : ASt) (x0 x1 x2 : Int) : Option (Int × ASt) :=
  gd (isA S (aF S x0 33) 2 x1) (wV (aset V (aF S x0 33) x1 0) (fun V72 => if x2 = 0 then (b_M_operand_J87 S  V72 x0 x1 x2) else (bnd (f_M_isSign S V72 x0 91) (fun r73 V74 => if r73 = 0 then (b_M_operand_J87 S  V74 x0 x1 x2) else (bnd (f_M_opens S V74 x0 5) (fun r76 V77 => some (0, V77)))))))
def b_M_operand_J33 (S : ASh) (V : ASt) (x0 x1 s0 : Int) : Option (Int × ASt) :=
  if s0 = 0 then (b_M_operand_J60 S  V x0 x1 s0) else (bnd (f_M_isWord S V x0 7237492) (fun r79 V80 => if r79 = 0 then (b_M_operand_J60 S  V80 x0 x1 s0) else (bnd (f_M_holdsBack S V80 x0 22) (fun r82 V83 => bnd (f_M_ahead S V83 x0) (fun r85 V86 => some (0, V86))))))
def f_M_operand (S : ASh) (V : ASt) (x0 : Int) : Option (Int × ASt) :=
  gd (isO S x0 13) (gd (isA S (aF S x0 31) 0 (w32 ((V x0 36) - 1))) (bnd (f_M_isTest S V (V (aF S x0 31) (w32 ((V x0 36) - 1)))) (fun r89 V90 => if r89 = 0 then (b_M_operand_J33 S  V90 x0 (w32 ((V x0 36) - 1)) 0) else (gd (isA S (aF S x0 33) 2 (w32 ((V x0 36) - 1))) (if (V90 (aF S x0 33) (w32 ((V x0 36) - 1))) = 0 then (b_M_operand_J33 S  V90 x0 (w32 ((V x0 36) - 1)) 0) else (b_M_operand_J33 S  V90 x0 (w32 ((V x0 36) - 1)) 1))))))
def b_M_goesOn_J161 (S : ASh) (V : ASt) (x0 s0 s1 : Int) : Option (Int × ASt) :=
  gd (isO S s0 13) (bnd (f_M_holdsBack S V s0 s1) (fun r1 V2 => bnd (f_M_ahead S V2 x0) (fun r5 V6 => wV (aset V6 x0 40 0) (fun V8 => some (1, V8)))))
def b_M_goesOn_J99 (S : ASh) (V : ASt) (x0 s0 s1 : Int) : Option (Int × ASt) :=
  gd (isO S s0 13) (bnd (f_M_joins S V s0 s1) (fun r9 V10 => bnd (f_M_isSign S V10 x0 43) (fun r13 V14 => if r13 = 0 then (bnd (f_M_isSign S V14 x0 45) (fun r16 V17 => if r16 = 0 then (bnd (f_M_isSign S V17 x0 42) (fun r19 V20 => if r19 = 0 then (bnd (f_M_isSign S V20 x0 47) (fun r22 V23 => if r22 = 0 then (b_M_goesOn_J161 S  V23 x0 x0 14) else (b_M_goesOn_J161 S  V23 x0 x0 13))) else (b_M_goesOn_J161 S  V20 x0 x0 12))) else (b_M_goesOn_J161 S  V17 x0 x0 11))) else (b_M_goesOn_J161 S  V14 x0 x0 10))))
def b_M_goesOn_J74 (S : ASh) (V : ASt) (x0 : Int) : Option (Int × ASt) :=
  bnd (f_M_isSign S V x0 43) (fun r25 V26 => if r25 = 0 then (bnd (f_M_isSign S V26 x0 45) (fun r28 V29 => if r28 = 0 then (b_M_goesOn_J99 S  V29 x0 x0 6) else (b_M_goesOn_J99 S  V29 x0 x0 5))) else (b_M_goesOn_J99 S  V26 x0 x0 5))
def b_M_goesOn_J251 (S : ASh) (V : ASt) (x0 x1 s0 s1 : Int) : Option (Int × ASt) :=
  gd (isO S s0 13) (bnd (f_M_holdsBack S V s0 s1) (fun r31 V32 => gd (isA S (aF S x0 32) 0 x1) (wV (aset V32 (aF S x0 32) x1 1) (fun V36 => bnd (f_M_ahead S V36 x0) (fun r37 V38 => wV (aset V38 x0 40 0) (fun V40 => some (1, V40)))))))
def b_M_goesOn_J215 (S : ASh) (V : ASt) (x0 x1 : Int) : Option (Int × ASt) :=
  bnd (f_M_joins S V x0 5) (fun r41 V42 => bnd (f_M_isSign S V42 x0 60) (fun r44 V45 => if r44 = 0 then (bnd (f_M_isSign S V45 x0 62) (fun r47 V48 => if r47 = 0 then (b_M_goesOn_J251 S  V48 x0 x1 x0 19) else (b_M_goesOn_J251 S  V48 x0 x1 x0 18))) else (b_M_goesOn_J251 S  V45 x0 x1 x0 17)))
def b_M_goesOn_J359 (S : ASh) (V : ASt) (x0 x1 s0 s1 : Int) : Option (Int × ASt) :=
  gd (isO S s0 13) (bnd (f_M_holdsBack S V s0 s1) (fun r50 V51 => gd (isA S (aF S x0 32) 0 x1) (wV (aset V51 (aF S x0 32) x1 0) (fun V55 => gd (isA S (aF S x0 33) 2 x1) (wV (aset V55 (aF S x0 33) x1 1) (fun V57 => bnd (f_M_ahead S V57 x0) (fun r58 V59 => wV (aset V59 x0 40 0) (fun V61 => some (1, V61)))))))))
def b_M_goesOn_J343 (S : ASh) (V : ASt) (x0 x1 x4 s0 s1 : Int) : Option (Int × ASt) :=
  gd (isO S s0 13) (bnd (f_M_joins S V s0 s1) (fun r62 V63 => if x4 = 0 then (b_M_goesOn_J359 S  V63 x0 x1 x0 21) else (b_M_goesOn_J359 S  V63 x0 x1 x0 20)))
def b_M_goesOn_J314 (S : ASh) (V : ASt) (x0 x1 : Int) : Option (Int × ASt) :=
  if (V x0 8) ≤ 0 then (bnd (f_M_isWord S V x0 6385252) (fun r66 V67 => if r66 = 0 then (b_M_goesOn_J343 S  V67 x0 x1 r66 x0 1) else (b_M_goesOn_J343 S  V67 x0 x1 r66 x0 2))) else (some (0, V))
def b_M_goesOn_J296 (S : ASh) (V : ASt) (x0 x1 : Int) : Option (Int × ASt) :=
  gd (isA S (aF S x0 32) 0 x1) (if (V (aF S x0 32) x1) = 0 then (bnd (f_M_blame S V x0 1 (V x0 4)) (fun r70 V71 => b_M_goesOn_J314 S  V71 x0 x1)) else (b_M_goesOn_J314 S  V x0 x1))
def b_M_goesOn_J451 (S : ASh) (V : ASt) (x0 x1 : Int) : Option (Int × ASt) :=
  if (V x0 8) ≤ 0 then (bnd (f_M_joins S V x0 1) (fun r73 V74 => gd (isA S (aF S x0 31) 0 x1) (wV (aset V74 (aF S x0 31) x1 4) (fun V77 => bnd (f_M_ahead S V77 x0) (fun r78 V79 => wV (aset V79 x0 40 0) (fun V81 => some (1, V81))))))) else (some (0, V))
def b_M_goesOn_J578 (S : ASh) (V : ASt) (x0 : Int) : Option (Int × ASt) :=
  bnd (f_M_ahead S V x0) (fun r82 V83 => some (1, V83))
def b_M_goesOn_J561 (S : ASh) (V : ASt) (x0 x2 : Int) : Option (Int × ASt) :=
  if x2 = 5 then (gd (isA S (aF S x0 32) 0 (w32 ((V x0 36) - 1))) (wV (aset V (aF S x0 32) (w32 ((V x0 36) - 1)) 2) (fun V86 => b_M_goesOn_J578 S  V86 x0))) else (b_M_goesOn_J578 S  V x0)
def b_M_goesOn_J511 (S : ASh) (V : ASt) (x0 x1 x2 : Int) : Option (Int × ASt) :=
  if (V x0 8) ≤ 0 then (bnd (f_M_joins S V x0 1) (fun r87 V88 => wV (aset V88 x0 36 (w32 ((V88 x0 36) - 1))) (fun V90 => wV (aset V90 x0 37 (w32 ((V90 x0 37) - 1))) (fun V91 => if x2 = 4 then (gd (isA S (aF S x0 34) 0 x1) (bnd (f_M_add S V91 x0 (V91 (aF S x0 34) x1) 0) (fun r93 V94 => b_M_goesOn_J561 S  V94 x0 x2))) else (b_M_goesOn_J561 S  V91 x0 x2))))) else (some (0, V))
def b_M_goesOn_J496 (S : ASh) (V : ASt) (x0 x1 x2 s0 s1 : Int) : Option (Int × ASt) :=
  gd (isO S s0 13) (bnd (f_M_isSign S V s0 s1) (fun r96 V97 => if r96 = 0 then (bnd (f_M_blame S V97 x0 1 (V97 x0 4)) (fun r100 V101 => b_M_goesOn_J511 S  V101 x0 x1 x2)) else (b_M_goesOn_J511 S  V97 x0 x1 x2)))
def b_M_goesOn_J409 (S : ASh) (V : ASt) (x0 x1 x2 : Int) : Option (Int × ASt) :=
  if 2 ≤ x2 then (if x2 = 3 then (bnd (f_M_isSign S V x0 44) (fun r103 V104 => if r103 = 0 then (bnd (f_M_blame S V104 x0 1 (V104 x0 4)) (fun r106 V107 => b_M_goesOn_J451 S  V107 x0 x1)) else (b_M_goesOn_J451 S  V104 x0 x1))) else (if x2 = 5 then (b_M_goesOn_J496 S  V x0 x1 x2 x0 93) else (b_M_goesOn_J496 S  V x0 x1 x2 x0 41))) else (if (V x0 8) = 0 then (bnd (f_M_joins S V x0 1) (fun r109 V110 => some (0, V110))) else (some (0, V)))
def b_M_goesOn_J387 (S : ASh) (V : ASt) (x0 x1 x2 x3 : Int) : Option (Int × ASt) :=
  if x3 = 0 then (b_M_goesOn_J409 S  V x0 x1 x2) else (gd (isA S (aF S x0 32) 0 x1) (if (V (aF S x0 32) x1) = 0 then (bnd (f_M_blame S V x0 1 (V x0 4)) (fun r113 V114 => b_M_goesOn_J409 S  V114 x0 x1 x2)) else (b_M_goesOn_J409 S  V x0 x1 x2)))
def b_M_goesOn_J272 (S : ASh) (V : ASt) (x0 x1 x2 x3 : Int) : Option (Int × ASt) :=
  if x3 = 0 then (b_M_goesOn_J387 S  V x0 x1 x2 x3) else (bnd (f_M_isWord S V x0 6385252) (fun r116 V117 => if r116 = 0 then (bnd (f_M_isWord S V117 x0 28530) (fun r119 V120 => if r119 = 0 then (b_M_goesOn_J387 S  V120 x0 x1 x2 x3) else (b_M_goesOn_J296 S  V120 x0 x1))) else (b_M_goesOn_J296 S  V117 x0 x1)))
def b_M_goesOn_J175 (S : ASh) (V : ASt) (x0 x1 x2 x3 : Int) : Option (Int × ASt) :=
  if x3 = 0 then (b_M_goesOn_J272 S  V x0 x1 x2 x3) else (gd (isA S (aF S x0 32) 0 x1) (if (V (aF S x0 32) x1) = 0 then (bnd (f_M_isSign S V x0 60) (fun r123 V124 => if r123 = 0 then (bnd (f_M_isSign S V124 x0 62) (fun r126 V127 => if r126 = 0 then (bnd (f_M_isSign S V127 x0 61) (fun r129 V130 => if r129 = 0 then (b_M_goesOn_J272 S  V130 x0 x1 x2 x3) else (b_M_goesOn_J215 S  V130 x0 x1))) else (b_M_goesOn_J215 S  V127 x0 x1))) else (b_M_goesOn_J215 S  V124 x0 x1))) else (b_M_goesOn_J272 S  V x0 x1 x2 x3)))
def f_M_goesOn (S : ASh) (V : ASt) (x0 : Int) : Option (Int × ASt) :=
  gd (isO S x0 13) (gd (isA S (aF S x0 31) 0 (w32 ((V x0 36) - 1))) (bnd (f_M_isTest S V (V (aF S x0 31) (w32 ((V x0 36) - 1)))) (fun r133 V134 => gd (isA S (aF S x0 32) 0 (w32 ((V x0 36) - 1))) (if 2 ≤ (V134 (aF S x0 32) (w32 ((V x0 36) - 1))) then (b_M_goesOn_J175 S  V134 x0 (w32 ((V x0 36) - 1)) (V (aF S x0 31) (w32 ((V x0 36) - 1))) r133) else (bnd (f_M_isSign S V134 x0 43) (fun r137 V138 => if r137 = 0 then (bnd (f_M_isSign S V138 x0 45) (fun r140 V141 => if r140 = 0 then (bnd (f_M_isSign S V141 x0 42) (fun r143 V144 => if r143 = 0 then (bnd (f_M_isSign S V144 x0 47) (fun r146 V147 => if r146 = 0 then (bnd (f_M_isSign S V147 x0 37) (fun r149 V150 => if r149 = 0 then (b_M_goesOn_J175 S  V150 x0 (w32 ((V x0 36) - 1)) (V (aF S x0 31) (w32 ((V x0 36) - 1))) r133) else (b_M_goesOn_J74 S  V150 x0))) else (b_M_goesOn_J74 S  V147 x0))) else (b_M_goesOn_J74 S  V144 x0))) else (b_M_goesOn_J74 S  V141 x0))) else (b_M_goesOn_J74 S  V138 x0)))))))
def b_M_reads_J70 (S : ASh) (K43 : ASt → Int → Option (Int × ASt)) (V : ASt) (x0 x2 : Int) : Option (Int × ASt) :=
  if x2 = 0 then (K43 V 0) else (if (V x0 8) = 0 then (K43 V 1) else (K43 V 0))
def b_M_reads_L43 (S : ASh) (x0 : Int) : Nat → ASt → Int → Option (Int × ASt)
  | 0, _, _ => none
  | n + 1, V, x2 =>
    if x2 = 0 then (some (0, V)) else (if (V x0 40) = 0 then (bnd (f_M_operand S V x0) (fun r4 V5 => gd (zb r4) (wV (aset V5 x0 40 r4) (fun V7 => b_M_reads_J70 S ((b_M_reads_L43 S x0 n)) V7 x0 x2)))) else (bnd (f_M_goesOn S V x0) (fun r1 V2 => b_M_reads_J70 S ((b_M_reads_L43 S x0 n)) V2 x0 r1)))
def b_M_reads_J38 (S : ASh) (V : ASt) (x0 s0 s1 : Int) : Option (Int × ASt) :=
  gd (isO S s0 13) (bnd (f_M_pushes S V s0 s1) (fun r9 V10 => b_M_reads_L43 S x0 FU V10 1))
def f_M_reads (S : ASh) (V : ASt) (x0 x1 : Int) : Option (Int × ASt) :=
  gd (isO S x0 13) (if (V x0 8) ≤ 0 then (wV (aset V x0 36 0) (fun V13 => wV (aset V13 x0 37 0) (fun V14 => wV (aset V14 x0 39 0) (fun V15 => wV (aset V15 x0 40 0) (fun V16 => if x1 = 0 then (b_M_reads_J38 S  V16 x0 x0 0) else (b_M_reads_J38 S  V16 x0 x0 1)))))) else (some (0, V)))
def b_M_counts_J31 (S : ASh) (V : ASt) (x0 : Int) : Option (Int × ASt) :=
  if (V x0 8) = 0 then (some (1, V)) else (some (0, V))
def b_M_counts_J20 (S : ASh) (V : ASt) (x0 : Int) : Option (Int × ASt) :=
  if (V x0 8) = 0 then (bnd (f_M_ahead S V x0) (fun r1 V2 => b_M_counts_J31 S  V2 x0)) else (b_M_counts_J31 S  V x0)
def f_M_counts (S : ASh) (V : ASt) (x0 x1 : Int) : Option (Int × ASt) :=
  gd (isO S x0 13) (if (V x0 8) = 0 then (if x1 = 0 then (b_M_counts_J20 S  V x0) else (bnd (f_M_blame S V x0 5 (V x0 4)) (fun r4 V5 => b_M_counts_J20 S  V5 x0))) else (b_M_counts_J20 S  V x0))
def b_M_must_J_J25 (S : ASh) (V : ASt) (x0 : Int) : Option (Int × ASt) :=
  if (V x0 8) = 0 then (bnd (f_M_ahead S V x0) (fun r1 V2 => some (0, V2))) else (some (0, V))
def f_M_must_J (S : ASh) (V : ASt) (x0 x1 : Int) : Option (Int × ASt) :=
  gd (isO S x0 13) (if (V x0 8) ≤ 0 then (bnd (f_M_isWord S V x0 x1) (fun r4 V5 => if r4 = 0 then (bnd (f_M_blame S V5 x0 1 (V5 x0 4)) (fun r7 V8 => b_M_must_J_J25 S  V8 x0)) else (b_M_must_J_J25 S  V5 x0))) else (some (0, V)))
def b_M_fresh_J65 (S : ASh) (V : ASt) (x0 : Int) : Option (Int × ASt) :=
  if (V x0 8) = 0 then (bnd (f_M_ahead S V x0) (fun r1 V2 => some ((V x0 7), V2))) else (some ((V x0 7), V))
def b_M_fresh_J37 (S : ASh) (V : ASt) (x0 : Int) : Option (Int × ASt) :=
  if (V x0 8) = 0 then (bnd (f_M_named S V x0 (V x0 7)) (fun r4 V5 => if r4 = (-1) then (b_M_fresh_J65 S  V5 x0) else (bnd (f_M_blame S V5 x0 2 (V5 x0 4)) (fun r7 V8 => b_M_fresh_J65 S  V8 x0)))) else (b_M_fresh_J65 S  V x0)
def b_M_fresh_J28 (S : ASh) (V : ASt) (x0 : Int) : Option (Int × ASt) :=
  bnd (f_M_blame S V x0 1 (V x0 4)) (fun r10 V11 => b_M_fresh_J37 S  V11 x0)
def f_M_fresh (S : ASh) (V : ASt) (x0 : Int) : Option (Int × ASt) :=
  gd (isO S x0 13) (if (V x0 8) ≤ 0 then (if (V x0 3) = 1 then (bnd (f_M_isOwn S V x0 (V x0 7)) (fun r13 V14 => if r13 = 0 then (b_M_fresh_J37 S  V14 x0) else (b_M_fresh_J28 S  V14 x0))) else (b_M_fresh_J28 S  V x0)) else (some (0, V)))
def b_M_asked_J89 (S : ASh) (V : ASt) (x0 x1 : Int) : Option (Int × ASt) :=
  if (V x0 8) ≤ 0 then (some (x1, V)) else (some (0, V))
def b_M_asked_J78 (S : ASh) (V : ASt) (x0 x1 : Int) : Option (Int × ASt) :=
  if (V x0 8) = 0 then (bnd (f_M_ahead S V x0) (fun r1 V2 => b_M_asked_J89 S  V2 x0 x1)) else (b_M_asked_J89 S  V x0 x1)
def b_M_asked_J56 (S : ASh) (V : ASt) (x0 s0 : Int) : Option (Int × ASt) :=
  if (V x0 8) = 0 then (if s0 = (-1) then (bnd (f_M_blame S V x0 3 (V x0 4)) (fun r4 V5 => b_M_asked_J78 S  V5 x0 s0)) else (b_M_asked_J78 S  V x0 s0)) else (b_M_asked_J78 S  V x0 s0)
def b_M_asked_J37 (S : ASh) (V : ASt) (x0 : Int) : Option (Int × ASt) :=
  if (V x0 8) ≤ 0 then (bnd (f_M_named S V x0 (V x0 7)) (fun r7 V8 => b_M_asked_J56 S  V8 x0 r7)) else (b_M_asked_J56 S  V x0 0)
def b_M_asked_J28 (S : ASh) (V : ASt) (x0 : Int) : Option (Int × ASt) :=
  bnd (f_M_blame S V x0 1 (V x0 4)) (fun r10 V11 => b_M_asked_J37 S  V11 x0)
def f_M_asked (S : ASh) (V : ASt) (x0 : Int) : Option (Int × ASt) :=
  gd (isO S x0 13) (if (V x0 8) ≤ 0 then (if (V x0 3) = 1 then (bnd (f_M_isOwn S V x0 (V x0 7)) (fun r13 V14 => if r13 = 0 then (b_M_asked_J37 S  V14 x0) else (b_M_asked_J28 S  V14 x0))) else (b_M_asked_J28 S  V x0)) else (some (0, V)))
def b_M_board_J19 (S : ASh) (V : ASt) (x0 : Int) : Option (Int × ASt) :=
  if (V x0 8) ≤ 0 then (bnd (f_M_ahead S V x0) (fun r1 V2 => bnd (f_M_number S V2 x0 2 9) (fun r4 V5 => gd (isA S (aF S x0 13) 0 (V2 x0 30)) (wV (aset V5 (aF S x0 13) (V2 x0 30) r4) (fun V8 => if (V8 x0 8) = 0 then (bnd (f_M_must_I S V8 x0 59) (fun r9 V10 => some (0, V10))) else (some (0, V8))))))) else (some (0, V))
def f_M_board (S : ASh) (V : ASt) (x0 : Int) : Option (Int × ASt) :=
  gd (isO S x0 13) (bnd (f_M_isWord S V x0 422775452260) (fun r12 V13 => if r12 = 0 then (bnd (f_M_blame S V13 x0 1 (V13 x0 4)) (fun r15 V16 => b_M_board_J19 S  V16 x0)) else (b_M_board_J19 S  V13 x0)))
def b_M_piece_J19 (S : ASh) (V : ASt) (x0 s0 s1 : Int) : Option (Int × ASt) :=
  gd (isO S s0 13) (bnd (f_M_counts S V s0 s1) (fun r1 V2 => if r1 = 0 then (some (0, V2)) else (gd (isA S (aF S x0 14) 0 (V2 x0 30)) (bnd (f_M_fresh S V2 x0) (fun r6 V7 => gd (isA S (aF S x0 15) 1 (w32 ((w32 (2 * (V2 x0 30))) + (V2 (aF S x0 14) (V2 x0 30))))) (wV (aset V7 (aF S x0 15) (w32 ((w32 (2 * (V2 x0 30))) + (V2 (aF S x0 14) (V2 x0 30)))) r6) (fun V10 => bnd (f_M_must_J S V10 x0 24948) (fun r11 V12 => gd (isA S (aF S x0 13) 0 (V12 x0 30)) (bnd (f_M_number S V12 x0 0 (w32 ((V12 (aF S x0 13) (V12 x0 30)) - 1))) (fun r15 V16 => gd (isA S (aF S x0 16) 0 (w32 ((w32 (2 * (V2 x0 30))) + (V2 (aF S x0 14) (V2 x0 30))))) (wV (aset V16 (aF S x0 16) (w32 ((w32 (2 * (V2 x0 30))) + (V2 (aF S x0 14) (V2 x0 30)))) r15) (fun V19 => bnd (f_M_must_J S V19 x0 28518) (fun r20 V21 => bnd (f_M_number S V21 x0 0 2) (fun r23 V24 => gd (isA S (aF S x0 17) 0 (w32 ((w32 (2 * (V2 x0 30))) + (V2 (aF S x0 14) (V2 x0 30))))) (wV (aset V24 (aF S x0 17) (w32 ((w32 (2 * (V2 x0 30))) + (V2 (aF S x0 14) (V2 x0 30)))) r23) (fun V27 => if (V27 x0 8) = 0 then (gd (isA S (aF S x0 14) 0 (V27 x0 30)) (wV (aset V27 (aF S x0 14) (V27 x0 30) (w32 ((V27 (aF S x0 14) (V27 x0 30)) + 1))) (fun V29 => some (0, V29)))) else (some (0, V27))))))))))))))))))
def f_M_piece (S : ASh) (V : ASt) (x0 : Int) : Option (Int × ASt) :=
  gd (isO S x0 13) (gd (isA S (aF S x0 14) 0 (V x0 30)) (if (V (aF S x0 14) (V x0 30)) = 2 then (b_M_piece_J19 S  V x0 x0 1) else (b_M_piece_J19 S  V x0 x0 0)))
def b_M_stucks_J67 (S : ASh) (V : ASt) (x0 x1 : Int) : Option (Int × ASt) :=
  if (V x0 8) ≤ 0 then (bnd (f_M_ahead S V x0) (fun r1 V2 => gd (isA S (aF S x0 18) 0 (V2 x0 30)) (wV (aset V2 (aF S x0 18) (V2 x0 30) x1) (fun V5 => some (0, V5))))) else (some (0, V))
def b_M_stucks_J52 (S : ASh) (V : ASt) (x0 s0 : Int) : Option (Int × ASt) :=
  if s0 = (-1) then (bnd (f_M_blame S V x0 1 (V x0 4)) (fun r6 V7 => b_M_stucks_J67 S  V7 x0 s0)) else (b_M_stucks_J67 S  V x0 s0)
def f_M_stucks (S : ASh) (V : ASt) (x0 : Int) : Option (Int × ASt) :=
  gd (isO S x0 13) (bnd (f_M_counts S V x0 0) (fun r9 V10 => if r9 = 0 then (some (0, V10)) else (bnd (f_M_isWord S V10 x0 465726301555) (fun r12 V13 => if r12 = 0 then (bnd (f_M_isWord S V13 x0 431415719795) (fun r15 V16 => if r15 = 0 then (bnd (f_M_isWord S V16 x0 2003398259) (fun r18 V19 => if r18 = 0 then (b_M_stucks_J52 S  V19 x0 (-1)) else (b_M_stucks_J52 S  V19 x0 2))) else (b_M_stucks_J52 S  V16 x0 1))) else (b_M_stucks_J52 S  V13 x0 0)))))
def f_M_kindHere (S : ASh) (V : ASt) (x0 : Int) : Option (Int × ASt) :=
  gd (isO S x0 13) (bnd (f_M_isWord S V x0 7168377) (fun r1 V2 => if r1 = 0 then (bnd (f_M_isWord S V2 x0 7237492) (fun r4 V5 => if r4 = 0 then (bnd (f_M_isWord S V5 x0 2003398259) (fun r7 V8 => if r7 = 0 then (bnd (f_M_isWord S V8 x0 465726301555) (fun r10 V11 => if r10 = 0 then (some ((-1), V11)) else (some (3, V11)))) else (some (2, V8)))) else (some (1, V5)))) else (some (0, V2))))
def b_M_moves_J86 (S : ASh) (V : ASt) (x0 x1 : Int) : Option (Int × ASt) :=
  if (V x0 8) ≤ 0 then (bnd (f_M_ahead S V x0) (fun r1 V2 => gd (isA S (aF S x0 22) 0 x1) (if (V2 (aF S x0 22) x1) = 2 then (some (0, V2)) else (bnd (f_M_number S V2 x0 1 3) (fun r5 V6 => gd (isA S (aF S x0 23) 0 x1) (wV (aset V6 (aF S x0 23) x1 r5) (fun V9 => some (0, V9)))))))) else (some (0, V))
def b_M_moves_J66 (S : ASh) (V : ASt) (x0 x1 s0 s1 s2 : Int) : Option (Int × ASt) :=
  gd (isA S s0 0 s1) (wV (aset V s0 s1 s2) (fun V11 => gd (isA S (aF S x0 22) 0 x1) (if (V11 (aF S x0 22) x1) = (-1) then (bnd (f_M_blame S V11 x0 1 (V11 x0 4)) (fun r13 V14 => b_M_moves_J86 S  V14 x0 x1)) else (b_M_moves_J86 S  V11 x0 x1))))
def f_M_moves (S : ASh) (V : ASt) (x0 x1 : Int) : Option (Int × ASt) :=
  gd (isO S x0 13) (bnd (f_M_asked S V x0) (fun r16 V17 => gd (isA S (aF S x0 21) 0 x1) (wV (aset V17 (aF S x0 21) x1 r16) (fun V20 => if (V20 x0 8) ≤ 0 then (bnd (f_M_isWord S V20 x0 30064) (fun r21 V22 => if r21 = 0 then (bnd (f_M_isWord S V22 x0 1685026670) (fun r24 V25 => if r24 = 0 then (bnd (f_M_isWord S V25 x0 7300710) (fun r27 V28 => if r27 = 0 then (b_M_moves_J66 S  V28 x0 x1 (aF S x0 22) x1 (-1)) else (b_M_moves_J66 S  V28 x0 x1 (aF S x0 22) x1 2))) else (b_M_moves_J66 S  V25 x0 x1 (aF S x0 22) x1 1))) else (b_M_moves_J66 S  V22 x0 x1 (aF S x0 22) x1 0))) else (some (0, V20))))))
def b_M_rule_0_J186 (S : ASh) (V : ASt) (x0 x1 : Int) : Option (Int × ASt) :=
  gd (isA S (aF S x0 26) 0 x1) (wV (aset V (aF S x0 26) x1 (V x0 29)) (fun V2 => if (V2 x0 8) = 0 then (gd (isA S (aF S x0 19) 0 (V2 x0 30)) (wV (aset V2 (aF S x0 19) (V2 x0 30) (w32 ((V2 (aF S x0 19) (V2 x0 30)) + 1))) (fun V4 => some (0, V4)))) else (some (0, V2))))
def b_M_rule_0_J157 (S : ASh) (V : ASt) (x0 x1 : Int) : Option (Int × ASt) :=
  bnd (f_M_must_J S V x0 2003330414) (fun r5 V6 => gd (isA S (aF S x0 25) 0 x1) (wV (aset V6 (aF S x0 25) x1 (V6 x0 29)) (fun V9 => if (V9 x0 8) = 0 then (bnd (f_M_reads S V9 x0 1) (fun r10 V11 => b_M_rule_0_J186 S  V11 x0 x1)) else (b_M_rule_0_J186 S  V9 x0 x1))))
def b_M_rule_0_J99 (S : ASh) (V : ASt) (x0 x1 : Int) : Option (Int × ASt) :=
  if (V x0 8) ≤ 0 then (bnd (f_M_kindHere S V x0) (fun r13 V14 => gd (isA S (aF S x0 20) 0 x1) (wV (aset V14 (aF S x0 20) x1 r13) (fun V17 => gd (isA S (aF S x0 21) 0 x1) (wV (aset V17 (aF S x0 21) x1 (-1)) (fun V19 => gd (isA S (aF S x0 22) 0 x1) (wV (aset V19 (aF S x0 22) x1 (-1)) (fun V21 => gd (isA S (aF S x0 23) 0 x1) (wV (aset V21 (aF S x0 23) x1 0) (fun V23 => bnd (f_M_ahead S V23 x0) (fun r24 V25 => if 2 ≤ (V25 (aF S x0 20) x1) then (b_M_rule_0_J157 S  V25 x0 x1) else (bnd (f_M_moves S V25 x0 x1) (fun r27 V28 => b_M_rule_0_J157 S  V28 x0 x1))))))))))))) else (some (0, V))
def b_M_rule_0_J75 (S : ASh) (V : ASt) (x0 x1 : Int) : Option (Int × ASt) :=
  if (V x0 8) = 0 then (bnd (f_M_kindHere S V x0) (fun r30 V31 => if r30 = (-1) then (bnd (f_M_blame S V31 x0 1 (V31 x0 4)) (fun r33 V34 => b_M_rule_0_J99 S  V34 x0 x1)) else (b_M_rule_0_J99 S  V31 x0 x1))) else (b_M_rule_0_J99 S  V x0 x1)
def b_M_rule_0_J23 (S : ASh) (V : ASt) (x0 : Int) : Option (Int × ASt) :=
  if (V x0 8) ≤ 0 then (gd (isA S (aF S x0 19) 0 (V x0 30)) (bnd (f_M_isWord S V x0 1702258034) (fun r37 V38 => gd (isA S (aF S x0 24) 2 (w32 ((w32 (12 * (V x0 30))) + (V (aF S x0 19) (V x0 30))))) (gd (zb r37) (wV (aset V38 (aF S x0 24) (w32 ((w32 (12 * (V x0 30))) + (V (aF S x0 19) (V x0 30)))) r37) (fun V42 => if (V42 (aF S x0 24) (w32 ((w32 (12 * (V x0 30))) + (V (aF S x0 19) (V x0 30))))) = 0 then (b_M_rule_0_J75 S  V42 x0 (w32 ((w32 (12 * (V x0 30))) + (V (aF S x0 19) (V x0 30))))) else (bnd (f_M_ahead S V42 x0) (fun r43 V44 => b_M_rule_0_J75 S  V44 x0 (w32 ((w32 (12 * (V x0 30))) + (V (aF S x0 19) (V x0 30)))))))))))) else (some (0, V))
def f_M_rule_0 (S : ASh) (V : ASt) (x0 : Int) : Option (Int × ASt) :=
  gd (isO S x0 13) (gd (isA S (aF S x0 19) 0 (V x0 30)) (if (V (aF S x0 19) (V x0 30)) = 12 then (bnd (f_M_blame S V x0 5 (V x0 4)) (fun r47 V48 => b_M_rule_0_J23 S  V48 x0)) else (b_M_rule_0_J23 S  V x0)))
def b_M_statement_J68 (S : ASh) (V : ASt) (x0 : Int) : Option (Int × ASt) :=
  if (V x0 8) = 0 then (bnd (f_M_must_I S V x0 59) (fun r1 V2 => some (0, V2))) else (some (0, V))
def b_M_statement_J52 (S : ASh) (V : ASt) (x0 : Int) : Option (Int × ASt) :=
  bnd (f_M_rule_0 S V x0) (fun r4 V5 => b_M_statement_J68 S  V5 x0)
def f_M_statement (S : ASh) (V : ASt) (x0 : Int) : Option (Int × ASt) :=
  gd (isO S x0 13) (bnd (f_M_isWord S V x0 482804589413) (fun r7 V8 => if r7 = 0 then (bnd (f_M_isWord S V8 x0 495875089259) (fun r10 V11 => if r10 = 0 then (bnd (f_M_isWord S V11 x0 1702258034) (fun r13 V14 => if r13 = 0 then (bnd (f_M_kindHere S V14 x0) (fun r16 V17 => if r16 = (-1) then (bnd (f_M_blame S V17 x0 1 (V17 x0 4)) (fun r19 V20 => b_M_statement_J68 S  V20 x0)) else (b_M_statement_J52 S  V17 x0))) else (b_M_statement_J52 S  V14 x0))) else (bnd (f_M_stucks S V11 x0) (fun r22 V23 => b_M_statement_J68 S  V23 x0)))) else (bnd (f_M_piece S V8 x0) (fun r25 V26 => b_M_statement_J68 S  V26 x0))))
def f_M_rulesAll (S : ASh) (V : ASt) (x0 : Int) : Option (Int × ASt) :=
  gd (isO S x0 13) (gd (isA S (aF S x0 19) 0 (V x0 12)) (some ((V (aF S x0 19) (V x0 12)), V)))
def f_M_told (S : ASh) (V : ASt) (x0 x1 : Int) : Option (Int × ASt) :=
  gd (isO S x0 13) (some ((w32 ((w32 (12 * (V x0 12))) + x1)), V))
def f_M_hasFields (S : ASh) (V : ASt) (x0 : Int) : Option (Int × ASt) :=
  gd (isO S x0 13) (gd (isA S (aF S x0 13) 0 (V x0 12)) (if (V (aF S x0 13) (V x0 12)) ≤ 0 then (some (0, V)) else (some (1, V))))
def f_M_base (S : ASh) (V : ASt) (x0 : Int) : Option (Int × ASt) :=
  gd (isO S x0 13) (gd (isA S (aF S x0 13) 0 (V x0 12)) (some ((w32 ((V (aF S x0 13) (V x0 12)) + 1)), V)))
def b_M_beginning_L4 (S : ASh) (x0 x1 : Int) : Nat → ASt → Int → Int → Option (Int × ASt)
  | 0, _, _, _ => none
  | n + 1, V, x2, x3 =>
    gd (isA S (aF S x0 14) 0 (V x0 12)) (if (V (aF S x0 14) (V x0 12)) ≤ x3 then (some ((w32 ((w32 (2 * x2)) + (Int.tmod x1 2))), V)) else (bnd (f_M_base S V x0) (fun r2 V3 => gd (isA S (aF S x0 16) 0 (w32 ((w32 (2 * (V3 x0 12))) + x3))) ((b_M_beginning_L4 S x0 x1 n) V3 (w32 ((w32 (r2 * x2)) + (V3 (aF S x0 16) (w32 ((w32 (2 * (V3 x0 12))) + x3))))) (w32 (x3 + 1))))))
def f_M_beginning (S : ASh) (V : ASt) (x0 x1 : Int) : Option (Int × ASt) :=
  gd (isO S x0 13) (b_M_beginning_L4 S x0 x1 FU V 0 0)
def b_M_anews_J25 (S : ASh) (V : ASt) (x0 x1 s0 s1 : Int) : Option (Int × ASt) :=
  gd (isO S s0 13) (wV (aset V s0 59 s1) (fun V2 => wV (aset V2 x0 60 0) (fun V3 => wV (aset V3 x0 61 (-1)) (fun V4 => some (x1, V4)))))
def f_M_anews (S : ASh) (V : ASt) (x0 : Int) : Option (Int × ASt) :=
  gd (isO S x0 13) (bnd (f_M_hasFields S V x0) (fun r5 V6 => if r5 = 0 then (b_M_anews_J25 S  V6 x0 (V x0 60) x0 0) else (bnd (f_M_beginning S V6 x0 (V6 x0 48)) (fun r8 V9 => b_M_anews_J25 S  V9 x0 (V x0 60) x0 r8))))
def b_M_begins_L60 (S : ASh) (x0 : Int) : Nat → ASt → Int → Option (Int × ASt)
  | 0, _, _ => none
  | n + 1, V, x1 =>
    if 2 ≤ x1 then (wV (aset V x0 65 0) (fun V1 => wV (aset V1 x0 72 0) (fun V2 => bnd (f_M_anews S V2 x0) (fun r3 V4 => some (0, V4))))) else (gd (isA S (aF S x0 49) 0 x1) (wV (aset V (aF S x0 49) x1 0) (fun V7 => gd (isA S (aF S x0 50) 0 x1) (wV (aset V7 (aF S x0 50) x1 0) (fun V9 => (b_M_begins_L60 S x0 n) V9 (w32 (x1 + 1)))))))
def b_M_begins_L2 (S : ASh) (x0 : Int) : Nat → ASt → Int → Option (Int × ASt)
  | 0, _, _ => none
  | n + 1, V, x1 =>
    bnd (f_M_rulesAll S V x0) (fun r10 V11 => if r10 ≤ x1 then (wV (aset V11 x0 48 0) (fun V13 => b_M_begins_L60 S x0 FU V13 0)) else (gd (isA S (aF S x0 44) 0 x1) (wV (aset V11 (aF S x0 44) x1 x1) (fun V15 => gd (isA S (aF S x0 45) 2 x1) (wV (aset V15 (aF S x0 45) x1 0) (fun V17 => gd (isA S (aF S x0 46) 2 x1) (wV (aset V17 (aF S x0 46) x1 0) (fun V19 => bnd (f_M_told S V19 x0 x1) (fun r20 V21 => gd (isA S (aF S x0 23) 0 r20) (gd (isA S (aF S x0 47) 0 x1) (wV (aset V21 (aF S x0 47) x1 (V21 (aF S x0 23) r20)) (fun V25 => (b_M_begins_L2 S x0 n) V25 (w32 (x1 + 1))))))))))))))
def f_M_begins (S : ASh) (V : ASt) (x0 : Int) : Option (Int × ASt) :=
  gd (isO S x0 13) (b_M_begins_L2 S x0 FU V 0)
def b_M_game_J107 (S : ASh) (V : ASt) (x0 x1 : Int) : Option (Int × ASt) :=
  wV (aset V x0 10 (V x0 8)) (fun V1 => wV (aset V1 x0 11 (V1 x0 9)) (fun V2 => if (V2 x0 8) ≤ 0 then (wV (aset V2 x0 12 (V2 x0 30)) (fun V3 => bnd (f_M_begins S V3 x0) (fun r4 V5 => some (x1, V5)))) else (bnd (f_M_refuses S V2 x0 1) (fun r7 V8 => some (r7, V8)))))
def b_M_game_L83 (S : ASh) (x0 : Int) : Nat → ASt → Int → Option (Int × ASt)
  | 0, _, _ => none
  | n + 1, V, x1 =>
    if (V x0 8) = 0 then (if (V x0 3) = 0 then (b_M_game_J107 S  V x0 x1) else (bnd (f_M_statement S V x0) (fun r10 V11 => (b_M_game_L83 S x0 n) V11 (w32 (x1 + 1))))) else (b_M_game_J107 S  V x0 x1)
def f_M_game (S : ASh) (V : ASt) (x0 : Int) : Option (Int × ASt) :=
  gd (isO S x0 13) (wV (aset V x0 2 (V x0 1)) (fun V13 => wV (aset V13 x0 1 0) (fun V14 => wV (aset V14 x0 5 0) (fun V15 => wV (aset V15 x0 8 0) (fun V16 => wV (aset V16 x0 9 (-1)) (fun V17 => wV (aset V17 x0 30 (w32 (1 - (V17 x0 12)))) (fun V18 => gd (isA S (aF S x0 14) 0 (V18 x0 30)) (wV (aset V18 (aF S x0 14) (V18 x0 30) 0) (fun V20 => gd (isA S (aF S x0 18) 0 (V20 x0 30)) (wV (aset V20 (aF S x0 18) (V20 x0 30) 0) (fun V22 => gd (isA S (aF S x0 19) 0 (V22 x0 30)) (wV (aset V22 (aF S x0 19) (V22 x0 30) 0) (fun V24 => wV (aset V24 x0 29 0) (fun V25 => bnd (f_M_ahead S V25 x0) (fun r26 V27 => bnd (f_M_board S V27 x0) (fun r29 V30 => b_M_game_L83 S x0 FU V30 1))))))))))))))))
def f_M_fault (S : ASh) (V : ASt) (x0 x1 : Int) : Option (Int × ASt) :=
  gd (isO S x0 13) (if x1 = 0 then (some ((V x0 10), V)) else (if x1 = 1 then (some ((V x0 11), V)) else (some ((-1), V))))
def f_M_status (S : ASh) (V : ASt) (x0 x1 : Int) : Option (Int × ASt) :=
  gd (isO S x0 13) (bnd (f_M_is S V x1 0 5) (fun r1 V2 => if r1 = 0 then (some ((-1), V2)) else (gd (isA S (aF S x0 41) 0 x1) (some ((V2 (aF S x0 41) x1), V2)))))
def f_M_bounded (S : ASh) (V : ASt) (x0 : Int) : Option (Int × ASt) :=
  if (cmp64 x0 1000000) ≤ 0 then (if 0 ≤ (cmp64 x0 (-1000000)) then (some (x0, V)) else (some ((-1000000), V))) else (some (1000000, V))
def b_M_over_J43 (S : ASh) (V : ASt) (x4 s0 s1 : Int) : Option (Int × ASt) :=
  if s0 = s1 then (some (x4, V)) else (some ((w64 (x4 - 1)), V))
def b_M_over_J32 (S : ASh) (V : ASt) (x2 x4 s0 : Int) : Option (Int × ASt) :=
  if 0 ≤ (cmp64 x2 0) then (b_M_over_J43 S  V x4 s0 0) else (b_M_over_J43 S  V x4 s0 1)
def f_M_over (S : ASh) (V : ASt) (x0 x2 : Int) : Option (Int × ASt) :=
  if (cmp64 x2 0) = 0 then (some (0, V)) else (gd (nz x2) (gd (nz x2) (if (cmp64 (Int.tmod x0 x2) 0) = 0 then (some ((w64 (Int.tdiv x0 x2)), V)) else (if 0 ≤ (cmp64 x0 0) then (b_M_over_J32 S  V x2 (w64 (Int.tdiv x0 x2)) 0) else (b_M_over_J32 S  V x2 (w64 (Int.tdiv x0 x2)) 1)))))
def f_M_made (S : ASh) (V : ASt) (x0 x1 x3 : Int) : Option (Int × ASt) :=
  if x0 = 10 then (bnd (f_M_bounded S V (w64 (x1 + x3))) (fun r2 V3 => some (r2, V3))) else (if x0 = 11 then (bnd (f_M_bounded S V (w64 (x1 - x3))) (fun r6 V7 => some (r6, V7))) else (if x0 = 12 then (bnd (f_M_bounded S V (w64 (x1 * x3))) (fun r10 V11 => some (r10, V11))) else (if x0 = 13 then (bnd (f_M_over S V x1 x3) (fun r14 V15 => some (r14, V15))) else (if x0 = 14 then (if (cmp64 x3 0) = 0 then (some (0, V)) else (bnd (f_M_over S V x1 x3) (fun r18 V19 => some ((w64 (x1 - (w64 (x3 * r18)))), V19)))) else (if x0 = 15 then (if 0 ≤ (cmp64 x1 x3) then (some (x3, V)) else (some (x1, V))) else (if x0 = 16 then (if (cmp64 x1 x3) ≤ 0 then (some (x3, V)) else (some (x1, V))) else (if x0 = 17 then (if 0 ≤ (cmp64 x1 x3) then (some (0, V)) else (some (1, V))) else (if x0 = 18 then (if (cmp64 x1 x3) ≤ 0 then (some (0, V)) else (some (1, V))) else (if x0 = 19 then (if (cmp64 x1 x3) = 0 then (some (1, V)) else (some (0, V))) else (if x0 = 20 then (some ((w64 (x1 * x3)), V)) else (if (cmp64 (w64 (x1 + x3)) 0) ≤ 0 then (some (0, V)) else (some (1, V)))))))))))))
def b_M_works_J85 (S : ASh) (K14 : ASt → Int → Int → Option (Int × ASt)) (V : ASt) (x0 x2 x3 x4 s0 s1 s2 : Int) : Option (Int × ASt) :=
  gd (isA S s0 1 s1) (wV (aset V s0 s1 s2) (fun V2 => K14 V2 (w32 (x3 + 1)) (w32 (x4 + 1))))
def b_M_works_L14 (S : ASh) (x0 x2 : Int) : Nat → ASt → Int → Int → Option (Int × ASt)
  | 0, _, _, _ => none
  | n + 1, V, x3, x4 =>
    if (w32 ((w32 (1800 * (V x0 12))) + x2)) ≤ x4 then (gd (isA S (aF S x0 42) 1 0) (some ((V (aF S x0 42) 0), V))) else (gd (isA S (aF S x0 27) 0 x4) (if 9 < (V (aF S x0 27) x4) then (if (V (aF S x0 27) x4) = 22 then (gd (isA S (aF S x0 42) 1 (w32 (x3 - 1))) (wV (aset V (aF S x0 42) (w32 (x3 - 1)) (w64 (1 - (V (aF S x0 42) (w32 (x3 - 1)))))) (fun V12 => (b_M_works_L14 S x0 x2 n) V12 x3 (w32 (x4 + 1))))) else (gd (isA S (aF S x0 42) 1 (w32 ((w32 (x3 + (-1))) - 1))) (gd (isA S (aF S x0 42) 1 (w32 (x3 + (-1)))) (bnd (f_M_made S V (V (aF S x0 27) x4) (V (aF S x0 42) (w32 ((w32 (x3 + (-1))) - 1))) (V (aF S x0 42) (w32 (x3 + (-1))))) (fun r7 V8 => wV (aset V8 (aF S x0 42) (w32 ((w32 (x3 + (-1))) - 1)) r7) (fun V10 => (b_M_works_L14 S x0 x2 n) V10 (w32 (x3 + (-1))) (w32 (x4 + 1)))))))) else (if (V (aF S x0 27) x4) = 0 then (gd (isA S (aF S x0 28) 0 x4) (b_M_works_J85 S ((b_M_works_L14 S x0 x2 n)) V x0 x2 x3 x4 (aF S x0 42) x3 (V (aF S x0 28) x4))) else (if (V (aF S x0 27) x4) = 9 then (b_M_works_J85 S ((b_M_works_L14 S x0 x2 n)) V x0 x2 x3 x4 (aF S x0 42) x3 1) else (gd (isA S (aF S x0 43) 0 (V (aF S x0 27) x4)) (b_M_works_J85 S ((b_M_works_L14 S x0 x2 n)) V x0 x2 x3 x4 (aF S x0 42) x3 (V (aF S x0 43) (V (aF S x0 27) x4))))))))
def f_M_works (S : ASh) (V : ASt) (x0 x1 x2 : Int) : Option (Int × ASt) :=
  gd (isO S x0 13) (b_M_works_L14 S x0 x2 FU V 0 (w32 ((w32 (1800 * (V x0 12))) + x1)))
def f_M_kindNow (S : ASh) (V : ASt) (x0 x1 : Int) : Option (Int × ASt) :=
  gd (isO S x0 13) (bnd (f_M_told S V x0 x1) (fun r1 V2 => gd (isA S (aF S x0 20) 0 r1) (gd (isA S (aF S x0 46) 2 x1) (if (V2 (aF S x0 46) x1) = 0 then (some ((V2 (aF S x0 20) r1), V2)) else (if (V2 (aF S x0 20) r1) = 0 then (some (1, V2)) else (if (V2 (aF S x0 20) r1) = 1 then (some (0, V2)) else (if (V2 (aF S x0 20) r1) = 2 then (some (3, V2)) else (some (2, V2)))))))))
def b_M_struckAll_L4 (S : ASh) (x0 : Int) : Nat → ASt → Int → Int → Option (Int × ASt)
  | 0, _, _, _ => none
  | n + 1, V, x1, x2 =>
    bnd (f_M_rulesAll S V x0) (fun r1 V2 => if r1 ≤ x2 then (some (x1, V2)) else (gd (isA S (aF S x0 45) 2 x2) (if (V2 (aF S x0 45) x2) = 0 then ((b_M_struckAll_L4 S x0 n) V2 (w32 (x1 + 0)) (w32 (x2 + 1))) else ((b_M_struckAll_L4 S x0 n) V2 (w32 (x1 + 1)) (w32 (x2 + 1))))))
def f_M_struckAll (S : ASh) (V : ASt) (x0 : Int) : Option (Int × ASt) :=
  gd (isO S x0 13) (b_M_struckAll_L4 S x0 FU V 0 0)
def b_M_positions_L4 (S : ASh) (x0 : Int) : Nat → ASt → Int → Int → Option (Int × ASt)
  | 0, _, _, _ => none
  | n + 1, V, x1, x2 =>
    gd (isA S (aF S x0 14) 0 (V x0 12)) (if (V (aF S x0 14) (V x0 12)) ≤ x2 then (some (x1, V)) else (bnd (f_M_base S V x0) (fun r2 V3 => (b_M_positions_L4 S x0 n) V3 (w32 (x1 * r2)) (w32 (x2 + 1)))))
def f_M_positions (S : ASh) (V : ASt) (x0 : Int) : Option (Int × ASt) :=
  gd (isO S x0 13) (b_M_positions_L4 S x0 FU V 2 0)
def f_M_has (S : ASh) (V : ASt) (x0 x1 : Int) : Option (Int × ASt) :=
  gd (isO S x0 13) (if x1 = 0 then (gd (isA S (aF S x0 13) 0 (V x0 12)) (some ((V (aF S x0 13) (V x0 12)), V))) else (if x1 = 1 then (gd (isA S (aF S x0 14) 0 (V x0 12)) (some ((V (aF S x0 14) (V x0 12)), V))) else (if x1 = 2 then (bnd (f_M_rulesAll S V x0) (fun r6 V7 => some (r6, V7))) else (if x1 = 3 then (bnd (f_M_struckAll S V x0) (fun r10 V11 => some (r10, V11))) else (if x1 = 4 then (bnd (f_M_hasFields S V x0) (fun r14 V15 => if r14 = 0 then (some (0, V15)) else (bnd (f_M_positions S V15 x0) (fun r17 V18 => some (r17, V18))))) else (if x1 = 5 then (some ((V x0 48), V)) else (if x1 = 6 then (some ((V x0 65), V)) else (if x1 = 7 then (gd (isA S (aF S x0 18) 0 (V x0 12)) (some ((V (aF S x0 18) (V x0 12)), V))) else (some ((-1), V))))))))))
def b_M_letter_L41 (S : ASh) (x0 x2 x3 : Int) : Nat → ASt → Int → Int → Option (Int × ASt)
  | 0, _, _, _ => none
  | n + 1, V, x5, x6 =>
    if (cmp64 x6 0) = 0 then (if x2 < 0 then (some ((-1), V)) else (if x2 < x5 then (some ((w32 (and64 (ushr64 x3 (w32 (8 * (w32 ((w32 (x5 - 1)) - x2))))) 255)), V)) else (some ((-1), V)))) else ((b_M_letter_L41 S x0 x2 x3 n) V (w32 (x5 + 1)) (ushr64 x6 8))
def f_M_letter (S : ASh) (V : ASt) (x0 x1 x2 : Int) : Option (Int × ASt) :=
  gd (isO S x0 13) (gd (isA S (aF S x0 14) 0 (V x0 12)) (bnd (f_M_is S V x1 0 (w32 ((V (aF S x0 14) (V x0 12)) - 1))) (fun r2 V3 => if r2 = 0 then (some ((-1), V3)) else (gd (isA S (aF S x0 15) 1 (w32 ((w32 (2 * (V3 x0 12))) + x1))) (b_M_letter_L41 S x0 x2 (V3 (aF S x0 15) (w32 ((w32 (2 * (V3 x0 12))) + x1))) FU V3 0 (V3 (aF S x0 15) (w32 ((w32 (2 * (V3 x0 12))) + x1))))))))
def f_M_rule_II (S : ASh) (V : ASt) (x0 x1 x2 : Int) : Option (Int × ASt) :=
  gd (isO S x0 13) (bnd (f_M_rulesAll S V x0) (fun r1 V2 => bnd (f_M_is S V2 x1 0 (w32 (r1 - 1))) (fun r4 V5 => if r4 = 0 then (some ((-1), V5)) else (gd (isA S (aF S x0 44) 0 x1) (if x2 = 0 then (some ((V5 (aF S x0 44) x1), V5)) else (if x2 = 1 then (bnd (f_M_kindNow S V5 x0 (V5 (aF S x0 44) x1)) (fun r10 V11 => some (r10, V11))) else (if x2 = 2 then (bnd (f_M_told S V5 x0 (V5 (aF S x0 44) x1)) (fun r14 V15 => gd (isA S (aF S x0 21) 0 r14) (some ((V15 (aF S x0 21) r14), V15)))) else (if x2 = 3 then (bnd (f_M_told S V5 x0 (V5 (aF S x0 44) x1)) (fun r19 V20 => gd (isA S (aF S x0 22) 0 r19) (some ((V20 (aF S x0 22) r19), V20)))) else (if x2 = 4 then (gd (isA S (aF S x0 47) 0 (V5 (aF S x0 44) x1)) (some ((V5 (aF S x0 47) (V5 (aF S x0 44) x1)), V5))) else (if x2 = 5 then (gd (isA S (aF S x0 45) 2 (V5 (aF S x0 44) x1)) (if (V5 (aF S x0 45) (V5 (aF S x0 44) x1)) = 0 then (some (0, V5)) else (some (1, V5)))) else (if x2 = 6 then (bnd (f_M_told S V5 x0 (V5 (aF S x0 44) x1)) (fun r28 V29 => gd (isA S (aF S x0 24) 2 r28) (if (V29 (aF S x0 24) r28) = 0 then (some (0, V29)) else (some (1, V29))))) else (some ((-1), V5)))))))))))))
def b_M_spotOf_L17 (S : ASh) (x0 x2 : Int) : Nat → ASt → Int → Int → Option (Int × ASt)
  | 0, _, _, _ => none
  | n + 1, V, x3, x4 =>
    if x4 ≤ x2 then (bnd (f_M_base S V x0) (fun r1 V2 => gd (nz r1) (some ((Int.tmod x3 r1), V2)))) else (bnd (f_M_base S V x0) (fun r5 V6 => gd (nz r5) ((b_M_spotOf_L17 S x0 x2 n) V6 (w32 (Int.tdiv x3 r5)) (w32 (x4 + (-1))))))
def f_M_spotOf (S : ASh) (V : ASt) (x0 x1 x2 : Int) : Option (Int × ASt) :=
  gd (isO S x0 13) (gd (isA S (aF S x0 14) 0 (V x0 12)) (b_M_spotOf_L17 S x0 x2 FU V (w32 (Int.tdiv x1 2)) (w32 ((V (aF S x0 14) (V x0 12)) - 1))))
def b_M_behind_L6 (S : ASh) (x0 x1 x2 x3 : Int) : Nat → ASt → Int → Int → Option (Int × ASt)
  | 0, _, _, _ => none
  | n + 1, V, x4, x5 =>
    gd (isA S (aF S x0 14) 0 (V x0 12)) (if (V (aF S x0 14) (V x0 12)) ≤ x5 then (some ((w32 ((w32 ((w32 (2 * x4)) + 1)) - (Int.tmod x1 2))), V)) else (bnd (f_M_base S V x0) (fun r2 V3 => if x5 = x2 then ((b_M_behind_L6 S x0 x1 x2 x3 n) V3 (w32 ((w32 (r2 * x4)) + x3)) (w32 (x5 + 1))) else (bnd (f_M_spotOf S V3 x0 x1 x5) (fun r5 V6 => (b_M_behind_L6 S x0 x1 x2 x3 n) V6 (w32 ((w32 (r2 * x4)) + r5)) (w32 (x5 + 1)))))))
def f_M_behind (S : ASh) (V : ASt) (x0 x1 x2 x3 : Int) : Option (Int × ASt) :=
  gd (isO S x0 13) (b_M_behind_L6 S x0 x1 x2 x3 FU V 0 0)
def b_M_names_L2 (S : ASh) (x0 x1 : Int) : Nat → ASt → Int → Option (Int × ASt)
  | 0, _, _ => none
  | n + 1, V, x2 =>
    gd (isA S (aF S x0 14) 0 (V x0 12)) (if (V (aF S x0 14) (V x0 12)) ≤ x2 then (some (0, V)) else (bnd (f_M_spotOf S V x0 x1 x2) (fun r2 V3 => gd (isA S (aF S x0 43) 0 (w32 (4 + x2))) (wV (aset V3 (aF S x0 43) (w32 (4 + x2)) r2) (fun V6 => (b_M_names_L2 S x0 x1 n) V6 (w32 (x2 + 1)))))))
def f_M_names (S : ASh) (V : ASt) (x0 x1 : Int) : Option (Int × ASt) :=
  gd (isO S x0 13) (b_M_names_L2 S x0 x1 FU V 0)
def f_M_holds (S : ASh) (V : ASt) (x0 x1 : Int) : Option (Int × ASt) :=
  gd (isO S x0 13) (bnd (f_M_told S V x0 x1) (fun r1 V2 => gd (isA S (aF S x0 25) 0 r1) (bnd (f_M_told S V2 x0 x1) (fun r5 V6 => gd (isA S (aF S x0 26) 0 r5) (bnd (f_M_works S V6 x0 (V2 (aF S x0 25) r1) (V6 (aF S x0 26) r5)) (fun r9 V10 => if (cmp64 r9 1) = 0 then (some (1, V10)) else (some (0, V10))))))))
def b_M_goalOf_J49 (S : ASh) (V : ASt) (x0 s0 : Int) : Option (Int × ASt) :=
  gd (isA S (aF S x0 13) 0 (V x0 12)) (bnd (f_M_is S V s0 0 (w32 ((V (aF S x0 13) (V x0 12)) - 1))) (fun r2 V3 => if r2 = 0 then (some ((-1), V3)) else (some (s0, V3))))
def f_M_goalOf (S : ASh) (V : ASt) (x0 x1 x2 : Int) : Option (Int × ASt) :=
  gd (isO S x0 13) (bnd (f_M_told S V x0 x1) (fun r5 V6 => gd (isA S (aF S x0 22) 0 r5) (if (V6 (aF S x0 22) r5) = 2 then (gd (isA S (aF S x0 13) 0 (V6 x0 12)) (some ((V6 (aF S x0 13) (V6 x0 12)), V6))) else (if (V6 (aF S x0 22) r5) = 0 then (gd (isA S (aF S x0 47) 0 x1) (b_M_goalOf_J49 S  V6 x0 (w32 (x2 + (V6 (aF S x0 47) x1))))) else (gd (isA S (aF S x0 47) 0 x1) (b_M_goalOf_J49 S  V6 x0 (w32 (x2 - (V6 (aF S x0 47) x1)))))))))
def b_M_isLawful_L90 (S : ASh) (x0 x2 x3 x4 : Int) : Nat → ASt → Int → Option (Int × ASt)
  | 0, _, _ => none
  | n + 1, V, x6 =>
    if x6 < 0 then (some (0, V)) else (gd (isA S (aF S x0 44) 0 x6) (gd (isA S (aF S x0 45) 2 (V (aF S x0 44) x6)) (if (V (aF S x0 45) (V (aF S x0 44) x6)) = 0 then (bnd (f_M_kindNow S V x0 (V (aF S x0 44) x6)) (fun r3 V4 => if 1 < r3 then ((b_M_isLawful_L90 S x0 x2 x3 x4 n) V4 (w32 (x6 + (-1)))) else (bnd (f_M_told S V4 x0 (V (aF S x0 44) x6)) (fun r6 V7 => gd (isA S (aF S x0 21) 0 r6) (if (V7 (aF S x0 21) r6) = x2 then (bnd (f_M_goalOf S V7 x0 (V (aF S x0 44) x6) x4) (fun r10 V11 => if r10 = x3 then (bnd (f_M_holds S V11 x0 (V (aF S x0 44) x6)) (fun r13 V14 => if r13 = 0 then ((b_M_isLawful_L90 S x0 x2 x3 x4 n) V14 (w32 (x6 + (-1)))) else (bnd (f_M_kindNow S V14 x0 (V (aF S x0 44) x6)) (fun r16 V17 => if r16 = 0 then (some (1, V17)) else (some (0, V17)))))) else ((b_M_isLawful_L90 S x0 x2 x3 x4 n) V11 (w32 (x6 + (-1)))))) else ((b_M_isLawful_L90 S x0 x2 x3 x4 n) V7 (w32 (x6 + (-1))))))))) else ((b_M_isLawful_L90 S x0 x2 x3 x4 n) V (w32 (x6 + (-1)))))))
def b_M_isLawful_J53 (S : ASh) (V : ASt) (x0 x1 x2 x3 x4 : Int) : Option (Int × ASt) :=
  gd (isA S (aF S x0 43) 0 1) (wV (aset V (aF S x0 43) 1 x4) (fun V20 => gd (isA S (aF S x0 43) 0 2) (wV (aset V20 (aF S x0 43) 2 x3) (fun V22 => gd (isA S (aF S x0 43) 0 3) (wV (aset V22 (aF S x0 43) 3 (Int.tmod x1 2)) (fun V24 => bnd (f_M_names S V24 x0 x1) (fun r25 V26 => bnd (f_M_rulesAll S V26 x0) (fun r28 V29 => b_M_isLawful_L90 S x0 x2 x3 x4 FU V29 (w32 (r28 - 1))))))))))
def f_M_isLawful (S : ASh) (V : ASt) (x0 x1 x2 x3 : Int) : Option (Int × ASt) :=
  gd (isO S x0 13) (bnd (f_M_spotOf S V x0 x1 x2) (fun r31 V32 => gd (isA S (aF S x0 17) 0 (w32 ((w32 (2 * (V32 x0 12))) + x2))) (gd (isA S (aF S x0 13) 0 (V32 x0 12)) (if r31 = (V32 (aF S x0 13) (V32 x0 12)) then (some (0, V32)) else (if (V32 (aF S x0 17) (w32 ((w32 (2 * (V32 x0 12))) + x2))) = 2 then (b_M_isLawful_J53 S  V32 x0 x1 x2 x3 r31) else (if (V32 (aF S x0 17) (w32 ((w32 (2 * (V32 x0 12))) + x2))) = (Int.tmod x1 2) then (b_M_isLawful_J53 S  V32 x0 x1 x2 x3 r31) else (some (0, V32))))))))
def b_M_leads_L51 (S : ASh) (x0 x4 : Int) : Nat → ASt → Int → Option (Int × ASt)
  | 0, _, _ => none
  | n + 1, V, x5 =>
    if x5 < 0 then (some (x4, V)) else (gd (isA S (aF S x0 44) 0 x5) (gd (isA S (aF S x0 45) 2 (V (aF S x0 44) x5)) (if (V (aF S x0 45) (V (aF S x0 44) x5)) = 0 then (bnd (f_M_kindNow S V x0 (V (aF S x0 44) x5)) (fun r3 V4 => if r3 < 2 then ((b_M_leads_L51 S x0 x4 n) V4 (w32 (x5 + (-1)))) else (bnd (f_M_holds S V4 x0 (V (aF S x0 44) x5)) (fun r6 V7 => if r6 = 0 then ((b_M_leads_L51 S x0 x4 n) V7 (w32 (x5 + (-1)))) else (bnd (f_M_kindNow S V7 x0 (V (aF S x0 44) x5)) (fun r9 V10 => if r9 = 2 then (some ((-1), V10)) else (some ((-2), V10)))))))) else ((b_M_leads_L51 S x0 x4 n) V (w32 (x5 + (-1)))))))
def f_M_leads (S : ASh) (V : ASt) (x0 x1 x2 x3 : Int) : Option (Int × ASt) :=
  gd (isO S x0 13) (bnd (f_M_behind S V x0 x1 x2 x3) (fun r12 V13 => bnd (f_M_spotOf S V13 x0 x1 x2) (fun r15 V16 => gd (isA S (aF S x0 43) 0 1) (wV (aset V16 (aF S x0 43) 1 r15) (fun V19 => gd (isA S (aF S x0 43) 0 2) (wV (aset V19 (aF S x0 43) 2 x3) (fun V21 => gd (isA S (aF S x0 43) 0 3) (wV (aset V21 (aF S x0 43) 3 (Int.tmod x1 2)) (fun V23 => bnd (f_M_names S V23 x0 r12) (fun r24 V25 => bnd (f_M_rulesAll S V25 x0) (fun r27 V28 => b_M_leads_L51 S x0 r12 FU V28 (w32 (r27 - 1)))))))))))))
def f_M_comes (S : ASh) (V : ASt) (x0 x1 : Int) : Option (Int × ASt) :=
  gd (isO S x0 13) (gd (isA S (aF S x0 54) 2 x1) (if (V (aF S x0 54) x1) = 0 then (wV (aset V (aF S x0 54) x1 1) (fun V2 => gd (isA S (aF S x0 55) 0 (V2 x0 56)) (wV (aset V2 (aF S x0 55) (V2 x0 56) x1) (fun V4 => wV (aset V4 x0 56 (w32 ((V4 x0 56) + 1))) (fun V5 => some (0, V5)))))) else (some (0, V))))
def b_M_movesOf_L24 (S : ASh) (K9 : ASt → Int → Option (Int × ASt)) (x0 x1 x2 : Int) : Nat → ASt → Int → Option (Int × ASt)
  | 0, _, _ => none
  | n + 1, V, x3 =>
    gd (isA S (aF S x0 13) 0 (V x0 12)) (if (V (aF S x0 13) (V x0 12)) < x3 then (K9 V (w32 (x2 + 1))) else (bnd (f_M_isLawful S V x0 x1 x2 x3) (fun r2 V3 => if r2 = 0 then ((b_M_movesOf_L24 S K9 x0 x1 x2 n) V3 (w32 (x3 + 1))) else (gd (isA S (aF S x0 51) 0 x1) (gd (isA S (aF S x0 52) 0 (w32 ((w32 (20 * x1)) + (V3 (aF S x0 51) x1)))) (wV (aset V3 (aF S x0 52) (w32 ((w32 (20 * x1)) + (V3 (aF S x0 51) x1))) (w32 ((w32 (10 * x2)) + x3))) (fun V7 => bnd (f_M_leads S V7 x0 x1 x2 x3) (fun r8 V9 => gd (isA S (aF S x0 53) 0 (w32 ((w32 (20 * x1)) + (V3 (aF S x0 51) x1)))) (wV (aset V9 (aF S x0 53) (w32 ((w32 (20 * x1)) + (V3 (aF S x0 51) x1))) r8) (fun V12 => wV (aset V12 (aF S x0 51) x1 (w32 ((V12 (aF S x0 51) x1) + 1))) (fun V13 => if (V13 (aF S x0 53) (w32 ((w32 (20 * x1)) + (V3 (aF S x0 51) x1)))) < 0 then ((b_M_movesOf_L24 S K9 x0 x1 x2 n) V13 (w32 (x3 + 1))) else (bnd (f_M_comes S V13 x0 (V13 (aF S x0 53) (w32 ((w32 (20 * x1)) + (V3 (aF S x0 51) x1))))) (fun r14 V15 => (b_M_movesOf_L24 S K9 x0 x1 x2 n) V15 (w32 (x3 + 1)))))))))))))))
def b_M_movesOf_L9 (S : ASh) (x0 x1 : Int) : Nat → ASt → Int → Option (Int × ASt)
  | 0, _, _ => none
  | n + 1, V, x2 =>
    gd (isA S (aF S x0 14) 0 (V x0 12)) (if (V (aF S x0 14) (V x0 12)) ≤ x2 then (some (0, V)) else (b_M_movesOf_L24 S ((b_M_movesOf_L9 S x0 x1 n)) x0 x1 x2 FU V 0))
def f_M_movesOf (S : ASh) (V : ASt) (x0 x1 : Int) : Option (Int × ASt) :=
  gd (isO S x0 13) (gd (isA S (aF S x0 51) 0 x1) (wV (aset V (aF S x0 51) x1 0) (fun V19 => b_M_movesOf_L9 S x0 x1 FU V19 0)))
def b_M_lays_L65 (S : ASh) (x0 : Int) : Nat → ASt → Int → Option (Int × ASt)
  | 0, _, _ => none
  | n + 1, V, x2 =>
    if (V x0 56) ≤ x2 then (some (0, V)) else (gd (isA S (aF S x0 55) 0 x2) (bnd (f_M_movesOf S V x0 (V (aF S x0 55) x2)) (fun r2 V3 => (b_M_lays_L65 S x0 n) V3 (w32 (x2 + 1)))))
def b_M_lays_L39 (S : ASh) (x0 x1 : Int) : Nat → ASt → Int → Option (Int × ASt)
  | 0, _, _ => none
  | n + 1, V, x2 =>
    bnd (f_M_positions S V x0) (fun r5 V6 => if r5 ≤ x2 then (b_M_lays_L65 S x0 FU V6 0) else (if x1 = (-1) then (bnd (f_M_comes S V6 x0 x2) (fun r8 V9 => (b_M_lays_L39 S x0 x1 n) V9 (w32 (x2 + 1)))) else (b_M_lays_L65 S x0 FU V6 0)))
def b_M_lays_L2 (S : ASh) (x0 x1 : Int) : Nat → ASt → Int → Option (Int × ASt)
  | 0, _, _ => none
  | n + 1, V, x2 =>
    if 200 ≤ x2 then (wV (aset V x0 56 0) (fun V11 => if x1 = (-1) then (b_M_lays_L39 S x0 x1 FU V11 0) else (bnd (f_M_comes S V11 x0 x1) (fun r12 V13 => b_M_lays_L39 S x0 x1 FU V13 0)))) else (gd (isA S (aF S x0 54) 2 x2) (wV (aset V (aF S x0 54) x2 0) (fun V16 => (b_M_lays_L2 S x0 x1 n) V16 (w32 (x2 + 1)))))
def f_M_lays (S : ASh) (V : ASt) (x0 x1 : Int) : Option (Int × ASt) :=
  gd (isO S x0 13) (b_M_lays_L2 S x0 x1 FU V 0)
def f_M_isPosition (S : ASh) (V : ASt) (x0 x1 : Int) : Option (Int × ASt) :=
  gd (isO S x0 13) (bnd (f_M_hasFields S V x0) (fun r1 V2 => if r1 = 0 then (some (0, V2)) else (bnd (f_M_positions S V2 x0) (fun r4 V5 => bnd (f_M_is S V5 x1 0 (w32 (r4 - 1))) (fun r7 V8 => if r7 = 0 then (some (0, V8)) else (some (1, V8)))))))
def f_M_lawful (S : ASh) (V : ASt) (x0 x1 x2 : Int) : Option (Int × ASt) :=
  gd (isO S x0 13) (bnd (f_M_isPosition S V x0 x1) (fun r1 V2 => if r1 = 0 then (some ((-1), V2)) else (bnd (f_M_lays S V2 x0 x1) (fun r4 V5 => if x2 = (-1) then (gd (isA S (aF S x0 51) 0 x1) (some ((V5 (aF S x0 51) x1), V5))) else (gd (isA S (aF S x0 51) 0 x1) (bnd (f_M_is S V5 x2 0 (w32 ((V5 (aF S x0 51) x1) - 1))) (fun r8 V9 => if r8 = 0 then (some ((-1), V9)) else (gd (isA S (aF S x0 52) 0 (w32 ((w32 (20 * x1)) + x2))) (some ((V9 (aF S x0 52) (w32 ((w32 (20 * x1)) + x2))), V9))))))))))
def b_M_winsIn_J35 (S : ASh) (K5 : ASt → Int → Option (Int × ASt)) (V : ASt) (x0 x1 x2 x3 : Int) : Option (Int × ASt) :=
  gd (isA S (aF S x0 53) 0 x3) (if (V (aF S x0 53) x3) < 0 then (K5 V (w32 (x3 + 1))) else (gd (isA S (aF S x0 57) 0 (V (aF S x0 53) x3)) (if (V (aF S x0 57) (V (aF S x0 53) x3)) = (-1) then (gd (isA S (aF S x0 58) 0 (V (aF S x0 53) x3)) (if (V (aF S x0 58) (V (aF S x0 53) x3)) = (w32 (x2 - 1)) then (some (1, V)) else (K5 V (w32 (x3 + 1))))) else (K5 V (w32 (x3 + 1))))))
def b_M_winsIn_L5 (S : ASh) (x0 x1 x2 : Int) : Nat → ASt → Int → Option (Int × ASt)
  | 0, _, _ => none
  | n + 1, V, x3 =>
    gd (isA S (aF S x0 51) 0 x1) (if (w32 ((w32 (20 * x1)) + (V (aF S x0 51) x1))) ≤ x3 then (some (0, V)) else (gd (isA S (aF S x0 53) 0 x3) (if (V (aF S x0 53) x3) = (-1) then (if x2 = 1 then (some (1, V)) else (b_M_winsIn_J35 S ((b_M_winsIn_L5 S x0 x1 x2 n)) V x0 x1 x2 x3)) else (b_M_winsIn_J35 S ((b_M_winsIn_L5 S x0 x1 x2 n)) V x0 x1 x2 x3))))
def f_M_winsIn (S : ASh) (V : ASt) (x0 x1 x2 : Int) : Option (Int × ASt) :=
  gd (isO S x0 13) (b_M_winsIn_L5 S x0 x1 x2 FU V (w32 (20 * x1)))
def b_M_losesIn_J91 (S : ASh) (K8 : ASt → Int → Int → Option (Int × ASt)) (V : ASt) (x0 x1 x2 x3 x4 s0 : Int) : Option (Int × ASt) :=
  if s0 ≤ x3 then (K8 V x3 (w32 (x4 + 1))) else (K8 V s0 (w32 (x4 + 1)))
def b_M_losesIn_J63 (S : ASh) (K8 : ASt → Int → Int → Option (Int × ASt)) (V : ASt) (x0 x1 x2 x3 x4 : Int) : Option (Int × ASt) :=
  gd (isA S (aF S x0 53) 0 x4) (if (V (aF S x0 53) x4) < 0 then (b_M_losesIn_J91 S K8 V x0 x1 x2 x3 x4 1) else (gd (isA S (aF S x0 58) 0 (V (aF S x0 53) x4)) (b_M_losesIn_J91 S K8 V x0 x1 x2 x3 x4 (w32 ((V (aF S x0 58) (V (aF S x0 53) x4)) + 1)))))
def b_M_losesIn_L8 (S : ASh) (x0 x1 x2 : Int) : Nat → ASt → Int → Int → Option (Int × ASt)
  | 0, _, _, _ => none
  | n + 1, V, x3, x4 =>
    gd (isA S (aF S x0 51) 0 x1) (if (w32 ((w32 (20 * x1)) + (V (aF S x0 51) x1))) ≤ x4 then (if (V (aF S x0 51) x1) ≤ 0 then (some (0, V)) else (if x3 = x2 then (some (1, V)) else (some (0, V)))) else (gd (isA S (aF S x0 53) 0 x4) (if (V (aF S x0 53) x4) = (-1) then (some (0, V)) else (if (V (aF S x0 53) x4) < 0 then (b_M_losesIn_J63 S ((b_M_losesIn_L8 S x0 x1 x2 n)) V x0 x1 x2 x3 x4) else (gd (isA S (aF S x0 57) 0 (V (aF S x0 53) x4)) (if (V (aF S x0 57) (V (aF S x0 53) x4)) = 1 then (b_M_losesIn_J63 S ((b_M_losesIn_L8 S x0 x1 x2 n)) V x0 x1 x2 x3 x4) else (some (0, V))))))))
def f_M_losesIn (S : ASh) (V : ASt) (x0 x1 x2 : Int) : Option (Int × ASt) :=
  gd (isO S x0 13) (b_M_losesIn_L8 S x0 x1 x2 FU V 0 (w32 (20 * x1)))
def b_M_worths_J63 (S : ASh) (K2 : ASt → Int → Option (Int × ASt)) (V : ASt) (x0 x1 s0 s1 s2 : Int) : Option (Int × ASt) :=
  gd (isA S s0 0 s1) (wV (aset V s0 s1 s2) (fun V2 => K2 V2 (w32 (x1 + 1))))
def b_M_worths_J41 (S : ASh) (K2 : ASt → Int → Option (Int × ASt)) (V : ASt) (x0 x1 x2 s0 : Int) : Option (Int × ASt) :=
  gd (isA S (aF S x0 57) 0 x2) (wV (aset V (aF S x0 57) x2 s0) (fun V4 => if s0 = 0 then (b_M_worths_J63 S K2 V4 x0 x1 (aF S x0 58) x2 (-1)) else (b_M_worths_J63 S K2 V4 x0 x1 (aF S x0 58) x2 0)))
def b_M_worths_J150 (S : ASh) (K74 : ASt → Int → Int → Option (Int × ASt)) (K82 : ASt → Int → Int → Option (Int × ASt)) (V : ASt) (x0 x1 x2 x3 x4 s0 : Int) : Option (Int × ASt) :=
  if s0 = 0 then (K82 V x1 (w32 (x3 + 1))) else (gd (isA S (aF S x0 57) 0 x4) (wV (aset V (aF S x0 57) x4 s0) (fun V6 => gd (isA S (aF S x0 58) 0 x4) (wV (aset V6 (aF S x0 58) x4 x2) (fun V8 => K82 V8 1 (w32 (x3 + 1)))))))
def b_M_worths_L82 (S : ASh) (K74 : ASt → Int → Int → Option (Int × ASt)) (x0 x2 : Int) : Nat → ASt → Int → Int → Option (Int × ASt)
  | 0, _, _, _ => none
  | n + 1, V, x1, x3 =>
    if (V x0 56) ≤ x3 then (K74 V x1 (w32 (x2 + 1))) else (gd (isA S (aF S x0 55) 0 x3) (gd (isA S (aF S x0 57) 0 (V (aF S x0 55) x3)) (if (V (aF S x0 57) (V (aF S x0 55) x3)) = 0 then (gd (isA S (aF S x0 51) 0 (V (aF S x0 55) x3)) (if (V (aF S x0 51) (V (aF S x0 55) x3)) = 0 then ((b_M_worths_L82 S K74 x0 x2 n) V x1 (w32 (x3 + 1))) else (bnd (f_M_winsIn S V x0 (V (aF S x0 55) x3) x2) (fun r12 V13 => if r12 = 0 then (bnd (f_M_losesIn S V13 x0 (V (aF S x0 55) x3) x2) (fun r15 V16 => if r15 = 0 then (b_M_worths_J150 S K74 ((b_M_worths_L82 S K74 x0 x2 n)) V16 x0 x1 x2 x3 (V (aF S x0 55) x3) 0) else (b_M_worths_J150 S K74 ((b_M_worths_L82 S K74 x0 x2 n)) V16 x0 x1 x2 x3 (V (aF S x0 55) x3) (-1)))) else (b_M_worths_J150 S K74 ((b_M_worths_L82 S K74 x0 x2 n)) V13 x0 x1 x2 x3 (V (aF S x0 55) x3) 1))))) else ((b_M_worths_L82 S K74 x0 x2 n) V x1 (w32 (x3 + 1))))))
def b_M_worths_L74 (S : ASh) (x0 : Int) : Nat → ASt → Int → Int → Option (Int × ASt)
  | 0, _, _, _ => none
  | n + 1, V, x1, x2 =>
    if x1 = 0 then (some (0, V)) else (b_M_worths_L82 S ((b_M_worths_L74 S x0 n)) x0 x2 FU V 0 0)
def b_M_worths_L2 (S : ASh) (x0 : Int) : Nat → ASt → Int → Option (Int × ASt)
  | 0, _, _ => none
  | n + 1, V, x1 =>
    if (V x0 56) ≤ x1 then (b_M_worths_L74 S x0 FU V 1 1) else (gd (isA S (aF S x0 55) 0 x1) (gd (isA S (aF S x0 51) 0 (V (aF S x0 55) x1)) (if (V (aF S x0 51) (V (aF S x0 55) x1)) ≤ 0 then (gd (isA S (aF S x0 18) 0 (V x0 12)) (b_M_worths_J41 S ((b_M_worths_L2 S x0 n)) V x0 x1 (V (aF S x0 55) x1) (w32 ((V (aF S x0 18) (V x0 12)) - 1)))) else (b_M_worths_J41 S ((b_M_worths_L2 S x0 n)) V x0 x1 (V (aF S x0 55) x1) 0))))
def f_M_worths (S : ASh) (V : ASt) (x0 : Int) : Option (Int × ASt) :=
  gd (isO S x0 13) (b_M_worths_L2 S x0 FU V 0)
def b_M_bestOf_J123 (S : ASh) (K2 : ASt → Int → Option (Int × ASt)) (V : ASt) (x0 x1 x2 x3 : Int) : Option (Int × ASt) :=
  gd (isA S (aF S x0 57) 0 x1) (if (V (aF S x0 57) x1) = 0 then (if x3 < 0 then (K2 V (w32 (x2 + 1))) else (gd (isA S (aF S x0 57) 0 x3) (if (V (aF S x0 57) x3) = 0 then (some (x2, V)) else (K2 V (w32 (x2 + 1)))))) else (K2 V (w32 (x2 + 1))))
def b_M_bestOf_J104 (S : ASh) (K2 : ASt → Int → Option (Int × ASt)) (V : ASt) (x0 x1 x2 x3 x4 : Int) : Option (Int × ASt) :=
  if x3 < 0 then (b_M_bestOf_J123 S K2 V x0 x1 x2 x3) else (gd (isA S (aF S x0 58) 0 x3) (if (V (aF S x0 58) x3) = (w32 (x4 - 1)) then (some (x2, V)) else (b_M_bestOf_J123 S K2 V x0 x1 x2 x3)))
def b_M_bestOf_J82 (S : ASh) (K2 : ASt → Int → Option (Int × ASt)) (V : ASt) (x0 x1 x2 x3 x4 : Int) : Option (Int × ASt) :=
  gd (isA S (aF S x0 57) 0 x1) (if (V (aF S x0 57) x1) = (-1) then (if x3 = (-2) then (if x4 = 1 then (some (x2, V)) else (b_M_bestOf_J104 S K2 V x0 x1 x2 x3 x4)) else (b_M_bestOf_J104 S K2 V x0 x1 x2 x3 x4)) else (b_M_bestOf_J123 S K2 V x0 x1 x2 x3))
def b_M_bestOf_J53 (S : ASh) (K2 : ASt → Int → Option (Int × ASt)) (V : ASt) (x0 x1 x2 x3 x4 : Int) : Option (Int × ASt) :=
  if x3 < 0 then (b_M_bestOf_J82 S K2 V x0 x1 x2 x3 x4) else (gd (isA S (aF S x0 57) 0 x3) (if (V (aF S x0 57) x3) = (-1) then (gd (isA S (aF S x0 58) 0 x3) (if (V (aF S x0 58) x3) = (w32 (x4 - 1)) then (some (x2, V)) else (b_M_bestOf_J82 S K2 V x0 x1 x2 x3 x4))) else (b_M_bestOf_J82 S K2 V x0 x1 x2 x3 x4)))
def b_M_bestOf_L2 (S : ASh) (x0 x1 : Int) : Nat → ASt → Int → Option (Int × ASt)
  | 0, _, _ => none
  | n + 1, V, x2 =>
    gd (isA S (aF S x0 51) 0 x1) (if (V (aF S x0 51) x1) ≤ x2 then (some ((-1), V)) else (gd (isA S (aF S x0 53) 0 (w32 ((w32 (20 * x1)) + x2))) (gd (isA S (aF S x0 58) 0 x1) (gd (isA S (aF S x0 57) 0 x1) (if (V (aF S x0 57) x1) = 1 then (if (V (aF S x0 53) (w32 ((w32 (20 * x1)) + x2))) = (-1) then (if (V (aF S x0 58) x1) = 1 then (some (x2, V)) else (b_M_bestOf_J53 S ((b_M_bestOf_L2 S x0 x1 n)) V x0 x1 x2 (V (aF S x0 53) (w32 ((w32 (20 * x1)) + x2))) (V (aF S x0 58) x1))) else (b_M_bestOf_J53 S ((b_M_bestOf_L2 S x0 x1 n)) V x0 x1 x2 (V (aF S x0 53) (w32 ((w32 (20 * x1)) + x2))) (V (aF S x0 58) x1))) else (b_M_bestOf_J82 S ((b_M_bestOf_L2 S x0 x1 n)) V x0 x1 x2 (V (aF S x0 53) (w32 ((w32 (20 * x1)) + x2))) (V (aF S x0 58) x1)))))))
def f_M_bestOf (S : ASh) (V : ASt) (x0 x1 : Int) : Option (Int × ASt) :=
  gd (isO S x0 13) (b_M_bestOf_L2 S x0 x1 FU V 0)
def f_M_value (S : ASh) (V : ASt) (x0 x1 x2 : Int) : Option (Int × ASt) :=
  gd (isO S x0 13) (bnd (f_M_isPosition S V x0 x1) (fun r1 V2 => if r1 = 0 then (some ((-2), V2)) else (bnd (f_M_is S V2 x2 0 2) (fun r4 V5 => if r4 = 0 then (some ((-2), V5)) else (bnd (f_M_lays S V5 x0 x1) (fun r7 V8 => bnd (f_M_worths S V8 x0) (fun r10 V11 => bnd (f_M_bestOf S V11 x0 x1) (fun r13 V14 => if x2 = 0 then (gd (isA S (aF S x0 57) 0 x1) (some ((V14 (aF S x0 57) x1), V14))) else (if x2 = 1 then (gd (isA S (aF S x0 58) 0 x1) (some ((V14 (aF S x0 58) x1), V14))) else (if r13 = (-1) then (some ((-1), V14)) else (gd (isA S (aF S x0 52) 0 (w32 ((w32 (20 * x1)) + r13))) (some ((V14 (aF S x0 52) (w32 ((w32 (20 * x1)) + r13))), V14)))))))))))))
def f_M_worthOn (S : ASh) (V : ASt) (x0 x1 : Int) : Option (Int × ASt) :=
  gd (isO S x0 13) (bnd (f_M_beginning S V x0 x1) (fun r1 V2 => bnd (f_M_lays S V2 x0 r1) (fun r4 V5 => bnd (f_M_worths S V5 x0) (fun r7 V8 => bnd (f_M_beginning S V8 x0 x1) (fun r10 V11 => gd (isA S (aF S x0 57) 0 r10) (some ((V11 (aF S x0 57) r10), V11)))))))
def f_M_worth (S : ASh) (V : ASt) (x0 : Int) : Option (Int × ASt) :=
  gd (isO S x0 13) (bnd (f_M_hasFields S V x0) (fun r1 V2 => if r1 = 0 then (some ((-2), V2)) else (bnd (f_M_worthOn S V2 x0 (V2 x0 48)) (fun r4 V5 => some (r4, V5)))))
def f_M_wonBy (S : ASh) (V : ASt) (x0 x1 : Int) : Option (Int × ASt) :=
  gd (isO S x0 13) (if (V x0 61) = (-1) then (bnd (f_M_lays S V x0 x1) (fun r1 V2 => gd (isA S (aF S x0 51) 0 x1) (if (V2 (aF S x0 51) x1) ≤ 0 then (gd (isA S (aF S x0 18) 0 (V2 x0 12)) (if (V2 (aF S x0 18) (V2 x0 12)) = 1 then (some (2, V2)) else (if (V2 (aF S x0 18) (V2 x0 12)) = 2 then (some ((Int.tmod x1 2), V2)) else (some ((w32 (1 - (Int.tmod x1 2))), V2))))) else (some ((-1), V2))))) else (some ((V x0 61), V)))
def f_M_played (S : ASh) (V : ASt) (x0 x1 : Int) : Option (Int × ASt) :=
  gd (isO S x0 13) (bnd (f_M_hasFields S V x0) (fun r1 V2 => if r1 = 0 then (some ((-1), V2)) else (if x1 = 0 then (some ((V2 x0 59), V2)) else (if x1 = 1 then (some ((Int.tmod (V2 x0 59) 2), V2)) else (if x1 = 2 then (some ((V2 x0 60), V2)) else (if x1 = 3 then (bnd (f_M_wonBy S V2 x0 (V2 x0 59)) (fun r8 V9 => some (r8, V9))) else (some ((-1), V2))))))))
def b_M_move_J78 (S : ASh) (V : ASt) (x0 : Int) : Option (Int × ASt) :=
  bnd (f_M_refuses S V x0 2) (fun r1 V2 => if r1 < 0 then (some (0, V2)) else (some (1, V2)))
def b_M_move_J139 (S : ASh) (V : ASt) (x0 x1 x2 s0 s1 : Int) : Option (Int × ASt) :=
  gd (isO S s0 13) (wV (aset V s0 61 s1) (fun V5 => bnd (f_M_behind S V5 x0 (V5 x0 59) x1 x2) (fun r6 V7 => wV (aset V7 x0 59 r6) (fun V9 => wV (aset V9 x0 60 (w32 ((V9 x0 60) + 1))) (fun V10 => some (1, V10))))))
def b_M_move_J48 (S : ASh) (V : ASt) (x0 x1 x2 s0 : Int) : Option (Int × ASt) :=
  if s0 = 0 then (b_M_move_J78 S  V x0) else (bnd (f_M_wonBy S V x0 (V x0 59)) (fun r11 V12 => if r11 = (-1) then (bnd (f_M_isLawful S V12 x0 (V12 x0 59) x1 x2) (fun r14 V15 => if r14 = 0 then (b_M_move_J78 S  V15 x0) else (bnd (f_M_leads S V15 x0 (V15 x0 59) x1 x2) (fun r17 V18 => if r17 = (-1) then (b_M_move_J139 S  V18 x0 x1 x2 x0 (Int.tmod (V18 x0 59) 2)) else (if r17 = (-2) then (b_M_move_J139 S  V18 x0 x1 x2 x0 (w32 (1 - (Int.tmod (V18 x0 59) 2)))) else (b_M_move_J139 S  V18 x0 x1 x2 x0 (-1))))))) else (b_M_move_J78 S  V12 x0)))
def f_M_move (S : ASh) (V : ASt) (x0 x1 x2 : Int) : Option (Int × ASt) :=
  gd (isO S x0 13) (bnd (f_M_hasFields S V x0) (fun r20 V21 => if r20 = 0 then (b_M_move_J48 S  V21 x0 x1 x2 0) else (gd (isA S (aF S x0 14) 0 (V21 x0 12)) (bnd (f_M_is S V21 x1 0 (w32 ((V21 (aF S x0 14) (V21 x0 12)) - 1))) (fun r24 V25 => if r24 = 0 then (b_M_move_J48 S  V25 x0 x1 x2 0) else (gd (isA S (aF S x0 13) 0 (V25 x0 12)) (bnd (f_M_is S V25 x2 0 (V25 (aF S x0 13) (V25 x0 12))) (fun r28 V29 => if r28 = 0 then (b_M_move_J48 S  V29 x0 x1 x2 0) else (b_M_move_J48 S  V29 x0 x1 x2 1)))))))))
def f_M_anew (S : ASh) (V : ASt) (x0 : Int) : Option (Int × ASt) :=
  gd (isO S x0 13) (bnd (f_M_anews S V x0) (fun r1 V2 => some (r1, V2)))
def f_M_hat (S : ASh) (V : ASt) (x0 : Int) : Option (Int × ASt) :=
  gd (isO S x0 13) (bnd (f_M_hasFields S V x0) (fun r1 V2 => if r1 = 0 then (some ((-1), V2)) else (bnd (f_M_wonBy S V2 x0 (V2 x0 59)) (fun r4 V5 => if r4 = (-1) then (bnd (f_M_lays S V5 x0 (V5 x0 59)) (fun r7 V8 => bnd (f_M_worths S V8 x0) (fun r10 V11 => gd (isA S (aF S x0 57) 0 (V11 x0 59)) (if (V11 (aF S x0 57) (V11 x0 59)) = 1 then (some ((Int.tmod (V11 x0 59) 2), V11)) else (if (V11 (aF S x0 57) (V11 x0 59)) = (-1) then (some ((w32 (1 - (Int.tmod (V11 x0 59) 2))), V11)) else (some ((-1), V11))))))) else (if r4 = 2 then (some ((-1), V5)) else (some (r4, V5)))))))
def b_M_longest_J173 (S : ASh) (K53 : ASt → Int → Option (Int × ASt)) (K61 : ASt → Int → Int → Option (Int × ASt)) (K101 : ASt → Int → Int → Option (Int × ASt)) (V : ASt) (x0 x1 x2 x3 x4 x5 x6 s0 : Int) : Option (Int × ASt) :=
  if s0 = (-1) then (K101 V (-1) (w32 (x6 + 1))) else (if s0 ≤ x5 then (K101 V x5 (w32 (x6 + 1))) else (K101 V s0 (w32 (x6 + 1))))
def b_M_longest_J207 (S : ASh) (K53 : ASt → Int → Option (Int × ASt)) (K61 : ASt → Int → Int → Option (Int × ASt)) (V : ASt) (x0 x1 x2 x3 x4 x5 : Int) : Option (Int × ASt) :=
  if x5 = (-1) then (K61 V x2 (w32 (x3 + 1))) else (gd (isA S (aF S x0 62) 0 x4) (wV (aset V (aF S x0 62) x4 x5) (fun V2 => K61 V2 1 (w32 (x3 + 1)))))
def b_M_longest_L101 (S : ASh) (K53 : ASt → Int → Option (Int × ASt)) (K61 : ASt → Int → Int → Option (Int × ASt)) (x0 x1 x2 x3 x4 : Int) : Nat → ASt → Int → Int → Option (Int × ASt)
  | 0, _, _, _ => none
  | n + 1, V, x5, x6 =>
    gd (isA S (aF S x0 51) 0 x4) (if (w32 ((w32 (20 * x4)) + (V (aF S x0 51) x4))) ≤ x6 then (b_M_longest_J207 S K53 K61 V x0 x1 x2 x3 x4 x5) else (if x5 = (-1) then (b_M_longest_J207 S K53 K61 V x0 x1 x2 x3 x4 x5) else (gd (isA S (aF S x0 53) 0 x6) (if 0 ≤ (V (aF S x0 53) x6) then (gd (isA S (aF S x0 62) 0 (V (aF S x0 53) x6)) (if (V (aF S x0 62) (V (aF S x0 53) x6)) = (-1) then (b_M_longest_J173 S K53 K61 ((b_M_longest_L101 S K53 K61 x0 x1 x2 x3 x4 n)) V x0 x1 x2 x3 x4 x5 x6 (-1)) else (b_M_longest_J173 S K53 K61 ((b_M_longest_L101 S K53 K61 x0 x1 x2 x3 x4 n)) V x0 x1 x2 x3 x4 x5 x6 (w32 ((V (aF S x0 62) (V (aF S x0 53) x6)) + 1))))) else (b_M_longest_J173 S K53 K61 ((b_M_longest_L101 S K53 K61 x0 x1 x2 x3 x4 n)) V x0 x1 x2 x3 x4 x5 x6 1)))))
def b_M_longest_L61 (S : ASh) (K53 : ASt → Int → Option (Int × ASt)) (x0 x1 : Int) : Nat → ASt → Int → Int → Option (Int × ASt)
  | 0, _, _, _ => none
  | n + 1, V, x2, x3 =>
    if (V x0 56) ≤ x3 then (K53 V x2) else (gd (isA S (aF S x0 55) 0 x3) (gd (isA S (aF S x0 62) 0 (V (aF S x0 55) x3)) (if (V (aF S x0 62) (V (aF S x0 55) x3)) = (-1) then (b_M_longest_L101 S K53 ((b_M_longest_L61 S K53 x0 x1 n)) x0 x1 x2 x3 (V (aF S x0 55) x3) FU V 0 (w32 (20 * (V (aF S x0 55) x3)))) else ((b_M_longest_L61 S K53 x0 x1 n) V x2 (w32 (x3 + 1))))))
def b_M_longest_L53 (S : ASh) (x0 x1 : Int) : Nat → ASt → Int → Option (Int × ASt)
  | 0, _, _ => none
  | n + 1, V, x2 =>
    if x2 = 0 then (gd (isA S (aF S x0 62) 0 x1) (some ((V (aF S x0 62) x1), V))) else (b_M_longest_L61 S ((b_M_longest_L53 S x0 x1 n)) x0 x1 FU V 0 0)
def b_M_longest_L25 (S : ASh) (x0 x1 : Int) : Nat → ASt → Int → Option (Int × ASt)
  | 0, _, _ => none
  | n + 1, V, x2 =>
    if (V x0 56) ≤ x2 then (b_M_longest_L53 S x0 x1 FU V 1) else (gd (isA S (aF S x0 55) 0 x2) (gd (isA S (aF S x0 62) 0 (V (aF S x0 55) x2)) (wV (aset V (aF S x0 62) (V (aF S x0 55) x2) (-1)) (fun V11 => (b_M_longest_L25 S x0 x1 n) V11 (w32 (x2 + 1))))))
def f_M_longest (S : ASh) (V : ASt) (x0 : Int) : Option (Int × ASt) :=
  gd (isO S x0 13) (bnd (f_M_hasFields S V x0) (fun r12 V13 => if r12 = 0 then (some ((-1), V13)) else (bnd (f_M_beginning S V13 x0 (V13 x0 48)) (fun r15 V16 => bnd (f_M_lays S V16 x0 r15) (fun r18 V19 => b_M_longest_L25 S x0 r15 FU V19 0)))))
def b_M_row_L38 (S : ASh) (x0 x1 : Int) : Nat → ASt → Int → Int → Option (Int × ASt)
  | 0, _, _, _ => none
  | n + 1, V, x2, x3 =>
    if x1 ≤ x3 then (some ((-1), V)) else (gd (isA S (aF S x0 0) 0 x3) (if x2 = (-1) then (some (x3, V)) else (gd (isA S (aF S x0 14) 0 (V x0 12)) (if (V (aF S x0 14) (V x0 12)) ≤ (w32 (Int.tdiv (V (aF S x0 0) x3) 10)) then (some (x3, V)) else (gd (isA S (aF S x0 13) 0 (V x0 12)) (if (V (aF S x0 13) (V x0 12)) < (Int.tmod (V (aF S x0 0) x3) 10) then (some (x3, V)) else (bnd (f_M_isLawful S V x0 x2 (w32 (Int.tdiv (V (aF S x0 0) x3) 10)) (Int.tmod (V (aF S x0 0) x3) 10)) (fun r4 V5 => if r4 = 0 then (some (x3, V5)) else (bnd (f_M_leads S V5 x0 x2 (w32 (Int.tdiv (V (aF S x0 0) x3) 10)) (Int.tmod (V (aF S x0 0) x3) 10)) (fun r7 V8 => if 0 ≤ r7 then ((b_M_row_L38 S x0 x1 n) V8 r7 (w32 (x3 + 1))) else ((b_M_row_L38 S x0 x1 n) V8 (-1) (w32 (x3 + 1)))))))))))))
def f_M_row (S : ASh) (V : ASt) (x0 : Int) : Option (Int × ASt) :=
  gd (isO S x0 13) (wV (aset V x0 1 0) (fun V10 => bnd (f_M_hasFields S V10 x0) (fun r11 V12 => if r11 = 0 then (if (V x0 1) ≤ 0 then (some ((-1), V12)) else (some (0, V12))) else (bnd (f_M_beginning S V12 x0 (V12 x0 48)) (fun r14 V15 => b_M_row_L38 S x0 (V x0 1) FU V15 r14 0)))))
def b_M_errs_J19 (S : ASh) (V : ASt) (x0 : Int) : Option (Int × ASt) :=
  bnd (f_M_refuses S V x0 4) (fun r1 V2 => some (r1, V2))
def f_M_errs (S : ASh) (V : ASt) (x0 x1 x2 : Int) : Option (Int × ASt) :=
  gd (isO S x0 13) (bnd (f_M_is S V x1 0 1) (fun r4 V5 => if r4 = 0 then (b_M_errs_J19 S  V5 x0) else (bnd (f_M_is S V5 x2 0 100) (fun r7 V8 => if r7 = 0 then (b_M_errs_J19 S  V8 x0) else (gd (isA S (aF S x0 50) 0 x1) (wV (aset V8 (aF S x0 50) x1 x2) (fun V11 => some ((V8 (aF S x0 50) x1), V11))))))))
def b_M_chanceBy_J44 (S : ASh) (V : ASt) (x0 s0 s1 : Int) : Option (Int × ASt) :=
  if s0 = s1 then (some (1000000000, V)) else (some (0, V))
def b_M_chanceBy_J33 (S : ASh) (V : ASt) (x0 x1 s0 : Int) : Option (Int × ASt) :=
  if (Int.tmod x1 2) = 0 then (b_M_chanceBy_J44 S  V x0 s0 1) else (b_M_chanceBy_J44 S  V x0 s0 0)
def f_M_chanceBy (S : ASh) (V : ASt) (x0 x1 x2 : Int) : Option (Int × ASt) :=
  gd (isO S x0 13) (gd (isA S (aF S x0 53) 0 (w32 ((w32 (20 * x1)) + x2))) (if (V (aF S x0 53) (w32 ((w32 (20 * x1)) + x2))) < 0 then (if (V (aF S x0 53) (w32 ((w32 (20 * x1)) + x2))) = (-1) then (b_M_chanceBy_J33 S  V x0 x1 1) else (b_M_chanceBy_J33 S  V x0 x1 0)) else (gd (isA S (aF S x0 63) 1 (V (aF S x0 53) (w32 ((w32 (20 * x1)) + x2)))) (some ((V (aF S x0 63) (V (aF S x0 53) (w32 ((w32 (20 * x1)) + x2)))), V)))))
def b_M_likely_J130 (S : ASh) (K39 : ASt → Int → Option (Int × ASt)) (V : ASt) (x0 x1 x2 x3 s0 s1 s2 : Int) : Option (Int × ASt) :=
  gd (isA S s0 1 s1) (wV (aset V s0 s1 s2) (fun V2 => K39 V2 (w32 (x3 + 1))))
def b_M_likely_J110 (S : ASh) (K39 : ASt → Int → Option (Int × ASt)) (V : ASt) (x0 x1 x2 x3 x4 s0 : Int) : Option (Int × ASt) :=
  if s0 = 0 then (b_M_likely_J130 S K39 V x0 x1 x2 x3 (aF S x0 63) x4 0) else (b_M_likely_J130 S K39 V x0 x1 x2 x3 (aF S x0 63) x4 1000000000)
def b_M_likely_J85 (S : ASh) (K39 : ASt → Int → Option (Int × ASt)) (V : ASt) (x0 x1 x2 x3 x4 : Int) : Option (Int × ASt) :=
  gd (isA S (aF S x0 18) 0 (V x0 12)) (if (V (aF S x0 18) (V x0 12)) = 0 then (if (Int.tmod x4 2) = 1 then (b_M_likely_J110 S K39 V x0 x1 x2 x3 x4 1) else (b_M_likely_J110 S K39 V x0 x1 x2 x3 x4 0)) else (b_M_likely_J110 S K39 V x0 x1 x2 x3 x4 0))
def b_M_likely_L198 (S : ASh) (K139 : ASt → Int → Option (Int × ASt)) (K147 : ASt → Int → Option (Int × ASt)) (x0 x1 x2 x3 x4 x5 : Int) : Nat → ASt → Int → Int → Option (Int × ASt)
  | 0, _, _, _ => none
  | n + 1, V, x6, x8 =>
    gd (isA S (aF S x0 51) 0 x5) (if (V (aF S x0 51) x5) ≤ x8 then (gd (isA S (aF S x0 50) 0 (Int.tmod x5 2)) (bnd (f_M_bestOf S V x0 x5) (fun r6 V7 => bnd (f_M_chanceBy S V7 x0 x5 r6) (fun r9 V10 => gd (nz (V10 (aF S x0 51) x5)) (gd (isA S (aF S x0 64) 1 x5) (wV (aset V10 (aF S x0 64) x5 (w64 (Int.tdiv (w64 ((w64 ((w32 (100 - (V (aF S x0 50) (Int.tmod x5 2)))) * r9)) + (w64 ((V (aF S x0 50) (Int.tmod x5 2)) * (w64 (Int.tdiv x6 (V10 (aF S x0 51) x5))))))) 100))) (fun V14 => K147 V14 (w32 (x4 + 1))))))))) else (bnd (f_M_chanceBy S V x0 x5 x8) (fun r15 V16 => (b_M_likely_L198 S K139 K147 x0 x1 x2 x3 x4 x5 n) V16 (w64 (x6 + r15)) (w32 (x8 + 1)))))
def b_M_likely_L295 (S : ASh) (K139 : ASt → Int → Option (Int × ASt)) (x0 x1 x2 x3 : Int) : Nat → ASt → Int → Option (Int × ASt)
  | 0, _, _ => none
  | n + 1, V, x4 =>
    if (V x0 56) ≤ x4 then (K139 V (w32 (x3 + 1))) else (gd (isA S (aF S x0 55) 0 x4) (gd (isA S (aF S x0 64) 1 (V (aF S x0 55) x4)) (gd (isA S (aF S x0 63) 1 (V (aF S x0 55) x4)) (wV (aset V (aF S x0 63) (V (aF S x0 55) x4) (V (aF S x0 64) (V (aF S x0 55) x4))) (fun V21 => (b_M_likely_L295 S K139 x0 x1 x2 x3 n) V21 (w32 (x4 + 1)))))))
def b_M_likely_L147 (S : ASh) (K139 : ASt → Int → Option (Int × ASt)) (x0 x1 x2 x3 : Int) : Nat → ASt → Int → Option (Int × ASt)
  | 0, _, _ => none
  | n + 1, V, x4 =>
    if (V x0 56) ≤ x4 then (b_M_likely_L295 S K139 x0 x1 x2 x3 FU V 0) else (gd (isA S (aF S x0 55) 0 x4) (gd (isA S (aF S x0 63) 1 (V (aF S x0 55) x4)) (gd (isA S (aF S x0 64) 1 (V (aF S x0 55) x4)) (wV (aset V (aF S x0 64) (V (aF S x0 55) x4) (V (aF S x0 63) (V (aF S x0 55) x4))) (fun V25 => gd (isA S (aF S x0 51) 0 (V (aF S x0 55) x4)) (if (V25 (aF S x0 51) (V (aF S x0 55) x4)) = 0 then ((b_M_likely_L147 S K139 x0 x1 x2 x3 n) V25 (w32 (x4 + 1))) else (b_M_likely_L198 S K139 ((b_M_likely_L147 S K139 x0 x1 x2 x3 n)) x0 x1 x2 x3 x4 (V (aF S x0 55) x4) FU V25 0 0)))))))
def b_M_likely_L139 (S : ASh) (x0 x1 x2 : Int) : Nat → ASt → Int → Option (Int × ASt)
  | 0, _, _ => none
  | n + 1, V, x3 =>
    if x1 ≤ x3 then (gd (isA S (aF S x0 63) 1 x2) (some ((w32 (V (aF S x0 63) x2)), V))) else (b_M_likely_L147 S ((b_M_likely_L139 S x0 x1 x2 n)) x0 x1 x2 x3 FU V 0)
def b_M_likely_L39 (S : ASh) (x0 x1 x2 : Int) : Nat → ASt → Int → Option (Int × ASt)
  | 0, _, _ => none
  | n + 1, V, x3 =>
    if (V x0 56) ≤ x3 then (b_M_likely_L139 S x0 x1 x2 FU V 0) else (gd (isA S (aF S x0 55) 0 x3) (gd (isA S (aF S x0 51) 0 (V (aF S x0 55) x3)) (if (V (aF S x0 51) (V (aF S x0 55) x3)) = 0 then (gd (isA S (aF S x0 18) 0 (V x0 12)) (if (V (aF S x0 18) (V x0 12)) = 2 then (if (Int.tmod (V (aF S x0 55) x3) 2) = 0 then (b_M_likely_J110 S ((b_M_likely_L39 S x0 x1 x2 n)) V x0 x1 x2 x3 (V (aF S x0 55) x3) 1) else (b_M_likely_J85 S ((b_M_likely_L39 S x0 x1 x2 n)) V x0 x1 x2 x3 (V (aF S x0 55) x3))) else (b_M_likely_J85 S ((b_M_likely_L39 S x0 x1 x2 n)) V x0 x1 x2 x3 (V (aF S x0 55) x3)))) else (b_M_likely_J110 S ((b_M_likely_L39 S x0 x1 x2 n)) V x0 x1 x2 x3 (V (aF S x0 55) x3) 0))))
def f_M_likely (S : ASh) (V : ASt) (x0 x1 : Int) : Option (Int × ASt) :=
  gd (isO S x0 13) (bnd (f_M_hasFields S V x0) (fun r31 V32 => if r31 = 0 then (some ((-1), V32)) else (bnd (f_M_is S V32 x1 0 40) (fun r34 V35 => if r34 = 0 then (some ((-1), V35)) else (bnd (f_M_beginning S V35 x0 (V35 x0 48)) (fun r37 V38 => bnd (f_M_lays S V38 x0 r37) (fun r40 V41 => bnd (f_M_worths S V41 x0) (fun r43 V44 => b_M_likely_L39 S x0 x1 r37 FU V44 0))))))))
def f_M_isChange (S : ASh) (V : ASt) (x0 x1 : Int) : Option (Int × ASt) :=
  gd (isO S x0 13) (bnd (f_M_hasFields S V x0) (fun r1 V2 => if r1 = 0 then (some (0, V2)) else (bnd (f_M_rulesAll S V2 x0) (fun r4 V5 => bnd (f_M_is S V5 x1 0 (w32 ((w32 (6 * r4)) - 1))) (fun r7 V8 => if r7 = 0 then (some (0, V8)) else (gd (isA S (aF S x0 44) 0 (w32 (Int.tdiv x1 6))) (bnd (f_M_told S V8 x0 (V8 (aF S x0 44) (w32 (Int.tdiv x1 6)))) (fun r11 V12 => gd (isA S (aF S x0 24) 2 r11) (if (V12 (aF S x0 24) r11) = 0 then (if 2 ≤ (Int.tmod x1 6) then (if 5 ≤ (Int.tmod x1 6) then (bnd (f_M_rulesAll S V12 x0) (fun r15 V16 => if r15 ≤ (w32 ((w32 (Int.tdiv x1 6)) + 1)) then (some (0, V16)) else (gd (isA S (aF S x0 44) 0 (w32 ((w32 (Int.tdiv x1 6)) + 1))) (bnd (f_M_told S V16 x0 (V16 (aF S x0 44) (w32 ((w32 (Int.tdiv x1 6)) + 1)))) (fun r19 V20 => gd (isA S (aF S x0 24) 2 r19) (if (V20 (aF S x0 24) r19) = 0 then (some (1, V20)) else (some (0, V20)))))))) else (bnd (f_M_told S V12 x0 (V8 (aF S x0 44) (w32 (Int.tdiv x1 6)))) (fun r23 V24 => gd (isA S (aF S x0 20) 0 r23) (if 2 ≤ (V24 (aF S x0 20) r23) then (some (0, V24)) else (bnd (f_M_told S V24 x0 (V8 (aF S x0 44) (w32 (Int.tdiv x1 6)))) (fun r27 V28 => gd (isA S (aF S x0 22) 0 r27) (if (V28 (aF S x0 22) r27) = 2 then (some (0, V28)) else (gd (isA S (aF S x0 47) 0 (V8 (aF S x0 44) (w32 (Int.tdiv x1 6)))) (if (V28 (aF S x0 47) (V8 (aF S x0 44) (w32 (Int.tdiv x1 6)))) = (w32 ((Int.tmod x1 6) - 1)) then (some (0, V28)) else (some (1, V28))))))))))) else (some (1, V12))) else (some (0, V12)))))))))))
def b_M_change_L4 (S : ASh) (x0 x1 : Int) : Nat → ASt → Int → Int → Option (Int × ASt)
  | 0, _, _, _ => none
  | n + 1, V, x2, x3 =>
    bnd (f_M_rulesAll S V x0) (fun r1 V2 => if (w32 (6 * r1)) ≤ x3 then (if x1 = (-1) then (some (x2, V2)) else (some ((-1), V2))) else (bnd (f_M_isChange S V2 x0 x3) (fun r4 V5 => if r4 = 0 then ((b_M_change_L4 S x0 x1 n) V5 x2 (w32 (x3 + 1))) else (if x2 = x1 then (some (x3, V5)) else ((b_M_change_L4 S x0 x1 n) V5 (w32 (x2 + 1)) (w32 (x3 + 1)))))))
def f_M_change (S : ASh) (V : ASt) (x0 x1 : Int) : Option (Int × ASt) :=
  gd (isO S x0 13) (b_M_change_L4 S x0 x1 FU V 0 0)
def b_M_changes_J91 (S : ASh) (V : ASt) (x0 x2 x3 x4 : Int) : Option (Int × ASt) :=
  if x4 = 5 then (gd (isA S (aF S x0 44) 0 (w32 (x2 + 1))) (gd (isA S (aF S x0 44) 0 x2) (wV (aset V (aF S x0 44) x2 (V (aF S x0 44) (w32 (x2 + 1)))) (fun V3 => wV (aset V3 (aF S x0 44) (w32 (x2 + 1)) x3) (fun V4 => some (0, V4)))))) else (some (0, V))
def b_M_changes_J69 (S : ASh) (V : ASt) (x0 x2 x3 x4 : Int) : Option (Int × ASt) :=
  if x4 ≤ 1 then (b_M_changes_J91 S  V x0 x2 x3 x4) else (if 5 ≤ x4 then (b_M_changes_J91 S  V x0 x2 x3 x4) else (gd (isA S (aF S x0 47) 0 x3) (wV (aset V (aF S x0 47) x3 (w32 (x4 - 1))) (fun V6 => b_M_changes_J91 S  V6 x0 x2 x3 x4))))
def b_M_changes_J68 (S : ASh) (V : ASt) (x0 x2 x3 x4 s0 s1 s2 : Int) : Option (Int × ASt) :=
  gd (isA S s0 2 s1) (gd (zb s2) (wV (aset V s0 s1 s2) (fun V9 => b_M_changes_J69 S  V9 x0 x2 x3 x4)))
def b_M_changes_J43 (S : ASh) (V : ASt) (x0 x2 x3 x4 : Int) : Option (Int × ASt) :=
  if x4 = 1 then (gd (isA S (aF S x0 46) 2 x3) (if (V (aF S x0 46) x3) = 0 then (b_M_changes_J68 S  V x0 x2 x3 x4 (aF S x0 46) x3 1) else (b_M_changes_J68 S  V x0 x2 x3 x4 (aF S x0 46) x3 0))) else (b_M_changes_J69 S  V x0 x2 x3 x4)
def b_M_changes_J42 (S : ASh) (V : ASt) (x0 x2 x3 x4 s0 s1 s2 : Int) : Option (Int × ASt) :=
  gd (isA S s0 2 s1) (gd (zb s2) (wV (aset V s0 s1 s2) (fun V13 => b_M_changes_J43 S  V13 x0 x2 x3 x4)))
def f_M_changes (S : ASh) (V : ASt) (x0 x1 : Int) : Option (Int × ASt) :=
  gd (isO S x0 13) (gd (isA S (aF S x0 44) 0 (w32 (Int.tdiv x1 6))) (if (Int.tmod x1 6) = 0 then (gd (isA S (aF S x0 45) 2 (V (aF S x0 44) (w32 (Int.tdiv x1 6)))) (if (V (aF S x0 45) (V (aF S x0 44) (w32 (Int.tdiv x1 6)))) = 0 then (b_M_changes_J42 S  V x0 (w32 (Int.tdiv x1 6)) (V (aF S x0 44) (w32 (Int.tdiv x1 6))) (Int.tmod x1 6) (aF S x0 45) (V (aF S x0 44) (w32 (Int.tdiv x1 6))) 1) else (b_M_changes_J42 S  V x0 (w32 (Int.tdiv x1 6)) (V (aF S x0 44) (w32 (Int.tdiv x1 6))) (Int.tmod x1 6) (aF S x0 45) (V (aF S x0 44) (w32 (Int.tdiv x1 6))) 0))) else (b_M_changes_J43 S  V x0 (w32 (Int.tdiv x1 6)) (V (aF S x0 44) (w32 (Int.tdiv x1 6))) (Int.tmod x1 6))))
def b_M_worthWith_J59 (S : ASh) (V : ASt) (x0 x1 x5 : Int) : Option (Int × ASt) :=
  bnd (f_M_changes S V x0 x1) (fun r1 V2 => some (x5, V2))
def f_M_worthWith (S : ASh) (V : ASt) (x0 x1 x2 : Int) : Option (Int × ASt) :=
  gd (isO S x0 13) (gd (isA S (aF S x0 44) 0 (w32 (Int.tdiv x1 6))) (gd (isA S (aF S x0 47) 0 (V (aF S x0 44) (w32 (Int.tdiv x1 6)))) (bnd (f_M_changes S V x0 x1) (fun r6 V7 => bnd (f_M_worthOn S V7 x0 x2) (fun r9 V10 => if (Int.tmod x1 6) ≤ 1 then (b_M_worthWith_J59 S  V10 x0 x1 r9) else (if 5 ≤ (Int.tmod x1 6) then (b_M_worthWith_J59 S  V10 x0 x1 r9) else (wV (aset V10 (aF S x0 47) (V (aF S x0 44) (w32 (Int.tdiv x1 6))) (V (aF S x0 47) (V (aF S x0 44) (w32 (Int.tdiv x1 6))))) (fun V12 => some (r9, V12)))))))))
def f_M_outcome (S : ASh) (V : ASt) (x0 x1 : Int) : Option (Int × ASt) :=
  gd (isO S x0 13) (bnd (f_M_isChange S V x0 x1) (fun r1 V2 => if r1 = 0 then (some ((-2), V2)) else (bnd (f_M_worthWith S V2 x0 x1 (V2 x0 48)) (fun r4 V5 => some (r4, V5)))))
def b_M_turning_J87 (S : ASh) (K38 : ASt → Int → Int → Int → Int → Option (Int × ASt)) (V : ASt) (x0 x1 x2 x3 x5 x6 x7 s0 s1 : Int) : Option (Int × ASt) :=
  if x2 = 0 then (K38 V x3 (w32 (s0 + s1)) x5 (w32 (x6 + 1))) else (if x7 = (w32 (-x2)) then (if x5 = (-1) then (K38 V (w32 (x3 + 1)) (w32 (s0 + s1)) x6 (w32 (x6 + 1))) else (if (Int.tmod x5 6) = 5 then (if (Int.tmod x6 6) = 5 then (K38 V (w32 (x3 + 1)) (w32 (s0 + s1)) x5 (w32 (x6 + 1))) else (K38 V (w32 (x3 + 1)) (w32 (s0 + s1)) x6 (w32 (x6 + 1)))) else (K38 V (w32 (x3 + 1)) (w32 (s0 + s1)) x5 (w32 (x6 + 1))))) else (K38 V x3 (w32 (s0 + s1)) x5 (w32 (x6 + 1))))
def b_M_turning_L38 (S : ASh) (x0 x1 x2 : Int) : Nat → ASt → Int → Int → Int → Int → Option (Int × ASt)
  | 0, _, _, _, _, _ => none
  | n + 1, V, x3, x4, x5, x6 =>
    bnd (f_M_rulesAll S V x0) (fun r1 V2 => if (w32 (6 * r1)) ≤ x6 then (if x1 = 0 then (some (x3, V2)) else (if x1 = 1 then (some (x4, V2)) else (some (x5, V2)))) else (bnd (f_M_isChange S V2 x0 x6) (fun r4 V5 => if r4 = 0 then ((b_M_turning_L38 S x0 x1 x2 n) V5 x3 x4 x5 (w32 (x6 + 1))) else (bnd (f_M_worthWith S V5 x0 x6 (V5 x0 48)) (fun r7 V8 => if r7 = x2 then (b_M_turning_J87 S ((b_M_turning_L38 S x0 x1 x2 n)) V8 x0 x1 x2 x3 x5 x6 r7 x4 1) else (b_M_turning_J87 S ((b_M_turning_L38 S x0 x1 x2 n)) V8 x0 x1 x2 x3 x5 x6 r7 x4 0))))))
def f_M_turning (S : ASh) (V : ASt) (x0 x1 : Int) : Option (Int × ASt) :=
  gd (isO S x0 13) (bnd (f_M_hasFields S V x0) (fun r10 V11 => if r10 = 0 then (some ((-1), V11)) else (bnd (f_M_is S V11 x1 0 2) (fun r13 V14 => if r13 = 0 then (some ((-1), V14)) else (bnd (f_M_worthOn S V14 x0 (V14 x0 48)) (fun r16 V17 => b_M_turning_L38 S x0 x1 r16 FU V17 0 0 (-1) 0))))))
def b_M_keeps_L96 (S : ASh) (x0 : Int) : Nat → ASt → Int → Option (Int × ASt)
  | 0, _, _ => none
  | n + 1, V, x1 =>
    bnd (f_M_rulesAll S V x0) (fun r1 V2 => if r1 ≤ x1 then (wV (aset V2 x0 65 (w32 ((V2 x0 65) + 1))) (fun V4 => some (0, V4))) else (gd (isA S (aF S x0 44) 0 x1) (gd (isA S (aF S x0 66) 0 (w32 ((w32 (12 * (V2 x0 65))) + x1))) (wV (aset V2 (aF S x0 66) (w32 ((w32 (12 * (V2 x0 65))) + x1)) (V2 (aF S x0 44) x1)) (fun V7 => gd (isA S (aF S x0 45) 2 x1) (gd (isA S (aF S x0 67) 2 (w32 ((w32 (12 * (V7 x0 65))) + x1))) (gd (zb (V7 (aF S x0 45) x1)) (wV (aset V7 (aF S x0 67) (w32 ((w32 (12 * (V7 x0 65))) + x1)) (V7 (aF S x0 45) x1)) (fun V11 => gd (isA S (aF S x0 46) 2 x1) (gd (isA S (aF S x0 68) 2 (w32 ((w32 (12 * (V11 x0 65))) + x1))) (gd (zb (V11 (aF S x0 46) x1)) (wV (aset V11 (aF S x0 68) (w32 ((w32 (12 * (V11 x0 65))) + x1)) (V11 (aF S x0 46) x1)) (fun V15 => gd (isA S (aF S x0 47) 0 x1) (gd (isA S (aF S x0 69) 0 (w32 ((w32 (12 * (V15 x0 65))) + x1))) (wV (aset V15 (aF S x0 69) (w32 ((w32 (12 * (V15 x0 65))) + x1)) (V15 (aF S x0 47) x1)) (fun V18 => (b_M_keeps_L96 S x0 n) V18 (w32 (x1 + 1))))))))))))))))))
def b_M_keeps_L11 (S : ASh) (x0 : Int) : Nat → ASt → Int → Option (Int × ASt)
  | 0, _, _ => none
  | n + 1, V, x1 =>
    if 468 ≤ x1 then (wV (aset V x0 65 (w32 ((V x0 65) - 1))) (fun V19 => b_M_keeps_L96 S x0 FU V19 0)) else (gd (isA S (aF S x0 66) 0 (w32 (x1 + 12))) (gd (isA S (aF S x0 66) 0 x1) (wV (aset V (aF S x0 66) x1 (V (aF S x0 66) (w32 (x1 + 12)))) (fun V22 => gd (isA S (aF S x0 67) 2 (w32 (x1 + 12))) (gd (isA S (aF S x0 67) 2 x1) (gd (zb (V22 (aF S x0 67) (w32 (x1 + 12)))) (wV (aset V22 (aF S x0 67) x1 (V22 (aF S x0 67) (w32 (x1 + 12)))) (fun V26 => gd (isA S (aF S x0 68) 2 (w32 (x1 + 12))) (gd (isA S (aF S x0 68) 2 x1) (gd (zb (V26 (aF S x0 68) (w32 (x1 + 12)))) (wV (aset V26 (aF S x0 68) x1 (V26 (aF S x0 68) (w32 (x1 + 12)))) (fun V30 => gd (isA S (aF S x0 69) 0 (w32 (x1 + 12))) (gd (isA S (aF S x0 69) 0 x1) (wV (aset V30 (aF S x0 69) x1 (V30 (aF S x0 69) (w32 (x1 + 12)))) (fun V33 => (b_M_keeps_L11 S x0 n) V33 (w32 (x1 + 1)))))))))))))))))
def f_M_keeps (S : ASh) (V : ASt) (x0 : Int) : Option (Int × ASt) :=
  gd (isO S x0 13) (if (V x0 65) = 40 then (b_M_keeps_L11 S x0 FU V 0) else (b_M_keeps_L96 S x0 FU V 0))
def f_M_make (S : ASh) (V : ASt) (x0 x1 : Int) : Option (Int × ASt) :=
  gd (isO S x0 13) (bnd (f_M_isChange S V x0 x1) (fun r1 V2 => if r1 = 0 then (bnd (f_M_refuses S V2 x0 3) (fun r13 V14 => if r13 < 0 then (some (0, V14)) else (some (1, V14)))) else (bnd (f_M_keeps S V2 x0) (fun r4 V5 => bnd (f_M_changes S V5 x0 x1) (fun r7 V8 => bnd (f_M_anews S V8 x0) (fun r10 V11 => if r10 < 0 then (some (0, V11)) else (some (1, V11))))))))
def b_M_undo_L33 (S : ASh) (x0 : Int) : Nat → ASt → Int → Option (Int × ASt)
  | 0, _, _ => none
  | n + 1, V, x1 =>
    bnd (f_M_rulesAll S V x0) (fun r1 V2 => if r1 ≤ x1 then (bnd (f_M_anews S V2 x0) (fun r4 V5 => if r4 < 0 then (some (0, V5)) else (some (1, V5)))) else (gd (isA S (aF S x0 66) 0 (w32 ((w32 (12 * (V2 x0 65))) + x1))) (gd (isA S (aF S x0 44) 0 x1) (wV (aset V2 (aF S x0 44) x1 (V2 (aF S x0 66) (w32 ((w32 (12 * (V2 x0 65))) + x1)))) (fun V9 => gd (isA S (aF S x0 67) 2 (w32 ((w32 (12 * (V9 x0 65))) + x1))) (gd (isA S (aF S x0 45) 2 x1) (gd (zb (V9 (aF S x0 67) (w32 ((w32 (12 * (V9 x0 65))) + x1)))) (wV (aset V9 (aF S x0 45) x1 (V9 (aF S x0 67) (w32 ((w32 (12 * (V9 x0 65))) + x1)))) (fun V13 => gd (isA S (aF S x0 68) 2 (w32 ((w32 (12 * (V13 x0 65))) + x1))) (gd (isA S (aF S x0 46) 2 x1) (gd (zb (V13 (aF S x0 68) (w32 ((w32 (12 * (V13 x0 65))) + x1)))) (wV (aset V13 (aF S x0 46) x1 (V13 (aF S x0 68) (w32 ((w32 (12 * (V13 x0 65))) + x1)))) (fun V17 => gd (isA S (aF S x0 69) 0 (w32 ((w32 (12 * (V17 x0 65))) + x1))) (gd (isA S (aF S x0 47) 0 x1) (wV (aset V17 (aF S x0 47) x1 (V17 (aF S x0 69) (w32 ((w32 (12 * (V17 x0 65))) + x1)))) (fun V20 => (b_M_undo_L33 S x0 n) V20 (w32 (x1 + 1))))))))))))))))))
def f_M_undo (S : ASh) (V : ASt) (x0 : Int) : Option (Int × ASt) :=
  gd (isO S x0 13) (if (V x0 65) = 0 then (bnd (f_M_refuses S V x0 3) (fun r22 V23 => if r22 < 0 then (some (0, V23)) else (some (1, V23)))) else (wV (aset V x0 65 (w32 ((V x0 65) - 1))) (fun V21 => b_M_undo_L33 S x0 FU V21 0)))
def b_M_kind_J18 (S : ASh) (V : ASt) (x0 : Int) : Option (Int × ASt) :=
  bnd (f_M_refuses S V x0 4) (fun r1 V2 => some (r1, V2))
def f_M_kind (S : ASh) (V : ASt) (x0 x1 x2 : Int) : Option (Int × ASt) :=
  gd (isO S x0 13) (bnd (f_M_is S V x1 0 1) (fun r4 V5 => if r4 = 0 then (b_M_kind_J18 S  V5 x0) else (bnd (f_M_is S V5 x2 0 2) (fun r7 V8 => if r7 = 0 then (b_M_kind_J18 S  V8 x0) else (gd (isA S (aF S x0 49) 0 x1) (wV (aset V8 (aF S x0 49) x1 x2) (fun V11 => some ((V8 (aF S x0 49) x1), V11))))))))
def f_M_forPlayer (S : ASh) (V : ASt) (x0 x1 x2 : Int) : Option (Int × ASt) :=
  if (Int.tmod x1 2) = x0 then (some (x2, V)) else (some ((w32 (-x2)), V))
def b_M_wouldOf_L56 (S : ASh) (x0 x1 : Int) : Nat → ASt → Int → Int → Int → Option (Int × ASt)
  | 0, _, _, _, _ => none
  | n + 1, V, x3, x4, x5 =>
    bnd (f_M_rulesAll S V x0) (fun r1 V2 => if (w32 (6 * r1)) ≤ x5 then (some (x3, V2)) else (bnd (f_M_isChange S V2 x0 x5) (fun r4 V5 => if r4 = 0 then ((b_M_wouldOf_L56 S x0 x1 n) V5 x3 x4 (w32 (x5 + 1))) else (bnd (f_M_worthWith S V5 x0 x5 (w32 ((V5 x0 48) + 1))) (fun r7 V8 => gd (isA S (aF S x0 49) 0 x1) (if (V8 (aF S x0 49) x1) = 2 then (if r7 = 0 then (some (x5, V8)) else ((b_M_wouldOf_L56 S x0 x1 n) V8 x3 x4 (w32 (x5 + 1)))) else (bnd (f_M_forPlayer S V8 x1 (w32 ((V8 x0 48) + 1)) r7) (fun r11 V12 => if r11 ≤ x4 then ((b_M_wouldOf_L56 S x0 x1 n) V12 x3 x4 (w32 (x5 + 1))) else (bnd (f_M_forPlayer S V12 x1 (w32 ((V12 x0 48) + 1)) r7) (fun r14 V15 => (b_M_wouldOf_L56 S x0 x1 n) V15 x5 r14 (w32 (x5 + 1))))))))))))
def b_M_wouldOf_J38 (S : ASh) (V : ASt) (x0 x1 x2 : Int) : Option (Int × ASt) :=
  bnd (f_M_forPlayer S V x1 (w32 ((V x0 48) + 1)) x2) (fun r17 V18 => b_M_wouldOf_L56 S x0 x1 FU V18 (-1) r17 0)
def f_M_wouldOf (S : ASh) (V : ASt) (x0 x1 : Int) : Option (Int × ASt) :=
  gd (isO S x0 13) (gd (isA S (aF S x0 49) 0 x1) (if (V (aF S x0 49) x1) = 0 then (some ((-1), V)) else (bnd (f_M_worthOn S V x0 (w32 ((V x0 48) + 1))) (fun r21 V22 => if (V22 (aF S x0 49) x1) = 2 then (if r21 = 0 then (some ((-1), V22)) else (b_M_wouldOf_J38 S  V22 x0 x1 r21)) else (b_M_wouldOf_J38 S  V22 x0 x1 r21)))))
def b_M_changedBy_J40 (S : ASh) (V : ASt) (x0 s0 s1 : Int) : Option (Int × ASt) :=
  gd (isO S s0 13) (bnd (f_M_wouldOf S V s0 s1) (fun r1 V2 => some (r1, V2)))
def f_M_changedBy (S : ASh) (V : ASt) (x0 : Int) : Option (Int × ASt) :=
  gd (isO S x0 13) (bnd (f_M_worthOn S V x0 (V x0 48)) (fun r5 V6 => if r5 = 0 then (some ((-1), V6)) else (if r5 = 1 then (b_M_changedBy_J40 S  V6 x0 x0 (w32 (1 - (Int.tmod (V6 x0 48) 2)))) else (b_M_changedBy_J40 S  V6 x0 x0 (Int.tmod (V6 x0 48) 2)))))
def b_M_sunday_J29 (S : ASh) (V : ASt) (x0 x1 : Int) : Option (Int × ASt) :=
  wV (aset V x0 48 (w32 ((V x0 48) + 1))) (fun V1 => bnd (f_M_anews S V1 x0) (fun r2 V3 => some (x1, V3)))
def f_M_sunday (S : ASh) (V : ASt) (x0 : Int) : Option (Int × ASt) :=
  gd (isO S x0 13) (bnd (f_M_hasFields S V x0) (fun r5 V6 => if r5 = 0 then (some ((-2), V6)) else (bnd (f_M_changedBy S V6 x0) (fun r8 V9 => if r8 = (-1) then (b_M_sunday_J29 S  V9 x0 r8) else (bnd (f_M_keeps S V9 x0) (fun r11 V12 => bnd (f_M_changes S V12 x0 r8) (fun r14 V15 => b_M_sunday_J29 S  V15 x0 r8)))))))
def f_M_would (S : ASh) (V : ASt) (x0 x1 : Int) : Option (Int × ASt) :=
  gd (isO S x0 13) (bnd (f_M_hasFields S V x0) (fun r1 V2 => if r1 = 0 then (some ((-2), V2)) else (bnd (f_M_is S V2 x1 0 1) (fun r4 V5 => if r4 = 0 then (some ((-2), V5)) else (bnd (f_M_wouldOf S V5 x0 x1) (fun r7 V8 => some (r7, V8)))))))
def b_M_behindOf_J35 (S : ASh) (V : ASt) (x0 x2 s0 : Int) : Option (Int × ASt) :=
  bnd (f_M_forPlayer S V x2 (w32 ((V x0 48) + 1)) s0) (fun r1 V2 => some (r1, V2))
def f_M_behindOf (S : ASh) (V : ASt) (x0 x1 x2 : Int) : Option (Int × ASt) :=
  gd (isO S x0 13) (bnd (f_M_wouldOf S V x0 x1) (fun r4 V5 => if r4 = (-1) then (bnd (f_M_worthOn S V5 x0 (w32 ((V5 x0 48) + 1))) (fun r10 V11 => b_M_behindOf_J35 S  V11 x0 x2 r10)) else (bnd (f_M_worthWith S V5 x0 r4 (w32 ((V5 x0 48) + 1))) (fun r7 V8 => b_M_behindOf_J35 S  V8 x0 x2 r7))))
def f_M_pays (S : ASh) (V : ASt) (x0 x1 : Int) : Option (Int × ASt) :=
  gd (isO S x0 13) (bnd (f_M_hasFields S V x0) (fun r1 V2 => if r1 = 0 then (some ((-1), V2)) else (bnd (f_M_is S V2 x1 0 100) (fun r4 V5 => if r4 = 0 then (some ((-1), V5)) else (bnd (f_M_behindOf S V5 x0 (w32 (1 - (Int.tmod (V5 x0 48) 2))) (Int.tmod (V5 x0 48) 2)) (fun r7 V8 => bnd (f_M_behindOf S V8 x0 (Int.tmod (V5 x0 48) 2) (Int.tmod (V5 x0 48) 2)) (fun r10 V11 => if (w32 (r10 - x1)) ≤ (w32 (x1 + r7)) then (some (0, V11)) else (some (1, V11)))))))))
def b_M_restOf_J23 (S : ASh) (V : ASt) (x0 x1 s0 s1 : Int) : Option (Int × ASt) :=
  gd (isA S (aF S x0 46) 2 x1) (if (V (aF S x0 46) x1) = 0 then (some ((w32 ((w32 (s0 + s1)) + 0)), V)) else (some ((w32 ((w32 (s0 + s1)) + 2)), V)))
def f_M_restOf (S : ASh) (V : ASt) (x0 x1 : Int) : Option (Int × ASt) :=
  gd (isO S x0 13) (gd (isA S (aF S x0 47) 0 x1) (gd (isA S (aF S x0 45) 2 x1) (if (V (aF S x0 45) x1) = 0 then (b_M_restOf_J23 S  V x0 x1 (w32 (8 * (V (aF S x0 47) x1))) 0) else (b_M_restOf_J23 S  V x0 x1 (w32 (8 * (V (aF S x0 47) x1))) 1))))
def b_M_notes_L2 (S : ASh) (x0 x1 : Int) : Nat → ASt → Int → Option (Int × ASt)
  | 0, _, _ => none
  | n + 1, V, x2 =>
    bnd (f_M_rulesAll S V x0) (fun r1 V2 => if r1 ≤ x2 then (some (0, V2)) else (gd (isA S (aF S x0 44) 0 x2) (gd (isA S (aF S x0 70) 0 (w32 ((w32 (12 * x1)) + x2))) (wV (aset V2 (aF S x0 70) (w32 ((w32 (12 * x1)) + x2)) (V2 (aF S x0 44) x2)) (fun V6 => bnd (f_M_restOf S V6 x0 x2) (fun r7 V8 => gd (isA S (aF S x0 71) 0 (w32 ((w32 (12 * x1)) + x2))) (wV (aset V8 (aF S x0 71) (w32 ((w32 (12 * x1)) + x2)) r7) (fun V11 => (b_M_notes_L2 S x0 x1 n) V11 (w32 (x2 + 1))))))))))
def f_M_notes (S : ASh) (V : ASt) (x0 x1 : Int) : Option (Int × ASt) :=
  gd (isO S x0 13) (b_M_notes_L2 S x0 x1 FU V 0)
def b_M_areAlike_L2 (S : ASh) (x0 x1 x2 : Int) : Nat → ASt → Int → Option (Int × ASt)
  | 0, _, _ => none
  | n + 1, V, x3 =>
    bnd (f_M_rulesAll S V x0) (fun r1 V2 => if r1 ≤ x3 then (if (Int.tmod (w32 (x1 - x2)) 2) = 0 then (some (1, V2)) else (some (0, V2))) else (gd (isA S (aF S x0 70) 0 (w32 ((w32 (12 * x1)) + x3))) (gd (isA S (aF S x0 70) 0 (w32 ((w32 (12 * x2)) + x3))) (if (V2 (aF S x0 70) (w32 ((w32 (12 * x1)) + x3))) = (V2 (aF S x0 70) (w32 ((w32 (12 * x2)) + x3))) then (gd (isA S (aF S x0 71) 0 (w32 ((w32 (12 * x1)) + x3))) (gd (isA S (aF S x0 71) 0 (w32 ((w32 (12 * x2)) + x3))) (if (V2 (aF S x0 71) (w32 ((w32 (12 * x1)) + x3))) = (V2 (aF S x0 71) (w32 ((w32 (12 * x2)) + x3))) then ((b_M_areAlike_L2 S x0 x1 x2 n) V2 (w32 (x3 + 1))) else (some (0, V2))))) else (some (0, V2))))))
def f_M_areAlike (S : ASh) (V : ASt) (x0 x1 x2 : Int) : Option (Int × ASt) :=
  gd (isO S x0 13) (b_M_areAlike_L2 S x0 x1 x2 FU V 0)
def b_M_back_J84 (S : ASh) (K2 : ASt → Int → Option (Int × ASt)) (V : ASt) (x0 x1 s0 s1 s2 : Int) : Option (Int × ASt) :=
  gd (isA S s0 2 s1) (gd (zb s2) (wV (aset V s0 s1 s2) (fun V3 => K2 V3 (w32 (x1 + 1)))))
def b_M_back_J59 (S : ASh) (K2 : ASt → Int → Option (Int × ASt)) (V : ASt) (x0 x1 s0 s1 s2 : Int) : Option (Int × ASt) :=
  gd (isA S s0 2 s1) (gd (zb s2) (wV (aset V s0 s1 s2) (fun V6 => gd (isA S (aF S x0 71) 0 x1) (if (Int.tmod (w32 (Int.tdiv (V6 (aF S x0 71) x1) 2)) 2) = 1 then (b_M_back_J84 S K2 V6 x0 x1 (aF S x0 46) x1 1) else (b_M_back_J84 S K2 V6 x0 x1 (aF S x0 46) x1 0)))))
def b_M_back_L2 (S : ASh) (x0 : Int) : Nat → ASt → Int → Option (Int × ASt)
  | 0, _, _ => none
  | n + 1, V, x1 =>
    bnd (f_M_rulesAll S V x0) (fun r8 V9 => if r8 ≤ x1 then (some (0, V9)) else (gd (isA S (aF S x0 70) 0 x1) (gd (isA S (aF S x0 44) 0 x1) (wV (aset V9 (aF S x0 44) x1 (V9 (aF S x0 70) x1)) (fun V13 => gd (isA S (aF S x0 71) 0 x1) (gd (isA S (aF S x0 47) 0 x1) (wV (aset V13 (aF S x0 47) x1 (w32 (Int.tdiv (V13 (aF S x0 71) x1) 8))) (fun V16 => if (Int.tmod (V16 (aF S x0 71) x1) 2) = 1 then (b_M_back_J59 S ((b_M_back_L2 S x0 n)) V16 x0 x1 (aF S x0 45) x1 1) else (b_M_back_J59 S ((b_M_back_L2 S x0 n)) V16 x0 x1 (aF S x0 45) x1 0)))))))))
def f_M_back (S : ASh) (V : ASt) (x0 : Int) : Option (Int × ASt) :=
  gd (isO S x0 13) (b_M_back_L2 S x0 FU V 0)
def b_M_ring_L93 (S : ASh) (K44 : ASt → Int → Int → Option (Int × ASt)) (x0 x1 x2 x3 x5 : Int) : Nat → ASt → Int → Int → Option (Int × ASt)
  | 0, _, _, _ => none
  | n + 1, V, x4, x7 =>
    if x5 ≤ x7 then (K44 V x4 (w32 (x5 + 1))) else (if x4 = (-1) then (bnd (f_M_areAlike S V x0 x5 x7) (fun r1 V2 => if r1 = 0 then ((b_M_ring_L93 S K44 x0 x1 x2 x3 x5 n) V2 x4 (w32 (x7 + 1))) else (if x2 = 0 then ((b_M_ring_L93 S K44 x0 x1 x2 x3 x5 n) V2 (w32 (x5 - x7)) (w32 (x7 + 1))) else ((b_M_ring_L93 S K44 x0 x1 x2 x3 x5 n) V2 x7 (w32 (x7 + 1)))))) else (K44 V x4 (w32 (x5 + 1))))
def b_M_ring_J74 (S : ASh) (K44 : ASt → Int → Int → Option (Int × ASt)) (V : ASt) (x0 x1 x2 x3 x4 x5 : Int) : Option (Int × ASt) :=
  wV (aset V x0 48 (w32 ((V x0 48) + 1))) (fun V4 => bnd (f_M_notes S V4 x0 x5) (fun r5 V6 => b_M_ring_L93 S K44 x0 x1 x2 x3 x5 FU V6 x4 0))
def b_M_ring_J145 (S : ASh) (V : ASt) (x0 x3 x4 : Int) : Option (Int × ASt) :=
  bnd (f_M_back S V x0) (fun r8 V9 => wV (aset V9 x0 48 x3) (fun V11 => some (x4, V11)))
def b_M_ring_L44 (S : ASh) (x0 x1 x2 x3 : Int) : Nat → ASt → Int → Int → Option (Int × ASt)
  | 0, _, _, _ => none
  | n + 1, V, x4, x5 =>
    if x1 < x5 then (b_M_ring_J145 S  V x0 x3 x4) else (if x4 = (-1) then (bnd (f_M_changedBy S V x0) (fun r12 V13 => if r12 = (-1) then (b_M_ring_J74 S ((b_M_ring_L44 S x0 x1 x2 x3 n)) V13 x0 x1 x2 x3 x4 x5) else (bnd (f_M_changes S V13 x0 r12) (fun r15 V16 => b_M_ring_J74 S ((b_M_ring_L44 S x0 x1 x2 x3 n)) V16 x0 x1 x2 x3 x4 x5)))) else (b_M_ring_J145 S  V x0 x3 x4))
def f_M_ring (S : ASh) (V : ASt) (x0 x1 x2 : Int) : Option (Int × ASt) :=
  gd (isO S x0 13) (bnd (f_M_hasFields S V x0) (fun r18 V19 => if r18 = 0 then (some ((-1), V19)) else (bnd (f_M_is S V19 x1 1 12) (fun r21 V22 => if r21 = 0 then (some ((-1), V22)) else (bnd (f_M_is S V22 x2 0 1) (fun r24 V25 => if r24 = 0 then (some ((-1), V25)) else (bnd (f_M_notes S V25 x0 0) (fun r27 V28 => b_M_ring_L44 S x0 x1 x2 (V25 x0 48) FU V28 (-1) 1))))))))
def b_M_spring_L7 (S : ASh) (x0 : Int) : Nat → ASt → Int → Option (Int × ASt)
  | 0, _, _ => none
  | n + 1, V, x1 =>
    bnd (f_M_rulesAll S V x0) (fun r1 V2 => if r1 ≤ x1 then (bnd (f_M_rulesAll S V2 x0) (fun r4 V5 => some (r4, V5))) else (gd (isA S (aF S x0 44) 0 x1) (gd (isA S (aF S x0 73) 0 x1) (wV (aset V2 (aF S x0 73) x1 (V2 (aF S x0 44) x1)) (fun V9 => bnd (f_M_restOf S V9 x0 x1) (fun r10 V11 => gd (isA S (aF S x0 74) 0 x1) (wV (aset V11 (aF S x0 74) x1 r10) (fun V14 => (b_M_spring_L7 S x0 n) V14 (w32 (x1 + 1))))))))))
def f_M_spring (S : ASh) (V : ASt) (x0 : Int) : Option (Int × ASt) :=
  gd (isO S x0 13) (wV (aset V x0 72 1) (fun V15 => b_M_spring_L7 S x0 FU V15 0))
def b_M_laysSpring_J89 (S : ASh) (K7 : ASt → Int → Option (Int × ASt)) (V : ASt) (x0 x1 s0 s1 s2 : Int) : Option (Int × ASt) :=
  gd (isA S s0 2 s1) (gd (zb s2) (wV (aset V s0 s1 s2) (fun V3 => K7 V3 (w32 (x1 + 1)))))
def b_M_laysSpring_J64 (S : ASh) (K7 : ASt → Int → Option (Int × ASt)) (V : ASt) (x0 x1 s0 s1 s2 : Int) : Option (Int × ASt) :=
  gd (isA S s0 2 s1) (gd (zb s2) (wV (aset V s0 s1 s2) (fun V6 => gd (isA S (aF S x0 74) 0 x1) (if (Int.tmod (w32 (Int.tdiv (V6 (aF S x0 74) x1) 2)) 2) = 1 then (b_M_laysSpring_J89 S K7 V6 x0 x1 (aF S x0 46) x1 1) else (b_M_laysSpring_J89 S K7 V6 x0 x1 (aF S x0 46) x1 0)))))
def b_M_laysSpring_L130 (S : ASh) (x0 : Int) : Nat → ASt → Int → Option (Int × ASt)
  | 0, _, _ => none
  | n + 1, V, x1 =>
    if 4000 ≤ x1 then (bnd (f_M_back S V x0) (fun r8 V9 => some (0, V9))) else (gd (isA S (aF S x0 52) 0 x1) (gd (isA S (aF S x0 76) 0 x1) (wV (aset V (aF S x0 76) x1 (V (aF S x0 52) x1)) (fun V13 => gd (isA S (aF S x0 53) 0 x1) (gd (isA S (aF S x0 77) 0 x1) (wV (aset V13 (aF S x0 77) x1 (V13 (aF S x0 53) x1)) (fun V16 => (b_M_laysSpring_L130 S x0 n) V16 (w32 (x1 + 1)))))))))
def b_M_laysSpring_L103 (S : ASh) (x0 : Int) : Nat → ASt → Int → Option (Int × ASt)
  | 0, _, _ => none
  | n + 1, V, x1 =>
    if 200 ≤ x1 then (b_M_laysSpring_L130 S x0 FU V 0) else (gd (isA S (aF S x0 51) 0 x1) (gd (isA S (aF S x0 75) 0 x1) (wV (aset V (aF S x0 75) x1 (V (aF S x0 51) x1)) (fun V19 => (b_M_laysSpring_L103 S x0 n) V19 (w32 (x1 + 1))))))
def b_M_laysSpring_L7 (S : ASh) (x0 : Int) : Nat → ASt → Int → Option (Int × ASt)
  | 0, _, _ => none
  | n + 1, V, x1 =>
    bnd (f_M_rulesAll S V x0) (fun r20 V21 => if r20 ≤ x1 then (bnd (f_M_lays S V21 x0 (-1)) (fun r23 V24 => b_M_laysSpring_L103 S x0 FU V24 0)) else (gd (isA S (aF S x0 73) 0 x1) (gd (isA S (aF S x0 44) 0 x1) (wV (aset V21 (aF S x0 44) x1 (V21 (aF S x0 73) x1)) (fun V28 => gd (isA S (aF S x0 74) 0 x1) (gd (isA S (aF S x0 47) 0 x1) (wV (aset V28 (aF S x0 47) x1 (w32 (Int.tdiv (V28 (aF S x0 74) x1) 8))) (fun V31 => if (Int.tmod (V31 (aF S x0 74) x1) 2) = 1 then (b_M_laysSpring_J64 S ((b_M_laysSpring_L7 S x0 n)) V31 x0 x1 (aF S x0 45) x1 1) else (b_M_laysSpring_J64 S ((b_M_laysSpring_L7 S x0 n)) V31 x0 x1 (aF S x0 45) x1 0)))))))))
def f_M_laysSpring (S : ASh) (V : ASt) (x0 : Int) : Option (Int × ASt) :=
  gd (isO S x0 13) (bnd (f_M_notes S V x0 0) (fun r32 V33 => b_M_laysSpring_L7 S x0 FU V33 0))
def b_M_differs_L22 (S : ASh) (x0 x1 : Int) : Nat → ASt → Int → Option (Int × ASt)
  | 0, _, _ => none
  | n + 1, V, x2 =>
    gd (isA S (aF S x0 51) 0 x1) (if (w32 ((w32 (20 * x1)) + (V (aF S x0 51) x1))) ≤ x2 then (some (0, V)) else (gd (isA S (aF S x0 52) 0 x2) (gd (isA S (aF S x0 76) 0 x2) (if (V (aF S x0 52) x2) = (V (aF S x0 76) x2) then (gd (isA S (aF S x0 53) 0 x2) (gd (isA S (aF S x0 77) 0 x2) (if (V (aF S x0 53) x2) = (V (aF S x0 77) x2) then ((b_M_differs_L22 S x0 x1 n) V (w32 (x2 + 1))) else (some (1, V))))) else (some (1, V))))))
def f_M_differs (S : ASh) (V : ASt) (x0 x1 : Int) : Option (Int × ASt) :=
  gd (isO S x0 13) (gd (isA S (aF S x0 51) 0 x1) (gd (isA S (aF S x0 75) 0 x1) (if (V (aF S x0 51) x1) = (V (aF S x0 75) x1) then (b_M_differs_L22 S x0 x1 FU V (w32 (20 * x1))) else (some (1, V)))))
def b_M_parts_L148 (S : ASh) (K74 : ASt → Int → Int → Option (Int × ASt)) (K132 : ASt → Int → Int → Option (Int × ASt)) (x0 x1 x3 x4 : Int) : Nat → ASt → Int → Int → Option (Int × ASt)
  | 0, _, _, _ => none
  | n + 1, V, x2, x5 =>
    gd (isA S (aF S x0 51) 0 x4) (if (w32 ((w32 (20 * x4)) + (V (aF S x0 51) x4))) ≤ x5 then (K132 V x2 (w32 (x4 + 1))) else (gd (isA S (aF S x0 78) 0 x4) (if (V (aF S x0 78) x4) = x3 then (gd (isA S (aF S x0 53) 0 x5) (if (V (aF S x0 53) x5) < 0 then ((b_M_parts_L148 S K74 K132 x0 x1 x3 x4 n) V x2 (w32 (x5 + 1))) else (gd (isA S (aF S x0 78) 0 (V (aF S x0 53) x5)) (if (V (aF S x0 78) (V (aF S x0 53) x5)) = (-1) then (wV (aset V (aF S x0 78) (V (aF S x0 53) x5) (w32 (x3 + 1))) (fun V5 => (b_M_parts_L148 S K74 K132 x0 x1 x3 x4 n) V5 1 (w32 (x5 + 1)))) else ((b_M_parts_L148 S K74 K132 x0 x1 x3 x4 n) V x2 (w32 (x5 + 1))))))) else (K132 V x2 (w32 (x4 + 1))))))
def b_M_parts_L132 (S : ASh) (K74 : ASt → Int → Int → Option (Int × ASt)) (x0 x1 x3 : Int) : Nat → ASt → Int → Int → Option (Int × ASt)
  | 0, _, _, _ => none
  | n + 1, V, x2, x4 =>
    bnd (f_M_positions S V x0) (fun r6 V7 => if r6 ≤ x4 then (K74 V7 x2 (w32 (x3 + 1))) else (b_M_parts_L148 S K74 ((b_M_parts_L132 S K74 x0 x1 x3 n)) x0 x1 x3 x4 FU V7 x2 (w32 (20 * x4))))
def b_M_parts_L83 (S : ASh) (K74 : ASt → Int → Int → Option (Int × ASt)) (x0 x1 x2 x3 : Int) : Nat → ASt → Int → Option (Int × ASt)
  | 0, _, _ => none
  | n + 1, V, x4 =>
    bnd (f_M_positions S V x0) (fun r9 V10 => if r9 ≤ x4 then (b_M_parts_L132 S K74 x0 x1 x3 FU V10 x2 0) else (gd (isA S (aF S x0 78) 0 x4) (if (V10 (aF S x0 78) x4) = x3 then (bnd (f_M_differs S V10 x0 x4) (fun r13 V14 => if r13 = 0 then ((b_M_parts_L83 S K74 x0 x1 x2 x3 n) V14 (w32 (x4 + 1))) else (if x1 = 0 then (some (x3, V14)) else (some (x4, V14))))) else ((b_M_parts_L83 S K74 x0 x1 x2 x3 n) V10 (w32 (x4 + 1))))))
def b_M_parts_L74 (S : ASh) (x0 x1 : Int) : Nat → ASt → Int → Int → Option (Int × ASt)
  | 0, _, _, _ => none
  | n + 1, V, x2, x3 =>
    if x2 = 0 then (some ((-1), V)) else (b_M_parts_L83 S ((b_M_parts_L74 S x0 x1 n)) x0 x1 0 x3 FU V 0)
def b_M_parts_L36 (S : ASh) (x0 x1 : Int) : Nat → ASt → Int → Option (Int × ASt)
  | 0, _, _ => none
  | n + 1, V, x2 =>
    if 200 ≤ x2 then (bnd (f_M_beginning S V x0 (V x0 48)) (fun r16 V17 => gd (isA S (aF S x0 78) 0 r16) (wV (aset V17 (aF S x0 78) r16 0) (fun V20 => b_M_parts_L74 S x0 x1 FU V20 1 0)))) else (gd (isA S (aF S x0 78) 0 x2) (wV (aset V (aF S x0 78) x2 (-1)) (fun V22 => (b_M_parts_L36 S x0 x1 n) V22 (w32 (x2 + 1)))))
def f_M_parts (S : ASh) (V : ASt) (x0 x1 : Int) : Option (Int × ASt) :=
  gd (isO S x0 13) (bnd (f_M_hasFields S V x0) (fun r23 V24 => if r23 = 0 then (some ((-1), V24)) else (if (V24 x0 72) = 0 then (some ((-1), V24)) else (bnd (f_M_is S V24 x1 0 1) (fun r26 V27 => if r26 = 0 then (some ((-1), V27)) else (bnd (f_M_laysSpring S V27 x0) (fun r29 V30 => bnd (f_M_lays S V30 x0 (-1)) (fun r32 V33 => b_M_parts_L36 S x0 x1 FU V33 0))))))))
def f_M_writes (S : ASh) (V : ASt) (x0 x1 : Int) : Option (Int × ASt) :=
  gd (isO S x0 13) (gd (isA S (aF S x0 79) 0 (V x0 80)) (wV (aset V (aF S x0 79) (V x0 80) (and32 x1 255)) (fun V2 => wV (aset V2 x0 80 (w32 ((V2 x0 80) + 1))) (fun V3 => some (0, V3)))))
def b_M_image_J64 (S : ASh) (K15 : ASt → Int → Option (Int × ASt)) (V : ASt) (x0 x1 x2 s0 s1 s2 : Int) : Option (Int × ASt) :=
  gd (isO S s0 13) (bnd (f_M_writes S V s0 (w32 (s1 + s2))) (fun r1 V2 => gd (isA S (aF S x0 47) 0 x2) (bnd (f_M_writes S V2 x0 (V2 (aF S x0 47) x2)) (fun r6 V7 => K15 V7 (w32 (x1 + 1))))))
def b_M_image_J50 (S : ASh) (K15 : ASt → Int → Option (Int × ASt)) (V : ASt) (x0 x1 x2 s0 s1 : Int) : Option (Int × ASt) :=
  gd (isA S (aF S x0 46) 2 x2) (if (V (aF S x0 46) x2) = 0 then (b_M_image_J64 S K15 V x0 x1 x2 s0 s1 0) else (b_M_image_J64 S K15 V x0 x1 x2 s0 s1 2))
def b_M_image_L148 (S : ASh) (x0 : Int) : Nat → ASt → Int → Int → Option (Int × ASt)
  | 0, _, _, _ => none
  | n + 1, V, x1, x2 =>
    if (V x0 80) ≤ x2 then (bnd (f_M_writes S V x0 x1) (fun r10 V11 => some ((V11 x0 80), V11))) else (gd (isA S (aF S x0 79) 0 x2) ((b_M_image_L148 S x0 n) V (Int.tmod (w32 ((w32 (7 * x1)) + (V (aF S x0 79) x2))) 223) (w32 (x2 + 1))))
def b_M_image_L15 (S : ASh) (x0 : Int) : Nat → ASt → Int → Option (Int × ASt)
  | 0, _, _ => none
  | n + 1, V, x1 =>
    bnd (f_M_rulesAll S V x0) (fun r14 V15 => if r14 ≤ x1 then (bnd (f_M_writes S V15 x0 (shr32 (V15 x0 48) 8)) (fun r17 V18 => bnd (f_M_writes S V18 x0 (V18 x0 48)) (fun r20 V21 => gd (isA S (aF S x0 49) 0 0) (bnd (f_M_writes S V21 x0 (V21 (aF S x0 49) 0)) (fun r24 V25 => gd (isA S (aF S x0 49) 0 1) (bnd (f_M_writes S V25 x0 (V25 (aF S x0 49) 1)) (fun r28 V29 => gd (isA S (aF S x0 50) 0 0) (bnd (f_M_writes S V29 x0 (V29 (aF S x0 50) 0)) (fun r32 V33 => gd (isA S (aF S x0 50) 0 1) (bnd (f_M_writes S V33 x0 (V33 (aF S x0 50) 1)) (fun r36 V37 => b_M_image_L148 S x0 FU V37 37 0))))))))))) else (gd (isA S (aF S x0 44) 0 x1) (bnd (f_M_writes S V15 x0 (V15 (aF S x0 44) x1)) (fun r40 V41 => gd (isA S (aF S x0 45) 2 (V15 (aF S x0 44) x1)) (if (V41 (aF S x0 45) (V15 (aF S x0 44) x1)) = 0 then (b_M_image_J50 S ((b_M_image_L15 S x0 n)) V41 x0 x1 (V15 (aF S x0 44) x1) x0 0) else (b_M_image_J50 S ((b_M_image_L15 S x0 n)) V41 x0 x1 (V15 (aF S x0 44) x1) x0 1))))))
def f_M_image (S : ASh) (V : ASt) (x0 : Int) : Option (Int × ASt) :=
  gd (isO S x0 13) (wV (aset V x0 80 0) (fun V44 => bnd (f_M_rulesAll S V44 x0) (fun r45 V46 => bnd (f_M_writes S V46 x0 r45) (fun r48 V49 => b_M_image_L15 S x0 FU V49 0))))
def f_M_octet (S : ASh) (V : ASt) (x0 x1 : Int) : Option (Int × ASt) :=
  gd (isO S x0 13) (if x1 < 0 then (some ((-1), V)) else (if (V x0 80) ≤ x1 then (some ((-1), V)) else (gd (isA S (aF S x0 79) 0 x1) (some ((V (aF S x0 79) x1), V)))))
def b_M_isRuleAt_J115 (S : ASh) (V : ASt) (x0 x1 x2 x4 : Int) : Option (Int × ASt) :=
  bnd (f_M_told S V x0 x4) (fun r1 V2 => gd (isA S (aF S x0 24) 2 r1) (if (V2 (aF S x0 24) r1) = 0 then (some (1, V2)) else (if x4 = x1 then (gd (isA S (aF S x0 0) 0 (w32 (x2 + 1))) (if (V2 (aF S x0 0) (w32 (x2 + 1))) = 0 then (gd (isA S (aF S x0 0) 0 (w32 (x2 + 2))) (bnd (f_M_told S V2 x0 x4) (fun r7 V8 => gd (isA S (aF S x0 23) 0 r7) (if (V2 (aF S x0 0) (w32 (x2 + 2))) = (V8 (aF S x0 23) r7) then (some (1, V8)) else (some (0, V8)))))) else (some (0, V2)))) else (some (0, V2)))))
def b_M_isRuleAt_J76 (S : ASh) (V : ASt) (x0 x1 x2 x4 s0 : Int) : Option (Int × ASt) :=
  if s0 = 0 then (gd (isA S (aF S x0 0) 0 (w32 (x2 + 2))) (if (V (aF S x0 0) (w32 (x2 + 2))) = 0 then (b_M_isRuleAt_J115 S  V x0 x1 x2 x4) else (some (0, V)))) else (gd (isA S (aF S x0 0) 0 (w32 (x2 + 2))) (bnd (f_M_is S V (V (aF S x0 0) (w32 (x2 + 2))) 1 3) (fun r13 V14 => if r13 = 0 then (some (0, V14)) else (b_M_isRuleAt_J115 S  V14 x0 x1 x2 x4))))
def f_M_isRuleAt (S : ASh) (V : ASt) (x0 x1 x2 x3 : Int) : Option (Int × ASt) :=
  gd (isO S x0 13) (gd (isA S (aF S x0 0) 0 x2) (bnd (f_M_rulesAll S V x0) (fun r17 V18 => if r17 ≤ (V (aF S x0 0) x2) then (some (0, V18)) else (if (and32 (shr32 x3 (V (aF S x0 0) x2)) 1) = 1 then (some (0, V18)) else (gd (isA S (aF S x0 0) 0 (w32 (x2 + 1))) (if (V18 (aF S x0 0) (w32 (x2 + 1))) ≤ 3 then (bnd (f_M_told S V18 x0 (V (aF S x0 0) x2)) (fun r21 V22 => gd (isA S (aF S x0 20) 0 r21) (if 2 ≤ (V22 (aF S x0 20) r21) then (b_M_isRuleAt_J76 S  V22 x0 x1 x2 (V (aF S x0 0) x2) 0) else (bnd (f_M_told S V22 x0 (V (aF S x0 0) x2)) (fun r25 V26 => gd (isA S (aF S x0 22) 0 r25) (if (V26 (aF S x0 22) r25) = 2 then (b_M_isRuleAt_J76 S  V26 x0 x1 x2 (V (aF S x0 0) x2) 0) else (b_M_isRuleAt_J76 S  V26 x0 x1 x2 (V (aF S x0 0) x2) 1))))))) else (some (0, V18))))))))
def b_M_isWhole_L96 (S : ASh) (x0 x2 : Int) : Nat → ASt → Int → Int → Option (Int × ASt)
  | 0, _, _, _ => none
  | n + 1, V, x4, x5 =>
    bnd (f_M_rulesAll S V x0) (fun r1 V2 => if r1 ≤ x5 then (gd (isA S (aF S x0 0) 0 (w32 (x2 + 2))) (if 2 < (V2 (aF S x0 0) (w32 (x2 + 2))) then (some (0, V2)) else (gd (isA S (aF S x0 0) 0 (w32 (x2 + 3))) (if 2 < (V2 (aF S x0 0) (w32 (x2 + 3))) then (some (0, V2)) else (gd (isA S (aF S x0 0) 0 (w32 (x2 + 4))) (if 100 < (V2 (aF S x0 0) (w32 (x2 + 4))) then (some (0, V2)) else (gd (isA S (aF S x0 0) 0 (w32 (x2 + 5))) (if 100 < (V2 (aF S x0 0) (w32 (x2 + 5))) then (some (0, V2)) else (some (1, V2)))))))))) else (bnd (f_M_isRuleAt S V2 x0 x5 (w32 (1 + (w32 (3 * x5)))) x4) (fun r8 V9 => if r8 = 0 then (some (0, V9)) else (gd (isA S (aF S x0 0) 0 (w32 (1 + (w32 (3 * x5))))) ((b_M_isWhole_L96 S x0 x2 n) V9 (or32 x4 (shl32 1 (V9 (aF S x0 0) (w32 (1 + (w32 (3 * x5))))))) (w32 (x5 + 1)))))))
def b_M_isWhole_L45 (S : ASh) (x0 x1 x2 : Int) : Nat → ASt → Int → Int → Option (Int × ASt)
  | 0, _, _, _ => none
  | n + 1, V, x3, x4 =>
    if (w32 (x1 - 1)) ≤ x4 then (gd (isA S (aF S x0 0) 0 (w32 (x1 - 1))) (if (V (aF S x0 0) (w32 (x1 - 1))) = x3 then (b_M_isWhole_L96 S x0 x2 FU V 0 0) else (some (0, V)))) else (gd (isA S (aF S x0 0) 0 x4) ((b_M_isWhole_L45 S x0 x1 x2 n) V (Int.tmod (w32 ((w32 (7 * x3)) + (V (aF S x0 0) x4))) 223) (w32 (x4 + 1))))
def f_M_isWhole (S : ASh) (V : ASt) (x0 x1 : Int) : Option (Int × ASt) :=
  gd (isO S x0 13) (bnd (f_M_rulesAll S V x0) (fun r14 V15 => bnd (f_M_hasFields S V15 x0) (fun r17 V18 => if r17 = 0 then (some (0, V18)) else (if x1 = (w32 ((w32 (1 + (w32 (3 * r14)))) + 7)) then (gd (isA S (aF S x0 0) 0 0) (bnd (f_M_rulesAll S V18 x0) (fun r21 V22 => if (V18 (aF S x0 0) 0) = r21 then (b_M_isWhole_L45 S x0 x1 (w32 (1 + (w32 (3 * r14)))) FU V22 37 0) else (some (0, V22))))) else (some (0, V18))))))
def b_M_on_J111 (S : ASh) (K34 : ASt → Int → Option (Int × ASt)) (V : ASt) (x0 x2 x3 s0 s1 s2 : Int) : Option (Int × ASt) :=
  gd (isA S s0 2 s1) (gd (zb s2) (wV (aset V s0 s1 s2) (fun V3 => gd (isA S (aF S x0 0) 0 (w32 (3 + (w32 (3 * x2))))) (gd (isA S (aF S x0 47) 0 x3) (wV (aset V3 (aF S x0 47) x3 (V3 (aF S x0 0) (w32 (3 + (w32 (3 * x2)))))) (fun V6 => K34 V6 (w32 (x2 + 1))))))))
def b_M_on_J86 (S : ASh) (K34 : ASt → Int → Option (Int × ASt)) (V : ASt) (x0 x2 x3 s0 s1 s2 : Int) : Option (Int × ASt) :=
  gd (isA S s0 2 s1) (gd (zb s2) (wV (aset V s0 s1 s2) (fun V9 => gd (isA S (aF S x0 0) 0 (w32 (2 + (w32 (3 * x2))))) (if (V9 (aF S x0 0) (w32 (2 + (w32 (3 * x2))))) ≤ 1 then (b_M_on_J111 S K34 V9 x0 x2 x3 (aF S x0 46) x3 0) else (b_M_on_J111 S K34 V9 x0 x2 x3 (aF S x0 46) x3 1)))))
def b_M_on_L34 (S : ASh) (x0 : Int) : Nat → ASt → Int → Option (Int × ASt)
  | 0, _, _ => none
  | n + 1, V, x2 =>
    bnd (f_M_rulesAll S V x0) (fun r11 V12 => if r11 ≤ x2 then (bnd (f_M_rulesAll S V12 x0) (fun r14 V15 => gd (isA S (aF S x0 0) 0 (w32 (1 + (w32 (3 * r14))))) (gd (isA S (aF S x0 0) 0 (w32 ((w32 (1 + (w32 (3 * r14)))) + 1))) (wV (aset V15 x0 48 (w32 ((w32 (256 * (V15 (aF S x0 0) (w32 (1 + (w32 (3 * r14))))))) + (V15 (aF S x0 0) (w32 ((w32 (1 + (w32 (3 * r14)))) + 1)))))) (fun V19 => gd (isA S (aF S x0 0) 0 (w32 ((w32 (1 + (w32 (3 * r14)))) + 2))) (gd (isA S (aF S x0 49) 0 0) (wV (aset V19 (aF S x0 49) 0 (V19 (aF S x0 0) (w32 ((w32 (1 + (w32 (3 * r14)))) + 2)))) (fun V22 => gd (isA S (aF S x0 0) 0 (w32 ((w32 (1 + (w32 (3 * r14)))) + 3))) (gd (isA S (aF S x0 49) 0 1) (wV (aset V22 (aF S x0 49) 1 (V22 (aF S x0 0) (w32 ((w32 (1 + (w32 (3 * r14)))) + 3)))) (fun V25 => gd (isA S (aF S x0 0) 0 (w32 ((w32 (1 + (w32 (3 * r14)))) + 4))) (gd (isA S (aF S x0 50) 0 0) (wV (aset V25 (aF S x0 50) 0 (V25 (aF S x0 0) (w32 ((w32 (1 + (w32 (3 * r14)))) + 4)))) (fun V28 => gd (isA S (aF S x0 0) 0 (w32 ((w32 (1 + (w32 (3 * r14)))) + 5))) (gd (isA S (aF S x0 50) 0 1) (wV (aset V28 (aF S x0 50) 1 (V28 (aF S x0 0) (w32 ((w32 (1 + (w32 (3 * r14)))) + 5)))) (fun V31 => wV (aset V31 x0 65 0) (fun V32 => bnd (f_M_anews S V32 x0) (fun r33 V34 => if r33 < 0 then (some (0, V34)) else (some (1, V34))))))))))))))))))))) else (gd (isA S (aF S x0 0) 0 (w32 (1 + (w32 (3 * x2))))) (gd (isA S (aF S x0 44) 0 x2) (wV (aset V12 (aF S x0 44) x2 (V12 (aF S x0 0) (w32 (1 + (w32 (3 * x2)))))) (fun V38 => gd (isA S (aF S x0 0) 0 (w32 (2 + (w32 (3 * x2))))) (if (Int.tmod (V38 (aF S x0 0) (w32 (2 + (w32 (3 * x2))))) 2) = 1 then (b_M_on_J86 S ((b_M_on_L34 S x0 n)) V38 x0 x2 (V12 (aF S x0 0) (w32 (1 + (w32 (3 * x2))))) (aF S x0 45) (V12 (aF S x0 0) (w32 (1 + (w32 (3 * x2))))) 1) else (b_M_on_J86 S ((b_M_on_L34 S x0 n)) V38 x0 x2 (V12 (aF S x0 0) (w32 (1 + (w32 (3 * x2))))) (aF S x0 45) (V12 (aF S x0 0) (w32 (1 + (w32 (3 * x2))))) 0)))))))
def f_M_on (S : ASh) (V : ASt) (x0 : Int) : Option (Int × ASt) :=
  gd (isO S x0 13) (wV (aset V x0 1 0) (fun V40 => bnd (f_M_isWhole S V40 x0 (V x0 1)) (fun r41 V42 => if r41 = 0 then (bnd (f_M_refuses S V42 x0 5) (fun r44 V45 => if r44 < 0 then (some (0, V45)) else (some (1, V45)))) else (b_M_on_L34 S x0 FU V42 0))))
