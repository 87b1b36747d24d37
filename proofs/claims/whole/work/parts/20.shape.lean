/-! what the constructors have made: the shape S0, cell by cell, and the store V0 (printed by wip/gen/gen_shape.py) -/
def tagL : List Nat := [12, 0, 100, 1, 8, 100, 100, 100, 100, 100, 100, 100, 100, 100, 100, 102, 100, 100, 100, 1, 8, 100, 100, 100, 100, 100, 100, 100, 100, 100, 100, 102, 100, 100, 100, 5, 9, 100, 100, 100, 100, 6, 100, 7, 6, 100, 100, 2, 100, 100, 4, 100, 100, 100, 100, 100, 100, 100, 102, 100, 100, 100, 10, 100, 100, 100, 100, 100, 100, 100, 100, 101, 101, 10, 4, 100, 100, 100, 100, 100, 100, 100, 102, 100, 100, 100, 100, 100, 100, 100, 100, 100, 100, 100, 101, 101, 11, 6, 100, 6, 100, 100, 11, 6, 100, 6, 100, 100, 103, 3, 3, 100, 100, 0, 100, 100, 6, 100, 6, 100, 6, 100, 6, 100, 6, 100, 6, 100, 6, 100, 6, 100, 6, 100, 6, 100, 6, 100, 6, 100, 6, 100, 13, 100, 100, 100, 101, 100, 100, 100, 100, 100, 100, 100, 100, 102, 100, 100, 100, 100, 100, 100, 102, 100, 100, 100, 100, 101, 100, 100, 102, 102, 100, 100, 100, 100, 100, 100, 102, 100, 100, 100, 100, 101, 101, 100, 102, 102, 100, 100, 100, 100, 100, 100, 100, 100, 100, 100]
def lenL : List Int := [0, 0, 1800, 0, 0, 1800, 13, 64, 2, 2, 2, 12, 12, 12, 12, 12, 2, 400, 4000, 0, 0, 1800, 13, 64, 2, 2, 2, 12, 12, 12, 12, 12, 2, 400, 4000, 0, 0, 23, 1801, 1801, 1801, 0, 12, 0, 0, 12, 200, 0, 40, 40, 0, 200, 200, 200, 2400, 2400, 24, 24, 24, 2, 12, 12, 0, 200, 200, 200, 201, 2400, 200, 200, 200, 200, 200, 0, 0, 200, 200, 200, 2400, 2400, 24, 24, 24, 2, 12, 12, 200, 200, 200, 201, 2400, 200, 200, 200, 200, 200, 0, 0, 12, 0, 12, 146, 0, 0, 12, 0, 12, 146, 13, 0, 0, 2, 2, 0, 44, 6, 0, 12, 0, 12, 0, 12, 0, 12, 0, 12, 0, 12, 0, 12, 0, 12, 0, 12, 0, 12, 0, 12, 0, 12, 0, 12, 0, 1800, 2, 2, 4, 4, 4, 2, 2, 24, 24, 24, 24, 24, 24, 24, 3600, 3600, 20, 20, 20, 20, 20, 500, 6, 1850, 10, 12, 12, 12, 12, 2, 2, 200, 4000, 4000, 200, 200, 200, 200, 200, 200, 200, 480, 480, 480, 480, 372, 372, 12, 12, 200, 4000, 4000, 200, 48]
def finL : List (Int × Int × Int) := [(0, 0, 1), (0, 3, 35), (0, 4, 41), (0, 5, 43), (0, 6, 47), (0, 7, 50), (0, 8, 62), (0, 9, 73), (0, 10, 96), (0, 11, 102), (0, 12, 108), (0, 13, 109), (0, 14, 110), (0, 15, 111), (0, 16, 112), (0, 18, 113), (0, 19, 115), (1, 1, 2), (3, 5, 4), (3, 6, 8), (3, 7, 9), (3, 8, 10), (3, 9, 11), (3, 10, 12), (3, 11, 13), (3, 12, 14), (3, 13, 15), (3, 14, 16), (3, 15, 17), (3, 16, 18), (4, 0, 5), (4, 1, 6), (4, 4, 7), (19, 5, 20), (19, 6, 24), (19, 7, 25), (19, 8, 26), (19, 9, 27), (19, 10, 28), (19, 11, 29), (19, 12, 30), (19, 13, 31), (19, 14, 32), (19, 15, 33), (19, 16, 34), (20, 0, 21), (20, 1, 22), (20, 4, 23), (35, 2, 36), (36, 0, 37), (36, 1, 38), (36, 2, 39), (36, 3, 40), (41, 1, 42), (43, 1, 44), (43, 4, 46), (44, 1, 45), (47, 1, 48), (47, 2, 49), (50, 3, 51), (50, 4, 52), (50, 5, 53), (50, 6, 54), (50, 7, 55), (50, 8, 56), (50, 9, 57), (50, 10, 58), (50, 11, 59), (50, 12, 60), (50, 13, 61), (62, 1, 50), (62, 2, 63), (62, 3, 64), (62, 4, 65), (62, 5, 66), (62, 6, 67), (62, 7, 68), (62, 9, 69), (62, 10, 70), (73, 1, 74), (73, 2, 86), (73, 3, 87), (73, 4, 88), (73, 5, 89), (73, 6, 90), (73, 7, 91), (73, 9, 92), (73, 10, 93), (74, 3, 75), (74, 4, 76), (74, 5, 77), (74, 6, 78), (74, 7, 79), (74, 8, 80), (74, 9, 81), (74, 10, 82), (74, 11, 83), (74, 12, 84), (74, 13, 85), (96, 0, 73), (96, 3, 97), (96, 4, 99), (96, 5, 101), (97, 1, 98), (99, 1, 100), (102, 0, 73), (102, 3, 103), (102, 4, 105), (102, 5, 107), (103, 1, 104), (105, 1, 106), (113, 1, 114), (116, 1, 117), (118, 1, 119), (120, 1, 121), (122, 1, 123), (124, 1, 125), (126, 1, 127), (128, 1, 129), (130, 1, 131), (132, 1, 133), (134, 1, 135), (136, 1, 137), (138, 1, 139), (140, 1, 141), (142, 0, 143), (142, 13, 144), (142, 14, 145), (142, 15, 146), (142, 16, 147), (142, 17, 148), (142, 18, 149), (142, 19, 150), (142, 20, 151), (142, 21, 152), (142, 22, 153), (142, 23, 154), (142, 24, 155), (142, 25, 156), (142, 26, 157), (142, 27, 158), (142, 28, 159), (142, 31, 160), (142, 32, 161), (142, 33, 162), (142, 34, 163), (142, 35, 164), (142, 38, 165), (142, 41, 166), (142, 42, 167), (142, 43, 168), (142, 44, 169), (142, 45, 170), (142, 46, 171), (142, 47, 172), (142, 49, 173), (142, 50, 174), (142, 51, 175), (142, 52, 176), (142, 53, 177), (142, 54, 178), (142, 55, 179), (142, 57, 180), (142, 58, 181), (142, 62, 182), (142, 63, 183), (142, 64, 184), (142, 66, 185), (142, 67, 186), (142, 68, 187), (142, 69, 188), (142, 70, 189), (142, 71, 190), (142, 73, 191), (142, 74, 192), (142, 75, 193), (142, 76, 194), (142, 77, 195), (142, 78, 196), (142, 79, 197)]
def shChk (S : ASh) : Bool := decide (aN S = 198) && (List.range 198).all (fun i => decide (aT S (i : Int) = tagL.getD i 0)) && (List.range 198).all (fun i => decide (tagL.getD i 0 < 100) || decide (aLn S (i : Int) = lenL.getD i 0)) && finL.all (fun f => decide (aF S f.1 f.2.1 = f.2.2))
def Sc : ASh := match runC with
  | some q => q.1
  | none => Se
def Vc : ASt := match runC with
  | some q => q.2
  | none => Ve
set_option maxRecDepth 1000000 in
theorem run_some : runC.isSome = true := by decide +kernel
theorem run_c : runC = some (Sc, Vc) := by
  have h := run_some
  unfold Sc Vc
  cases hq : runC with
  | none => rw [hq] at h; cases h
  | some q => rfl
set_option maxRecDepth 1000000 in
theorem Sc_chk : shChk Sc = true := by decide +kernel
/-- the same, shut: nothing unfolds it -/
theorem S0_ex : ∃ q : ASh × ASt, q = (Sc, Vc) := ⟨_, rfl⟩
noncomputable def S0 : ASh := (Classical.choose S0_ex).1
noncomputable def V0 : ASt := (Classical.choose S0_ex).2
theorem S0_e : S0 = Sc := by
  have h := Classical.choose_spec S0_ex
  unfold S0
  rw [h]
theorem V0_e : V0 = Vc := by
  have h := Classical.choose_spec S0_ex
  unfold V0
  rw [h]
theorem run_ok : runC = some (S0, V0) := by rw [S0_e, V0_e]; exact run_c
theorem S0_chk : shChk S0 = true := by rw [S0_e]; exact Sc_chk
theorem S0_n : aN S0 = 198 := by
  have h := S0_chk
  simp only [shChk, Bool.and_eq_true, decide_eq_true_eq] at h
  exact h.1.1.1
theorem S0_t {i t : Nat} (h : tagL[i]? = some t) : aT S0 (i : Int) = t := by
  have h1 := S0_chk
  simp only [shChk, Bool.and_eq_true, decide_eq_true_eq, List.all_eq_true] at h1
  have hi : i < 198 := by
    have := (List.getElem?_eq_some_iff.mp h).1
    exact this
  have := h1.1.1.2 i (List.mem_range.mpr hi)
  rw [this, List.getD_eq_getElem?_getD, h]
  rfl
theorem S0_o (a : Int) (c i : Nat) (ha : a = i) (h : tagL[i]? = some c) : isO S0 a c = true := by
  have hi : i < 198 := by
    have := (List.getElem?_eq_some_iff.mp h).1
    exact this
  subst ha
  simp only [isO, Bool.and_eq_true, decide_eq_true_eq, S0_n, S0_t h]
  exact ⟨⟨by omega, by omega⟩, trivial⟩
theorem S0_l (a : Int) (i : Nat) (n : Int) (ha : a = i) (h : lenL[i]? = some n) (ht : ¬ tagL.getD i 0 < 100) : aLn S0 a = n := by
  have h1 := S0_chk
  simp only [shChk, Bool.and_eq_true, decide_eq_true_eq, List.all_eq_true] at h1
  have hi : i < 198 := by
    have := (List.getElem?_eq_some_iff.mp h).1
    exact this
  have := h1.1.2 i (List.mem_range.mpr hi)
  simp only [Bool.or_eq_true, decide_eq_true_eq] at this
  subst ha
  rw [this.resolve_left ht, List.getD_eq_getElem?_getD, h]
  rfl
theorem S0_f (j : Nat) {a k v : Int} (h : finL[j]? = some (a, k, v)) : aF S0 a k = v := by
  have h1 := S0_chk
  simp only [shChk, Bool.and_eq_true, decide_eq_true_eq, List.all_eq_true] at h1
  have h2 := h1.2 (a, k, v) (List.mem_of_getElem? h)
  exact h2
theorem isA_t {a i n : Int} {c : Nat} (h : isO S0 a (100 + c) = true) (hl : aLn S0 a = n) (h0 : 0 ≤ i) (h1 : i < n) : isA S0 a c i = true := by
  simp only [isA, h, hl, Bool.true_and, Bool.and_eq_true, decide_eq_true_eq]
  exact ⟨h0, h1⟩
theorem O_0 : isO S0 0 12 = true := S0_o 0 12 0 rfl rfl
theorem O_1 : isO S0 1 0 = true := S0_o 1 0 1 rfl rfl
theorem O_2 : isO S0 2 100 = true := S0_o 2 100 2 rfl rfl
theorem L_2 : aLn S0 2 = 1800 := S0_l 2 2 1800 rfl rfl (by decide)
theorem O_3 : isO S0 3 1 = true := S0_o 3 1 3 rfl rfl
theorem O_4 : isO S0 4 8 = true := S0_o 4 8 4 rfl rfl
theorem O_5 : isO S0 5 100 = true := S0_o 5 100 5 rfl rfl
theorem L_5 : aLn S0 5 = 1800 := S0_l 5 5 1800 rfl rfl (by decide)
theorem O_6 : isO S0 6 100 = true := S0_o 6 100 6 rfl rfl
theorem L_6 : aLn S0 6 = 13 := S0_l 6 6 13 rfl rfl (by decide)
theorem O_7 : isO S0 7 100 = true := S0_o 7 100 7 rfl rfl
theorem L_7 : aLn S0 7 = 64 := S0_l 7 7 64 rfl rfl (by decide)
theorem O_8 : isO S0 8 100 = true := S0_o 8 100 8 rfl rfl
theorem L_8 : aLn S0 8 = 2 := S0_l 8 8 2 rfl rfl (by decide)
theorem O_9 : isO S0 9 100 = true := S0_o 9 100 9 rfl rfl
theorem L_9 : aLn S0 9 = 2 := S0_l 9 9 2 rfl rfl (by decide)
theorem O_10 : isO S0 10 100 = true := S0_o 10 100 10 rfl rfl
theorem L_10 : aLn S0 10 = 2 := S0_l 10 10 2 rfl rfl (by decide)
theorem O_11 : isO S0 11 100 = true := S0_o 11 100 11 rfl rfl
theorem L_11 : aLn S0 11 = 12 := S0_l 11 11 12 rfl rfl (by decide)
theorem O_12 : isO S0 12 100 = true := S0_o 12 100 12 rfl rfl
theorem L_12 : aLn S0 12 = 12 := S0_l 12 12 12 rfl rfl (by decide)
theorem O_13 : isO S0 13 100 = true := S0_o 13 100 13 rfl rfl
theorem L_13 : aLn S0 13 = 12 := S0_l 13 13 12 rfl rfl (by decide)
theorem O_14 : isO S0 14 100 = true := S0_o 14 100 14 rfl rfl
theorem L_14 : aLn S0 14 = 12 := S0_l 14 14 12 rfl rfl (by decide)
theorem O_15 : isO S0 15 102 = true := S0_o 15 102 15 rfl rfl
theorem L_15 : aLn S0 15 = 12 := S0_l 15 15 12 rfl rfl (by decide)
theorem O_16 : isO S0 16 100 = true := S0_o 16 100 16 rfl rfl
theorem L_16 : aLn S0 16 = 2 := S0_l 16 16 2 rfl rfl (by decide)
theorem O_17 : isO S0 17 100 = true := S0_o 17 100 17 rfl rfl
theorem L_17 : aLn S0 17 = 400 := S0_l 17 17 400 rfl rfl (by decide)
theorem O_18 : isO S0 18 100 = true := S0_o 18 100 18 rfl rfl
theorem L_18 : aLn S0 18 = 4000 := S0_l 18 18 4000 rfl rfl (by decide)
theorem O_19 : isO S0 19 1 = true := S0_o 19 1 19 rfl rfl
theorem O_20 : isO S0 20 8 = true := S0_o 20 8 20 rfl rfl
theorem O_21 : isO S0 21 100 = true := S0_o 21 100 21 rfl rfl
theorem L_21 : aLn S0 21 = 1800 := S0_l 21 21 1800 rfl rfl (by decide)
theorem O_22 : isO S0 22 100 = true := S0_o 22 100 22 rfl rfl
theorem L_22 : aLn S0 22 = 13 := S0_l 22 22 13 rfl rfl (by decide)
theorem O_23 : isO S0 23 100 = true := S0_o 23 100 23 rfl rfl
theorem L_23 : aLn S0 23 = 64 := S0_l 23 23 64 rfl rfl (by decide)
theorem O_24 : isO S0 24 100 = true := S0_o 24 100 24 rfl rfl
theorem L_24 : aLn S0 24 = 2 := S0_l 24 24 2 rfl rfl (by decide)
theorem O_25 : isO S0 25 100 = true := S0_o 25 100 25 rfl rfl
theorem L_25 : aLn S0 25 = 2 := S0_l 25 25 2 rfl rfl (by decide)
theorem O_26 : isO S0 26 100 = true := S0_o 26 100 26 rfl rfl
theorem L_26 : aLn S0 26 = 2 := S0_l 26 26 2 rfl rfl (by decide)
theorem O_27 : isO S0 27 100 = true := S0_o 27 100 27 rfl rfl
theorem L_27 : aLn S0 27 = 12 := S0_l 27 27 12 rfl rfl (by decide)
theorem O_28 : isO S0 28 100 = true := S0_o 28 100 28 rfl rfl
theorem L_28 : aLn S0 28 = 12 := S0_l 28 28 12 rfl rfl (by decide)
theorem O_29 : isO S0 29 100 = true := S0_o 29 100 29 rfl rfl
theorem L_29 : aLn S0 29 = 12 := S0_l 29 29 12 rfl rfl (by decide)
theorem O_30 : isO S0 30 100 = true := S0_o 30 100 30 rfl rfl
theorem L_30 : aLn S0 30 = 12 := S0_l 30 30 12 rfl rfl (by decide)
theorem O_31 : isO S0 31 102 = true := S0_o 31 102 31 rfl rfl
theorem L_31 : aLn S0 31 = 12 := S0_l 31 31 12 rfl rfl (by decide)
theorem O_32 : isO S0 32 100 = true := S0_o 32 100 32 rfl rfl
theorem L_32 : aLn S0 32 = 2 := S0_l 32 32 2 rfl rfl (by decide)
theorem O_33 : isO S0 33 100 = true := S0_o 33 100 33 rfl rfl
theorem L_33 : aLn S0 33 = 400 := S0_l 33 33 400 rfl rfl (by decide)
theorem O_34 : isO S0 34 100 = true := S0_o 34 100 34 rfl rfl
theorem L_34 : aLn S0 34 = 4000 := S0_l 34 34 4000 rfl rfl (by decide)
theorem O_35 : isO S0 35 5 = true := S0_o 35 5 35 rfl rfl
theorem O_36 : isO S0 36 9 = true := S0_o 36 9 36 rfl rfl
theorem O_37 : isO S0 37 100 = true := S0_o 37 100 37 rfl rfl
theorem L_37 : aLn S0 37 = 23 := S0_l 37 37 23 rfl rfl (by decide)
theorem O_38 : isO S0 38 100 = true := S0_o 38 100 38 rfl rfl
theorem L_38 : aLn S0 38 = 1801 := S0_l 38 38 1801 rfl rfl (by decide)
theorem O_39 : isO S0 39 100 = true := S0_o 39 100 39 rfl rfl
theorem L_39 : aLn S0 39 = 1801 := S0_l 39 39 1801 rfl rfl (by decide)
theorem O_40 : isO S0 40 100 = true := S0_o 40 100 40 rfl rfl
theorem L_40 : aLn S0 40 = 1801 := S0_l 40 40 1801 rfl rfl (by decide)
theorem O_41 : isO S0 41 6 = true := S0_o 41 6 41 rfl rfl
theorem O_42 : isO S0 42 100 = true := S0_o 42 100 42 rfl rfl
theorem L_42 : aLn S0 42 = 12 := S0_l 42 42 12 rfl rfl (by decide)
theorem O_43 : isO S0 43 7 = true := S0_o 43 7 43 rfl rfl
theorem O_44 : isO S0 44 6 = true := S0_o 44 6 44 rfl rfl
theorem O_45 : isO S0 45 100 = true := S0_o 45 100 45 rfl rfl
theorem L_45 : aLn S0 45 = 12 := S0_l 45 45 12 rfl rfl (by decide)
theorem O_46 : isO S0 46 100 = true := S0_o 46 100 46 rfl rfl
theorem L_46 : aLn S0 46 = 200 := S0_l 46 46 200 rfl rfl (by decide)
theorem O_47 : isO S0 47 2 = true := S0_o 47 2 47 rfl rfl
theorem O_48 : isO S0 48 100 = true := S0_o 48 100 48 rfl rfl
theorem L_48 : aLn S0 48 = 40 := S0_l 48 48 40 rfl rfl (by decide)
theorem O_49 : isO S0 49 100 = true := S0_o 49 100 49 rfl rfl
theorem L_49 : aLn S0 49 = 40 := S0_l 49 49 40 rfl rfl (by decide)
theorem O_50 : isO S0 50 4 = true := S0_o 50 4 50 rfl rfl
theorem O_51 : isO S0 51 100 = true := S0_o 51 100 51 rfl rfl
theorem L_51 : aLn S0 51 = 200 := S0_l 51 51 200 rfl rfl (by decide)
theorem O_52 : isO S0 52 100 = true := S0_o 52 100 52 rfl rfl
theorem L_52 : aLn S0 52 = 200 := S0_l 52 52 200 rfl rfl (by decide)
theorem O_53 : isO S0 53 100 = true := S0_o 53 100 53 rfl rfl
theorem L_53 : aLn S0 53 = 200 := S0_l 53 53 200 rfl rfl (by decide)
theorem O_54 : isO S0 54 100 = true := S0_o 54 100 54 rfl rfl
theorem L_54 : aLn S0 54 = 2400 := S0_l 54 54 2400 rfl rfl (by decide)
theorem O_55 : isO S0 55 100 = true := S0_o 55 100 55 rfl rfl
theorem L_55 : aLn S0 55 = 2400 := S0_l 55 55 2400 rfl rfl (by decide)
theorem O_56 : isO S0 56 100 = true := S0_o 56 100 56 rfl rfl
theorem L_56 : aLn S0 56 = 24 := S0_l 56 56 24 rfl rfl (by decide)
theorem O_57 : isO S0 57 100 = true := S0_o 57 100 57 rfl rfl
theorem L_57 : aLn S0 57 = 24 := S0_l 57 57 24 rfl rfl (by decide)
theorem O_58 : isO S0 58 102 = true := S0_o 58 102 58 rfl rfl
theorem L_58 : aLn S0 58 = 24 := S0_l 58 58 24 rfl rfl (by decide)
theorem O_59 : isO S0 59 100 = true := S0_o 59 100 59 rfl rfl
theorem L_59 : aLn S0 59 = 2 := S0_l 59 59 2 rfl rfl (by decide)
theorem O_60 : isO S0 60 100 = true := S0_o 60 100 60 rfl rfl
theorem L_60 : aLn S0 60 = 12 := S0_l 60 60 12 rfl rfl (by decide)
theorem O_61 : isO S0 61 100 = true := S0_o 61 100 61 rfl rfl
theorem L_61 : aLn S0 61 = 12 := S0_l 61 61 12 rfl rfl (by decide)
theorem O_62 : isO S0 62 10 = true := S0_o 62 10 62 rfl rfl
theorem O_63 : isO S0 63 100 = true := S0_o 63 100 63 rfl rfl
theorem L_63 : aLn S0 63 = 200 := S0_l 63 63 200 rfl rfl (by decide)
theorem O_64 : isO S0 64 100 = true := S0_o 64 100 64 rfl rfl
theorem L_64 : aLn S0 64 = 200 := S0_l 64 64 200 rfl rfl (by decide)
theorem O_65 : isO S0 65 100 = true := S0_o 65 100 65 rfl rfl
theorem L_65 : aLn S0 65 = 200 := S0_l 65 65 200 rfl rfl (by decide)
theorem O_66 : isO S0 66 100 = true := S0_o 66 100 66 rfl rfl
theorem L_66 : aLn S0 66 = 201 := S0_l 66 66 201 rfl rfl (by decide)
theorem O_67 : isO S0 67 100 = true := S0_o 67 100 67 rfl rfl
theorem L_67 : aLn S0 67 = 2400 := S0_l 67 67 2400 rfl rfl (by decide)
theorem O_68 : isO S0 68 100 = true := S0_o 68 100 68 rfl rfl
theorem L_68 : aLn S0 68 = 200 := S0_l 68 68 200 rfl rfl (by decide)
theorem O_69 : isO S0 69 100 = true := S0_o 69 100 69 rfl rfl
theorem L_69 : aLn S0 69 = 200 := S0_l 69 69 200 rfl rfl (by decide)
theorem O_70 : isO S0 70 100 = true := S0_o 70 100 70 rfl rfl
theorem L_70 : aLn S0 70 = 200 := S0_l 70 70 200 rfl rfl (by decide)
theorem O_71 : isO S0 71 101 = true := S0_o 71 101 71 rfl rfl
theorem L_71 : aLn S0 71 = 200 := S0_l 71 71 200 rfl rfl (by decide)
theorem O_72 : isO S0 72 101 = true := S0_o 72 101 72 rfl rfl
theorem L_72 : aLn S0 72 = 200 := S0_l 72 72 200 rfl rfl (by decide)
theorem O_73 : isO S0 73 10 = true := S0_o 73 10 73 rfl rfl
theorem O_74 : isO S0 74 4 = true := S0_o 74 4 74 rfl rfl
theorem O_75 : isO S0 75 100 = true := S0_o 75 100 75 rfl rfl
theorem L_75 : aLn S0 75 = 200 := S0_l 75 75 200 rfl rfl (by decide)
theorem O_76 : isO S0 76 100 = true := S0_o 76 100 76 rfl rfl
theorem L_76 : aLn S0 76 = 200 := S0_l 76 76 200 rfl rfl (by decide)
theorem O_77 : isO S0 77 100 = true := S0_o 77 100 77 rfl rfl
theorem L_77 : aLn S0 77 = 200 := S0_l 77 77 200 rfl rfl (by decide)
theorem O_78 : isO S0 78 100 = true := S0_o 78 100 78 rfl rfl
theorem L_78 : aLn S0 78 = 2400 := S0_l 78 78 2400 rfl rfl (by decide)
theorem O_79 : isO S0 79 100 = true := S0_o 79 100 79 rfl rfl
theorem L_79 : aLn S0 79 = 2400 := S0_l 79 79 2400 rfl rfl (by decide)
theorem O_80 : isO S0 80 100 = true := S0_o 80 100 80 rfl rfl
theorem L_80 : aLn S0 80 = 24 := S0_l 80 80 24 rfl rfl (by decide)
theorem O_81 : isO S0 81 100 = true := S0_o 81 100 81 rfl rfl
theorem L_81 : aLn S0 81 = 24 := S0_l 81 81 24 rfl rfl (by decide)
theorem O_82 : isO S0 82 102 = true := S0_o 82 102 82 rfl rfl
theorem L_82 : aLn S0 82 = 24 := S0_l 82 82 24 rfl rfl (by decide)
theorem O_83 : isO S0 83 100 = true := S0_o 83 100 83 rfl rfl
theorem L_83 : aLn S0 83 = 2 := S0_l 83 83 2 rfl rfl (by decide)
theorem O_84 : isO S0 84 100 = true := S0_o 84 100 84 rfl rfl
theorem L_84 : aLn S0 84 = 12 := S0_l 84 84 12 rfl rfl (by decide)
theorem O_85 : isO S0 85 100 = true := S0_o 85 100 85 rfl rfl
theorem L_85 : aLn S0 85 = 12 := S0_l 85 85 12 rfl rfl (by decide)
theorem O_86 : isO S0 86 100 = true := S0_o 86 100 86 rfl rfl
theorem L_86 : aLn S0 86 = 200 := S0_l 86 86 200 rfl rfl (by decide)
theorem O_87 : isO S0 87 100 = true := S0_o 87 100 87 rfl rfl
theorem L_87 : aLn S0 87 = 200 := S0_l 87 87 200 rfl rfl (by decide)
theorem O_88 : isO S0 88 100 = true := S0_o 88 100 88 rfl rfl
theorem L_88 : aLn S0 88 = 200 := S0_l 88 88 200 rfl rfl (by decide)
theorem O_89 : isO S0 89 100 = true := S0_o 89 100 89 rfl rfl
theorem L_89 : aLn S0 89 = 201 := S0_l 89 89 201 rfl rfl (by decide)
theorem O_90 : isO S0 90 100 = true := S0_o 90 100 90 rfl rfl
theorem L_90 : aLn S0 90 = 2400 := S0_l 90 90 2400 rfl rfl (by decide)
theorem O_91 : isO S0 91 100 = true := S0_o 91 100 91 rfl rfl
theorem L_91 : aLn S0 91 = 200 := S0_l 91 91 200 rfl rfl (by decide)
theorem O_92 : isO S0 92 100 = true := S0_o 92 100 92 rfl rfl
theorem L_92 : aLn S0 92 = 200 := S0_l 92 92 200 rfl rfl (by decide)
theorem O_93 : isO S0 93 100 = true := S0_o 93 100 93 rfl rfl
theorem L_93 : aLn S0 93 = 200 := S0_l 93 93 200 rfl rfl (by decide)
theorem O_94 : isO S0 94 101 = true := S0_o 94 101 94 rfl rfl
theorem L_94 : aLn S0 94 = 200 := S0_l 94 94 200 rfl rfl (by decide)
theorem O_95 : isO S0 95 101 = true := S0_o 95 101 95 rfl rfl
theorem L_95 : aLn S0 95 = 200 := S0_l 95 95 200 rfl rfl (by decide)
theorem O_96 : isO S0 96 11 = true := S0_o 96 11 96 rfl rfl
theorem O_97 : isO S0 97 6 = true := S0_o 97 6 97 rfl rfl
theorem O_98 : isO S0 98 100 = true := S0_o 98 100 98 rfl rfl
theorem L_98 : aLn S0 98 = 12 := S0_l 98 98 12 rfl rfl (by decide)
theorem O_99 : isO S0 99 6 = true := S0_o 99 6 99 rfl rfl
theorem O_100 : isO S0 100 100 = true := S0_o 100 100 100 rfl rfl
theorem L_100 : aLn S0 100 = 12 := S0_l 100 100 12 rfl rfl (by decide)
theorem O_101 : isO S0 101 100 = true := S0_o 101 100 101 rfl rfl
theorem L_101 : aLn S0 101 = 146 := S0_l 101 101 146 rfl rfl (by decide)
theorem O_102 : isO S0 102 11 = true := S0_o 102 11 102 rfl rfl
theorem O_103 : isO S0 103 6 = true := S0_o 103 6 103 rfl rfl
theorem O_104 : isO S0 104 100 = true := S0_o 104 100 104 rfl rfl
theorem L_104 : aLn S0 104 = 12 := S0_l 104 104 12 rfl rfl (by decide)
theorem O_105 : isO S0 105 6 = true := S0_o 105 6 105 rfl rfl
theorem O_106 : isO S0 106 100 = true := S0_o 106 100 106 rfl rfl
theorem L_106 : aLn S0 106 = 12 := S0_l 106 106 12 rfl rfl (by decide)
theorem O_107 : isO S0 107 100 = true := S0_o 107 100 107 rfl rfl
theorem L_107 : aLn S0 107 = 146 := S0_l 107 107 146 rfl rfl (by decide)
theorem O_108 : isO S0 108 103 = true := S0_o 108 103 108 rfl rfl
theorem L_108 : aLn S0 108 = 13 := S0_l 108 108 13 rfl rfl (by decide)
theorem O_109 : isO S0 109 3 = true := S0_o 109 3 109 rfl rfl
theorem O_110 : isO S0 110 3 = true := S0_o 110 3 110 rfl rfl
theorem O_111 : isO S0 111 100 = true := S0_o 111 100 111 rfl rfl
theorem L_111 : aLn S0 111 = 2 := S0_l 111 111 2 rfl rfl (by decide)
theorem O_112 : isO S0 112 100 = true := S0_o 112 100 112 rfl rfl
theorem L_112 : aLn S0 112 = 2 := S0_l 112 112 2 rfl rfl (by decide)
theorem O_113 : isO S0 113 0 = true := S0_o 113 0 113 rfl rfl
theorem O_114 : isO S0 114 100 = true := S0_o 114 100 114 rfl rfl
theorem L_114 : aLn S0 114 = 44 := S0_l 114 114 44 rfl rfl (by decide)
theorem O_115 : isO S0 115 100 = true := S0_o 115 100 115 rfl rfl
theorem L_115 : aLn S0 115 = 6 := S0_l 115 115 6 rfl rfl (by decide)
theorem O_116 : isO S0 116 6 = true := S0_o 116 6 116 rfl rfl
theorem O_117 : isO S0 117 100 = true := S0_o 117 100 117 rfl rfl
theorem L_117 : aLn S0 117 = 12 := S0_l 117 117 12 rfl rfl (by decide)
theorem O_118 : isO S0 118 6 = true := S0_o 118 6 118 rfl rfl
theorem O_119 : isO S0 119 100 = true := S0_o 119 100 119 rfl rfl
theorem L_119 : aLn S0 119 = 12 := S0_l 119 119 12 rfl rfl (by decide)
theorem O_120 : isO S0 120 6 = true := S0_o 120 6 120 rfl rfl
theorem O_121 : isO S0 121 100 = true := S0_o 121 100 121 rfl rfl
theorem L_121 : aLn S0 121 = 12 := S0_l 121 121 12 rfl rfl (by decide)
theorem O_122 : isO S0 122 6 = true := S0_o 122 6 122 rfl rfl
theorem O_123 : isO S0 123 100 = true := S0_o 123 100 123 rfl rfl
theorem L_123 : aLn S0 123 = 12 := S0_l 123 123 12 rfl rfl (by decide)
theorem O_124 : isO S0 124 6 = true := S0_o 124 6 124 rfl rfl
theorem O_125 : isO S0 125 100 = true := S0_o 125 100 125 rfl rfl
theorem L_125 : aLn S0 125 = 12 := S0_l 125 125 12 rfl rfl (by decide)
theorem O_126 : isO S0 126 6 = true := S0_o 126 6 126 rfl rfl
theorem O_127 : isO S0 127 100 = true := S0_o 127 100 127 rfl rfl
theorem L_127 : aLn S0 127 = 12 := S0_l 127 127 12 rfl rfl (by decide)
theorem O_128 : isO S0 128 6 = true := S0_o 128 6 128 rfl rfl
theorem O_129 : isO S0 129 100 = true := S0_o 129 100 129 rfl rfl
theorem L_129 : aLn S0 129 = 12 := S0_l 129 129 12 rfl rfl (by decide)
theorem O_130 : isO S0 130 6 = true := S0_o 130 6 130 rfl rfl
theorem O_131 : isO S0 131 100 = true := S0_o 131 100 131 rfl rfl
theorem L_131 : aLn S0 131 = 12 := S0_l 131 131 12 rfl rfl (by decide)
theorem O_132 : isO S0 132 6 = true := S0_o 132 6 132 rfl rfl
theorem O_133 : isO S0 133 100 = true := S0_o 133 100 133 rfl rfl
theorem L_133 : aLn S0 133 = 12 := S0_l 133 133 12 rfl rfl (by decide)
theorem O_134 : isO S0 134 6 = true := S0_o 134 6 134 rfl rfl
theorem O_135 : isO S0 135 100 = true := S0_o 135 100 135 rfl rfl
theorem L_135 : aLn S0 135 = 12 := S0_l 135 135 12 rfl rfl (by decide)
theorem O_136 : isO S0 136 6 = true := S0_o 136 6 136 rfl rfl
theorem O_137 : isO S0 137 100 = true := S0_o 137 100 137 rfl rfl
theorem L_137 : aLn S0 137 = 12 := S0_l 137 137 12 rfl rfl (by decide)
theorem O_138 : isO S0 138 6 = true := S0_o 138 6 138 rfl rfl
theorem O_139 : isO S0 139 100 = true := S0_o 139 100 139 rfl rfl
theorem L_139 : aLn S0 139 = 12 := S0_l 139 139 12 rfl rfl (by decide)
theorem O_140 : isO S0 140 6 = true := S0_o 140 6 140 rfl rfl
theorem O_141 : isO S0 141 100 = true := S0_o 141 100 141 rfl rfl
theorem L_141 : aLn S0 141 = 12 := S0_l 141 141 12 rfl rfl (by decide)
theorem O_142 : isO S0 142 13 = true := S0_o 142 13 142 rfl rfl
theorem O_143 : isO S0 143 100 = true := S0_o 143 100 143 rfl rfl
theorem L_143 : aLn S0 143 = 1800 := S0_l 143 143 1800 rfl rfl (by decide)
theorem O_144 : isO S0 144 100 = true := S0_o 144 100 144 rfl rfl
theorem L_144 : aLn S0 144 = 2 := S0_l 144 144 2 rfl rfl (by decide)
theorem O_145 : isO S0 145 100 = true := S0_o 145 100 145 rfl rfl
theorem L_145 : aLn S0 145 = 2 := S0_l 145 145 2 rfl rfl (by decide)
theorem O_146 : isO S0 146 101 = true := S0_o 146 101 146 rfl rfl
theorem L_146 : aLn S0 146 = 4 := S0_l 146 146 4 rfl rfl (by decide)
theorem O_147 : isO S0 147 100 = true := S0_o 147 100 147 rfl rfl
theorem L_147 : aLn S0 147 = 4 := S0_l 147 147 4 rfl rfl (by decide)
theorem O_148 : isO S0 148 100 = true := S0_o 148 100 148 rfl rfl
theorem L_148 : aLn S0 148 = 4 := S0_l 148 148 4 rfl rfl (by decide)
theorem O_149 : isO S0 149 100 = true := S0_o 149 100 149 rfl rfl
theorem L_149 : aLn S0 149 = 2 := S0_l 149 149 2 rfl rfl (by decide)
theorem O_150 : isO S0 150 100 = true := S0_o 150 100 150 rfl rfl
theorem L_150 : aLn S0 150 = 2 := S0_l 150 150 2 rfl rfl (by decide)
theorem O_151 : isO S0 151 100 = true := S0_o 151 100 151 rfl rfl
theorem L_151 : aLn S0 151 = 24 := S0_l 151 151 24 rfl rfl (by decide)
theorem O_152 : isO S0 152 100 = true := S0_o 152 100 152 rfl rfl
theorem L_152 : aLn S0 152 = 24 := S0_l 152 152 24 rfl rfl (by decide)
theorem O_153 : isO S0 153 100 = true := S0_o 153 100 153 rfl rfl
theorem L_153 : aLn S0 153 = 24 := S0_l 153 153 24 rfl rfl (by decide)
theorem O_154 : isO S0 154 100 = true := S0_o 154 100 154 rfl rfl
theorem L_154 : aLn S0 154 = 24 := S0_l 154 154 24 rfl rfl (by decide)
theorem O_155 : isO S0 155 102 = true := S0_o 155 102 155 rfl rfl
theorem L_155 : aLn S0 155 = 24 := S0_l 155 155 24 rfl rfl (by decide)
theorem O_156 : isO S0 156 100 = true := S0_o 156 100 156 rfl rfl
theorem L_156 : aLn S0 156 = 24 := S0_l 156 156 24 rfl rfl (by decide)
theorem O_157 : isO S0 157 100 = true := S0_o 157 100 157 rfl rfl
theorem L_157 : aLn S0 157 = 24 := S0_l 157 157 24 rfl rfl (by decide)
theorem O_158 : isO S0 158 100 = true := S0_o 158 100 158 rfl rfl
theorem L_158 : aLn S0 158 = 3600 := S0_l 158 158 3600 rfl rfl (by decide)
theorem O_159 : isO S0 159 100 = true := S0_o 159 100 159 rfl rfl
theorem L_159 : aLn S0 159 = 3600 := S0_l 159 159 3600 rfl rfl (by decide)
theorem O_160 : isO S0 160 100 = true := S0_o 160 100 160 rfl rfl
theorem L_160 : aLn S0 160 = 20 := S0_l 160 160 20 rfl rfl (by decide)
theorem O_161 : isO S0 161 100 = true := S0_o 161 100 161 rfl rfl
theorem L_161 : aLn S0 161 = 20 := S0_l 161 161 20 rfl rfl (by decide)
theorem O_162 : isO S0 162 102 = true := S0_o 162 102 162 rfl rfl
theorem L_162 : aLn S0 162 = 20 := S0_l 162 162 20 rfl rfl (by decide)
theorem O_163 : isO S0 163 100 = true := S0_o 163 100 163 rfl rfl
theorem L_163 : aLn S0 163 = 20 := S0_l 163 163 20 rfl rfl (by decide)
theorem O_164 : isO S0 164 100 = true := S0_o 164 100 164 rfl rfl
theorem L_164 : aLn S0 164 = 20 := S0_l 164 164 20 rfl rfl (by decide)
theorem O_165 : isO S0 165 100 = true := S0_o 165 100 165 rfl rfl
theorem L_165 : aLn S0 165 = 500 := S0_l 165 165 500 rfl rfl (by decide)
theorem O_166 : isO S0 166 100 = true := S0_o 166 100 166 rfl rfl
theorem L_166 : aLn S0 166 = 6 := S0_l 166 166 6 rfl rfl (by decide)
theorem O_167 : isO S0 167 101 = true := S0_o 167 101 167 rfl rfl
theorem L_167 : aLn S0 167 = 1850 := S0_l 167 167 1850 rfl rfl (by decide)
theorem O_168 : isO S0 168 100 = true := S0_o 168 100 168 rfl rfl
theorem L_168 : aLn S0 168 = 10 := S0_l 168 168 10 rfl rfl (by decide)
theorem O_169 : isO S0 169 100 = true := S0_o 169 100 169 rfl rfl
theorem L_169 : aLn S0 169 = 12 := S0_l 169 169 12 rfl rfl (by decide)
theorem O_170 : isO S0 170 102 = true := S0_o 170 102 170 rfl rfl
theorem L_170 : aLn S0 170 = 12 := S0_l 170 170 12 rfl rfl (by decide)
theorem O_171 : isO S0 171 102 = true := S0_o 171 102 171 rfl rfl
theorem L_171 : aLn S0 171 = 12 := S0_l 171 171 12 rfl rfl (by decide)
theorem O_172 : isO S0 172 100 = true := S0_o 172 100 172 rfl rfl
theorem L_172 : aLn S0 172 = 12 := S0_l 172 172 12 rfl rfl (by decide)
theorem O_173 : isO S0 173 100 = true := S0_o 173 100 173 rfl rfl
theorem L_173 : aLn S0 173 = 2 := S0_l 173 173 2 rfl rfl (by decide)
theorem O_174 : isO S0 174 100 = true := S0_o 174 100 174 rfl rfl
theorem L_174 : aLn S0 174 = 2 := S0_l 174 174 2 rfl rfl (by decide)
theorem O_175 : isO S0 175 100 = true := S0_o 175 100 175 rfl rfl
theorem L_175 : aLn S0 175 = 200 := S0_l 175 175 200 rfl rfl (by decide)
theorem O_176 : isO S0 176 100 = true := S0_o 176 100 176 rfl rfl
theorem L_176 : aLn S0 176 = 4000 := S0_l 176 176 4000 rfl rfl (by decide)
theorem O_177 : isO S0 177 100 = true := S0_o 177 100 177 rfl rfl
theorem L_177 : aLn S0 177 = 4000 := S0_l 177 177 4000 rfl rfl (by decide)
theorem O_178 : isO S0 178 102 = true := S0_o 178 102 178 rfl rfl
theorem L_178 : aLn S0 178 = 200 := S0_l 178 178 200 rfl rfl (by decide)
theorem O_179 : isO S0 179 100 = true := S0_o 179 100 179 rfl rfl
theorem L_179 : aLn S0 179 = 200 := S0_l 179 179 200 rfl rfl (by decide)
theorem O_180 : isO S0 180 100 = true := S0_o 180 100 180 rfl rfl
theorem L_180 : aLn S0 180 = 200 := S0_l 180 180 200 rfl rfl (by decide)
theorem O_181 : isO S0 181 100 = true := S0_o 181 100 181 rfl rfl
theorem L_181 : aLn S0 181 = 200 := S0_l 181 181 200 rfl rfl (by decide)
theorem O_182 : isO S0 182 100 = true := S0_o 182 100 182 rfl rfl
theorem L_182 : aLn S0 182 = 200 := S0_l 182 182 200 rfl rfl (by decide)
theorem O_183 : isO S0 183 101 = true := S0_o 183 101 183 rfl rfl
theorem L_183 : aLn S0 183 = 200 := S0_l 183 183 200 rfl rfl (by decide)
theorem O_184 : isO S0 184 101 = true := S0_o 184 101 184 rfl rfl
theorem L_184 : aLn S0 184 = 200 := S0_l 184 184 200 rfl rfl (by decide)
theorem O_185 : isO S0 185 100 = true := S0_o 185 100 185 rfl rfl
theorem L_185 : aLn S0 185 = 480 := S0_l 185 185 480 rfl rfl (by decide)
theorem O_186 : isO S0 186 102 = true := S0_o 186 102 186 rfl rfl
theorem L_186 : aLn S0 186 = 480 := S0_l 186 186 480 rfl rfl (by decide)
theorem O_187 : isO S0 187 102 = true := S0_o 187 102 187 rfl rfl
theorem L_187 : aLn S0 187 = 480 := S0_l 187 187 480 rfl rfl (by decide)
theorem O_188 : isO S0 188 100 = true := S0_o 188 100 188 rfl rfl
theorem L_188 : aLn S0 188 = 480 := S0_l 188 188 480 rfl rfl (by decide)
theorem O_189 : isO S0 189 100 = true := S0_o 189 100 189 rfl rfl
theorem L_189 : aLn S0 189 = 372 := S0_l 189 189 372 rfl rfl (by decide)
theorem O_190 : isO S0 190 100 = true := S0_o 190 100 190 rfl rfl
theorem L_190 : aLn S0 190 = 372 := S0_l 190 190 372 rfl rfl (by decide)
theorem O_191 : isO S0 191 100 = true := S0_o 191 100 191 rfl rfl
theorem L_191 : aLn S0 191 = 12 := S0_l 191 191 12 rfl rfl (by decide)
theorem O_192 : isO S0 192 100 = true := S0_o 192 100 192 rfl rfl
theorem L_192 : aLn S0 192 = 12 := S0_l 192 192 12 rfl rfl (by decide)
theorem O_193 : isO S0 193 100 = true := S0_o 193 100 193 rfl rfl
theorem L_193 : aLn S0 193 = 200 := S0_l 193 193 200 rfl rfl (by decide)
theorem O_194 : isO S0 194 100 = true := S0_o 194 100 194 rfl rfl
theorem L_194 : aLn S0 194 = 4000 := S0_l 194 194 4000 rfl rfl (by decide)
theorem O_195 : isO S0 195 100 = true := S0_o 195 100 195 rfl rfl
theorem L_195 : aLn S0 195 = 4000 := S0_l 195 195 4000 rfl rfl (by decide)
theorem O_196 : isO S0 196 100 = true := S0_o 196 100 196 rfl rfl
theorem L_196 : aLn S0 196 = 200 := S0_l 196 196 200 rfl rfl (by decide)
theorem O_197 : isO S0 197 100 = true := S0_o 197 100 197 rfl rfl
theorem L_197 : aLn S0 197 = 48 := S0_l 197 197 48 rfl rfl (by decide)
theorem F_0_0 : aF S0 0 0 = 1 := S0_f 0 rfl
theorem F_0_3 : aF S0 0 3 = 35 := S0_f 1 rfl
theorem F_0_4 : aF S0 0 4 = 41 := S0_f 2 rfl
theorem F_0_5 : aF S0 0 5 = 43 := S0_f 3 rfl
theorem F_0_6 : aF S0 0 6 = 47 := S0_f 4 rfl
theorem F_0_7 : aF S0 0 7 = 50 := S0_f 5 rfl
theorem F_0_8 : aF S0 0 8 = 62 := S0_f 6 rfl
theorem F_0_9 : aF S0 0 9 = 73 := S0_f 7 rfl
theorem F_0_10 : aF S0 0 10 = 96 := S0_f 8 rfl
theorem F_0_11 : aF S0 0 11 = 102 := S0_f 9 rfl
theorem F_0_12 : aF S0 0 12 = 108 := S0_f 10 rfl
theorem F_0_13 : aF S0 0 13 = 109 := S0_f 11 rfl
theorem F_0_14 : aF S0 0 14 = 110 := S0_f 12 rfl
theorem F_0_15 : aF S0 0 15 = 111 := S0_f 13 rfl
theorem F_0_16 : aF S0 0 16 = 112 := S0_f 14 rfl
theorem F_0_18 : aF S0 0 18 = 113 := S0_f 15 rfl
theorem F_0_19 : aF S0 0 19 = 115 := S0_f 16 rfl
theorem F_1_1 : aF S0 1 1 = 2 := S0_f 17 rfl
theorem F_3_5 : aF S0 3 5 = 4 := S0_f 18 rfl
theorem F_3_6 : aF S0 3 6 = 8 := S0_f 19 rfl
theorem F_3_7 : aF S0 3 7 = 9 := S0_f 20 rfl
theorem F_3_8 : aF S0 3 8 = 10 := S0_f 21 rfl
theorem F_3_9 : aF S0 3 9 = 11 := S0_f 22 rfl
theorem F_3_10 : aF S0 3 10 = 12 := S0_f 23 rfl
theorem F_3_11 : aF S0 3 11 = 13 := S0_f 24 rfl
theorem F_3_12 : aF S0 3 12 = 14 := S0_f 25 rfl
theorem F_3_13 : aF S0 3 13 = 15 := S0_f 26 rfl
theorem F_3_14 : aF S0 3 14 = 16 := S0_f 27 rfl
theorem F_3_15 : aF S0 3 15 = 17 := S0_f 28 rfl
theorem F_3_16 : aF S0 3 16 = 18 := S0_f 29 rfl
theorem F_4_0 : aF S0 4 0 = 5 := S0_f 30 rfl
theorem F_4_1 : aF S0 4 1 = 6 := S0_f 31 rfl
theorem F_4_4 : aF S0 4 4 = 7 := S0_f 32 rfl
theorem F_19_5 : aF S0 19 5 = 20 := S0_f 33 rfl
theorem F_19_6 : aF S0 19 6 = 24 := S0_f 34 rfl
theorem F_19_7 : aF S0 19 7 = 25 := S0_f 35 rfl
theorem F_19_8 : aF S0 19 8 = 26 := S0_f 36 rfl
theorem F_19_9 : aF S0 19 9 = 27 := S0_f 37 rfl
theorem F_19_10 : aF S0 19 10 = 28 := S0_f 38 rfl
theorem F_19_11 : aF S0 19 11 = 29 := S0_f 39 rfl
theorem F_19_12 : aF S0 19 12 = 30 := S0_f 40 rfl
theorem F_19_13 : aF S0 19 13 = 31 := S0_f 41 rfl
theorem F_19_14 : aF S0 19 14 = 32 := S0_f 42 rfl
theorem F_19_15 : aF S0 19 15 = 33 := S0_f 43 rfl
theorem F_19_16 : aF S0 19 16 = 34 := S0_f 44 rfl
theorem F_20_0 : aF S0 20 0 = 21 := S0_f 45 rfl
theorem F_20_1 : aF S0 20 1 = 22 := S0_f 46 rfl
theorem F_20_4 : aF S0 20 4 = 23 := S0_f 47 rfl
theorem F_35_2 : aF S0 35 2 = 36 := S0_f 48 rfl
theorem F_36_0 : aF S0 36 0 = 37 := S0_f 49 rfl
theorem F_36_1 : aF S0 36 1 = 38 := S0_f 50 rfl
theorem F_36_2 : aF S0 36 2 = 39 := S0_f 51 rfl
theorem F_36_3 : aF S0 36 3 = 40 := S0_f 52 rfl
theorem F_41_1 : aF S0 41 1 = 42 := S0_f 53 rfl
theorem F_43_1 : aF S0 43 1 = 44 := S0_f 54 rfl
theorem F_43_4 : aF S0 43 4 = 46 := S0_f 55 rfl
theorem F_44_1 : aF S0 44 1 = 45 := S0_f 56 rfl
theorem F_47_1 : aF S0 47 1 = 48 := S0_f 57 rfl
theorem F_47_2 : aF S0 47 2 = 49 := S0_f 58 rfl
theorem F_50_3 : aF S0 50 3 = 51 := S0_f 59 rfl
theorem F_50_4 : aF S0 50 4 = 52 := S0_f 60 rfl
theorem F_50_5 : aF S0 50 5 = 53 := S0_f 61 rfl
theorem F_50_6 : aF S0 50 6 = 54 := S0_f 62 rfl
theorem F_50_7 : aF S0 50 7 = 55 := S0_f 63 rfl
theorem F_50_8 : aF S0 50 8 = 56 := S0_f 64 rfl
theorem F_50_9 : aF S0 50 9 = 57 := S0_f 65 rfl
theorem F_50_10 : aF S0 50 10 = 58 := S0_f 66 rfl
theorem F_50_11 : aF S0 50 11 = 59 := S0_f 67 rfl
theorem F_50_12 : aF S0 50 12 = 60 := S0_f 68 rfl
theorem F_50_13 : aF S0 50 13 = 61 := S0_f 69 rfl
theorem F_62_1 : aF S0 62 1 = 50 := S0_f 70 rfl
theorem F_62_2 : aF S0 62 2 = 63 := S0_f 71 rfl
theorem F_62_3 : aF S0 62 3 = 64 := S0_f 72 rfl
theorem F_62_4 : aF S0 62 4 = 65 := S0_f 73 rfl
theorem F_62_5 : aF S0 62 5 = 66 := S0_f 74 rfl
theorem F_62_6 : aF S0 62 6 = 67 := S0_f 75 rfl
theorem F_62_7 : aF S0 62 7 = 68 := S0_f 76 rfl
theorem F_62_9 : aF S0 62 9 = 69 := S0_f 77 rfl
theorem F_62_10 : aF S0 62 10 = 70 := S0_f 78 rfl
theorem F_73_1 : aF S0 73 1 = 74 := S0_f 79 rfl
theorem F_73_2 : aF S0 73 2 = 86 := S0_f 80 rfl
theorem F_73_3 : aF S0 73 3 = 87 := S0_f 81 rfl
theorem F_73_4 : aF S0 73 4 = 88 := S0_f 82 rfl
theorem F_73_5 : aF S0 73 5 = 89 := S0_f 83 rfl
theorem F_73_6 : aF S0 73 6 = 90 := S0_f 84 rfl
theorem F_73_7 : aF S0 73 7 = 91 := S0_f 85 rfl
theorem F_73_9 : aF S0 73 9 = 92 := S0_f 86 rfl
theorem F_73_10 : aF S0 73 10 = 93 := S0_f 87 rfl
theorem F_74_3 : aF S0 74 3 = 75 := S0_f 88 rfl
theorem F_74_4 : aF S0 74 4 = 76 := S0_f 89 rfl
theorem F_74_5 : aF S0 74 5 = 77 := S0_f 90 rfl
theorem F_74_6 : aF S0 74 6 = 78 := S0_f 91 rfl
theorem F_74_7 : aF S0 74 7 = 79 := S0_f 92 rfl
theorem F_74_8 : aF S0 74 8 = 80 := S0_f 93 rfl
theorem F_74_9 : aF S0 74 9 = 81 := S0_f 94 rfl
theorem F_74_10 : aF S0 74 10 = 82 := S0_f 95 rfl
theorem F_74_11 : aF S0 74 11 = 83 := S0_f 96 rfl
theorem F_74_12 : aF S0 74 12 = 84 := S0_f 97 rfl
theorem F_74_13 : aF S0 74 13 = 85 := S0_f 98 rfl
theorem F_96_0 : aF S0 96 0 = 73 := S0_f 99 rfl
theorem F_96_3 : aF S0 96 3 = 97 := S0_f 100 rfl
theorem F_96_4 : aF S0 96 4 = 99 := S0_f 101 rfl
theorem F_96_5 : aF S0 96 5 = 101 := S0_f 102 rfl
theorem F_97_1 : aF S0 97 1 = 98 := S0_f 103 rfl
theorem F_99_1 : aF S0 99 1 = 100 := S0_f 104 rfl
theorem F_102_0 : aF S0 102 0 = 73 := S0_f 105 rfl
theorem F_102_3 : aF S0 102 3 = 103 := S0_f 106 rfl
theorem F_102_4 : aF S0 102 4 = 105 := S0_f 107 rfl
theorem F_102_5 : aF S0 102 5 = 107 := S0_f 108 rfl
theorem F_103_1 : aF S0 103 1 = 104 := S0_f 109 rfl
theorem F_105_1 : aF S0 105 1 = 106 := S0_f 110 rfl
theorem F_113_1 : aF S0 113 1 = 114 := S0_f 111 rfl
theorem F_116_1 : aF S0 116 1 = 117 := S0_f 112 rfl
theorem F_118_1 : aF S0 118 1 = 119 := S0_f 113 rfl
theorem F_120_1 : aF S0 120 1 = 121 := S0_f 114 rfl
theorem F_122_1 : aF S0 122 1 = 123 := S0_f 115 rfl
theorem F_124_1 : aF S0 124 1 = 125 := S0_f 116 rfl
theorem F_126_1 : aF S0 126 1 = 127 := S0_f 117 rfl
theorem F_128_1 : aF S0 128 1 = 129 := S0_f 118 rfl
theorem F_130_1 : aF S0 130 1 = 131 := S0_f 119 rfl
theorem F_132_1 : aF S0 132 1 = 133 := S0_f 120 rfl
theorem F_134_1 : aF S0 134 1 = 135 := S0_f 121 rfl
theorem F_136_1 : aF S0 136 1 = 137 := S0_f 122 rfl
theorem F_138_1 : aF S0 138 1 = 139 := S0_f 123 rfl
theorem F_140_1 : aF S0 140 1 = 141 := S0_f 124 rfl
theorem F_142_0 : aF S0 142 0 = 143 := S0_f 125 rfl
theorem F_142_13 : aF S0 142 13 = 144 := S0_f 126 rfl
theorem F_142_14 : aF S0 142 14 = 145 := S0_f 127 rfl
theorem F_142_15 : aF S0 142 15 = 146 := S0_f 128 rfl
theorem F_142_16 : aF S0 142 16 = 147 := S0_f 129 rfl
theorem F_142_17 : aF S0 142 17 = 148 := S0_f 130 rfl
theorem F_142_18 : aF S0 142 18 = 149 := S0_f 131 rfl
theorem F_142_19 : aF S0 142 19 = 150 := S0_f 132 rfl
theorem F_142_20 : aF S0 142 20 = 151 := S0_f 133 rfl
theorem F_142_21 : aF S0 142 21 = 152 := S0_f 134 rfl
theorem F_142_22 : aF S0 142 22 = 153 := S0_f 135 rfl
theorem F_142_23 : aF S0 142 23 = 154 := S0_f 136 rfl
theorem F_142_24 : aF S0 142 24 = 155 := S0_f 137 rfl
theorem F_142_25 : aF S0 142 25 = 156 := S0_f 138 rfl
theorem F_142_26 : aF S0 142 26 = 157 := S0_f 139 rfl
theorem F_142_27 : aF S0 142 27 = 158 := S0_f 140 rfl
theorem F_142_28 : aF S0 142 28 = 159 := S0_f 141 rfl
theorem F_142_31 : aF S0 142 31 = 160 := S0_f 142 rfl
theorem F_142_32 : aF S0 142 32 = 161 := S0_f 143 rfl
theorem F_142_33 : aF S0 142 33 = 162 := S0_f 144 rfl
theorem F_142_34 : aF S0 142 34 = 163 := S0_f 145 rfl
theorem F_142_35 : aF S0 142 35 = 164 := S0_f 146 rfl
theorem F_142_38 : aF S0 142 38 = 165 := S0_f 147 rfl
theorem F_142_41 : aF S0 142 41 = 166 := S0_f 148 rfl
theorem F_142_42 : aF S0 142 42 = 167 := S0_f 149 rfl
theorem F_142_43 : aF S0 142 43 = 168 := S0_f 150 rfl
theorem F_142_44 : aF S0 142 44 = 169 := S0_f 151 rfl
theorem F_142_45 : aF S0 142 45 = 170 := S0_f 152 rfl
theorem F_142_46 : aF S0 142 46 = 171 := S0_f 153 rfl
theorem F_142_47 : aF S0 142 47 = 172 := S0_f 154 rfl
theorem F_142_49 : aF S0 142 49 = 173 := S0_f 155 rfl
theorem F_142_50 : aF S0 142 50 = 174 := S0_f 156 rfl
theorem F_142_51 : aF S0 142 51 = 175 := S0_f 157 rfl
theorem F_142_52 : aF S0 142 52 = 176 := S0_f 158 rfl
theorem F_142_53 : aF S0 142 53 = 177 := S0_f 159 rfl
theorem F_142_54 : aF S0 142 54 = 178 := S0_f 160 rfl
theorem F_142_55 : aF S0 142 55 = 179 := S0_f 161 rfl
theorem F_142_57 : aF S0 142 57 = 180 := S0_f 162 rfl
theorem F_142_58 : aF S0 142 58 = 181 := S0_f 163 rfl
theorem F_142_62 : aF S0 142 62 = 182 := S0_f 164 rfl
theorem F_142_63 : aF S0 142 63 = 183 := S0_f 165 rfl
theorem F_142_64 : aF S0 142 64 = 184 := S0_f 166 rfl
theorem F_142_66 : aF S0 142 66 = 185 := S0_f 167 rfl
theorem F_142_67 : aF S0 142 67 = 186 := S0_f 168 rfl
theorem F_142_68 : aF S0 142 68 = 187 := S0_f 169 rfl
theorem F_142_69 : aF S0 142 69 = 188 := S0_f 170 rfl
theorem F_142_70 : aF S0 142 70 = 189 := S0_f 171 rfl
theorem F_142_71 : aF S0 142 71 = 190 := S0_f 172 rfl
theorem F_142_73 : aF S0 142 73 = 191 := S0_f 173 rfl
theorem F_142_74 : aF S0 142 74 = 192 := S0_f 174 rfl
theorem F_142_75 : aF S0 142 75 = 193 := S0_f 175 rfl
theorem F_142_76 : aF S0 142 76 = 194 := S0_f 176 rfl
theorem F_142_77 : aF S0 142 77 = 195 := S0_f 177 rfl
theorem F_142_78 : aF S0 142 78 = 196 := S0_f 178 rfl
theorem F_142_79 : aF S0 142 79 = 197 := S0_f 179 rfl
