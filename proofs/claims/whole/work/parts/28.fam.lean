/-! the class's objects, by families -/
def isGm (t : Int) : Prop := t = 3 ∨ t = 19
theorem OG {t : Int} (h : isGm t) : isO S0 (t) 1 = true := by
  rcases h with e | e <;> subst e
  · exact O_3
  · exact O_19
theorem FG_5 {t : Int} (h : isGm t) : aF S0 (t) 5 = t + 1 := by
  rcases h with e | e <;> subst e
  · exact F_3_5
  · exact F_19_5
theorem FG_6 {t : Int} (h : isGm t) : aF S0 (t) 6 = t + 5 := by
  rcases h with e | e <;> subst e
  · exact F_3_6
  · exact F_19_6
theorem FG_7 {t : Int} (h : isGm t) : aF S0 (t) 7 = t + 6 := by
  rcases h with e | e <;> subst e
  · exact F_3_7
  · exact F_19_7
theorem FG_8 {t : Int} (h : isGm t) : aF S0 (t) 8 = t + 7 := by
  rcases h with e | e <;> subst e
  · exact F_3_8
  · exact F_19_8
theorem FG_9 {t : Int} (h : isGm t) : aF S0 (t) 9 = t + 8 := by
  rcases h with e | e <;> subst e
  · exact F_3_9
  · exact F_19_9
theorem FG_10 {t : Int} (h : isGm t) : aF S0 (t) 10 = t + 9 := by
  rcases h with e | e <;> subst e
  · exact F_3_10
  · exact F_19_10
theorem FG_11 {t : Int} (h : isGm t) : aF S0 (t) 11 = t + 10 := by
  rcases h with e | e <;> subst e
  · exact F_3_11
  · exact F_19_11
theorem FG_12 {t : Int} (h : isGm t) : aF S0 (t) 12 = t + 11 := by
  rcases h with e | e <;> subst e
  · exact F_3_12
  · exact F_19_12
theorem FG_13 {t : Int} (h : isGm t) : aF S0 (t) 13 = t + 12 := by
  rcases h with e | e <;> subst e
  · exact F_3_13
  · exact F_19_13
theorem FG_14 {t : Int} (h : isGm t) : aF S0 (t) 14 = t + 13 := by
  rcases h with e | e <;> subst e
  · exact F_3_14
  · exact F_19_14
theorem FG_15 {t : Int} (h : isGm t) : aF S0 (t) 15 = t + 14 := by
  rcases h with e | e <;> subst e
  · exact F_3_15
  · exact F_19_15
theorem FG_16 {t : Int} (h : isGm t) : aF S0 (t) 16 = t + 15 := by
  rcases h with e | e <;> subst e
  · exact F_3_16
  · exact F_19_16
theorem OG1 {t : Int} (h : isGm t) : isO S0 (t + 1) 8 = true := by
  rcases h with e | e <;> subst e
  · exact O_4
  · exact O_20
theorem FG1_0 {t : Int} (h : isGm t) : aF S0 (t + 1) 0 = t + 2 := by
  rcases h with e | e <;> subst e
  · exact F_4_0
  · exact F_20_0
theorem FG1_1 {t : Int} (h : isGm t) : aF S0 (t + 1) 1 = t + 3 := by
  rcases h with e | e <;> subst e
  · exact F_4_1
  · exact F_20_1
theorem FG1_4 {t : Int} (h : isGm t) : aF S0 (t + 1) 4 = t + 4 := by
  rcases h with e | e <;> subst e
  · exact F_4_4
  · exact F_20_4
theorem AG2 {t : Int} (h : isGm t) (i : Int) : isA S0 (t + 2) 0 i = inS 1800 i := by
  rcases h with e | e <;> subst e
  · exact A_5 i
  · exact A_21 i
theorem WG2 {t : Int} (h : isGm t) : isO S0 (t + 2) 100 = true := by
  rcases h with e | e <;> subst e
  · exact O_5
  · exact O_21
theorem NG2 {t : Int} (h : isGm t) : aLn S0 (t + 2) = 1800 := by
  rcases h with e | e <;> subst e
  · exact L_5
  · exact L_21
theorem AG3 {t : Int} (h : isGm t) (i : Int) : isA S0 (t + 3) 0 i = inS 13 i := by
  rcases h with e | e <;> subst e
  · exact A_6 i
  · exact A_22 i
theorem WG3 {t : Int} (h : isGm t) : isO S0 (t + 3) 100 = true := by
  rcases h with e | e <;> subst e
  · exact O_6
  · exact O_22
theorem NG3 {t : Int} (h : isGm t) : aLn S0 (t + 3) = 13 := by
  rcases h with e | e <;> subst e
  · exact L_6
  · exact L_22
theorem AG4 {t : Int} (h : isGm t) (i : Int) : isA S0 (t + 4) 0 i = inS 64 i := by
  rcases h with e | e <;> subst e
  · exact A_7 i
  · exact A_23 i
theorem WG4 {t : Int} (h : isGm t) : isO S0 (t + 4) 100 = true := by
  rcases h with e | e <;> subst e
  · exact O_7
  · exact O_23
theorem NG4 {t : Int} (h : isGm t) : aLn S0 (t + 4) = 64 := by
  rcases h with e | e <;> subst e
  · exact L_7
  · exact L_23
theorem AG5 {t : Int} (h : isGm t) (i : Int) : isA S0 (t + 5) 0 i = inS 2 i := by
  rcases h with e | e <;> subst e
  · exact A_8 i
  · exact A_24 i
theorem WG5 {t : Int} (h : isGm t) : isO S0 (t + 5) 100 = true := by
  rcases h with e | e <;> subst e
  · exact O_8
  · exact O_24
theorem NG5 {t : Int} (h : isGm t) : aLn S0 (t + 5) = 2 := by
  rcases h with e | e <;> subst e
  · exact L_8
  · exact L_24
theorem AG6 {t : Int} (h : isGm t) (i : Int) : isA S0 (t + 6) 0 i = inS 2 i := by
  rcases h with e | e <;> subst e
  · exact A_9 i
  · exact A_25 i
theorem WG6 {t : Int} (h : isGm t) : isO S0 (t + 6) 100 = true := by
  rcases h with e | e <;> subst e
  · exact O_9
  · exact O_25
theorem NG6 {t : Int} (h : isGm t) : aLn S0 (t + 6) = 2 := by
  rcases h with e | e <;> subst e
  · exact L_9
  · exact L_25
theorem AG7 {t : Int} (h : isGm t) (i : Int) : isA S0 (t + 7) 0 i = inS 2 i := by
  rcases h with e | e <;> subst e
  · exact A_10 i
  · exact A_26 i
theorem WG7 {t : Int} (h : isGm t) : isO S0 (t + 7) 100 = true := by
  rcases h with e | e <;> subst e
  · exact O_10
  · exact O_26
theorem NG7 {t : Int} (h : isGm t) : aLn S0 (t + 7) = 2 := by
  rcases h with e | e <;> subst e
  · exact L_10
  · exact L_26
theorem AG8 {t : Int} (h : isGm t) (i : Int) : isA S0 (t + 8) 0 i = inS 12 i := by
  rcases h with e | e <;> subst e
  · exact A_11 i
  · exact A_27 i
theorem WG8 {t : Int} (h : isGm t) : isO S0 (t + 8) 100 = true := by
  rcases h with e | e <;> subst e
  · exact O_11
  · exact O_27
theorem NG8 {t : Int} (h : isGm t) : aLn S0 (t + 8) = 12 := by
  rcases h with e | e <;> subst e
  · exact L_11
  · exact L_27
theorem AG9 {t : Int} (h : isGm t) (i : Int) : isA S0 (t + 9) 0 i = inS 12 i := by
  rcases h with e | e <;> subst e
  · exact A_12 i
  · exact A_28 i
theorem WG9 {t : Int} (h : isGm t) : isO S0 (t + 9) 100 = true := by
  rcases h with e | e <;> subst e
  · exact O_12
  · exact O_28
theorem NG9 {t : Int} (h : isGm t) : aLn S0 (t + 9) = 12 := by
  rcases h with e | e <;> subst e
  · exact L_12
  · exact L_28
theorem AG10 {t : Int} (h : isGm t) (i : Int) : isA S0 (t + 10) 0 i = inS 12 i := by
  rcases h with e | e <;> subst e
  · exact A_13 i
  · exact A_29 i
theorem WG10 {t : Int} (h : isGm t) : isO S0 (t + 10) 100 = true := by
  rcases h with e | e <;> subst e
  · exact O_13
  · exact O_29
theorem NG10 {t : Int} (h : isGm t) : aLn S0 (t + 10) = 12 := by
  rcases h with e | e <;> subst e
  · exact L_13
  · exact L_29
theorem AG11 {t : Int} (h : isGm t) (i : Int) : isA S0 (t + 11) 0 i = inS 12 i := by
  rcases h with e | e <;> subst e
  · exact A_14 i
  · exact A_30 i
theorem WG11 {t : Int} (h : isGm t) : isO S0 (t + 11) 100 = true := by
  rcases h with e | e <;> subst e
  · exact O_14
  · exact O_30
theorem NG11 {t : Int} (h : isGm t) : aLn S0 (t + 11) = 12 := by
  rcases h with e | e <;> subst e
  · exact L_14
  · exact L_30
theorem AG12 {t : Int} (h : isGm t) (i : Int) : isA S0 (t + 12) 2 i = inS 12 i := by
  rcases h with e | e <;> subst e
  · exact A_15 i
  · exact A_31 i
theorem AG13 {t : Int} (h : isGm t) (i : Int) : isA S0 (t + 13) 0 i = inS 2 i := by
  rcases h with e | e <;> subst e
  · exact A_16 i
  · exact A_32 i
theorem WG13 {t : Int} (h : isGm t) : isO S0 (t + 13) 100 = true := by
  rcases h with e | e <;> subst e
  · exact O_16
  · exact O_32
theorem NG13 {t : Int} (h : isGm t) : aLn S0 (t + 13) = 2 := by
  rcases h with e | e <;> subst e
  · exact L_16
  · exact L_32
theorem AG14 {t : Int} (h : isGm t) (i : Int) : isA S0 (t + 14) 0 i = inS 400 i := by
  rcases h with e | e <;> subst e
  · exact A_17 i
  · exact A_33 i
theorem WG14 {t : Int} (h : isGm t) : isO S0 (t + 14) 100 = true := by
  rcases h with e | e <;> subst e
  · exact O_17
  · exact O_33
theorem NG14 {t : Int} (h : isGm t) : aLn S0 (t + 14) = 400 := by
  rcases h with e | e <;> subst e
  · exact L_17
  · exact L_33
theorem AG15 {t : Int} (h : isGm t) (i : Int) : isA S0 (t + 15) 0 i = inS 4000 i := by
  rcases h with e | e <;> subst e
  · exact A_18 i
  · exact A_34 i
theorem WG15 {t : Int} (h : isGm t) : isO S0 (t + 15) 100 = true := by
  rcases h with e | e <;> subst e
  · exact O_18
  · exact O_34
theorem NG15 {t : Int} (h : isGm t) : aLn S0 (t + 15) = 4000 := by
  rcases h with e | e <;> subst e
  · exact L_18
  · exact L_34
def isSl (a : Int) : Prop := a = 41 ∨ a = 44 ∨ a = 97 ∨ a = 99 ∨ a = 103 ∨ a = 105 ∨ a = 116 ∨ a = 118 ∨ a = 120 ∨ a = 122 ∨ a = 124 ∨ a = 126 ∨ a = 128 ∨ a = 130 ∨ a = 132 ∨ a = 134 ∨ a = 136 ∨ a = 138 ∨ a = 140
theorem OS {a : Int} (h : isSl a) : isO S0 (a) 6 = true := by
  rcases h with e | e | e | e | e | e | e | e | e | e | e | e | e | e | e | e | e | e | e <;> subst e
  · exact O_41
  · exact O_44
  · exact O_97
  · exact O_99
  · exact O_103
  · exact O_105
  · exact O_116
  · exact O_118
  · exact O_120
  · exact O_122
  · exact O_124
  · exact O_126
  · exact O_128
  · exact O_130
  · exact O_132
  · exact O_134
  · exact O_136
  · exact O_138
  · exact O_140
theorem FS_1 {a : Int} (h : isSl a) : aF S0 (a) 1 = a + 1 := by
  rcases h with e | e | e | e | e | e | e | e | e | e | e | e | e | e | e | e | e | e | e <;> subst e
  · exact F_41_1
  · exact F_44_1
  · exact F_97_1
  · exact F_99_1
  · exact F_103_1
  · exact F_105_1
  · exact F_116_1
  · exact F_118_1
  · exact F_120_1
  · exact F_122_1
  · exact F_124_1
  · exact F_126_1
  · exact F_128_1
  · exact F_130_1
  · exact F_132_1
  · exact F_134_1
  · exact F_136_1
  · exact F_138_1
  · exact F_140_1
theorem AS1 {a : Int} (h : isSl a) (i : Int) : isA S0 (a + 1) 0 i = inS 12 i := by
  rcases h with e | e | e | e | e | e | e | e | e | e | e | e | e | e | e | e | e | e | e <;> subst e
  · exact A_42 i
  · exact A_45 i
  · exact A_98 i
  · exact A_100 i
  · exact A_104 i
  · exact A_106 i
  · exact A_117 i
  · exact A_119 i
  · exact A_121 i
  · exact A_123 i
  · exact A_125 i
  · exact A_127 i
  · exact A_129 i
  · exact A_131 i
  · exact A_133 i
  · exact A_135 i
  · exact A_137 i
  · exact A_139 i
  · exact A_141 i
theorem WS1 {a : Int} (h : isSl a) : isO S0 (a + 1) 100 = true := by
  rcases h with e | e | e | e | e | e | e | e | e | e | e | e | e | e | e | e | e | e | e <;> subst e
  · exact O_42
  · exact O_45
  · exact O_98
  · exact O_100
  · exact O_104
  · exact O_106
  · exact O_117
  · exact O_119
  · exact O_121
  · exact O_123
  · exact O_125
  · exact O_127
  · exact O_129
  · exact O_131
  · exact O_133
  · exact O_135
  · exact O_137
  · exact O_139
  · exact O_141
theorem NS1 {a : Int} (h : isSl a) : aLn S0 (a + 1) = 12 := by
  rcases h with e | e | e | e | e | e | e | e | e | e | e | e | e | e | e | e | e | e | e <;> subst e
  · exact L_42
  · exact L_45
  · exact L_98
  · exact L_100
  · exact L_104
  · exact L_106
  · exact L_117
  · exact L_119
  · exact L_121
  · exact L_123
  · exact L_125
  · exact L_127
  · exact L_129
  · exact L_131
  · exact L_133
  · exact L_135
  · exact L_137
  · exact L_139
  · exact L_141
def isMv (m : Int) : Prop := m = 50 ∨ m = 74
theorem OM {m : Int} (h : isMv m) : isO S0 (m) 4 = true := by
  rcases h with e | e <;> subst e
  · exact O_50
  · exact O_74
theorem FM_3 {m : Int} (h : isMv m) : aF S0 (m) 3 = m + 1 := by
  rcases h with e | e <;> subst e
  · exact F_50_3
  · exact F_74_3
theorem FM_4 {m : Int} (h : isMv m) : aF S0 (m) 4 = m + 2 := by
  rcases h with e | e <;> subst e
  · exact F_50_4
  · exact F_74_4
theorem FM_5 {m : Int} (h : isMv m) : aF S0 (m) 5 = m + 3 := by
  rcases h with e | e <;> subst e
  · exact F_50_5
  · exact F_74_5
theorem FM_6 {m : Int} (h : isMv m) : aF S0 (m) 6 = m + 4 := by
  rcases h with e | e <;> subst e
  · exact F_50_6
  · exact F_74_6
theorem FM_7 {m : Int} (h : isMv m) : aF S0 (m) 7 = m + 5 := by
  rcases h with e | e <;> subst e
  · exact F_50_7
  · exact F_74_7
theorem FM_8 {m : Int} (h : isMv m) : aF S0 (m) 8 = m + 6 := by
  rcases h with e | e <;> subst e
  · exact F_50_8
  · exact F_74_8
theorem FM_9 {m : Int} (h : isMv m) : aF S0 (m) 9 = m + 7 := by
  rcases h with e | e <;> subst e
  · exact F_50_9
  · exact F_74_9
theorem FM_10 {m : Int} (h : isMv m) : aF S0 (m) 10 = m + 8 := by
  rcases h with e | e <;> subst e
  · exact F_50_10
  · exact F_74_10
theorem FM_11 {m : Int} (h : isMv m) : aF S0 (m) 11 = m + 9 := by
  rcases h with e | e <;> subst e
  · exact F_50_11
  · exact F_74_11
theorem FM_12 {m : Int} (h : isMv m) : aF S0 (m) 12 = m + 10 := by
  rcases h with e | e <;> subst e
  · exact F_50_12
  · exact F_74_12
theorem FM_13 {m : Int} (h : isMv m) : aF S0 (m) 13 = m + 11 := by
  rcases h with e | e <;> subst e
  · exact F_50_13
  · exact F_74_13
theorem AM1 {m : Int} (h : isMv m) (i : Int) : isA S0 (m + 1) 0 i = inS 200 i := by
  rcases h with e | e <;> subst e
  · exact A_51 i
  · exact A_75 i
theorem WM1 {m : Int} (h : isMv m) : isO S0 (m + 1) 100 = true := by
  rcases h with e | e <;> subst e
  · exact O_51
  · exact O_75
theorem NM1 {m : Int} (h : isMv m) : aLn S0 (m + 1) = 200 := by
  rcases h with e | e <;> subst e
  · exact L_51
  · exact L_75
theorem AM2 {m : Int} (h : isMv m) (i : Int) : isA S0 (m + 2) 0 i = inS 200 i := by
  rcases h with e | e <;> subst e
  · exact A_52 i
  · exact A_76 i
theorem WM2 {m : Int} (h : isMv m) : isO S0 (m + 2) 100 = true := by
  rcases h with e | e <;> subst e
  · exact O_52
  · exact O_76
theorem NM2 {m : Int} (h : isMv m) : aLn S0 (m + 2) = 200 := by
  rcases h with e | e <;> subst e
  · exact L_52
  · exact L_76
theorem AM3 {m : Int} (h : isMv m) (i : Int) : isA S0 (m + 3) 0 i = inS 200 i := by
  rcases h with e | e <;> subst e
  · exact A_53 i
  · exact A_77 i
theorem WM3 {m : Int} (h : isMv m) : isO S0 (m + 3) 100 = true := by
  rcases h with e | e <;> subst e
  · exact O_53
  · exact O_77
theorem NM3 {m : Int} (h : isMv m) : aLn S0 (m + 3) = 200 := by
  rcases h with e | e <;> subst e
  · exact L_53
  · exact L_77
theorem AM4 {m : Int} (h : isMv m) (i : Int) : isA S0 (m + 4) 0 i = inS 2400 i := by
  rcases h with e | e <;> subst e
  · exact A_54 i
  · exact A_78 i
theorem WM4 {m : Int} (h : isMv m) : isO S0 (m + 4) 100 = true := by
  rcases h with e | e <;> subst e
  · exact O_54
  · exact O_78
theorem NM4 {m : Int} (h : isMv m) : aLn S0 (m + 4) = 2400 := by
  rcases h with e | e <;> subst e
  · exact L_54
  · exact L_78
theorem AM5 {m : Int} (h : isMv m) (i : Int) : isA S0 (m + 5) 0 i = inS 2400 i := by
  rcases h with e | e <;> subst e
  · exact A_55 i
  · exact A_79 i
theorem WM5 {m : Int} (h : isMv m) : isO S0 (m + 5) 100 = true := by
  rcases h with e | e <;> subst e
  · exact O_55
  · exact O_79
theorem NM5 {m : Int} (h : isMv m) : aLn S0 (m + 5) = 2400 := by
  rcases h with e | e <;> subst e
  · exact L_55
  · exact L_79
theorem AM6 {m : Int} (h : isMv m) (i : Int) : isA S0 (m + 6) 0 i = inS 24 i := by
  rcases h with e | e <;> subst e
  · exact A_56 i
  · exact A_80 i
theorem WM6 {m : Int} (h : isMv m) : isO S0 (m + 6) 100 = true := by
  rcases h with e | e <;> subst e
  · exact O_56
  · exact O_80
theorem NM6 {m : Int} (h : isMv m) : aLn S0 (m + 6) = 24 := by
  rcases h with e | e <;> subst e
  · exact L_56
  · exact L_80
theorem AM7 {m : Int} (h : isMv m) (i : Int) : isA S0 (m + 7) 0 i = inS 24 i := by
  rcases h with e | e <;> subst e
  · exact A_57 i
  · exact A_81 i
theorem WM7 {m : Int} (h : isMv m) : isO S0 (m + 7) 100 = true := by
  rcases h with e | e <;> subst e
  · exact O_57
  · exact O_81
theorem NM7 {m : Int} (h : isMv m) : aLn S0 (m + 7) = 24 := by
  rcases h with e | e <;> subst e
  · exact L_57
  · exact L_81
theorem AM8 {m : Int} (h : isMv m) (i : Int) : isA S0 (m + 8) 2 i = inS 24 i := by
  rcases h with e | e <;> subst e
  · exact A_58 i
  · exact A_82 i
theorem AM9 {m : Int} (h : isMv m) (i : Int) : isA S0 (m + 9) 0 i = inS 2 i := by
  rcases h with e | e <;> subst e
  · exact A_59 i
  · exact A_83 i
theorem WM9 {m : Int} (h : isMv m) : isO S0 (m + 9) 100 = true := by
  rcases h with e | e <;> subst e
  · exact O_59
  · exact O_83
theorem NM9 {m : Int} (h : isMv m) : aLn S0 (m + 9) = 2 := by
  rcases h with e | e <;> subst e
  · exact L_59
  · exact L_83
theorem AM10 {m : Int} (h : isMv m) (i : Int) : isA S0 (m + 10) 0 i = inS 12 i := by
  rcases h with e | e <;> subst e
  · exact A_60 i
  · exact A_84 i
theorem WM10 {m : Int} (h : isMv m) : isO S0 (m + 10) 100 = true := by
  rcases h with e | e <;> subst e
  · exact O_60
  · exact O_84
theorem NM10 {m : Int} (h : isMv m) : aLn S0 (m + 10) = 12 := by
  rcases h with e | e <;> subst e
  · exact L_60
  · exact L_84
theorem AM11 {m : Int} (h : isMv m) (i : Int) : isA S0 (m + 11) 0 i = inS 12 i := by
  rcases h with e | e <;> subst e
  · exact A_61 i
  · exact A_85 i
theorem WM11 {m : Int} (h : isMv m) : isO S0 (m + 11) 100 = true := by
  rcases h with e | e <;> subst e
  · exact O_61
  · exact O_85
theorem NM11 {m : Int} (h : isMv m) : aLn S0 (m + 11) = 12 := by
  rcases h with e | e <;> subst e
  · exact L_61
  · exact L_85
def isVl (v m z : Int) : Prop := (v = 62 ∧ m = 50 ∧ z = 63) ∨ (v = 73 ∧ m = 74 ∧ z = 86)
theorem isVl_m {v m z : Int} (h : isVl v m z) : isMv m := by
  rcases h with ⟨e, f, g⟩ | ⟨e, f, g⟩
  · exact Or.inl f
  · exact Or.inr f
theorem OV {v m z : Int} (h : isVl v m z) : isO S0 v 10 = true := by
  rcases h with ⟨e, f, g⟩ | ⟨e, f, g⟩ <;> subst e <;> subst f <;> subst g
  · exact O_62
  · exact O_73
theorem FV_1 {v m z : Int} (h : isVl v m z) : aF S0 v 1 = m := by
  rcases h with ⟨e, f, g⟩ | ⟨e, f, g⟩ <;> subst e <;> subst f <;> subst g
  · exact F_62_1
  · exact F_73_1
theorem FV_2 {v m z : Int} (h : isVl v m z) : aF S0 v 2 = z := by
  rcases h with ⟨e, f, g⟩ | ⟨e, f, g⟩ <;> subst e <;> subst f <;> subst g
  · exact F_62_2
  · exact F_73_2
theorem FV_3 {v m z : Int} (h : isVl v m z) : aF S0 v 3 = z + 1 := by
  rcases h with ⟨e, f, g⟩ | ⟨e, f, g⟩ <;> subst e <;> subst f <;> subst g
  · exact F_62_3
  · exact F_73_3
theorem FV_4 {v m z : Int} (h : isVl v m z) : aF S0 v 4 = z + 2 := by
  rcases h with ⟨e, f, g⟩ | ⟨e, f, g⟩ <;> subst e <;> subst f <;> subst g
  · exact F_62_4
  · exact F_73_4
theorem FV_5 {v m z : Int} (h : isVl v m z) : aF S0 v 5 = z + 3 := by
  rcases h with ⟨e, f, g⟩ | ⟨e, f, g⟩ <;> subst e <;> subst f <;> subst g
  · exact F_62_5
  · exact F_73_5
theorem FV_6 {v m z : Int} (h : isVl v m z) : aF S0 v 6 = z + 4 := by
  rcases h with ⟨e, f, g⟩ | ⟨e, f, g⟩ <;> subst e <;> subst f <;> subst g
  · exact F_62_6
  · exact F_73_6
theorem FV_7 {v m z : Int} (h : isVl v m z) : aF S0 v 7 = z + 5 := by
  rcases h with ⟨e, f, g⟩ | ⟨e, f, g⟩ <;> subst e <;> subst f <;> subst g
  · exact F_62_7
  · exact F_73_7
theorem FV_9 {v m z : Int} (h : isVl v m z) : aF S0 v 9 = z + 6 := by
  rcases h with ⟨e, f, g⟩ | ⟨e, f, g⟩ <;> subst e <;> subst f <;> subst g
  · exact F_62_9
  · exact F_73_9
theorem FV_10 {v m z : Int} (h : isVl v m z) : aF S0 v 10 = z + 7 := by
  rcases h with ⟨e, f, g⟩ | ⟨e, f, g⟩ <;> subst e <;> subst f <;> subst g
  · exact F_62_10
  · exact F_73_10
theorem AV0 {v m z : Int} (h : isVl v m z) (i : Int) : isA S0 (z) 0 i = inS 200 i := by
  rcases h with ⟨e, f, g⟩ | ⟨e, f, g⟩ <;> subst e <;> subst f <;> subst g
  · exact A_63 i
  · exact A_86 i
theorem WV0 {v m z : Int} (h : isVl v m z) : isO S0 (z) 100 = true := by
  rcases h with ⟨e, f, g⟩ | ⟨e, f, g⟩ <;> subst e <;> subst f <;> subst g
  · exact O_63
  · exact O_86
theorem NV0 {v m z : Int} (h : isVl v m z) : aLn S0 (z) = 200 := by
  rcases h with ⟨e, f, g⟩ | ⟨e, f, g⟩ <;> subst e <;> subst f <;> subst g
  · exact L_63
  · exact L_86
theorem AV1 {v m z : Int} (h : isVl v m z) (i : Int) : isA S0 (z + 1) 0 i = inS 200 i := by
  rcases h with ⟨e, f, g⟩ | ⟨e, f, g⟩ <;> subst e <;> subst f <;> subst g
  · exact A_64 i
  · exact A_87 i
theorem WV1 {v m z : Int} (h : isVl v m z) : isO S0 (z + 1) 100 = true := by
  rcases h with ⟨e, f, g⟩ | ⟨e, f, g⟩ <;> subst e <;> subst f <;> subst g
  · exact O_64
  · exact O_87
theorem NV1 {v m z : Int} (h : isVl v m z) : aLn S0 (z + 1) = 200 := by
  rcases h with ⟨e, f, g⟩ | ⟨e, f, g⟩ <;> subst e <;> subst f <;> subst g
  · exact L_64
  · exact L_87
theorem AV2 {v m z : Int} (h : isVl v m z) (i : Int) : isA S0 (z + 2) 0 i = inS 200 i := by
  rcases h with ⟨e, f, g⟩ | ⟨e, f, g⟩ <;> subst e <;> subst f <;> subst g
  · exact A_65 i
  · exact A_88 i
theorem WV2 {v m z : Int} (h : isVl v m z) : isO S0 (z + 2) 100 = true := by
  rcases h with ⟨e, f, g⟩ | ⟨e, f, g⟩ <;> subst e <;> subst f <;> subst g
  · exact O_65
  · exact O_88
theorem NV2 {v m z : Int} (h : isVl v m z) : aLn S0 (z + 2) = 200 := by
  rcases h with ⟨e, f, g⟩ | ⟨e, f, g⟩ <;> subst e <;> subst f <;> subst g
  · exact L_65
  · exact L_88
theorem AV3 {v m z : Int} (h : isVl v m z) (i : Int) : isA S0 (z + 3) 0 i = inS 201 i := by
  rcases h with ⟨e, f, g⟩ | ⟨e, f, g⟩ <;> subst e <;> subst f <;> subst g
  · exact A_66 i
  · exact A_89 i
theorem WV3 {v m z : Int} (h : isVl v m z) : isO S0 (z + 3) 100 = true := by
  rcases h with ⟨e, f, g⟩ | ⟨e, f, g⟩ <;> subst e <;> subst f <;> subst g
  · exact O_66
  · exact O_89
theorem NV3 {v m z : Int} (h : isVl v m z) : aLn S0 (z + 3) = 201 := by
  rcases h with ⟨e, f, g⟩ | ⟨e, f, g⟩ <;> subst e <;> subst f <;> subst g
  · exact L_66
  · exact L_89
theorem AV4 {v m z : Int} (h : isVl v m z) (i : Int) : isA S0 (z + 4) 0 i = inS 2400 i := by
  rcases h with ⟨e, f, g⟩ | ⟨e, f, g⟩ <;> subst e <;> subst f <;> subst g
  · exact A_67 i
  · exact A_90 i
theorem WV4 {v m z : Int} (h : isVl v m z) : isO S0 (z + 4) 100 = true := by
  rcases h with ⟨e, f, g⟩ | ⟨e, f, g⟩ <;> subst e <;> subst f <;> subst g
  · exact O_67
  · exact O_90
theorem NV4 {v m z : Int} (h : isVl v m z) : aLn S0 (z + 4) = 2400 := by
  rcases h with ⟨e, f, g⟩ | ⟨e, f, g⟩ <;> subst e <;> subst f <;> subst g
  · exact L_67
  · exact L_90
theorem AV5 {v m z : Int} (h : isVl v m z) (i : Int) : isA S0 (z + 5) 0 i = inS 200 i := by
  rcases h with ⟨e, f, g⟩ | ⟨e, f, g⟩ <;> subst e <;> subst f <;> subst g
  · exact A_68 i
  · exact A_91 i
theorem WV5 {v m z : Int} (h : isVl v m z) : isO S0 (z + 5) 100 = true := by
  rcases h with ⟨e, f, g⟩ | ⟨e, f, g⟩ <;> subst e <;> subst f <;> subst g
  · exact O_68
  · exact O_91
theorem NV5 {v m z : Int} (h : isVl v m z) : aLn S0 (z + 5) = 200 := by
  rcases h with ⟨e, f, g⟩ | ⟨e, f, g⟩ <;> subst e <;> subst f <;> subst g
  · exact L_68
  · exact L_91
theorem AV6 {v m z : Int} (h : isVl v m z) (i : Int) : isA S0 (z + 6) 0 i = inS 200 i := by
  rcases h with ⟨e, f, g⟩ | ⟨e, f, g⟩ <;> subst e <;> subst f <;> subst g
  · exact A_69 i
  · exact A_92 i
theorem WV6 {v m z : Int} (h : isVl v m z) : isO S0 (z + 6) 100 = true := by
  rcases h with ⟨e, f, g⟩ | ⟨e, f, g⟩ <;> subst e <;> subst f <;> subst g
  · exact O_69
  · exact O_92
theorem NV6 {v m z : Int} (h : isVl v m z) : aLn S0 (z + 6) = 200 := by
  rcases h with ⟨e, f, g⟩ | ⟨e, f, g⟩ <;> subst e <;> subst f <;> subst g
  · exact L_69
  · exact L_92
theorem AV7 {v m z : Int} (h : isVl v m z) (i : Int) : isA S0 (z + 7) 0 i = inS 200 i := by
  rcases h with ⟨e, f, g⟩ | ⟨e, f, g⟩ <;> subst e <;> subst f <;> subst g
  · exact A_70 i
  · exact A_93 i
theorem WV7 {v m z : Int} (h : isVl v m z) : isO S0 (z + 7) 100 = true := by
  rcases h with ⟨e, f, g⟩ | ⟨e, f, g⟩ <;> subst e <;> subst f <;> subst g
  · exact O_70
  · exact O_93
theorem NV7 {v m z : Int} (h : isVl v m z) : aLn S0 (z + 7) = 200 := by
  rcases h with ⟨e, f, g⟩ | ⟨e, f, g⟩ <;> subst e <;> subst f <;> subst g
  · exact L_70
  · exact L_93
theorem AV8 {v m z : Int} (h : isVl v m z) (i : Int) : isA S0 (z + 8) 1 i = inS 200 i := by
  rcases h with ⟨e, f, g⟩ | ⟨e, f, g⟩ <;> subst e <;> subst f <;> subst g
  · exact A_71 i
  · exact A_94 i
theorem AV9 {v m z : Int} (h : isVl v m z) (i : Int) : isA S0 (z + 9) 1 i = inS 200 i := by
  rcases h with ⟨e, f, g⟩ | ⟨e, f, g⟩ <;> subst e <;> subst f <;> subst g
  · exact A_72 i
  · exact A_95 i
def isWo (w : Int) : Prop := w = 96 ∨ w = 102
theorem OW {w : Int} (h : isWo w) : isO S0 (w) 11 = true := by
  rcases h with e | e <;> subst e
  · exact O_96
  · exact O_102
theorem FW_3 {w : Int} (h : isWo w) : aF S0 (w) 3 = w + 1 := by
  rcases h with e | e <;> subst e
  · exact F_96_3
  · exact F_102_3
theorem FW_4 {w : Int} (h : isWo w) : aF S0 (w) 4 = w + 3 := by
  rcases h with e | e <;> subst e
  · exact F_96_4
  · exact F_102_4
theorem FW_5 {w : Int} (h : isWo w) : aF S0 (w) 5 = w + 5 := by
  rcases h with e | e <;> subst e
  · exact F_96_5
  · exact F_102_5
theorem FW_0 {w : Int} (h : isWo w) : aF S0 w 0 = 73 := by
  rcases h with e | e <;> subst e
  · exact F_96_0
  · exact F_102_0
theorem AW5 {w : Int} (h : isWo w) (i : Int) : isA S0 (w + 5) 0 i = inS 146 i := by
  rcases h with e | e <;> subst e
  · exact A_101 i
  · exact A_107 i
theorem WW5 {w : Int} (h : isWo w) : isO S0 (w + 5) 100 = true := by
  rcases h with e | e <;> subst e
  · exact O_101
  · exact O_107
theorem NW5 {w : Int} (h : isWo w) : aLn S0 (w + 5) = 146 := by
  rcases h with e | e <;> subst e
  · exact L_101
  · exact L_107
theorem isWo_1 {w : Int} (h : isWo w) : isSl (w + 1) := by unfold isSl; unfold isWo at h; omega
theorem isWo_3 {w : Int} (h : isWo w) : isSl (w + 3) := by unfold isSl; unfold isWo at h; omega
