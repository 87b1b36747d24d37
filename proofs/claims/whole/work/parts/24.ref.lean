/-! the reference's game functions -/
theorem isA_e {a n : Int} {c d : Nat} (h : isO S0 a d = true) (hl : aLn S0 a = n) (i : Int) (hd : d = 100 + c := by rfl) : isA S0 a c i = inS n i := by
  subst hd
  unfold isA inS
  rw [h, hl, Bool.true_and]
theorem A_2 (i : Int) : isA S0 2 0 i = inS 1800 i := isA_e O_2 L_2 i
theorem A_5 (i : Int) : isA S0 5 0 i = inS 1800 i := isA_e O_5 L_5 i
theorem A_6 (i : Int) : isA S0 6 0 i = inS 13 i := isA_e O_6 L_6 i
theorem A_7 (i : Int) : isA S0 7 0 i = inS 64 i := isA_e O_7 L_7 i
theorem A_8 (i : Int) : isA S0 8 0 i = inS 2 i := isA_e O_8 L_8 i
theorem A_9 (i : Int) : isA S0 9 0 i = inS 2 i := isA_e O_9 L_9 i
theorem A_10 (i : Int) : isA S0 10 0 i = inS 2 i := isA_e O_10 L_10 i
theorem A_11 (i : Int) : isA S0 11 0 i = inS 12 i := isA_e O_11 L_11 i
theorem A_12 (i : Int) : isA S0 12 0 i = inS 12 i := isA_e O_12 L_12 i
theorem A_13 (i : Int) : isA S0 13 0 i = inS 12 i := isA_e O_13 L_13 i
theorem A_14 (i : Int) : isA S0 14 0 i = inS 12 i := isA_e O_14 L_14 i
theorem A_15 (i : Int) : isA S0 15 2 i = inS 12 i := isA_e O_15 L_15 i
theorem A_16 (i : Int) : isA S0 16 0 i = inS 2 i := isA_e O_16 L_16 i
theorem A_17 (i : Int) : isA S0 17 0 i = inS 400 i := isA_e O_17 L_17 i
theorem A_18 (i : Int) : isA S0 18 0 i = inS 4000 i := isA_e O_18 L_18 i
theorem A_21 (i : Int) : isA S0 21 0 i = inS 1800 i := isA_e O_21 L_21 i
theorem A_22 (i : Int) : isA S0 22 0 i = inS 13 i := isA_e O_22 L_22 i
theorem A_23 (i : Int) : isA S0 23 0 i = inS 64 i := isA_e O_23 L_23 i
theorem A_24 (i : Int) : isA S0 24 0 i = inS 2 i := isA_e O_24 L_24 i
theorem A_25 (i : Int) : isA S0 25 0 i = inS 2 i := isA_e O_25 L_25 i
theorem A_26 (i : Int) : isA S0 26 0 i = inS 2 i := isA_e O_26 L_26 i
theorem A_27 (i : Int) : isA S0 27 0 i = inS 12 i := isA_e O_27 L_27 i
theorem A_28 (i : Int) : isA S0 28 0 i = inS 12 i := isA_e O_28 L_28 i
theorem A_29 (i : Int) : isA S0 29 0 i = inS 12 i := isA_e O_29 L_29 i
theorem A_30 (i : Int) : isA S0 30 0 i = inS 12 i := isA_e O_30 L_30 i
theorem A_31 (i : Int) : isA S0 31 2 i = inS 12 i := isA_e O_31 L_31 i
theorem A_32 (i : Int) : isA S0 32 0 i = inS 2 i := isA_e O_32 L_32 i
theorem A_33 (i : Int) : isA S0 33 0 i = inS 400 i := isA_e O_33 L_33 i
theorem A_34 (i : Int) : isA S0 34 0 i = inS 4000 i := isA_e O_34 L_34 i
theorem A_37 (i : Int) : isA S0 37 0 i = inS 23 i := isA_e O_37 L_37 i
theorem A_38 (i : Int) : isA S0 38 0 i = inS 1801 i := isA_e O_38 L_38 i
theorem A_39 (i : Int) : isA S0 39 0 i = inS 1801 i := isA_e O_39 L_39 i
theorem A_40 (i : Int) : isA S0 40 0 i = inS 1801 i := isA_e O_40 L_40 i
theorem A_42 (i : Int) : isA S0 42 0 i = inS 12 i := isA_e O_42 L_42 i
theorem A_45 (i : Int) : isA S0 45 0 i = inS 12 i := isA_e O_45 L_45 i
theorem A_46 (i : Int) : isA S0 46 0 i = inS 200 i := isA_e O_46 L_46 i
theorem A_48 (i : Int) : isA S0 48 0 i = inS 40 i := isA_e O_48 L_48 i
theorem A_49 (i : Int) : isA S0 49 0 i = inS 40 i := isA_e O_49 L_49 i
theorem A_51 (i : Int) : isA S0 51 0 i = inS 200 i := isA_e O_51 L_51 i
theorem A_52 (i : Int) : isA S0 52 0 i = inS 200 i := isA_e O_52 L_52 i
theorem A_53 (i : Int) : isA S0 53 0 i = inS 200 i := isA_e O_53 L_53 i
theorem A_54 (i : Int) : isA S0 54 0 i = inS 2400 i := isA_e O_54 L_54 i
theorem A_55 (i : Int) : isA S0 55 0 i = inS 2400 i := isA_e O_55 L_55 i
theorem A_56 (i : Int) : isA S0 56 0 i = inS 24 i := isA_e O_56 L_56 i
theorem A_57 (i : Int) : isA S0 57 0 i = inS 24 i := isA_e O_57 L_57 i
theorem A_58 (i : Int) : isA S0 58 2 i = inS 24 i := isA_e O_58 L_58 i
theorem A_59 (i : Int) : isA S0 59 0 i = inS 2 i := isA_e O_59 L_59 i
theorem A_60 (i : Int) : isA S0 60 0 i = inS 12 i := isA_e O_60 L_60 i
theorem A_61 (i : Int) : isA S0 61 0 i = inS 12 i := isA_e O_61 L_61 i
theorem A_63 (i : Int) : isA S0 63 0 i = inS 200 i := isA_e O_63 L_63 i
theorem A_64 (i : Int) : isA S0 64 0 i = inS 200 i := isA_e O_64 L_64 i
theorem A_65 (i : Int) : isA S0 65 0 i = inS 200 i := isA_e O_65 L_65 i
theorem A_66 (i : Int) : isA S0 66 0 i = inS 201 i := isA_e O_66 L_66 i
theorem A_67 (i : Int) : isA S0 67 0 i = inS 2400 i := isA_e O_67 L_67 i
theorem A_68 (i : Int) : isA S0 68 0 i = inS 200 i := isA_e O_68 L_68 i
theorem A_69 (i : Int) : isA S0 69 0 i = inS 200 i := isA_e O_69 L_69 i
theorem A_70 (i : Int) : isA S0 70 0 i = inS 200 i := isA_e O_70 L_70 i
theorem A_71 (i : Int) : isA S0 71 1 i = inS 200 i := isA_e O_71 L_71 i
theorem A_72 (i : Int) : isA S0 72 1 i = inS 200 i := isA_e O_72 L_72 i
theorem A_75 (i : Int) : isA S0 75 0 i = inS 200 i := isA_e O_75 L_75 i
theorem A_76 (i : Int) : isA S0 76 0 i = inS 200 i := isA_e O_76 L_76 i
theorem A_77 (i : Int) : isA S0 77 0 i = inS 200 i := isA_e O_77 L_77 i
theorem A_78 (i : Int) : isA S0 78 0 i = inS 2400 i := isA_e O_78 L_78 i
theorem A_79 (i : Int) : isA S0 79 0 i = inS 2400 i := isA_e O_79 L_79 i
theorem A_80 (i : Int) : isA S0 80 0 i = inS 24 i := isA_e O_80 L_80 i
theorem A_81 (i : Int) : isA S0 81 0 i = inS 24 i := isA_e O_81 L_81 i
theorem A_82 (i : Int) : isA S0 82 2 i = inS 24 i := isA_e O_82 L_82 i
theorem A_83 (i : Int) : isA S0 83 0 i = inS 2 i := isA_e O_83 L_83 i
theorem A_84 (i : Int) : isA S0 84 0 i = inS 12 i := isA_e O_84 L_84 i
theorem A_85 (i : Int) : isA S0 85 0 i = inS 12 i := isA_e O_85 L_85 i
theorem A_86 (i : Int) : isA S0 86 0 i = inS 200 i := isA_e O_86 L_86 i
theorem A_87 (i : Int) : isA S0 87 0 i = inS 200 i := isA_e O_87 L_87 i
theorem A_88 (i : Int) : isA S0 88 0 i = inS 200 i := isA_e O_88 L_88 i
theorem A_89 (i : Int) : isA S0 89 0 i = inS 201 i := isA_e O_89 L_89 i
theorem A_90 (i : Int) : isA S0 90 0 i = inS 2400 i := isA_e O_90 L_90 i
theorem A_91 (i : Int) : isA S0 91 0 i = inS 200 i := isA_e O_91 L_91 i
theorem A_92 (i : Int) : isA S0 92 0 i = inS 200 i := isA_e O_92 L_92 i
theorem A_93 (i : Int) : isA S0 93 0 i = inS 200 i := isA_e O_93 L_93 i
theorem A_94 (i : Int) : isA S0 94 1 i = inS 200 i := isA_e O_94 L_94 i
theorem A_95 (i : Int) : isA S0 95 1 i = inS 200 i := isA_e O_95 L_95 i
theorem A_98 (i : Int) : isA S0 98 0 i = inS 12 i := isA_e O_98 L_98 i
theorem A_100 (i : Int) : isA S0 100 0 i = inS 12 i := isA_e O_100 L_100 i
theorem A_101 (i : Int) : isA S0 101 0 i = inS 146 i := isA_e O_101 L_101 i
theorem A_104 (i : Int) : isA S0 104 0 i = inS 12 i := isA_e O_104 L_104 i
theorem A_106 (i : Int) : isA S0 106 0 i = inS 12 i := isA_e O_106 L_106 i
theorem A_107 (i : Int) : isA S0 107 0 i = inS 146 i := isA_e O_107 L_107 i
theorem A_108 (i : Int) : isA S0 108 3 i = inS 13 i := isA_e O_108 L_108 i
theorem A_111 (i : Int) : isA S0 111 0 i = inS 2 i := isA_e O_111 L_111 i
theorem A_112 (i : Int) : isA S0 112 0 i = inS 2 i := isA_e O_112 L_112 i
theorem A_114 (i : Int) : isA S0 114 0 i = inS 44 i := isA_e O_114 L_114 i
theorem A_115 (i : Int) : isA S0 115 0 i = inS 6 i := isA_e O_115 L_115 i
theorem A_117 (i : Int) : isA S0 117 0 i = inS 12 i := isA_e O_117 L_117 i
theorem A_119 (i : Int) : isA S0 119 0 i = inS 12 i := isA_e O_119 L_119 i
theorem A_121 (i : Int) : isA S0 121 0 i = inS 12 i := isA_e O_121 L_121 i
theorem A_123 (i : Int) : isA S0 123 0 i = inS 12 i := isA_e O_123 L_123 i
theorem A_125 (i : Int) : isA S0 125 0 i = inS 12 i := isA_e O_125 L_125 i
theorem A_127 (i : Int) : isA S0 127 0 i = inS 12 i := isA_e O_127 L_127 i
theorem A_129 (i : Int) : isA S0 129 0 i = inS 12 i := isA_e O_129 L_129 i
theorem A_131 (i : Int) : isA S0 131 0 i = inS 12 i := isA_e O_131 L_131 i
theorem A_133 (i : Int) : isA S0 133 0 i = inS 12 i := isA_e O_133 L_133 i
theorem A_135 (i : Int) : isA S0 135 0 i = inS 12 i := isA_e O_135 L_135 i
theorem A_137 (i : Int) : isA S0 137 0 i = inS 12 i := isA_e O_137 L_137 i
theorem A_139 (i : Int) : isA S0 139 0 i = inS 12 i := isA_e O_139 L_139 i
theorem A_141 (i : Int) : isA S0 141 0 i = inS 12 i := isA_e O_141 L_141 i
theorem A_143 (i : Int) : isA S0 143 0 i = inS 1800 i := isA_e O_143 L_143 i
theorem A_144 (i : Int) : isA S0 144 0 i = inS 2 i := isA_e O_144 L_144 i
theorem A_145 (i : Int) : isA S0 145 0 i = inS 2 i := isA_e O_145 L_145 i
theorem A_146 (i : Int) : isA S0 146 1 i = inS 4 i := isA_e O_146 L_146 i
theorem A_147 (i : Int) : isA S0 147 0 i = inS 4 i := isA_e O_147 L_147 i
theorem A_148 (i : Int) : isA S0 148 0 i = inS 4 i := isA_e O_148 L_148 i
theorem A_149 (i : Int) : isA S0 149 0 i = inS 2 i := isA_e O_149 L_149 i
theorem A_150 (i : Int) : isA S0 150 0 i = inS 2 i := isA_e O_150 L_150 i
theorem A_151 (i : Int) : isA S0 151 0 i = inS 24 i := isA_e O_151 L_151 i
theorem A_152 (i : Int) : isA S0 152 0 i = inS 24 i := isA_e O_152 L_152 i
theorem A_153 (i : Int) : isA S0 153 0 i = inS 24 i := isA_e O_153 L_153 i
theorem A_154 (i : Int) : isA S0 154 0 i = inS 24 i := isA_e O_154 L_154 i
theorem A_155 (i : Int) : isA S0 155 2 i = inS 24 i := isA_e O_155 L_155 i
theorem A_156 (i : Int) : isA S0 156 0 i = inS 24 i := isA_e O_156 L_156 i
theorem A_157 (i : Int) : isA S0 157 0 i = inS 24 i := isA_e O_157 L_157 i
theorem A_158 (i : Int) : isA S0 158 0 i = inS 3600 i := isA_e O_158 L_158 i
theorem A_159 (i : Int) : isA S0 159 0 i = inS 3600 i := isA_e O_159 L_159 i
theorem A_160 (i : Int) : isA S0 160 0 i = inS 20 i := isA_e O_160 L_160 i
theorem A_161 (i : Int) : isA S0 161 0 i = inS 20 i := isA_e O_161 L_161 i
theorem A_162 (i : Int) : isA S0 162 2 i = inS 20 i := isA_e O_162 L_162 i
theorem A_163 (i : Int) : isA S0 163 0 i = inS 20 i := isA_e O_163 L_163 i
theorem A_164 (i : Int) : isA S0 164 0 i = inS 20 i := isA_e O_164 L_164 i
theorem A_165 (i : Int) : isA S0 165 0 i = inS 500 i := isA_e O_165 L_165 i
theorem A_166 (i : Int) : isA S0 166 0 i = inS 6 i := isA_e O_166 L_166 i
theorem A_167 (i : Int) : isA S0 167 1 i = inS 1850 i := isA_e O_167 L_167 i
theorem A_168 (i : Int) : isA S0 168 0 i = inS 10 i := isA_e O_168 L_168 i
theorem A_169 (i : Int) : isA S0 169 0 i = inS 12 i := isA_e O_169 L_169 i
theorem A_170 (i : Int) : isA S0 170 2 i = inS 12 i := isA_e O_170 L_170 i
theorem A_171 (i : Int) : isA S0 171 2 i = inS 12 i := isA_e O_171 L_171 i
theorem A_172 (i : Int) : isA S0 172 0 i = inS 12 i := isA_e O_172 L_172 i
theorem A_173 (i : Int) : isA S0 173 0 i = inS 2 i := isA_e O_173 L_173 i
theorem A_174 (i : Int) : isA S0 174 0 i = inS 2 i := isA_e O_174 L_174 i
theorem A_175 (i : Int) : isA S0 175 0 i = inS 200 i := isA_e O_175 L_175 i
theorem A_176 (i : Int) : isA S0 176 0 i = inS 4000 i := isA_e O_176 L_176 i
theorem A_177 (i : Int) : isA S0 177 0 i = inS 4000 i := isA_e O_177 L_177 i
theorem A_178 (i : Int) : isA S0 178 2 i = inS 200 i := isA_e O_178 L_178 i
theorem A_179 (i : Int) : isA S0 179 0 i = inS 200 i := isA_e O_179 L_179 i
theorem A_180 (i : Int) : isA S0 180 0 i = inS 200 i := isA_e O_180 L_180 i
theorem A_181 (i : Int) : isA S0 181 0 i = inS 200 i := isA_e O_181 L_181 i
theorem A_182 (i : Int) : isA S0 182 0 i = inS 200 i := isA_e O_182 L_182 i
theorem A_183 (i : Int) : isA S0 183 1 i = inS 200 i := isA_e O_183 L_183 i
theorem A_184 (i : Int) : isA S0 184 1 i = inS 200 i := isA_e O_184 L_184 i
theorem A_185 (i : Int) : isA S0 185 0 i = inS 480 i := isA_e O_185 L_185 i
theorem A_186 (i : Int) : isA S0 186 2 i = inS 480 i := isA_e O_186 L_186 i
theorem A_187 (i : Int) : isA S0 187 2 i = inS 480 i := isA_e O_187 L_187 i
theorem A_188 (i : Int) : isA S0 188 0 i = inS 480 i := isA_e O_188 L_188 i
theorem A_189 (i : Int) : isA S0 189 0 i = inS 372 i := isA_e O_189 L_189 i
theorem A_190 (i : Int) : isA S0 190 0 i = inS 372 i := isA_e O_190 L_190 i
theorem A_191 (i : Int) : isA S0 191 0 i = inS 12 i := isA_e O_191 L_191 i
theorem A_192 (i : Int) : isA S0 192 0 i = inS 12 i := isA_e O_192 L_192 i
theorem A_193 (i : Int) : isA S0 193 0 i = inS 200 i := isA_e O_193 L_193 i
theorem A_194 (i : Int) : isA S0 194 0 i = inS 4000 i := isA_e O_194 L_194 i
theorem A_195 (i : Int) : isA S0 195 0 i = inS 4000 i := isA_e O_195 L_195 i
theorem A_196 (i : Int) : isA S0 196 0 i = inS 200 i := isA_e O_196 L_196 i
theorem A_197 (i : Int) : isA S0 197 0 i = inS 48 i := isA_e O_197 L_197 i
theorem gd_in {α : Type} {n i : Int} {a : Option α} (h0 : 0 ≤ i) (h1 : i < n) : gd (inS n i) a = a := gd_t (by unfold inS; rw [decide_eq_true h0, decide_eq_true h1]; rfl)
/-- the reference's bank b holds G -/
def rG (G : GM) (b : Int) (V : ASt) : Prop :=
  V 142 12 = b ∧ (b = 0 ∨ b = 1) ∧ V 144 b = qF G ∧ V 145 b = qP G ∧ V 149 b = qU G ∧ V 150 b = qR G ∧
  (∀ k, 0 ≤ k → k < qP G → V 147 (2 * b + k) = qS G k ∧ V 148 (2 * b + k) = qO G k) ∧
  (∀ r, 0 ≤ r → r < qR G → V 151 (12 * b + r) = qK G r ∧ V 152 (12 * b + r) = qI G r ∧ V 153 (12 * b + r) = qW G r ∧ V 154 (12 * b + r) = qN G r ∧ V 155 (12 * b + r) = qE G r)
def rS (G : GM) (s : SL) (V : ASt) : Prop :=
  (∀ p, 0 ≤ p → p < qR G → V 169 p = sA s p ∧ V 170 p = sX s p ∧ V 171 p = sT s p ∧ V 172 p = sN s p)
theorem M_is (V : ASt) (x a b : Int) : f_M_is S0 V x a b = some (if a ≤ x ∧ x ≤ b then 1 else 0, V) := by
  unfold f_M_is
  by_cases h1 : x < a
  · rw [if_pos h1, if_neg (by omega)]
  · by_cases h2 : b < x
    · rw [if_neg h1, if_pos h2, if_neg (by omega)]
    · rw [if_neg h1, if_neg h2, if_pos (by omega)]
theorem M_rulesAll {G : GM} {b : Int} {V : ASt} (h : rG G b V) : f_M_rulesAll S0 V 142 = some (qR G, V) := by
  obtain ⟨h1, h2, -, -, -, h6, -⟩ := h
  simp (disch := omega) only [f_M_rulesAll, O_142, gd_tt, F_142_0, F_142_13, F_142_14, F_142_15, F_142_16, F_142_17, F_142_18, F_142_19, F_142_20, F_142_21, F_142_22, F_142_23, F_142_24, F_142_25, F_142_26, F_142_27, F_142_28, F_142_31, F_142_32, F_142_33, F_142_34, F_142_35, F_142_38, F_142_41, F_142_42, F_142_43, F_142_44, F_142_45, F_142_46, F_142_47, F_142_49, F_142_50, F_142_51, F_142_52, F_142_53, F_142_54, F_142_55, F_142_57, F_142_58, F_142_62, F_142_63, F_142_64, F_142_66, F_142_67, F_142_68, F_142_69, F_142_70, F_142_71, F_142_73, F_142_74, F_142_75, F_142_76, F_142_77, F_142_78, F_142_79, A_143, A_144, A_145, A_146, A_147, A_148, A_149, A_150, A_151, A_152, A_153, A_154, A_155, A_156, A_157, A_158, A_159, A_160, A_161, A_162, A_163, A_164, A_165, A_166, A_167, A_168, A_169, A_170, A_171, A_172, A_173, A_174, A_175, A_176, A_177, A_178, A_179, A_180, A_181, A_182, A_183, A_184, A_185, A_186, A_187, A_188, A_189, A_190, A_191, A_192, A_193, A_194, A_195, A_196, A_197, gd_in, w32_id, if_pos, if_neg, wV_e, bnd_e, reduceIte, Int.reduceEq, Int.reduceLE, Int.reduceLT, Int.reduceAdd, Int.reduceSub, Int.reduceMul, Int.reduceNeg, h1, h6]
theorem M_told {G : GM} {b : Int} {V : ASt} (h : rG G b V) {r : Int} (h0 : 0 ≤ r) (hr : r < 12) : f_M_told S0 V 142 r = some (12 * b + r, V) := by
  obtain ⟨h1, h2, -, -, -, h6, -⟩ := h
  simp (disch := omega) only [f_M_told, O_142, gd_tt, F_142_0, F_142_13, F_142_14, F_142_15, F_142_16, F_142_17, F_142_18, F_142_19, F_142_20, F_142_21, F_142_22, F_142_23, F_142_24, F_142_25, F_142_26, F_142_27, F_142_28, F_142_31, F_142_32, F_142_33, F_142_34, F_142_35, F_142_38, F_142_41, F_142_42, F_142_43, F_142_44, F_142_45, F_142_46, F_142_47, F_142_49, F_142_50, F_142_51, F_142_52, F_142_53, F_142_54, F_142_55, F_142_57, F_142_58, F_142_62, F_142_63, F_142_64, F_142_66, F_142_67, F_142_68, F_142_69, F_142_70, F_142_71, F_142_73, F_142_74, F_142_75, F_142_76, F_142_77, F_142_78, F_142_79, A_143, A_144, A_145, A_146, A_147, A_148, A_149, A_150, A_151, A_152, A_153, A_154, A_155, A_156, A_157, A_158, A_159, A_160, A_161, A_162, A_163, A_164, A_165, A_166, A_167, A_168, A_169, A_170, A_171, A_172, A_173, A_174, A_175, A_176, A_177, A_178, A_179, A_180, A_181, A_182, A_183, A_184, A_185, A_186, A_187, A_188, A_189, A_190, A_191, A_192, A_193, A_194, A_195, A_196, A_197, gd_in, w32_id, if_pos, if_neg, wV_e, bnd_e, reduceIte, Int.reduceEq, Int.reduceLE, Int.reduceLT, Int.reduceAdd, Int.reduceSub, Int.reduceMul, Int.reduceNeg, h1]
theorem M_hasFields {G : GM} {b : Int} {V : ASt} (hG : GOK G) (h : rG G b V) : f_M_hasFields S0 V 142 = some (if qF G = 0 then 0 else 1, V) := by
  obtain ⟨h1, h2, h3, -⟩ := h
  obtain ⟨g1, -⟩ := hG
  by_cases hf : qF G = 0
  · simp (disch := omega) only [f_M_hasFields, O_142, gd_tt, F_142_0, F_142_13, F_142_14, F_142_15, F_142_16, F_142_17, F_142_18, F_142_19, F_142_20, F_142_21, F_142_22, F_142_23, F_142_24, F_142_25, F_142_26, F_142_27, F_142_28, F_142_31, F_142_32, F_142_33, F_142_34, F_142_35, F_142_38, F_142_41, F_142_42, F_142_43, F_142_44, F_142_45, F_142_46, F_142_47, F_142_49, F_142_50, F_142_51, F_142_52, F_142_53, F_142_54, F_142_55, F_142_57, F_142_58, F_142_62, F_142_63, F_142_64, F_142_66, F_142_67, F_142_68, F_142_69, F_142_70, F_142_71, F_142_73, F_142_74, F_142_75, F_142_76, F_142_77, F_142_78, F_142_79, A_143, A_144, A_145, A_146, A_147, A_148, A_149, A_150, A_151, A_152, A_153, A_154, A_155, A_156, A_157, A_158, A_159, A_160, A_161, A_162, A_163, A_164, A_165, A_166, A_167, A_168, A_169, A_170, A_171, A_172, A_173, A_174, A_175, A_176, A_177, A_178, A_179, A_180, A_181, A_182, A_183, A_184, A_185, A_186, A_187, A_188, A_189, A_190, A_191, A_192, A_193, A_194, A_195, A_196, A_197, gd_in, w32_id, if_pos, if_neg, wV_e, bnd_e, reduceIte, Int.reduceEq, Int.reduceLE, Int.reduceLT, Int.reduceAdd, Int.reduceSub, Int.reduceMul, Int.reduceNeg, h1, h3]
  · simp (disch := omega) only [f_M_hasFields, O_142, gd_tt, F_142_0, F_142_13, F_142_14, F_142_15, F_142_16, F_142_17, F_142_18, F_142_19, F_142_20, F_142_21, F_142_22, F_142_23, F_142_24, F_142_25, F_142_26, F_142_27, F_142_28, F_142_31, F_142_32, F_142_33, F_142_34, F_142_35, F_142_38, F_142_41, F_142_42, F_142_43, F_142_44, F_142_45, F_142_46, F_142_47, F_142_49, F_142_50, F_142_51, F_142_52, F_142_53, F_142_54, F_142_55, F_142_57, F_142_58, F_142_62, F_142_63, F_142_64, F_142_66, F_142_67, F_142_68, F_142_69, F_142_70, F_142_71, F_142_73, F_142_74, F_142_75, F_142_76, F_142_77, F_142_78, F_142_79, A_143, A_144, A_145, A_146, A_147, A_148, A_149, A_150, A_151, A_152, A_153, A_154, A_155, A_156, A_157, A_158, A_159, A_160, A_161, A_162, A_163, A_164, A_165, A_166, A_167, A_168, A_169, A_170, A_171, A_172, A_173, A_174, A_175, A_176, A_177, A_178, A_179, A_180, A_181, A_182, A_183, A_184, A_185, A_186, A_187, A_188, A_189, A_190, A_191, A_192, A_193, A_194, A_195, A_196, A_197, gd_in, w32_id, if_pos, if_neg, wV_e, bnd_e, reduceIte, Int.reduceEq, Int.reduceLE, Int.reduceLT, Int.reduceAdd, Int.reduceSub, Int.reduceMul, Int.reduceNeg, h1, h3]
theorem M_base {G : GM} {b : Int} {V : ASt} (hG : GOK G) (h : rG G b V) : f_M_base S0 V 142 = some (qF G + 1, V) := by
  obtain ⟨h1, h2, h3, -⟩ := h
  obtain ⟨g1, -⟩ := hG
  simp (disch := omega) only [f_M_base, O_142, gd_tt, F_142_0, F_142_13, F_142_14, F_142_15, F_142_16, F_142_17, F_142_18, F_142_19, F_142_20, F_142_21, F_142_22, F_142_23, F_142_24, F_142_25, F_142_26, F_142_27, F_142_28, F_142_31, F_142_32, F_142_33, F_142_34, F_142_35, F_142_38, F_142_41, F_142_42, F_142_43, F_142_44, F_142_45, F_142_46, F_142_47, F_142_49, F_142_50, F_142_51, F_142_52, F_142_53, F_142_54, F_142_55, F_142_57, F_142_58, F_142_62, F_142_63, F_142_64, F_142_66, F_142_67, F_142_68, F_142_69, F_142_70, F_142_71, F_142_73, F_142_74, F_142_75, F_142_76, F_142_77, F_142_78, F_142_79, A_143, A_144, A_145, A_146, A_147, A_148, A_149, A_150, A_151, A_152, A_153, A_154, A_155, A_156, A_157, A_158, A_159, A_160, A_161, A_162, A_163, A_164, A_165, A_166, A_167, A_168, A_169, A_170, A_171, A_172, A_173, A_174, A_175, A_176, A_177, A_178, A_179, A_180, A_181, A_182, A_183, A_184, A_185, A_186, A_187, A_188, A_189, A_190, A_191, A_192, A_193, A_194, A_195, A_196, A_197, gd_in, w32_id, if_pos, if_neg, wV_e, bnd_e, reduceIte, Int.reduceEq, Int.reduceLE, Int.reduceLT, Int.reduceAdd, Int.reduceSub, Int.reduceMul, Int.reduceNeg, h1, h3]
theorem FU_s : ∃ m : Nat, FU = m + 1 + 1 + 1 + 1 := ⟨99996, rfl⟩
theorem tdiv_e {a b : Int} (ha : 0 ≤ a) : Int.tdiv a b = a / b := Int.tdiv_eq_ediv_of_nonneg ha
theorem tmod_e {a b : Int} (ha : 0 ≤ a) : Int.tmod a b = a % b := Int.tmod_eq_emod_of_nonneg ha
theorem nz_t {x : Int} (h : x ≠ 0) : nz x = true := decide_eq_true h
theorem gd_nz {α : Type} {x : Int} {a : Option α} (h : x ≠ 0) : gd (nz x) a = a := gd_t (nz_t h)
theorem M_positions {G : GM} {b : Int} {V : ASt} (hG : GOK G) (h : rG G b V) : f_M_positions S0 V 142 = some (qPos G, V) := by
  obtain ⟨m, hm⟩ := FU_s
  have hB := M_base hG h
  obtain ⟨h1, h2, h3, h4, -⟩ := h
  obtain ⟨g1, g2, -⟩ := hG
  have hsq : (qF G + 1) * (qF G + 1) ≤ 100 := by
    generalize qF G = f at *
    have hf : f = 0 ∨ f = 1 ∨ f = 2 ∨ f = 3 ∨ f = 4 ∨ f = 5 ∨ f = 6 ∨ f = 7 ∨ f = 8 ∨ f = 9 := by omega
    rcases hf with e | e | e | e | e | e | e | e | e | e <;> subst e <;> omega
  have hsq0 : 0 ≤ (qF G + 1) * (qF G + 1) := Int.mul_nonneg (by omega) (by omega)
  unfold qPos
  rcases P_cases g2 with e | e | e
  · simp (disch := omega) only [f_M_positions, hm, b_M_positions_L4, O_142, gd_tt, F_142_0, F_142_13, F_142_14, F_142_15, F_142_16, F_142_17, F_142_18, F_142_19, F_142_20, F_142_21, F_142_22, F_142_23, F_142_24, F_142_25, F_142_26, F_142_27, F_142_28, F_142_31, F_142_32, F_142_33, F_142_34, F_142_35, F_142_38, F_142_41, F_142_42, F_142_43, F_142_44, F_142_45, F_142_46, F_142_47, F_142_49, F_142_50, F_142_51, F_142_52, F_142_53, F_142_54, F_142_55, F_142_57, F_142_58, F_142_62, F_142_63, F_142_64, F_142_66, F_142_67, F_142_68, F_142_69, F_142_70, F_142_71, F_142_73, F_142_74, F_142_75, F_142_76, F_142_77, F_142_78, F_142_79, A_143, A_144, A_145, A_146, A_147, A_148, A_149, A_150, A_151, A_152, A_153, A_154, A_155, A_156, A_157, A_158, A_159, A_160, A_161, A_162, A_163, A_164, A_165, A_166, A_167, A_168, A_169, A_170, A_171, A_172, A_173, A_174, A_175, A_176, A_177, A_178, A_179, A_180, A_181, A_182, A_183, A_184, A_185, A_186, A_187, A_188, A_189, A_190, A_191, A_192, A_193, A_194, A_195, A_196, A_197, gd_in, w32_id, if_pos, if_neg, wV_e, bnd_e, reduceIte, Int.reduceEq, Int.reduceLE, Int.reduceLT, Int.reduceAdd, Int.reduceSub, Int.reduceMul, Int.reduceNeg, h1, h4, e]
  · simp (disch := omega) only [f_M_positions, hm, b_M_positions_L4, O_142, gd_tt, F_142_0, F_142_13, F_142_14, F_142_15, F_142_16, F_142_17, F_142_18, F_142_19, F_142_20, F_142_21, F_142_22, F_142_23, F_142_24, F_142_25, F_142_26, F_142_27, F_142_28, F_142_31, F_142_32, F_142_33, F_142_34, F_142_35, F_142_38, F_142_41, F_142_42, F_142_43, F_142_44, F_142_45, F_142_46, F_142_47, F_142_49, F_142_50, F_142_51, F_142_52, F_142_53, F_142_54, F_142_55, F_142_57, F_142_58, F_142_62, F_142_63, F_142_64, F_142_66, F_142_67, F_142_68, F_142_69, F_142_70, F_142_71, F_142_73, F_142_74, F_142_75, F_142_76, F_142_77, F_142_78, F_142_79, A_143, A_144, A_145, A_146, A_147, A_148, A_149, A_150, A_151, A_152, A_153, A_154, A_155, A_156, A_157, A_158, A_159, A_160, A_161, A_162, A_163, A_164, A_165, A_166, A_167, A_168, A_169, A_170, A_171, A_172, A_173, A_174, A_175, A_176, A_177, A_178, A_179, A_180, A_181, A_182, A_183, A_184, A_185, A_186, A_187, A_188, A_189, A_190, A_191, A_192, A_193, A_194, A_195, A_196, A_197, gd_in, w32_id, if_pos, if_neg, wV_e, bnd_e, reduceIte, Int.reduceEq, Int.reduceLE, Int.reduceLT, Int.reduceAdd, Int.reduceSub, Int.reduceMul, Int.reduceNeg, h1, h4, e, hB]
  · have e2 : 2 * (qF G + 1) * (qF G + 1) = 2 * ((qF G + 1) * (qF G + 1)) := Int.mul_assoc _ _ _
    simp (disch := omega) only [f_M_positions, hm, b_M_positions_L4, O_142, gd_tt, F_142_0, F_142_13, F_142_14, F_142_15, F_142_16, F_142_17, F_142_18, F_142_19, F_142_20, F_142_21, F_142_22, F_142_23, F_142_24, F_142_25, F_142_26, F_142_27, F_142_28, F_142_31, F_142_32, F_142_33, F_142_34, F_142_35, F_142_38, F_142_41, F_142_42, F_142_43, F_142_44, F_142_45, F_142_46, F_142_47, F_142_49, F_142_50, F_142_51, F_142_52, F_142_53, F_142_54, F_142_55, F_142_57, F_142_58, F_142_62, F_142_63, F_142_64, F_142_66, F_142_67, F_142_68, F_142_69, F_142_70, F_142_71, F_142_73, F_142_74, F_142_75, F_142_76, F_142_77, F_142_78, F_142_79, A_143, A_144, A_145, A_146, A_147, A_148, A_149, A_150, A_151, A_152, A_153, A_154, A_155, A_156, A_157, A_158, A_159, A_160, A_161, A_162, A_163, A_164, A_165, A_166, A_167, A_168, A_169, A_170, A_171, A_172, A_173, A_174, A_175, A_176, A_177, A_178, A_179, A_180, A_181, A_182, A_183, A_184, A_185, A_186, A_187, A_188, A_189, A_190, A_191, A_192, A_193, A_194, A_195, A_196, A_197, gd_in, w32_id, if_pos, if_neg, wV_e, bnd_e, reduceIte, Int.reduceEq, Int.reduceLE, Int.reduceLT, Int.reduceAdd, Int.reduceSub, Int.reduceMul, Int.reduceNeg, h1, h4, e, hB, e2]
theorem M_spotOf {G : GM} {b : Int} {V : ASt} (hG : GOK G) (h : rG G b V) {p k : Int} (hp : 0 ≤ p) (hp2 : p < 2147483648) (hk : 0 ≤ k) (hk2 : k < qP G) : f_M_spotOf S0 V 142 p k = some (spt G p k, V) := by
  obtain ⟨m, hm⟩ := FU_s
  have hB := M_base hG h
  obtain ⟨h1, h2, h3, h4, -⟩ := h
  obtain ⟨g1, g2, -⟩ := hG
  have hd : 0 ≤ p / 2 / (qF G + 1) := Int.ediv_nonneg (by omega) (by omega)
  have hd2 : p / 2 / (qF G + 1) ≤ p / 2 := Int.ediv_le_self _ (by omega)
  unfold spt
  rcases P_cases g2 with e | e | e
  · omega
  · have : k = 0 := by omega
    subst this
    simp (disch := omega) only [f_M_spotOf, hm, b_M_spotOf_L17, O_142, gd_tt, F_142_0, F_142_13, F_142_14, F_142_15, F_142_16, F_142_17, F_142_18, F_142_19, F_142_20, F_142_21, F_142_22, F_142_23, F_142_24, F_142_25, F_142_26, F_142_27, F_142_28, F_142_31, F_142_32, F_142_33, F_142_34, F_142_35, F_142_38, F_142_41, F_142_42, F_142_43, F_142_44, F_142_45, F_142_46, F_142_47, F_142_49, F_142_50, F_142_51, F_142_52, F_142_53, F_142_54, F_142_55, F_142_57, F_142_58, F_142_62, F_142_63, F_142_64, F_142_66, F_142_67, F_142_68, F_142_69, F_142_70, F_142_71, F_142_73, F_142_74, F_142_75, F_142_76, F_142_77, F_142_78, F_142_79, A_143, A_144, A_145, A_146, A_147, A_148, A_149, A_150, A_151, A_152, A_153, A_154, A_155, A_156, A_157, A_158, A_159, A_160, A_161, A_162, A_163, A_164, A_165, A_166, A_167, A_168, A_169, A_170, A_171, A_172, A_173, A_174, A_175, A_176, A_177, A_178, A_179, A_180, A_181, A_182, A_183, A_184, A_185, A_186, A_187, A_188, A_189, A_190, A_191, A_192, A_193, A_194, A_195, A_196, A_197, gd_in, w32_id, if_pos, if_neg, wV_e, bnd_e, reduceIte, Int.reduceEq, Int.reduceLE, Int.reduceLT, Int.reduceAdd, Int.reduceSub, Int.reduceMul, Int.reduceNeg, h1, h4, e, hB, gd_nz, tdiv_e, tmod_e]
  · have : k = 0 ∨ k = 1 := by omega
    rcases this with e' | e' <;> subst e'
    · simp (disch := omega) only [f_M_spotOf, hm, b_M_spotOf_L17, O_142, gd_tt, F_142_0, F_142_13, F_142_14, F_142_15, F_142_16, F_142_17, F_142_18, F_142_19, F_142_20, F_142_21, F_142_22, F_142_23, F_142_24, F_142_25, F_142_26, F_142_27, F_142_28, F_142_31, F_142_32, F_142_33, F_142_34, F_142_35, F_142_38, F_142_41, F_142_42, F_142_43, F_142_44, F_142_45, F_142_46, F_142_47, F_142_49, F_142_50, F_142_51, F_142_52, F_142_53, F_142_54, F_142_55, F_142_57, F_142_58, F_142_62, F_142_63, F_142_64, F_142_66, F_142_67, F_142_68, F_142_69, F_142_70, F_142_71, F_142_73, F_142_74, F_142_75, F_142_76, F_142_77, F_142_78, F_142_79, A_143, A_144, A_145, A_146, A_147, A_148, A_149, A_150, A_151, A_152, A_153, A_154, A_155, A_156, A_157, A_158, A_159, A_160, A_161, A_162, A_163, A_164, A_165, A_166, A_167, A_168, A_169, A_170, A_171, A_172, A_173, A_174, A_175, A_176, A_177, A_178, A_179, A_180, A_181, A_182, A_183, A_184, A_185, A_186, A_187, A_188, A_189, A_190, A_191, A_192, A_193, A_194, A_195, A_196, A_197, gd_in, w32_id, if_pos, if_neg, wV_e, bnd_e, reduceIte, Int.reduceEq, Int.reduceLE, Int.reduceLT, Int.reduceAdd, Int.reduceSub, Int.reduceMul, Int.reduceNeg, h1, h4, e, hB, gd_nz, tdiv_e, tmod_e]
    · simp (disch := omega) only [f_M_spotOf, hm, b_M_spotOf_L17, O_142, gd_tt, F_142_0, F_142_13, F_142_14, F_142_15, F_142_16, F_142_17, F_142_18, F_142_19, F_142_20, F_142_21, F_142_22, F_142_23, F_142_24, F_142_25, F_142_26, F_142_27, F_142_28, F_142_31, F_142_32, F_142_33, F_142_34, F_142_35, F_142_38, F_142_41, F_142_42, F_142_43, F_142_44, F_142_45, F_142_46, F_142_47, F_142_49, F_142_50, F_142_51, F_142_52, F_142_53, F_142_54, F_142_55, F_142_57, F_142_58, F_142_62, F_142_63, F_142_64, F_142_66, F_142_67, F_142_68, F_142_69, F_142_70, F_142_71, F_142_73, F_142_74, F_142_75, F_142_76, F_142_77, F_142_78, F_142_79, A_143, A_144, A_145, A_146, A_147, A_148, A_149, A_150, A_151, A_152, A_153, A_154, A_155, A_156, A_157, A_158, A_159, A_160, A_161, A_162, A_163, A_164, A_165, A_166, A_167, A_168, A_169, A_170, A_171, A_172, A_173, A_174, A_175, A_176, A_177, A_178, A_179, A_180, A_181, A_182, A_183, A_184, A_185, A_186, A_187, A_188, A_189, A_190, A_191, A_192, A_193, A_194, A_195, A_196, A_197, gd_in, w32_id, if_pos, if_neg, wV_e, bnd_e, reduceIte, Int.reduceEq, Int.reduceLE, Int.reduceLT, Int.reduceAdd, Int.reduceSub, Int.reduceMul, Int.reduceNeg, h1, h4, e, hB, gd_nz, tdiv_e, tmod_e]
theorem mul_b {f x : Int} (hf : 0 ≤ f ∧ f ≤ 9) (hx : 0 ≤ x ∧ x ≤ 9) : 0 ≤ (f + 1) * x ∧ (f + 1) * x ≤ 90 := by
  have : f = 0 ∨ f = 1 ∨ f = 2 ∨ f = 3 ∨ f = 4 ∨ f = 5 ∨ f = 6 ∨ f = 7 ∨ f = 8 ∨ f = 9 := by omega
  rcases this with e | e | e | e | e | e | e | e | e | e <;> subst e <;> omega
theorem M_behind {G : GM} {b : Int} {V : ASt} (hG : GOK G) (h : rG G b V) {p k g : Int} (hp : 0 ≤ p) (hp2 : p < 2147483648) (hk : 0 ≤ k) (hk2 : k < qP G) (hg : 0 ≤ g ∧ g ≤ 9) : f_M_behind S0 V 142 p k g = some (beh G p k g, V) := by
  obtain ⟨m, hm⟩ := FU_s
  have hB := M_base hG h
  have hs0 := spt_r hG p 0 hp
  have hs1 := spt_r hG p 1 hp
  have hS : ∀ j, 0 ≤ j → j < qP G → f_M_spotOf S0 V 142 p j = some (spt G p j, V) := fun j a b => M_spotOf hG h hp hp2 a b
  obtain ⟨h1, h2, h3, h4, -⟩ := h
  obtain ⟨g1, g2, -⟩ := hG
  have m0 := mul_b g1 hg
  have m1 := mul_b g1 (x := spt G p 0) (by omega)
  unfold beh
  rcases P_cases g2 with e | e | e
  · omega
  · have : k = 0 := by omega
    subst this
    simp (disch := omega) only [f_M_behind, hm, b_M_behind_L6, O_142, gd_tt, F_142_0, F_142_13, F_142_14, F_142_15, F_142_16, F_142_17, F_142_18, F_142_19, F_142_20, F_142_21, F_142_22, F_142_23, F_142_24, F_142_25, F_142_26, F_142_27, F_142_28, F_142_31, F_142_32, F_142_33, F_142_34, F_142_35, F_142_38, F_142_41, F_142_42, F_142_43, F_142_44, F_142_45, F_142_46, F_142_47, F_142_49, F_142_50, F_142_51, F_142_52, F_142_53, F_142_54, F_142_55, F_142_57, F_142_58, F_142_62, F_142_63, F_142_64, F_142_66, F_142_67, F_142_68, F_142_69, F_142_70, F_142_71, F_142_73, F_142_74, F_142_75, F_142_76, F_142_77, F_142_78, F_142_79, A_143, A_144, A_145, A_146, A_147, A_148, A_149, A_150, A_151, A_152, A_153, A_154, A_155, A_156, A_157, A_158, A_159, A_160, A_161, A_162, A_163, A_164, A_165, A_166, A_167, A_168, A_169, A_170, A_171, A_172, A_173, A_174, A_175, A_176, A_177, A_178, A_179, A_180, A_181, A_182, A_183, A_184, A_185, A_186, A_187, A_188, A_189, A_190, A_191, A_192, A_193, A_194, A_195, A_196, A_197, gd_in, w32_id, if_pos, if_neg, wV_e, bnd_e, reduceIte, Int.reduceEq, Int.reduceLE, Int.reduceLT, Int.reduceAdd, Int.reduceSub, Int.reduceMul, Int.reduceNeg, h1, h4, e, hB, hS, gd_nz, tdiv_e, tmod_e, Int.mul_zero, Int.zero_add]
  · have : k = 0 ∨ k = 1 := by omega
    rcases this with e' | e' <;> subst e'
    · simp (disch := omega) only [f_M_behind, hm, b_M_behind_L6, O_142, gd_tt, F_142_0, F_142_13, F_142_14, F_142_15, F_142_16, F_142_17, F_142_18, F_142_19, F_142_20, F_142_21, F_142_22, F_142_23, F_142_24, F_142_25, F_142_26, F_142_27, F_142_28, F_142_31, F_142_32, F_142_33, F_142_34, F_142_35, F_142_38, F_142_41, F_142_42, F_142_43, F_142_44, F_142_45, F_142_46, F_142_47, F_142_49, F_142_50, F_142_51, F_142_52, F_142_53, F_142_54, F_142_55, F_142_57, F_142_58, F_142_62, F_142_63, F_142_64, F_142_66, F_142_67, F_142_68, F_142_69, F_142_70, F_142_71, F_142_73, F_142_74, F_142_75, F_142_76, F_142_77, F_142_78, F_142_79, A_143, A_144, A_145, A_146, A_147, A_148, A_149, A_150, A_151, A_152, A_153, A_154, A_155, A_156, A_157, A_158, A_159, A_160, A_161, A_162, A_163, A_164, A_165, A_166, A_167, A_168, A_169, A_170, A_171, A_172, A_173, A_174, A_175, A_176, A_177, A_178, A_179, A_180, A_181, A_182, A_183, A_184, A_185, A_186, A_187, A_188, A_189, A_190, A_191, A_192, A_193, A_194, A_195, A_196, A_197, gd_in, w32_id, if_pos, if_neg, wV_e, bnd_e, reduceIte, Int.reduceEq, Int.reduceLE, Int.reduceLT, Int.reduceAdd, Int.reduceSub, Int.reduceMul, Int.reduceNeg, h1, h4, e, hB, hS, gd_nz, tdiv_e, tmod_e, Int.mul_zero, Int.zero_add]
    · simp (disch := omega) only [f_M_behind, hm, b_M_behind_L6, O_142, gd_tt, F_142_0, F_142_13, F_142_14, F_142_15, F_142_16, F_142_17, F_142_18, F_142_19, F_142_20, F_142_21, F_142_22, F_142_23, F_142_24, F_142_25, F_142_26, F_142_27, F_142_28, F_142_31, F_142_32, F_142_33, F_142_34, F_142_35, F_142_38, F_142_41, F_142_42, F_142_43, F_142_44, F_142_45, F_142_46, F_142_47, F_142_49, F_142_50, F_142_51, F_142_52, F_142_53, F_142_54, F_142_55, F_142_57, F_142_58, F_142_62, F_142_63, F_142_64, F_142_66, F_142_67, F_142_68, F_142_69, F_142_70, F_142_71, F_142_73, F_142_74, F_142_75, F_142_76, F_142_77, F_142_78, F_142_79, A_143, A_144, A_145, A_146, A_147, A_148, A_149, A_150, A_151, A_152, A_153, A_154, A_155, A_156, A_157, A_158, A_159, A_160, A_161, A_162, A_163, A_164, A_165, A_166, A_167, A_168, A_169, A_170, A_171, A_172, A_173, A_174, A_175, A_176, A_177, A_178, A_179, A_180, A_181, A_182, A_183, A_184, A_185, A_186, A_187, A_188, A_189, A_190, A_191, A_192, A_193, A_194, A_195, A_196, A_197, gd_in, w32_id, if_pos, if_neg, wV_e, bnd_e, reduceIte, Int.reduceEq, Int.reduceLE, Int.reduceLT, Int.reduceAdd, Int.reduceSub, Int.reduceMul, Int.reduceNeg, h1, h4, e, hB, hS, gd_nz, tdiv_e, tmod_e, Int.mul_zero, Int.zero_add]
theorem M_beginning {G : GM} {b : Int} {V : ASt} (hG : GOK G) (h : rG G b V) {d : Int} (hd : 0 ≤ d) : f_M_beginning S0 V 142 d = some (beg G d, V) := by
  obtain ⟨m, hm⟩ := FU_s
  have hB := M_base hG h
  obtain ⟨h1, h2, h3, h4, -, -, h7, -⟩ := h
  obtain ⟨g1, g2, -, -, -, g6, -⟩ := hG
  unfold beg
  rcases P_cases g2 with e | e | e
  · simp (disch := omega) only [f_M_beginning, hm, b_M_beginning_L4, O_142, gd_tt, F_142_0, F_142_13, F_142_14, F_142_15, F_142_16, F_142_17, F_142_18, F_142_19, F_142_20, F_142_21, F_142_22, F_142_23, F_142_24, F_142_25, F_142_26, F_142_27, F_142_28, F_142_31, F_142_32, F_142_33, F_142_34, F_142_35, F_142_38, F_142_41, F_142_42, F_142_43, F_142_44, F_142_45, F_142_46, F_142_47, F_142_49, F_142_50, F_142_51, F_142_52, F_142_53, F_142_54, F_142_55, F_142_57, F_142_58, F_142_62, F_142_63, F_142_64, F_142_66, F_142_67, F_142_68, F_142_69, F_142_70, F_142_71, F_142_73, F_142_74, F_142_75, F_142_76, F_142_77, F_142_78, F_142_79, A_143, A_144, A_145, A_146, A_147, A_148, A_149, A_150, A_151, A_152, A_153, A_154, A_155, A_156, A_157, A_158, A_159, A_160, A_161, A_162, A_163, A_164, A_165, A_166, A_167, A_168, A_169, A_170, A_171, A_172, A_173, A_174, A_175, A_176, A_177, A_178, A_179, A_180, A_181, A_182, A_183, A_184, A_185, A_186, A_187, A_188, A_189, A_190, A_191, A_192, A_193, A_194, A_195, A_196, A_197, gd_in, w32_id, if_pos, if_neg, wV_e, bnd_e, reduceIte, Int.reduceEq, Int.reduceLE, Int.reduceLT, Int.reduceAdd, Int.reduceSub, Int.reduceMul, Int.reduceNeg, h1, h4, e, hB, tmod_e, Int.mul_zero, Int.zero_add]
  · have q := g6 0 (by omega) (by omega)
    have a := h7 0 (by omega) (by omega)
    simp (disch := omega) only [f_M_beginning, hm, b_M_beginning_L4, O_142, gd_tt, F_142_0, F_142_13, F_142_14, F_142_15, F_142_16, F_142_17, F_142_18, F_142_19, F_142_20, F_142_21, F_142_22, F_142_23, F_142_24, F_142_25, F_142_26, F_142_27, F_142_28, F_142_31, F_142_32, F_142_33, F_142_34, F_142_35, F_142_38, F_142_41, F_142_42, F_142_43, F_142_44, F_142_45, F_142_46, F_142_47, F_142_49, F_142_50, F_142_51, F_142_52, F_142_53, F_142_54, F_142_55, F_142_57, F_142_58, F_142_62, F_142_63, F_142_64, F_142_66, F_142_67, F_142_68, F_142_69, F_142_70, F_142_71, F_142_73, F_142_74, F_142_75, F_142_76, F_142_77, F_142_78, F_142_79, A_143, A_144, A_145, A_146, A_147, A_148, A_149, A_150, A_151, A_152, A_153, A_154, A_155, A_156, A_157, A_158, A_159, A_160, A_161, A_162, A_163, A_164, A_165, A_166, A_167, A_168, A_169, A_170, A_171, A_172, A_173, A_174, A_175, A_176, A_177, A_178, A_179, A_180, A_181, A_182, A_183, A_184, A_185, A_186, A_187, A_188, A_189, A_190, A_191, A_192, A_193, A_194, A_195, A_196, A_197, gd_in, w32_id, if_pos, if_neg, wV_e, bnd_e, reduceIte, Int.reduceEq, Int.reduceLE, Int.reduceLT, Int.reduceAdd, Int.reduceSub, Int.reduceMul, Int.reduceNeg, h1, h4, e, hB, tmod_e, Int.mul_zero, Int.zero_add, a.1]
  · have q := g6 0 (by omega) (by omega)
    have a := h7 0 (by omega) (by omega)
    have q1 := g6 1 (by omega) (by omega)
    have a1 := h7 1 (by omega) (by omega)
    have m1 := mul_b g1 (x := qS G 0) (by omega)
    simp (disch := omega) only [f_M_beginning, hm, b_M_beginning_L4, O_142, gd_tt, F_142_0, F_142_13, F_142_14, F_142_15, F_142_16, F_142_17, F_142_18, F_142_19, F_142_20, F_142_21, F_142_22, F_142_23, F_142_24, F_142_25, F_142_26, F_142_27, F_142_28, F_142_31, F_142_32, F_142_33, F_142_34, F_142_35, F_142_38, F_142_41, F_142_42, F_142_43, F_142_44, F_142_45, F_142_46, F_142_47, F_142_49, F_142_50, F_142_51, F_142_52, F_142_53, F_142_54, F_142_55, F_142_57, F_142_58, F_142_62, F_142_63, F_142_64, F_142_66, F_142_67, F_142_68, F_142_69, F_142_70, F_142_71, F_142_73, F_142_74, F_142_75, F_142_76, F_142_77, F_142_78, F_142_79, A_143, A_144, A_145, A_146, A_147, A_148, A_149, A_150, A_151, A_152, A_153, A_154, A_155, A_156, A_157, A_158, A_159, A_160, A_161, A_162, A_163, A_164, A_165, A_166, A_167, A_168, A_169, A_170, A_171, A_172, A_173, A_174, A_175, A_176, A_177, A_178, A_179, A_180, A_181, A_182, A_183, A_184, A_185, A_186, A_187, A_188, A_189, A_190, A_191, A_192, A_193, A_194, A_195, A_196, A_197, gd_in, w32_id, if_pos, if_neg, wV_e, bnd_e, reduceIte, Int.reduceEq, Int.reduceLE, Int.reduceLT, Int.reduceAdd, Int.reduceSub, Int.reduceMul, Int.reduceNeg, h1, h4, e, hB, tmod_e, Int.mul_zero, Int.zero_add, a.1, a1.1]
theorem M_kindNow {G : GM} {b : Int} {s : SL} {V : ASt} (hG : GOK G) (h : rG G b V) (hs : rS G s V) {r : Int} (h0 : 0 ≤ r) (hr : r < qR G) : f_M_kindNow S0 V 142 r = some (kNow G s r, V) := by
  have hT := M_told h (r := r) h0 (by have := hG.2.2.1; omega)
  obtain ⟨h1, h2, h3, h4, -, -, h7, h8⟩ := h
  obtain ⟨g1, g2, g3, -, -, g6, -⟩ := hG
  have a := h8 r h0 hr
  have c := hs r h0 hr
  unfold kNow
  by_cases t : sT s r = 0
  · simp (disch := omega) only [f_M_kindNow, hT, O_142, gd_tt, F_142_0, F_142_13, F_142_14, F_142_15, F_142_16, F_142_17, F_142_18, F_142_19, F_142_20, F_142_21, F_142_22, F_142_23, F_142_24, F_142_25, F_142_26, F_142_27, F_142_28, F_142_31, F_142_32, F_142_33, F_142_34, F_142_35, F_142_38, F_142_41, F_142_42, F_142_43, F_142_44, F_142_45, F_142_46, F_142_47, F_142_49, F_142_50, F_142_51, F_142_52, F_142_53, F_142_54, F_142_55, F_142_57, F_142_58, F_142_62, F_142_63, F_142_64, F_142_66, F_142_67, F_142_68, F_142_69, F_142_70, F_142_71, F_142_73, F_142_74, F_142_75, F_142_76, F_142_77, F_142_78, F_142_79, A_143, A_144, A_145, A_146, A_147, A_148, A_149, A_150, A_151, A_152, A_153, A_154, A_155, A_156, A_157, A_158, A_159, A_160, A_161, A_162, A_163, A_164, A_165, A_166, A_167, A_168, A_169, A_170, A_171, A_172, A_173, A_174, A_175, A_176, A_177, A_178, A_179, A_180, A_181, A_182, A_183, A_184, A_185, A_186, A_187, A_188, A_189, A_190, A_191, A_192, A_193, A_194, A_195, A_196, A_197, gd_in, w32_id, if_pos, if_neg, wV_e, bnd_e, reduceIte, Int.reduceEq, Int.reduceLE, Int.reduceLT, Int.reduceAdd, Int.reduceSub, Int.reduceMul, Int.reduceNeg, a.1, c.2.2.1, t]
  · by_cases k0 : qK G r = 0
    · simp (disch := omega) only [f_M_kindNow, hT, O_142, gd_tt, F_142_0, F_142_13, F_142_14, F_142_15, F_142_16, F_142_17, F_142_18, F_142_19, F_142_20, F_142_21, F_142_22, F_142_23, F_142_24, F_142_25, F_142_26, F_142_27, F_142_28, F_142_31, F_142_32, F_142_33, F_142_34, F_142_35, F_142_38, F_142_41, F_142_42, F_142_43, F_142_44, F_142_45, F_142_46, F_142_47, F_142_49, F_142_50, F_142_51, F_142_52, F_142_53, F_142_54, F_142_55, F_142_57, F_142_58, F_142_62, F_142_63, F_142_64, F_142_66, F_142_67, F_142_68, F_142_69, F_142_70, F_142_71, F_142_73, F_142_74, F_142_75, F_142_76, F_142_77, F_142_78, F_142_79, A_143, A_144, A_145, A_146, A_147, A_148, A_149, A_150, A_151, A_152, A_153, A_154, A_155, A_156, A_157, A_158, A_159, A_160, A_161, A_162, A_163, A_164, A_165, A_166, A_167, A_168, A_169, A_170, A_171, A_172, A_173, A_174, A_175, A_176, A_177, A_178, A_179, A_180, A_181, A_182, A_183, A_184, A_185, A_186, A_187, A_188, A_189, A_190, A_191, A_192, A_193, A_194, A_195, A_196, A_197, gd_in, w32_id, if_pos, if_neg, wV_e, bnd_e, reduceIte, Int.reduceEq, Int.reduceLE, Int.reduceLT, Int.reduceAdd, Int.reduceSub, Int.reduceMul, Int.reduceNeg, a.1, c.2.2.1, t, k0]
    · by_cases k1 : qK G r = 1
      · simp (disch := omega) only [f_M_kindNow, hT, O_142, gd_tt, F_142_0, F_142_13, F_142_14, F_142_15, F_142_16, F_142_17, F_142_18, F_142_19, F_142_20, F_142_21, F_142_22, F_142_23, F_142_24, F_142_25, F_142_26, F_142_27, F_142_28, F_142_31, F_142_32, F_142_33, F_142_34, F_142_35, F_142_38, F_142_41, F_142_42, F_142_43, F_142_44, F_142_45, F_142_46, F_142_47, F_142_49, F_142_50, F_142_51, F_142_52, F_142_53, F_142_54, F_142_55, F_142_57, F_142_58, F_142_62, F_142_63, F_142_64, F_142_66, F_142_67, F_142_68, F_142_69, F_142_70, F_142_71, F_142_73, F_142_74, F_142_75, F_142_76, F_142_77, F_142_78, F_142_79, A_143, A_144, A_145, A_146, A_147, A_148, A_149, A_150, A_151, A_152, A_153, A_154, A_155, A_156, A_157, A_158, A_159, A_160, A_161, A_162, A_163, A_164, A_165, A_166, A_167, A_168, A_169, A_170, A_171, A_172, A_173, A_174, A_175, A_176, A_177, A_178, A_179, A_180, A_181, A_182, A_183, A_184, A_185, A_186, A_187, A_188, A_189, A_190, A_191, A_192, A_193, A_194, A_195, A_196, A_197, gd_in, w32_id, if_pos, if_neg, wV_e, bnd_e, reduceIte, Int.reduceEq, Int.reduceLE, Int.reduceLT, Int.reduceAdd, Int.reduceSub, Int.reduceMul, Int.reduceNeg, a.1, c.2.2.1, t, k1]
      · by_cases k2 : qK G r = 2
        · simp (disch := omega) only [f_M_kindNow, hT, O_142, gd_tt, F_142_0, F_142_13, F_142_14, F_142_15, F_142_16, F_142_17, F_142_18, F_142_19, F_142_20, F_142_21, F_142_22, F_142_23, F_142_24, F_142_25, F_142_26, F_142_27, F_142_28, F_142_31, F_142_32, F_142_33, F_142_34, F_142_35, F_142_38, F_142_41, F_142_42, F_142_43, F_142_44, F_142_45, F_142_46, F_142_47, F_142_49, F_142_50, F_142_51, F_142_52, F_142_53, F_142_54, F_142_55, F_142_57, F_142_58, F_142_62, F_142_63, F_142_64, F_142_66, F_142_67, F_142_68, F_142_69, F_142_70, F_142_71, F_142_73, F_142_74, F_142_75, F_142_76, F_142_77, F_142_78, F_142_79, A_143, A_144, A_145, A_146, A_147, A_148, A_149, A_150, A_151, A_152, A_153, A_154, A_155, A_156, A_157, A_158, A_159, A_160, A_161, A_162, A_163, A_164, A_165, A_166, A_167, A_168, A_169, A_170, A_171, A_172, A_173, A_174, A_175, A_176, A_177, A_178, A_179, A_180, A_181, A_182, A_183, A_184, A_185, A_186, A_187, A_188, A_189, A_190, A_191, A_192, A_193, A_194, A_195, A_196, A_197, gd_in, w32_id, if_pos, if_neg, wV_e, bnd_e, reduceIte, Int.reduceEq, Int.reduceLE, Int.reduceLT, Int.reduceAdd, Int.reduceSub, Int.reduceMul, Int.reduceNeg, a.1, c.2.2.1, t, k2]
        · simp (disch := omega) only [f_M_kindNow, hT, O_142, gd_tt, F_142_0, F_142_13, F_142_14, F_142_15, F_142_16, F_142_17, F_142_18, F_142_19, F_142_20, F_142_21, F_142_22, F_142_23, F_142_24, F_142_25, F_142_26, F_142_27, F_142_28, F_142_31, F_142_32, F_142_33, F_142_34, F_142_35, F_142_38, F_142_41, F_142_42, F_142_43, F_142_44, F_142_45, F_142_46, F_142_47, F_142_49, F_142_50, F_142_51, F_142_52, F_142_53, F_142_54, F_142_55, F_142_57, F_142_58, F_142_62, F_142_63, F_142_64, F_142_66, F_142_67, F_142_68, F_142_69, F_142_70, F_142_71, F_142_73, F_142_74, F_142_75, F_142_76, F_142_77, F_142_78, F_142_79, A_143, A_144, A_145, A_146, A_147, A_148, A_149, A_150, A_151, A_152, A_153, A_154, A_155, A_156, A_157, A_158, A_159, A_160, A_161, A_162, A_163, A_164, A_165, A_166, A_167, A_168, A_169, A_170, A_171, A_172, A_173, A_174, A_175, A_176, A_177, A_178, A_179, A_180, A_181, A_182, A_183, A_184, A_185, A_186, A_187, A_188, A_189, A_190, A_191, A_192, A_193, A_194, A_195, A_196, A_197, gd_in, w32_id, if_pos, if_neg, wV_e, bnd_e, reduceIte, Int.reduceEq, Int.reduceLE, Int.reduceLT, Int.reduceAdd, Int.reduceSub, Int.reduceMul, Int.reduceNeg, a.1, c.2.2.1, t, k0, k1, k2]
theorem M_goalOf {G : GM} {b : Int} {s : SL} {V : ASt} (hG : GOK G) (hs' : SOK G s) (h : rG G b V) (hs : rS G s V) {r x : Int} (h0 : 0 ≤ r) (hr : r < qR G) (hx : 0 ≤ x ∧ x ≤ 9) : f_M_goalOf S0 V 142 r x = some (goalQ G s r x, V) := by
  have hT := M_told h (r := r) h0 (by have := hG.2.2.1; omega)
  obtain ⟨h1, h2, h3, h4, -, -, h7, h8⟩ := h
  have a := h8 r h0 hr
  have c := hs r h0 hr
  have n := hs'.2.2 r h0 hr
  obtain ⟨g1, g2, g3, -, -, g6, -⟩ := hG
  have hn : 0 ≤ sN s r ∧ sN s r ≤ 3 := by
    by_cases hh : hasN G r
    · have := n.2.2.1 hh; omega
    · have := n.2.2.2 hh; omega
  unfold goalQ fOr
  by_cases w2 : qW G r = 2
  · simp (disch := omega) only [f_M_goalOf, hT, O_142, gd_tt, F_142_0, F_142_13, F_142_14, F_142_15, F_142_16, F_142_17, F_142_18, F_142_19, F_142_20, F_142_21, F_142_22, F_142_23, F_142_24, F_142_25, F_142_26, F_142_27, F_142_28, F_142_31, F_142_32, F_142_33, F_142_34, F_142_35, F_142_38, F_142_41, F_142_42, F_142_43, F_142_44, F_142_45, F_142_46, F_142_47, F_142_49, F_142_50, F_142_51, F_142_52, F_142_53, F_142_54, F_142_55, F_142_57, F_142_58, F_142_62, F_142_63, F_142_64, F_142_66, F_142_67, F_142_68, F_142_69, F_142_70, F_142_71, F_142_73, F_142_74, F_142_75, F_142_76, F_142_77, F_142_78, F_142_79, A_143, A_144, A_145, A_146, A_147, A_148, A_149, A_150, A_151, A_152, A_153, A_154, A_155, A_156, A_157, A_158, A_159, A_160, A_161, A_162, A_163, A_164, A_165, A_166, A_167, A_168, A_169, A_170, A_171, A_172, A_173, A_174, A_175, A_176, A_177, A_178, A_179, A_180, A_181, A_182, A_183, A_184, A_185, A_186, A_187, A_188, A_189, A_190, A_191, A_192, A_193, A_194, A_195, A_196, A_197, gd_in, w32_id, if_pos, if_neg, wV_e, bnd_e, reduceIte, Int.reduceEq, Int.reduceLE, Int.reduceLT, Int.reduceAdd, Int.reduceSub, Int.reduceMul, Int.reduceNeg, a.2.2.1, w2, h1, h3]
  · by_cases w0 : qW G r = 0
    · by_cases q : 0 ≤ x + sN s r ∧ x + sN s r < qF G
      · simp (disch := omega) only [f_M_goalOf, hT, O_142, gd_tt, F_142_0, F_142_13, F_142_14, F_142_15, F_142_16, F_142_17, F_142_18, F_142_19, F_142_20, F_142_21, F_142_22, F_142_23, F_142_24, F_142_25, F_142_26, F_142_27, F_142_28, F_142_31, F_142_32, F_142_33, F_142_34, F_142_35, F_142_38, F_142_41, F_142_42, F_142_43, F_142_44, F_142_45, F_142_46, F_142_47, F_142_49, F_142_50, F_142_51, F_142_52, F_142_53, F_142_54, F_142_55, F_142_57, F_142_58, F_142_62, F_142_63, F_142_64, F_142_66, F_142_67, F_142_68, F_142_69, F_142_70, F_142_71, F_142_73, F_142_74, F_142_75, F_142_76, F_142_77, F_142_78, F_142_79, A_143, A_144, A_145, A_146, A_147, A_148, A_149, A_150, A_151, A_152, A_153, A_154, A_155, A_156, A_157, A_158, A_159, A_160, A_161, A_162, A_163, A_164, A_165, A_166, A_167, A_168, A_169, A_170, A_171, A_172, A_173, A_174, A_175, A_176, A_177, A_178, A_179, A_180, A_181, A_182, A_183, A_184, A_185, A_186, A_187, A_188, A_189, A_190, A_191, A_192, A_193, A_194, A_195, A_196, A_197, gd_in, w32_id, if_pos, if_neg, wV_e, bnd_e, reduceIte, Int.reduceEq, Int.reduceLE, Int.reduceLT, Int.reduceAdd, Int.reduceSub, Int.reduceMul, Int.reduceNeg, a.2.2.1, w0, h1, h3, c.2.2.2, b_M_goalOf_J49, M_is]
      · simp (disch := omega) only [f_M_goalOf, hT, O_142, gd_tt, F_142_0, F_142_13, F_142_14, F_142_15, F_142_16, F_142_17, F_142_18, F_142_19, F_142_20, F_142_21, F_142_22, F_142_23, F_142_24, F_142_25, F_142_26, F_142_27, F_142_28, F_142_31, F_142_32, F_142_33, F_142_34, F_142_35, F_142_38, F_142_41, F_142_42, F_142_43, F_142_44, F_142_45, F_142_46, F_142_47, F_142_49, F_142_50, F_142_51, F_142_52, F_142_53, F_142_54, F_142_55, F_142_57, F_142_58, F_142_62, F_142_63, F_142_64, F_142_66, F_142_67, F_142_68, F_142_69, F_142_70, F_142_71, F_142_73, F_142_74, F_142_75, F_142_76, F_142_77, F_142_78, F_142_79, A_143, A_144, A_145, A_146, A_147, A_148, A_149, A_150, A_151, A_152, A_153, A_154, A_155, A_156, A_157, A_158, A_159, A_160, A_161, A_162, A_163, A_164, A_165, A_166, A_167, A_168, A_169, A_170, A_171, A_172, A_173, A_174, A_175, A_176, A_177, A_178, A_179, A_180, A_181, A_182, A_183, A_184, A_185, A_186, A_187, A_188, A_189, A_190, A_191, A_192, A_193, A_194, A_195, A_196, A_197, gd_in, w32_id, if_pos, if_neg, wV_e, bnd_e, reduceIte, Int.reduceEq, Int.reduceLE, Int.reduceLT, Int.reduceAdd, Int.reduceSub, Int.reduceMul, Int.reduceNeg, a.2.2.1, w0, h1, h3, c.2.2.2, b_M_goalOf_J49, M_is]
    · by_cases q : 0 ≤ x - sN s r ∧ x - sN s r < qF G
      · simp (disch := omega) only [f_M_goalOf, hT, O_142, gd_tt, F_142_0, F_142_13, F_142_14, F_142_15, F_142_16, F_142_17, F_142_18, F_142_19, F_142_20, F_142_21, F_142_22, F_142_23, F_142_24, F_142_25, F_142_26, F_142_27, F_142_28, F_142_31, F_142_32, F_142_33, F_142_34, F_142_35, F_142_38, F_142_41, F_142_42, F_142_43, F_142_44, F_142_45, F_142_46, F_142_47, F_142_49, F_142_50, F_142_51, F_142_52, F_142_53, F_142_54, F_142_55, F_142_57, F_142_58, F_142_62, F_142_63, F_142_64, F_142_66, F_142_67, F_142_68, F_142_69, F_142_70, F_142_71, F_142_73, F_142_74, F_142_75, F_142_76, F_142_77, F_142_78, F_142_79, A_143, A_144, A_145, A_146, A_147, A_148, A_149, A_150, A_151, A_152, A_153, A_154, A_155, A_156, A_157, A_158, A_159, A_160, A_161, A_162, A_163, A_164, A_165, A_166, A_167, A_168, A_169, A_170, A_171, A_172, A_173, A_174, A_175, A_176, A_177, A_178, A_179, A_180, A_181, A_182, A_183, A_184, A_185, A_186, A_187, A_188, A_189, A_190, A_191, A_192, A_193, A_194, A_195, A_196, A_197, gd_in, w32_id, if_pos, if_neg, wV_e, bnd_e, reduceIte, Int.reduceEq, Int.reduceLE, Int.reduceLT, Int.reduceAdd, Int.reduceSub, Int.reduceMul, Int.reduceNeg, a.2.2.1, w2, w0, h1, h3, c.2.2.2, b_M_goalOf_J49, M_is]
      · simp (disch := omega) only [f_M_goalOf, hT, O_142, gd_tt, F_142_0, F_142_13, F_142_14, F_142_15, F_142_16, F_142_17, F_142_18, F_142_19, F_142_20, F_142_21, F_142_22, F_142_23, F_142_24, F_142_25, F_142_26, F_142_27, F_142_28, F_142_31, F_142_32, F_142_33, F_142_34, F_142_35, F_142_38, F_142_41, F_142_42, F_142_43, F_142_44, F_142_45, F_142_46, F_142_47, F_142_49, F_142_50, F_142_51, F_142_52, F_142_53, F_142_54, F_142_55, F_142_57, F_142_58, F_142_62, F_142_63, F_142_64, F_142_66, F_142_67, F_142_68, F_142_69, F_142_70, F_142_71, F_142_73, F_142_74, F_142_75, F_142_76, F_142_77, F_142_78, F_142_79, A_143, A_144, A_145, A_146, A_147, A_148, A_149, A_150, A_151, A_152, A_153, A_154, A_155, A_156, A_157, A_158, A_159, A_160, A_161, A_162, A_163, A_164, A_165, A_166, A_167, A_168, A_169, A_170, A_171, A_172, A_173, A_174, A_175, A_176, A_177, A_178, A_179, A_180, A_181, A_182, A_183, A_184, A_185, A_186, A_187, A_188, A_189, A_190, A_191, A_192, A_193, A_194, A_195, A_196, A_197, gd_in, w32_id, if_pos, if_neg, wV_e, bnd_e, reduceIte, Int.reduceEq, Int.reduceLE, Int.reduceLT, Int.reduceAdd, Int.reduceSub, Int.reduceMul, Int.reduceNeg, a.2.2.1, w2, w0, h1, h3, c.2.2.2, b_M_goalOf_J49, M_is]
