abbrev b_MM_parse : ByteArray := prog_14_method_40_code
def y_MM_parse : MethodName := ⟨"ClauseProverModel", "parse", "()V"⟩
theorem d_MM_parse_0 : decode b_MM_parse 0 = .ok (.aload_n 0, 1) := by decide +kernel
theorem d_MM_parse_1 : decode b_MM_parse 1 = .ok (.iconst 0, 1) := by decide +kernel
theorem d_MM_parse_2 : decode b_MM_parse 2 = .ok (.putfield 33, 3) := by decide +kernel
theorem d_MM_parse_5 : decode b_MM_parse 5 = .ok (.aload_n 0, 1) := by decide +kernel
theorem d_MM_parse_6 : decode b_MM_parse 6 = .ok (.iconst 0, 1) := by decide +kernel
theorem d_MM_parse_7 : decode b_MM_parse 7 = .ok (.putfield 49, 3) := by decide +kernel
theorem d_MM_parse_10 : decode b_MM_parse 10 = .ok (.aload_n 0, 1) := by decide +kernel
theorem d_MM_parse_11 : decode b_MM_parse 11 = .ok (.iconst 0, 1) := by decide +kernel
theorem d_MM_parse_12 : decode b_MM_parse 12 = .ok (.putfield 45, 3) := by decide +kernel
theorem d_MM_parse_15 : decode b_MM_parse 15 = .ok (.aload_n 0, 1) := by decide +kernel
theorem d_MM_parse_16 : decode b_MM_parse 16 = .ok (.invokevirtual 422, 3) := by decide +kernel
theorem d_MM_parse_19 : decode b_MM_parse 19 = .ok (.ifCond .eq 241, 3) := by decide +kernel
theorem d_MM_parse_22 : decode b_MM_parse 22 = .ok (.aload_n 0, 1) := by decide +kernel
theorem d_MM_parse_23 : decode b_MM_parse 23 = .ok (.getfield 166, 3) := by decide +kernel
theorem d_MM_parse_26 : decode b_MM_parse 26 = .ok (.aload_n 0, 1) := by decide +kernel
theorem d_MM_parse_27 : decode b_MM_parse 27 = .ok (.getfield 181, 3) := by decide +kernel
theorem d_MM_parse_30 : decode b_MM_parse 30 = .ok (.aload_n 0, 1) := by decide +kernel
theorem d_MM_parse_31 : decode b_MM_parse 31 = .ok (.getfield 39, 3) := by decide +kernel
theorem d_MM_parse_34 : decode b_MM_parse 34 = .ok (.iastore, 1) := by decide +kernel
theorem d_MM_parse_35 : decode b_MM_parse 35 = .ok (.aload_n 0, 1) := by decide +kernel
theorem d_MM_parse_36 : decode b_MM_parse 36 = .ok (.iconst 0, 1) := by decide +kernel
theorem d_MM_parse_37 : decode b_MM_parse 37 = .ok (.putfield 99, 3) := by decide +kernel
theorem d_MM_parse_40 : decode b_MM_parse 40 = .ok (.aload_n 0, 1) := by decide +kernel
theorem d_MM_parse_41 : decode b_MM_parse 41 = .ok (.iconst 0, 1) := by decide +kernel
theorem d_MM_parse_42 : decode b_MM_parse 42 = .ok (.putfield 102, 3) := by decide +kernel
theorem d_MM_parse_45 : decode b_MM_parse 45 = .ok (.aload_n 0, 1) := by decide +kernel
theorem d_MM_parse_46 : decode b_MM_parse 46 = .ok (.getfield 36, 3) := by decide +kernel
theorem d_MM_parse_49 : decode b_MM_parse 49 = .ok (.iconst 2, 1) := by decide +kernel
theorem d_MM_parse_50 : decode b_MM_parse 50 = .ok (.if_icmp .ne 93, 3) := by decide +kernel
theorem d_MM_parse_53 : decode b_MM_parse 53 = .ok (.aload_n 0, 1) := by decide +kernel
theorem d_MM_parse_54 : decode b_MM_parse 54 = .ok (.getfield 42, 3) := by decide +kernel
theorem d_MM_parse_57 : decode b_MM_parse 57 = .ok (.aload_n 0, 1) := by decide +kernel
theorem d_MM_parse_58 : decode b_MM_parse 58 = .ok (.getfield 39, 3) := by decide +kernel
theorem d_MM_parse_61 : decode b_MM_parse 61 = .ok (.isub, 1) := by decide +kernel
theorem d_MM_parse_62 : decode b_MM_parse 62 = .ok (.iconst 5, 1) := by decide +kernel
theorem d_MM_parse_63 : decode b_MM_parse 63 = .ok (.if_icmp .ne 80, 3) := by decide +kernel
theorem d_MM_parse_66 : decode b_MM_parse 66 = .ok (.aload_n 0, 1) := by decide +kernel
theorem d_MM_parse_67 : decode b_MM_parse 67 = .ok (.aload_n 0, 1) := by decide +kernel
theorem d_MM_parse_68 : decode b_MM_parse 68 = .ok (.getfield 39, 3) := by decide +kernel
theorem d_MM_parse_71 : decode b_MM_parse 71 = .ok (.bipush 112, 2) := by decide +kernel
theorem d_MM_parse_73 : decode b_MM_parse 73 = .ok (.invokevirtual 419, 3) := by decide +kernel
theorem d_MM_parse_76 : decode b_MM_parse 76 = .ok (.ifCond .eq 67, 3) := by decide +kernel
theorem d_MM_parse_79 : decode b_MM_parse 79 = .ok (.aload_n 0, 1) := by decide +kernel
theorem d_MM_parse_80 : decode b_MM_parse 80 = .ok (.aload_n 0, 1) := by decide +kernel
theorem d_MM_parse_81 : decode b_MM_parse 81 = .ok (.getfield 39, 3) := by decide +kernel
theorem d_MM_parse_84 : decode b_MM_parse 84 = .ok (.iconst 1, 1) := by decide +kernel
theorem d_MM_parse_85 : decode b_MM_parse 85 = .ok (.iadd, 1) := by decide +kernel
theorem d_MM_parse_86 : decode b_MM_parse 86 = .ok (.bipush 114, 2) := by decide +kernel
theorem d_MM_parse_88 : decode b_MM_parse 88 = .ok (.invokevirtual 419, 3) := by decide +kernel
theorem d_MM_parse_91 : decode b_MM_parse 91 = .ok (.ifCond .eq 52, 3) := by decide +kernel
theorem d_MM_parse_94 : decode b_MM_parse 94 = .ok (.aload_n 0, 1) := by decide +kernel
theorem d_MM_parse_95 : decode b_MM_parse 95 = .ok (.aload_n 0, 1) := by decide +kernel
theorem d_MM_parse_96 : decode b_MM_parse 96 = .ok (.getfield 39, 3) := by decide +kernel
theorem d_MM_parse_99 : decode b_MM_parse 99 = .ok (.iconst 2, 1) := by decide +kernel
theorem d_MM_parse_100 : decode b_MM_parse 100 = .ok (.iadd, 1) := by decide +kernel
theorem d_MM_parse_101 : decode b_MM_parse 101 = .ok (.bipush 111, 2) := by decide +kernel
theorem d_MM_parse_103 : decode b_MM_parse 103 = .ok (.invokevirtual 419, 3) := by decide +kernel
theorem d_MM_parse_106 : decode b_MM_parse 106 = .ok (.ifCond .eq 37, 3) := by decide +kernel
theorem d_MM_parse_109 : decode b_MM_parse 109 = .ok (.aload_n 0, 1) := by decide +kernel
theorem d_MM_parse_110 : decode b_MM_parse 110 = .ok (.aload_n 0, 1) := by decide +kernel
theorem d_MM_parse_111 : decode b_MM_parse 111 = .ok (.getfield 39, 3) := by decide +kernel
theorem d_MM_parse_114 : decode b_MM_parse 114 = .ok (.iconst 3, 1) := by decide +kernel
theorem d_MM_parse_115 : decode b_MM_parse 115 = .ok (.iadd, 1) := by decide +kernel
theorem d_MM_parse_116 : decode b_MM_parse 116 = .ok (.bipush 118, 2) := by decide +kernel
theorem d_MM_parse_118 : decode b_MM_parse 118 = .ok (.invokevirtual 419, 3) := by decide +kernel
theorem d_MM_parse_121 : decode b_MM_parse 121 = .ok (.ifCond .eq 22, 3) := by decide +kernel
theorem d_MM_parse_124 : decode b_MM_parse 124 = .ok (.aload_n 0, 1) := by decide +kernel
theorem d_MM_parse_125 : decode b_MM_parse 125 = .ok (.aload_n 0, 1) := by decide +kernel
theorem d_MM_parse_126 : decode b_MM_parse 126 = .ok (.getfield 39, 3) := by decide +kernel
theorem d_MM_parse_129 : decode b_MM_parse 129 = .ok (.iconst 4, 1) := by decide +kernel
theorem d_MM_parse_130 : decode b_MM_parse 130 = .ok (.iadd, 1) := by decide +kernel
theorem d_MM_parse_131 : decode b_MM_parse 131 = .ok (.bipush 101, 2) := by decide +kernel
theorem d_MM_parse_133 : decode b_MM_parse 133 = .ok (.invokevirtual 419, 3) := by decide +kernel
theorem d_MM_parse_136 : decode b_MM_parse 136 = .ok (.ifCond .eq 7, 3) := by decide +kernel
theorem d_MM_parse_139 : decode b_MM_parse 139 = .ok (.iconst 1, 1) := by decide +kernel
theorem d_MM_parse_140 : decode b_MM_parse 140 = .ok (.goto 4, 3) := by decide +kernel
theorem d_MM_parse_143 : decode b_MM_parse 143 = .ok (.iconst 0, 1) := by decide +kernel
theorem d_MM_parse_144 : decode b_MM_parse 144 = .ok (.istore_n 1, 1) := by decide +kernel
theorem d_MM_parse_145 : decode b_MM_parse 145 = .ok (.iload_n 1, 1) := by decide +kernel
theorem d_MM_parse_146 : decode b_MM_parse 146 = .ok (.ifCond .eq 7, 3) := by decide +kernel
theorem d_MM_parse_149 : decode b_MM_parse 149 = .ok (.aload_n 0, 1) := by decide +kernel
theorem d_MM_parse_150 : decode b_MM_parse 150 = .ok (.invokevirtual 435, 3) := by decide +kernel
theorem d_MM_parse_153 : decode b_MM_parse 153 = .ok (.aload_n 0, 1) := by decide +kernel
theorem d_MM_parse_154 : decode b_MM_parse 154 = .ok (.getfield 187, 3) := by decide +kernel
theorem d_MM_parse_157 : decode b_MM_parse 157 = .ok (.aload_n 0, 1) := by decide +kernel
theorem d_MM_parse_158 : decode b_MM_parse 158 = .ok (.getfield 181, 3) := by decide +kernel
theorem d_MM_parse_161 : decode b_MM_parse 161 = .ok (.iload_n 1, 1) := by decide +kernel
theorem d_MM_parse_162 : decode b_MM_parse 162 = .ok (.bastore, 1) := by decide +kernel
theorem d_MM_parse_163 : decode b_MM_parse 163 = .ok (.aload_n 0, 1) := by decide +kernel
theorem d_MM_parse_164 : decode b_MM_parse 164 = .ok (.getfield 169, 3) := by decide +kernel
theorem d_MM_parse_167 : decode b_MM_parse 167 = .ok (.aload_n 0, 1) := by decide +kernel
theorem d_MM_parse_168 : decode b_MM_parse 168 = .ok (.getfield 181, 3) := by decide +kernel
theorem d_MM_parse_171 : decode b_MM_parse 171 = .ok (.aload_n 0, 1) := by decide +kernel
theorem d_MM_parse_172 : decode b_MM_parse 172 = .ok (.iconst 0, 1) := by decide +kernel
theorem d_MM_parse_173 : decode b_MM_parse 173 = .ok (.invokevirtual 476, 3) := by decide +kernel
theorem d_MM_parse_176 : decode b_MM_parse 176 = .ok (.iastore, 1) := by decide +kernel
theorem d_MM_parse_177 : decode b_MM_parse 177 = .ok (.aload_n 0, 1) := by decide +kernel
theorem d_MM_parse_178 : decode b_MM_parse 178 = .ok (.bipush 46, 2) := by decide +kernel
theorem d_MM_parse_180 : decode b_MM_parse 180 = .ok (.invokevirtual 479, 3) := by decide +kernel
theorem d_MM_parse_183 : decode b_MM_parse 183 = .ok (.aload_n 0, 1) := by decide +kernel
theorem d_MM_parse_184 : decode b_MM_parse 184 = .ok (.getfield 172, 3) := by decide +kernel
theorem d_MM_parse_187 : decode b_MM_parse 187 = .ok (.aload_n 0, 1) := by decide +kernel
theorem d_MM_parse_188 : decode b_MM_parse 188 = .ok (.getfield 181, 3) := by decide +kernel
theorem d_MM_parse_191 : decode b_MM_parse 191 = .ok (.aload_n 0, 1) := by decide +kernel
theorem d_MM_parse_192 : decode b_MM_parse 192 = .ok (.getfield 184, 3) := by decide +kernel
theorem d_MM_parse_195 : decode b_MM_parse 195 = .ok (.iastore, 1) := by decide +kernel
theorem d_MM_parse_196 : decode b_MM_parse 196 = .ok (.aload_n 0, 1) := by decide +kernel
theorem d_MM_parse_197 : decode b_MM_parse 197 = .ok (.getfield 175, 3) := by decide +kernel
theorem d_MM_parse_200 : decode b_MM_parse 200 = .ok (.aload_n 0, 1) := by decide +kernel
theorem d_MM_parse_201 : decode b_MM_parse 201 = .ok (.getfield 181, 3) := by decide +kernel
theorem d_MM_parse_204 : decode b_MM_parse 204 = .ok (.aload_n 0, 1) := by decide +kernel
theorem d_MM_parse_205 : decode b_MM_parse 205 = .ok (.getfield 102, 3) := by decide +kernel
theorem d_MM_parse_208 : decode b_MM_parse 208 = .ok (.iastore, 1) := by decide +kernel
theorem d_MM_parse_209 : decode b_MM_parse 209 = .ok (.iconst 0, 1) := by decide +kernel
theorem d_MM_parse_210 : decode b_MM_parse 210 = .ok (.istore_n 2, 1) := by decide +kernel
theorem d_MM_parse_211 : decode b_MM_parse 211 = .ok (.iload_n 2, 1) := by decide +kernel
theorem d_MM_parse_212 : decode b_MM_parse 212 = .ok (.aload_n 0, 1) := by decide +kernel
theorem d_MM_parse_213 : decode b_MM_parse 213 = .ok (.getfield 102, 3) := by decide +kernel
theorem d_MM_parse_216 : decode b_MM_parse 216 = .ok (.if_icmp .ge 31, 3) := by decide +kernel
theorem d_MM_parse_219 : decode b_MM_parse 219 = .ok (.aload_n 0, 1) := by decide +kernel
theorem d_MM_parse_220 : decode b_MM_parse 220 = .ok (.getfield 178, 3) := by decide +kernel
theorem d_MM_parse_223 : decode b_MM_parse 223 = .ok (.aload_n 0, 1) := by decide +kernel
theorem d_MM_parse_224 : decode b_MM_parse 224 = .ok (.dup, 1) := by decide +kernel
theorem d_MM_parse_225 : decode b_MM_parse 225 = .ok (.getfield 184, 3) := by decide +kernel
theorem d_MM_parse_228 : decode b_MM_parse 228 = .ok (.dup_x1, 1) := by decide +kernel
theorem d_MM_parse_229 : decode b_MM_parse 229 = .ok (.iconst 1, 1) := by decide +kernel
theorem d_MM_parse_230 : decode b_MM_parse 230 = .ok (.iadd, 1) := by decide +kernel
theorem d_MM_parse_231 : decode b_MM_parse 231 = .ok (.putfield 184, 3) := by decide +kernel
theorem d_MM_parse_234 : decode b_MM_parse 234 = .ok (.aload_n 0, 1) := by decide +kernel
theorem d_MM_parse_235 : decode b_MM_parse 235 = .ok (.getfield 96, 3) := by decide +kernel
theorem d_MM_parse_238 : decode b_MM_parse 238 = .ok (.iload_n 2, 1) := by decide +kernel
theorem d_MM_parse_239 : decode b_MM_parse 239 = .ok (.iaload, 1) := by decide +kernel
theorem d_MM_parse_240 : decode b_MM_parse 240 = .ok (.iastore, 1) := by decide +kernel
theorem d_MM_parse_241 : decode b_MM_parse 241 = .ok (.iinc 2 1, 3) := by decide +kernel
theorem d_MM_parse_244 : decode b_MM_parse 244 = .ok (.goto (-33), 3) := by decide +kernel
theorem d_MM_parse_247 : decode b_MM_parse 247 = .ok (.aload_n 0, 1) := by decide +kernel
theorem d_MM_parse_248 : decode b_MM_parse 248 = .ok (.dup, 1) := by decide +kernel
theorem d_MM_parse_249 : decode b_MM_parse 249 = .ok (.getfield 181, 3) := by decide +kernel
theorem d_MM_parse_252 : decode b_MM_parse 252 = .ok (.iconst 1, 1) := by decide +kernel
theorem d_MM_parse_253 : decode b_MM_parse 253 = .ok (.iadd, 1) := by decide +kernel
theorem d_MM_parse_254 : decode b_MM_parse 254 = .ok (.putfield 181, 3) := by decide +kernel
theorem d_MM_parse_257 : decode b_MM_parse 257 = .ok (.goto (-242), 3) := by decide +kernel
theorem d_MM_parse_260 : decode b_MM_parse 260 = .ok (.return_, 1) := by decide +kernel
abbrev b_MM_formula : ByteArray := prog_14_method_24_code
def y_MM_formula : MethodName := ⟨"ClauseProverModel", "formula", "(I)I"⟩
theorem d_MM_formula_0 : decode b_MM_formula 0 = .ok (.aload_n 0, 1) := by decide +kernel
theorem d_MM_formula_1 : decode b_MM_formula 1 = .ok (.iload_n 1, 1) := by decide +kernel
theorem d_MM_formula_2 : decode b_MM_formula 2 = .ok (.invokevirtual 454, 3) := by decide +kernel
theorem d_MM_formula_5 : decode b_MM_formula 5 = .ok (.istore_n 2, 1) := by decide +kernel
theorem d_MM_formula_6 : decode b_MM_formula 6 = .ok (.aload_n 0, 1) := by decide +kernel
theorem d_MM_formula_7 : decode b_MM_formula 7 = .ok (.invokevirtual 422, 3) := by decide +kernel
theorem d_MM_formula_10 : decode b_MM_formula 10 = .ok (.sipush 302, 3) := by decide +kernel
theorem d_MM_formula_13 : decode b_MM_formula 13 = .ok (.if_icmp .eq 5, 3) := by decide +kernel
theorem d_MM_formula_16 : decode b_MM_formula 16 = .ok (.iload_n 2, 1) := by decide +kernel
theorem d_MM_formula_17 : decode b_MM_formula 17 = .ok (.ireturn, 1) := by decide +kernel
theorem d_MM_formula_18 : decode b_MM_formula 18 = .ok (.aload_n 0, 1) := by decide +kernel
theorem d_MM_formula_19 : decode b_MM_formula 19 = .ok (.invokevirtual 435, 3) := by decide +kernel
theorem d_MM_formula_22 : decode b_MM_formula 22 = .ok (.aload_n 0, 1) := by decide +kernel
theorem d_MM_formula_23 : decode b_MM_formula 23 = .ok (.iload_n 1, 1) := by decide +kernel
theorem d_MM_formula_24 : decode b_MM_formula 24 = .ok (.invokevirtual 454, 3) := by decide +kernel
theorem d_MM_formula_27 : decode b_MM_formula 27 = .ok (.istore_n 3, 1) := by decide +kernel
theorem d_MM_formula_28 : decode b_MM_formula 28 = .ok (.aload_n 0, 1) := by decide +kernel
theorem d_MM_formula_29 : decode b_MM_formula 29 = .ok (.iconst 5, 1) := by decide +kernel
theorem d_MM_formula_30 : decode b_MM_formula 30 = .ok (.iload_n 2, 1) := by decide +kernel
theorem d_MM_formula_31 : decode b_MM_formula 31 = .ok (.iload_n 3, 1) := by decide +kernel
theorem d_MM_formula_32 : decode b_MM_formula 32 = .ok (.invokevirtual 457, 3) := by decide +kernel
theorem d_MM_formula_35 : decode b_MM_formula 35 = .ok (.ireturn, 1) := by decide +kernel
abbrev b_MM_implication : ByteArray := prog_14_method_25_code
def y_MM_implication : MethodName := ⟨"ClauseProverModel", "implication", "(I)I"⟩
theorem d_MM_implication_0 : decode b_MM_implication 0 = .ok (.aload_n 0, 1) := by decide +kernel
theorem d_MM_implication_1 : decode b_MM_implication 1 = .ok (.iload_n 1, 1) := by decide +kernel
theorem d_MM_implication_2 : decode b_MM_implication 2 = .ok (.invokevirtual 461, 3) := by decide +kernel
theorem d_MM_implication_5 : decode b_MM_implication 5 = .ok (.istore_n 2, 1) := by decide +kernel
theorem d_MM_implication_6 : decode b_MM_implication 6 = .ok (.aload_n 0, 1) := by decide +kernel
theorem d_MM_implication_7 : decode b_MM_implication 7 = .ok (.invokevirtual 422, 3) := by decide +kernel
theorem d_MM_implication_10 : decode b_MM_implication 10 = .ok (.sipush 301, 3) := by decide +kernel
theorem d_MM_implication_13 : decode b_MM_implication 13 = .ok (.if_icmp .eq 5, 3) := by decide +kernel
theorem d_MM_implication_16 : decode b_MM_implication 16 = .ok (.iload_n 2, 1) := by decide +kernel
theorem d_MM_implication_17 : decode b_MM_implication 17 = .ok (.ireturn, 1) := by decide +kernel
theorem d_MM_implication_18 : decode b_MM_implication 18 = .ok (.aload_n 0, 1) := by decide +kernel
theorem d_MM_implication_19 : decode b_MM_implication 19 = .ok (.invokevirtual 435, 3) := by decide +kernel
theorem d_MM_implication_22 : decode b_MM_implication 22 = .ok (.aload_n 0, 1) := by decide +kernel
theorem d_MM_implication_23 : decode b_MM_implication 23 = .ok (.aload_n 0, 1) := by decide +kernel
theorem d_MM_implication_24 : decode b_MM_implication 24 = .ok (.iload_n 1, 1) := by decide +kernel
theorem d_MM_implication_25 : decode b_MM_implication 25 = .ok (.invokevirtual 464, 3) := by decide +kernel
theorem d_MM_implication_28 : decode b_MM_implication 28 = .ok (.invokevirtual 454, 3) := by decide +kernel
theorem d_MM_implication_31 : decode b_MM_implication 31 = .ok (.istore_n 3, 1) := by decide +kernel
theorem d_MM_implication_32 : decode b_MM_implication 32 = .ok (.aload_n 0, 1) := by decide +kernel
theorem d_MM_implication_33 : decode b_MM_implication 33 = .ok (.iconst 4, 1) := by decide +kernel
theorem d_MM_implication_34 : decode b_MM_implication 34 = .ok (.iload_n 2, 1) := by decide +kernel
theorem d_MM_implication_35 : decode b_MM_implication 35 = .ok (.iload_n 3, 1) := by decide +kernel
theorem d_MM_implication_36 : decode b_MM_implication 36 = .ok (.invokevirtual 457, 3) := by decide +kernel
theorem d_MM_implication_39 : decode b_MM_implication 39 = .ok (.ireturn, 1) := by decide +kernel
abbrev b_MM_choice : ByteArray := prog_14_method_26_code
def y_MM_choice : MethodName := ⟨"ClauseProverModel", "choice", "(I)I"⟩
theorem d_MM_choice_0 : decode b_MM_choice 0 = .ok (.aload_n 0, 1) := by decide +kernel
theorem d_MM_choice_1 : decode b_MM_choice 1 = .ok (.iload_n 1, 1) := by decide +kernel
theorem d_MM_choice_2 : decode b_MM_choice 2 = .ok (.invokevirtual 467, 3) := by decide +kernel
theorem d_MM_choice_5 : decode b_MM_choice 5 = .ok (.istore_n 2, 1) := by decide +kernel
theorem d_MM_choice_6 : decode b_MM_choice 6 = .ok (.aload_n 0, 1) := by decide +kernel
theorem d_MM_choice_7 : decode b_MM_choice 7 = .ok (.invokevirtual 422, 3) := by decide +kernel
theorem d_MM_choice_10 : decode b_MM_choice 10 = .ok (.bipush 124, 2) := by decide +kernel
theorem d_MM_choice_12 : decode b_MM_choice 12 = .ok (.if_icmp .ne 24, 3) := by decide +kernel
theorem d_MM_choice_15 : decode b_MM_choice 15 = .ok (.aload_n 0, 1) := by decide +kernel
theorem d_MM_choice_16 : decode b_MM_choice 16 = .ok (.invokevirtual 435, 3) := by decide +kernel
theorem d_MM_choice_19 : decode b_MM_choice 19 = .ok (.aload_n 0, 1) := by decide +kernel
theorem d_MM_choice_20 : decode b_MM_choice 20 = .ok (.iload_n 1, 1) := by decide +kernel
theorem d_MM_choice_21 : decode b_MM_choice 21 = .ok (.invokevirtual 467, 3) := by decide +kernel
theorem d_MM_choice_24 : decode b_MM_choice 24 = .ok (.istore_n 3, 1) := by decide +kernel
theorem d_MM_choice_25 : decode b_MM_choice 25 = .ok (.aload_n 0, 1) := by decide +kernel
theorem d_MM_choice_26 : decode b_MM_choice 26 = .ok (.iconst 3, 1) := by decide +kernel
theorem d_MM_choice_27 : decode b_MM_choice 27 = .ok (.iload_n 2, 1) := by decide +kernel
theorem d_MM_choice_28 : decode b_MM_choice 28 = .ok (.iload_n 3, 1) := by decide +kernel
theorem d_MM_choice_29 : decode b_MM_choice 29 = .ok (.invokevirtual 457, 3) := by decide +kernel
theorem d_MM_choice_32 : decode b_MM_choice 32 = .ok (.istore_n 2, 1) := by decide +kernel
theorem d_MM_choice_33 : decode b_MM_choice 33 = .ok (.goto (-27), 3) := by decide +kernel
theorem d_MM_choice_36 : decode b_MM_choice 36 = .ok (.iload_n 2, 1) := by decide +kernel
theorem d_MM_choice_37 : decode b_MM_choice 37 = .ok (.ireturn, 1) := by decide +kernel
abbrev b_MM_joint : ByteArray := prog_14_method_27_code
def y_MM_joint : MethodName := ⟨"ClauseProverModel", "joint", "(I)I"⟩
theorem d_MM_joint_0 : decode b_MM_joint 0 = .ok (.aload_n 0, 1) := by decide +kernel
theorem d_MM_joint_1 : decode b_MM_joint 1 = .ok (.iload_n 1, 1) := by decide +kernel
theorem d_MM_joint_2 : decode b_MM_joint 2 = .ok (.invokevirtual 470, 3) := by decide +kernel
theorem d_MM_joint_5 : decode b_MM_joint 5 = .ok (.istore_n 2, 1) := by decide +kernel
theorem d_MM_joint_6 : decode b_MM_joint 6 = .ok (.aload_n 0, 1) := by decide +kernel
theorem d_MM_joint_7 : decode b_MM_joint 7 = .ok (.invokevirtual 422, 3) := by decide +kernel
theorem d_MM_joint_10 : decode b_MM_joint 10 = .ok (.bipush 38, 2) := by decide +kernel
theorem d_MM_joint_12 : decode b_MM_joint 12 = .ok (.if_icmp .ne 24, 3) := by decide +kernel
theorem d_MM_joint_15 : decode b_MM_joint 15 = .ok (.aload_n 0, 1) := by decide +kernel
theorem d_MM_joint_16 : decode b_MM_joint 16 = .ok (.invokevirtual 435, 3) := by decide +kernel
theorem d_MM_joint_19 : decode b_MM_joint 19 = .ok (.aload_n 0, 1) := by decide +kernel
theorem d_MM_joint_20 : decode b_MM_joint 20 = .ok (.iload_n 1, 1) := by decide +kernel
theorem d_MM_joint_21 : decode b_MM_joint 21 = .ok (.invokevirtual 470, 3) := by decide +kernel
theorem d_MM_joint_24 : decode b_MM_joint 24 = .ok (.istore_n 3, 1) := by decide +kernel
theorem d_MM_joint_25 : decode b_MM_joint 25 = .ok (.aload_n 0, 1) := by decide +kernel
theorem d_MM_joint_26 : decode b_MM_joint 26 = .ok (.iconst 2, 1) := by decide +kernel
theorem d_MM_joint_27 : decode b_MM_joint 27 = .ok (.iload_n 2, 1) := by decide +kernel
theorem d_MM_joint_28 : decode b_MM_joint 28 = .ok (.iload_n 3, 1) := by decide +kernel
theorem d_MM_joint_29 : decode b_MM_joint 29 = .ok (.invokevirtual 457, 3) := by decide +kernel
theorem d_MM_joint_32 : decode b_MM_joint 32 = .ok (.istore_n 2, 1) := by decide +kernel
theorem d_MM_joint_33 : decode b_MM_joint 33 = .ok (.goto (-27), 3) := by decide +kernel
theorem d_MM_joint_36 : decode b_MM_joint 36 = .ok (.iload_n 2, 1) := by decide +kernel
theorem d_MM_joint_37 : decode b_MM_joint 37 = .ok (.ireturn, 1) := by decide +kernel
abbrev b_MM_unit : ByteArray := prog_14_method_28_code
def y_MM_unit : MethodName := ⟨"ClauseProverModel", "unit", "(I)I"⟩
theorem d_MM_unit_0 : decode b_MM_unit 0 = .ok (.aload_n 0, 1) := by decide +kernel
theorem d_MM_unit_1 : decode b_MM_unit 1 = .ok (.invokevirtual 422, 3) := by decide +kernel
theorem d_MM_unit_4 : decode b_MM_unit 4 = .ok (.istore_n 2, 1) := by decide +kernel
theorem d_MM_unit_5 : decode b_MM_unit 5 = .ok (.iload_n 2, 1) := by decide +kernel
theorem d_MM_unit_6 : decode b_MM_unit 6 = .ok (.bipush 126, 2) := by decide +kernel
theorem d_MM_unit_8 : decode b_MM_unit 8 = .ok (.if_icmp .ne 33, 3) := by decide +kernel
theorem d_MM_unit_11 : decode b_MM_unit 11 = .ok (.aload_n 0, 1) := by decide +kernel
theorem d_MM_unit_12 : decode b_MM_unit 12 = .ok (.invokevirtual 435, 3) := by decide +kernel
theorem d_MM_unit_15 : decode b_MM_unit 15 = .ok (.aload_n 0, 1) := by decide +kernel
theorem d_MM_unit_16 : decode b_MM_unit 16 = .ok (.aload_n 0, 1) := by decide +kernel
theorem d_MM_unit_17 : decode b_MM_unit 17 = .ok (.iload_n 1, 1) := by decide +kernel
theorem d_MM_unit_18 : decode b_MM_unit 18 = .ok (.invokevirtual 464, 3) := by decide +kernel
theorem d_MM_unit_21 : decode b_MM_unit 21 = .ok (.invokevirtual 470, 3) := by decide +kernel
theorem d_MM_unit_24 : decode b_MM_unit 24 = .ok (.istore_n 3, 1) := by decide +kernel
theorem d_MM_unit_25 : decode b_MM_unit 25 = .ok (.aload_n 0, 1) := by decide +kernel
theorem d_MM_unit_26 : decode b_MM_unit 26 = .ok (.iconst 1, 1) := by decide +kernel
theorem d_MM_unit_27 : decode b_MM_unit 27 = .ok (.iload_n 3, 1) := by decide +kernel
theorem d_MM_unit_28 : decode b_MM_unit 28 = .ok (.iconst 0, 1) := by decide +kernel
theorem d_MM_unit_29 : decode b_MM_unit 29 = .ok (.iconst 1, 1) := by decide +kernel
theorem d_MM_unit_30 : decode b_MM_unit 30 = .ok (.aload_n 0, 1) := by decide +kernel
theorem d_MM_unit_31 : decode b_MM_unit 31 = .ok (.getfield 114, 3) := by decide +kernel
theorem d_MM_unit_34 : decode b_MM_unit 34 = .ok (.iload_n 3, 1) := by decide +kernel
theorem d_MM_unit_35 : decode b_MM_unit 35 = .ok (.iaload, 1) := by decide +kernel
theorem d_MM_unit_36 : decode b_MM_unit 36 = .ok (.iadd, 1) := by decide +kernel
theorem d_MM_unit_37 : decode b_MM_unit 37 = .ok (.invokevirtual 450, 3) := by decide +kernel
theorem d_MM_unit_40 : decode b_MM_unit 40 = .ok (.ireturn, 1) := by decide +kernel
theorem d_MM_unit_41 : decode b_MM_unit 41 = .ok (.iload_n 2, 1) := by decide +kernel
theorem d_MM_unit_42 : decode b_MM_unit 42 = .ok (.bipush 33, 2) := by decide +kernel
theorem d_MM_unit_44 : decode b_MM_unit 44 = .ok (.if_icmp .eq 9, 3) := by decide +kernel
theorem d_MM_unit_47 : decode b_MM_unit 47 = .ok (.iload_n 2, 1) := by decide +kernel
theorem d_MM_unit_48 : decode b_MM_unit 48 = .ok (.bipush 63, 2) := by decide +kernel
theorem d_MM_unit_50 : decode b_MM_unit 50 = .ok (.if_icmp .ne 22, 3) := by decide +kernel
theorem d_MM_unit_53 : decode b_MM_unit 53 = .ok (.aload_n 0, 1) := by decide +kernel
theorem d_MM_unit_54 : decode b_MM_unit 54 = .ok (.iload_n 1, 1) := by decide +kernel
theorem d_MM_unit_55 : decode b_MM_unit 55 = .ok (.iload_n 2, 1) := by decide +kernel
theorem d_MM_unit_56 : decode b_MM_unit 56 = .ok (.bipush 33, 2) := by decide +kernel
theorem d_MM_unit_58 : decode b_MM_unit 58 = .ok (.if_icmp .ne 8, 3) := by decide +kernel
theorem d_MM_unit_61 : decode b_MM_unit 61 = .ok (.bipush 6, 2) := by decide +kernel
theorem d_MM_unit_63 : decode b_MM_unit 63 = .ok (.goto 5, 3) := by decide +kernel
theorem d_MM_unit_66 : decode b_MM_unit 66 = .ok (.bipush 7, 2) := by decide +kernel
theorem d_MM_unit_68 : decode b_MM_unit 68 = .ok (.invokevirtual 473, 3) := by decide +kernel
theorem d_MM_unit_71 : decode b_MM_unit 71 = .ok (.ireturn, 1) := by decide +kernel
theorem d_MM_unit_72 : decode b_MM_unit 72 = .ok (.iload_n 2, 1) := by decide +kernel
theorem d_MM_unit_73 : decode b_MM_unit 73 = .ok (.bipush 40, 2) := by decide +kernel
theorem d_MM_unit_75 : decode b_MM_unit 75 = .ok (.if_icmp .ne 25, 3) := by decide +kernel
theorem d_MM_unit_78 : decode b_MM_unit 78 = .ok (.aload_n 0, 1) := by decide +kernel
theorem d_MM_unit_79 : decode b_MM_unit 79 = .ok (.invokevirtual 435, 3) := by decide +kernel
theorem d_MM_unit_82 : decode b_MM_unit 82 = .ok (.aload_n 0, 1) := by decide +kernel
theorem d_MM_unit_83 : decode b_MM_unit 83 = .ok (.aload_n 0, 1) := by decide +kernel
theorem d_MM_unit_84 : decode b_MM_unit 84 = .ok (.iload_n 1, 1) := by decide +kernel
theorem d_MM_unit_85 : decode b_MM_unit 85 = .ok (.invokevirtual 464, 3) := by decide +kernel
theorem d_MM_unit_88 : decode b_MM_unit 88 = .ok (.invokevirtual 476, 3) := by decide +kernel
theorem d_MM_unit_91 : decode b_MM_unit 91 = .ok (.istore_n 3, 1) := by decide +kernel
theorem d_MM_unit_92 : decode b_MM_unit 92 = .ok (.aload_n 0, 1) := by decide +kernel
theorem d_MM_unit_93 : decode b_MM_unit 93 = .ok (.bipush 41, 2) := by decide +kernel
theorem d_MM_unit_95 : decode b_MM_unit 95 = .ok (.invokevirtual 479, 3) := by decide +kernel
theorem d_MM_unit_98 : decode b_MM_unit 98 = .ok (.iload_n 3, 1) := by decide +kernel
theorem d_MM_unit_99 : decode b_MM_unit 99 = .ok (.ireturn, 1) := by decide +kernel
theorem d_MM_unit_100 : decode b_MM_unit 100 = .ok (.iload_n 2, 1) := by decide +kernel
theorem d_MM_unit_101 : decode b_MM_unit 101 = .ok (.iconst 1, 1) := by decide +kernel
theorem d_MM_unit_102 : decode b_MM_unit 102 = .ok (.if_icmp .eq 13, 3) := by decide +kernel
theorem d_MM_unit_105 : decode b_MM_unit 105 = .ok (.iload_n 2, 1) := by decide +kernel
theorem d_MM_unit_106 : decode b_MM_unit 106 = .ok (.iconst 2, 1) := by decide +kernel
theorem d_MM_unit_107 : decode b_MM_unit 107 = .ok (.if_icmp .eq 8, 3) := by decide +kernel
theorem d_MM_unit_110 : decode b_MM_unit 110 = .ok (.aload_n 0, 1) := by decide +kernel
theorem d_MM_unit_111 : decode b_MM_unit 111 = .ok (.invokevirtual 431, 3) := by decide +kernel
theorem d_MM_unit_114 : decode b_MM_unit 114 = .ok (.athrow, 1) := by decide +kernel
theorem d_MM_unit_115 : decode b_MM_unit 115 = .ok (.aload_n 0, 1) := by decide +kernel
theorem d_MM_unit_116 : decode b_MM_unit 116 = .ok (.iload_n 1, 1) := by decide +kernel
theorem d_MM_unit_117 : decode b_MM_unit 117 = .ok (.invokevirtual 483, 3) := by decide +kernel
theorem d_MM_unit_120 : decode b_MM_unit 120 = .ok (.ireturn, 1) := by decide +kernel
abbrev b_MM_nest : ByteArray := prog_14_method_15_code
def y_MM_nest : MethodName := ⟨"ClauseProverModel", "nest", "(I)I"⟩
theorem d_MM_nest_0 : decode b_MM_nest 0 = .ok (.iload_n 1, 1) := by decide +kernel
theorem d_MM_nest_1 : decode b_MM_nest 1 = .ok (.bipush 60, 2) := by decide +kernel
theorem d_MM_nest_3 : decode b_MM_nest 3 = .ok (.if_icmp .ne 21, 3) := by decide +kernel
theorem d_MM_nest_6 : decode b_MM_nest 6 = .ok (.aload_n 0, 1) := by decide +kernel
theorem d_MM_nest_7 : decode b_MM_nest 7 = .ok (.invokevirtual 422, 3) := by decide +kernel
theorem d_MM_nest_10 : decode b_MM_nest 10 = .ok (.pop, 1) := by decide +kernel
theorem d_MM_nest_11 : decode b_MM_nest 11 = .ok (.new 426, 3) := by decide +kernel
theorem d_MM_nest_14 : decode b_MM_nest 14 = .ok (.dup, 1) := by decide +kernel
theorem d_MM_nest_15 : decode b_MM_nest 15 = .ok (.iconst 3, 1) := by decide +kernel
theorem d_MM_nest_16 : decode b_MM_nest 16 = .ok (.aload_n 0, 1) := by decide +kernel
theorem d_MM_nest_17 : decode b_MM_nest 17 = .ok (.getfield 39, 3) := by decide +kernel
theorem d_MM_nest_20 : decode b_MM_nest 20 = .ok (.invokespecial 428, 3) := by decide +kernel
theorem d_MM_nest_23 : decode b_MM_nest 23 = .ok (.athrow, 1) := by decide +kernel
theorem d_MM_nest_24 : decode b_MM_nest 24 = .ok (.iload_n 1, 1) := by decide +kernel
theorem d_MM_nest_25 : decode b_MM_nest 25 = .ok (.iconst 1, 1) := by decide +kernel
theorem d_MM_nest_26 : decode b_MM_nest 26 = .ok (.iadd, 1) := by decide +kernel
theorem d_MM_nest_27 : decode b_MM_nest 27 = .ok (.ireturn, 1) := by decide +kernel
abbrev b_MM_bound2 : ByteArray := prog_14_method_29_code
def y_MM_bound2 : MethodName := ⟨"ClauseProverModel", "bound", "(II)I"⟩
theorem d_MM_bound2_0 : decode b_MM_bound2 0 = .ok (.aload_n 0, 1) := by decide +kernel
theorem d_MM_bound2_1 : decode b_MM_bound2 1 = .ok (.invokevirtual 435, 3) := by decide +kernel
theorem d_MM_bound2_4 : decode b_MM_bound2 4 = .ok (.aload_n 0, 1) := by decide +kernel
theorem d_MM_bound2_5 : decode b_MM_bound2 5 = .ok (.getfield 90, 3) := by decide +kernel
theorem d_MM_bound2_8 : decode b_MM_bound2 8 = .ok (.istore_n 3, 1) := by decide +kernel
theorem d_MM_bound2_9 : decode b_MM_bound2 9 = .ok (.aload_n 0, 1) := by decide +kernel
theorem d_MM_bound2_10 : decode b_MM_bound2 10 = .ok (.getfield 99, 3) := by decide +kernel
theorem d_MM_bound2_13 : decode b_MM_bound2 13 = .ok (.istore 4, 2) := by decide +kernel
theorem d_MM_bound2_15 : decode b_MM_bound2 15 = .ok (.aload_n 0, 1) := by decide +kernel
theorem d_MM_bound2_16 : decode b_MM_bound2 16 = .ok (.invokevirtual 422, 3) := by decide +kernel
theorem d_MM_bound2_19 : decode b_MM_bound2 19 = .ok (.iconst 1, 1) := by decide +kernel
theorem d_MM_bound2_20 : decode b_MM_bound2 20 = .ok (.if_icmp .eq 8, 3) := by decide +kernel
theorem d_MM_bound2_23 : decode b_MM_bound2 23 = .ok (.aload_n 0, 1) := by decide +kernel
theorem d_MM_bound2_24 : decode b_MM_bound2 24 = .ok (.invokevirtual 431, 3) := by decide +kernel
theorem d_MM_bound2_27 : decode b_MM_bound2 27 = .ok (.athrow, 1) := by decide +kernel
theorem d_MM_bound2_28 : decode b_MM_bound2 28 = .ok (.aload_n 0, 1) := by decide +kernel
theorem d_MM_bound2_29 : decode b_MM_bound2 29 = .ok (.invokevirtual 422, 3) := by decide +kernel
theorem d_MM_bound2_32 : decode b_MM_bound2 32 = .ok (.iconst 1, 1) := by decide +kernel
theorem d_MM_bound2_33 : decode b_MM_bound2 33 = .ok (.if_icmp .ne 30, 3) := by decide +kernel
theorem d_MM_bound2_36 : decode b_MM_bound2 36 = .ok (.aload_n 0, 1) := by decide +kernel
theorem d_MM_bound2_37 : decode b_MM_bound2 37 = .ok (.getfield 93, 3) := by decide +kernel
theorem d_MM_bound2_40 : decode b_MM_bound2 40 = .ok (.aload_n 0, 1) := by decide +kernel
theorem d_MM_bound2_41 : decode b_MM_bound2 41 = .ok (.dup, 1) := by decide +kernel
theorem d_MM_bound2_42 : decode b_MM_bound2 42 = .ok (.getfield 99, 3) := by decide +kernel
theorem d_MM_bound2_45 : decode b_MM_bound2 45 = .ok (.dup_x1, 1) := by decide +kernel
theorem d_MM_bound2_46 : decode b_MM_bound2 46 = .ok (.iconst 1, 1) := by decide +kernel
theorem d_MM_bound2_47 : decode b_MM_bound2 47 = .ok (.iadd, 1) := by decide +kernel
theorem d_MM_bound2_48 : decode b_MM_bound2 48 = .ok (.putfield 99, 3) := by decide +kernel
theorem d_MM_bound2_51 : decode b_MM_bound2 51 = .ok (.aload_n 0, 1) := by decide +kernel
theorem d_MM_bound2_52 : decode b_MM_bound2 52 = .ok (.invokevirtual 441, 3) := by decide +kernel
theorem d_MM_bound2_55 : decode b_MM_bound2 55 = .ok (.iastore, 1) := by decide +kernel
theorem d_MM_bound2_56 : decode b_MM_bound2 56 = .ok (.aload_n 0, 1) := by decide +kernel
theorem d_MM_bound2_57 : decode b_MM_bound2 57 = .ok (.invokevirtual 435, 3) := by decide +kernel
theorem d_MM_bound2_60 : decode b_MM_bound2 60 = .ok (.goto (-32), 3) := by decide +kernel
theorem d_MM_bound2_63 : decode b_MM_bound2 63 = .ok (.aload_n 0, 1) := by decide +kernel
theorem d_MM_bound2_64 : decode b_MM_bound2 64 = .ok (.getfield 90, 3) := by decide +kernel
theorem d_MM_bound2_67 : decode b_MM_bound2 67 = .ok (.iload_n 3, 1) := by decide +kernel
theorem d_MM_bound2_68 : decode b_MM_bound2 68 = .ok (.isub, 1) := by decide +kernel
theorem d_MM_bound2_69 : decode b_MM_bound2 69 = .ok (.istore 5, 2) := by decide +kernel
theorem d_MM_bound2_71 : decode b_MM_bound2 71 = .ok (.aload_n 0, 1) := by decide +kernel
theorem d_MM_bound2_72 : decode b_MM_bound2 72 = .ok (.bipush 58, 2) := by decide +kernel
theorem d_MM_bound2_74 : decode b_MM_bound2 74 = .ok (.invokevirtual 479, 3) := by decide +kernel
theorem d_MM_bound2_77 : decode b_MM_bound2 77 = .ok (.aload_n 0, 1) := by decide +kernel
theorem d_MM_bound2_78 : decode b_MM_bound2 78 = .ok (.aload_n 0, 1) := by decide +kernel
theorem d_MM_bound2_79 : decode b_MM_bound2 79 = .ok (.iload_n 1, 1) := by decide +kernel
theorem d_MM_bound2_80 : decode b_MM_bound2 80 = .ok (.invokevirtual 464, 3) := by decide +kernel
theorem d_MM_bound2_83 : decode b_MM_bound2 83 = .ok (.invokevirtual 476, 3) := by decide +kernel
theorem d_MM_bound2_86 : decode b_MM_bound2 86 = .ok (.istore 6, 2) := by decide +kernel
theorem d_MM_bound2_88 : decode b_MM_bound2 88 = .ok (.aload_n 0, 1) := by decide +kernel
theorem d_MM_bound2_89 : decode b_MM_bound2 89 = .ok (.iload 4, 2) := by decide +kernel
theorem d_MM_bound2_91 : decode b_MM_bound2 91 = .ok (.putfield 99, 3) := by decide +kernel
theorem d_MM_bound2_94 : decode b_MM_bound2 94 = .ok (.aload_n 0, 1) := by decide +kernel
theorem d_MM_bound2_95 : decode b_MM_bound2 95 = .ok (.iload_n 2, 1) := by decide +kernel
theorem d_MM_bound2_96 : decode b_MM_bound2 96 = .ok (.iload 6, 2) := by decide +kernel
theorem d_MM_bound2_98 : decode b_MM_bound2 98 = .ok (.iload_n 3, 1) := by decide +kernel
theorem d_MM_bound2_99 : decode b_MM_bound2 99 = .ok (.sipush 1000, 3) := by decide +kernel
theorem d_MM_bound2_102 : decode b_MM_bound2 102 = .ok (.imul, 1) := by decide +kernel
theorem d_MM_bound2_103 : decode b_MM_bound2 103 = .ok (.iload 5, 2) := by decide +kernel
theorem d_MM_bound2_105 : decode b_MM_bound2 105 = .ok (.iadd, 1) := by decide +kernel
theorem d_MM_bound2_106 : decode b_MM_bound2 106 = .ok (.iload 5, 2) := by decide +kernel
theorem d_MM_bound2_108 : decode b_MM_bound2 108 = .ok (.aload_n 0, 1) := by decide +kernel
theorem d_MM_bound2_109 : decode b_MM_bound2 109 = .ok (.getfield 114, 3) := by decide +kernel
theorem d_MM_bound2_112 : decode b_MM_bound2 112 = .ok (.iload 6, 2) := by decide +kernel
theorem d_MM_bound2_114 : decode b_MM_bound2 114 = .ok (.iaload, 1) := by decide +kernel
theorem d_MM_bound2_115 : decode b_MM_bound2 115 = .ok (.iadd, 1) := by decide +kernel
theorem d_MM_bound2_116 : decode b_MM_bound2 116 = .ok (.invokevirtual 450, 3) := by decide +kernel
theorem d_MM_bound2_119 : decode b_MM_bound2 119 = .ok (.ireturn, 1) := by decide +kernel
abbrev b_MM_binder : ByteArray := prog_14_method_17_code
def y_MM_binder : MethodName := ⟨"ClauseProverModel", "binder", "()I"⟩
theorem d_MM_binder_0 : decode b_MM_binder 0 = .ok (.aload_n 0, 1) := by decide +kernel
theorem d_MM_binder_1 : decode b_MM_binder 1 = .ok (.getfield 90, 3) := by decide +kernel
theorem d_MM_binder_4 : decode b_MM_binder 4 = .ok (.sipush 300, 3) := by decide +kernel
theorem d_MM_binder_7 : decode b_MM_binder 7 = .ok (.if_icmp .ne 16, 3) := by decide +kernel
theorem d_MM_binder_10 : decode b_MM_binder 10 = .ok (.new 426, 3) := by decide +kernel
theorem d_MM_binder_13 : decode b_MM_binder 13 = .ok (.dup, 1) := by decide +kernel
theorem d_MM_binder_14 : decode b_MM_binder 14 = .ok (.iconst 3, 1) := by decide +kernel
theorem d_MM_binder_15 : decode b_MM_binder 15 = .ok (.aload_n 0, 1) := by decide +kernel
theorem d_MM_binder_16 : decode b_MM_binder 16 = .ok (.getfield 39, 3) := by decide +kernel
theorem d_MM_binder_19 : decode b_MM_binder 19 = .ok (.invokespecial 428, 3) := by decide +kernel
theorem d_MM_binder_22 : decode b_MM_binder 22 = .ok (.athrow, 1) := by decide +kernel
theorem d_MM_binder_23 : decode b_MM_binder 23 = .ok (.aload_n 0, 1) := by decide +kernel
theorem d_MM_binder_24 : decode b_MM_binder 24 = .ok (.getfield 77, 3) := by decide +kernel
theorem d_MM_binder_27 : decode b_MM_binder 27 = .ok (.aload_n 0, 1) := by decide +kernel
theorem d_MM_binder_28 : decode b_MM_binder 28 = .ok (.getfield 90, 3) := by decide +kernel
theorem d_MM_binder_31 : decode b_MM_binder 31 = .ok (.aload_n 0, 1) := by decide +kernel
theorem d_MM_binder_32 : decode b_MM_binder 32 = .ok (.getfield 39, 3) := by decide +kernel
theorem d_MM_binder_35 : decode b_MM_binder 35 = .ok (.iastore, 1) := by decide +kernel
theorem d_MM_binder_36 : decode b_MM_binder 36 = .ok (.aload_n 0, 1) := by decide +kernel
theorem d_MM_binder_37 : decode b_MM_binder 37 = .ok (.getfield 80, 3) := by decide +kernel
theorem d_MM_binder_40 : decode b_MM_binder 40 = .ok (.aload_n 0, 1) := by decide +kernel
theorem d_MM_binder_41 : decode b_MM_binder 41 = .ok (.getfield 90, 3) := by decide +kernel
theorem d_MM_binder_44 : decode b_MM_binder 44 = .ok (.aload_n 0, 1) := by decide +kernel
theorem d_MM_binder_45 : decode b_MM_binder 45 = .ok (.getfield 42, 3) := by decide +kernel
theorem d_MM_binder_48 : decode b_MM_binder 48 = .ok (.aload_n 0, 1) := by decide +kernel
theorem d_MM_binder_49 : decode b_MM_binder 49 = .ok (.getfield 39, 3) := by decide +kernel
theorem d_MM_binder_52 : decode b_MM_binder 52 = .ok (.isub, 1) := by decide +kernel
theorem d_MM_binder_53 : decode b_MM_binder 53 = .ok (.iastore, 1) := by decide +kernel
theorem d_MM_binder_54 : decode b_MM_binder 54 = .ok (.aload_n 0, 1) := by decide +kernel
theorem d_MM_binder_55 : decode b_MM_binder 55 = .ok (.getfield 86, 3) := by decide +kernel
theorem d_MM_binder_58 : decode b_MM_binder 58 = .ok (.aload_n 0, 1) := by decide +kernel
theorem d_MM_binder_59 : decode b_MM_binder 59 = .ok (.getfield 90, 3) := by decide +kernel
theorem d_MM_binder_62 : decode b_MM_binder 62 = .ok (.iconst 0, 1) := by decide +kernel
theorem d_MM_binder_63 : decode b_MM_binder 63 = .ok (.bastore, 1) := by decide +kernel
theorem d_MM_binder_64 : decode b_MM_binder 64 = .ok (.aload_n 0, 1) := by decide +kernel
theorem d_MM_binder_65 : decode b_MM_binder 65 = .ok (.dup, 1) := by decide +kernel
theorem d_MM_binder_66 : decode b_MM_binder 66 = .ok (.getfield 90, 3) := by decide +kernel
theorem d_MM_binder_69 : decode b_MM_binder 69 = .ok (.dup_x1, 1) := by decide +kernel
theorem d_MM_binder_70 : decode b_MM_binder 70 = .ok (.iconst 1, 1) := by decide +kernel
theorem d_MM_binder_71 : decode b_MM_binder 71 = .ok (.iadd, 1) := by decide +kernel
theorem d_MM_binder_72 : decode b_MM_binder 72 = .ok (.putfield 90, 3) := by decide +kernel
theorem d_MM_binder_75 : decode b_MM_binder 75 = .ok (.ireturn, 1) := by decide +kernel
abbrev b_MM_must : ByteArray := prog_14_method_14_code
def y_MM_must : MethodName := ⟨"ClauseProverModel", "must", "(I)V"⟩
theorem d_MM_must_0 : decode b_MM_must 0 = .ok (.aload_n 0, 1) := by decide +kernel
theorem d_MM_must_1 : decode b_MM_must 1 = .ok (.invokevirtual 422, 3) := by decide +kernel
theorem d_MM_must_4 : decode b_MM_must 4 = .ok (.iload_n 1, 1) := by decide +kernel
theorem d_MM_must_5 : decode b_MM_must 5 = .ok (.if_icmp .eq 8, 3) := by decide +kernel
theorem d_MM_must_8 : decode b_MM_must 8 = .ok (.aload_n 0, 1) := by decide +kernel
theorem d_MM_must_9 : decode b_MM_must 9 = .ok (.invokevirtual 431, 3) := by decide +kernel
theorem d_MM_must_12 : decode b_MM_must 12 = .ok (.athrow, 1) := by decide +kernel
theorem d_MM_must_13 : decode b_MM_must 13 = .ok (.aload_n 0, 1) := by decide +kernel
theorem d_MM_must_14 : decode b_MM_must 14 = .ok (.invokevirtual 435, 3) := by decide +kernel
theorem d_MM_must_17 : decode b_MM_must 17 = .ok (.return_, 1) := by decide +kernel
abbrev b_MM_atom1 : ByteArray := prog_14_method_30_code
def y_MM_atom1 : MethodName := ⟨"ClauseProverModel", "atom", "(I)I"⟩
theorem d_MM_atom1_0 : decode b_MM_atom1 0 = .ok (.aload_n 0, 1) := by decide +kernel
theorem d_MM_atom1_1 : decode b_MM_atom1 1 = .ok (.invokevirtual 422, 3) := by decide +kernel
theorem d_MM_atom1_4 : decode b_MM_atom1 4 = .ok (.iconst 1, 1) := by decide +kernel
theorem d_MM_atom1_5 : decode b_MM_atom1 5 = .ok (.if_icmp .ne 52, 3) := by decide +kernel
theorem d_MM_atom1_8 : decode b_MM_atom1 8 = .ok (.aload_n 0, 1) := by decide +kernel
theorem d_MM_atom1_9 : decode b_MM_atom1 9 = .ok (.invokevirtual 486, 3) := by decide +kernel
theorem d_MM_atom1_12 : decode b_MM_atom1 12 = .ok (.istore_n 2, 1) := by decide +kernel
theorem d_MM_atom1_13 : decode b_MM_atom1 13 = .ok (.aload_n 0, 1) := by decide +kernel
theorem d_MM_atom1_14 : decode b_MM_atom1 14 = .ok (.invokevirtual 435, 3) := by decide +kernel
theorem d_MM_atom1_17 : decode b_MM_atom1 17 = .ok (.aload_n 0, 1) := by decide +kernel
theorem d_MM_atom1_18 : decode b_MM_atom1 18 = .ok (.iconst (-1), 1) := by decide +kernel
theorem d_MM_atom1_19 : decode b_MM_atom1 19 = .ok (.iload_n 2, 1) := by decide +kernel
theorem d_MM_atom1_20 : decode b_MM_atom1 20 = .ok (.isub, 1) := by decide +kernel
theorem d_MM_atom1_21 : decode b_MM_atom1 21 = .ok (.iconst (-1), 1) := by decide +kernel
theorem d_MM_atom1_22 : decode b_MM_atom1 22 = .ok (.invokevirtual 489, 3) := by decide +kernel
theorem d_MM_atom1_25 : decode b_MM_atom1 25 = .ok (.istore_n 3, 1) := by decide +kernel
theorem d_MM_atom1_26 : decode b_MM_atom1 26 = .ok (.aload_n 0, 1) := by decide +kernel
theorem d_MM_atom1_27 : decode b_MM_atom1 27 = .ok (.invokevirtual 422, 3) := by decide +kernel
theorem d_MM_atom1_30 : decode b_MM_atom1 30 = .ok (.bipush 61, 2) := by decide +kernel
theorem d_MM_atom1_32 : decode b_MM_atom1 32 = .ok (.if_icmp .eq 18, 3) := by decide +kernel
theorem d_MM_atom1_35 : decode b_MM_atom1 35 = .ok (.aload_n 0, 1) := by decide +kernel
theorem d_MM_atom1_36 : decode b_MM_atom1 36 = .ok (.invokevirtual 422, 3) := by decide +kernel
theorem d_MM_atom1_39 : decode b_MM_atom1 39 = .ok (.sipush 300, 3) := by decide +kernel
theorem d_MM_atom1_42 : decode b_MM_atom1 42 = .ok (.if_icmp .eq 8, 3) := by decide +kernel
theorem d_MM_atom1_45 : decode b_MM_atom1 45 = .ok (.aload_n 0, 1) := by decide +kernel
theorem d_MM_atom1_46 : decode b_MM_atom1 46 = .ok (.invokevirtual 431, 3) := by decide +kernel
theorem d_MM_atom1_49 : decode b_MM_atom1 49 = .ok (.athrow, 1) := by decide +kernel
theorem d_MM_atom1_50 : decode b_MM_atom1 50 = .ok (.aload_n 0, 1) := by decide +kernel
theorem d_MM_atom1_51 : decode b_MM_atom1 51 = .ok (.iload_n 3, 1) := by decide +kernel
theorem d_MM_atom1_52 : decode b_MM_atom1 52 = .ok (.iload_n 1, 1) := by decide +kernel
theorem d_MM_atom1_53 : decode b_MM_atom1 53 = .ok (.invokevirtual 492, 3) := by decide +kernel
theorem d_MM_atom1_56 : decode b_MM_atom1 56 = .ok (.ireturn, 1) := by decide +kernel
theorem d_MM_atom1_57 : decode b_MM_atom1 57 = .ok (.aload_n 0, 1) := by decide +kernel
theorem d_MM_atom1_58 : decode b_MM_atom1 58 = .ok (.getfield 39, 3) := by decide +kernel
theorem d_MM_atom1_61 : decode b_MM_atom1 61 = .ok (.istore_n 2, 1) := by decide +kernel
theorem d_MM_atom1_62 : decode b_MM_atom1 62 = .ok (.aload_n 0, 1) := by decide +kernel
theorem d_MM_atom1_63 : decode b_MM_atom1 63 = .ok (.invokevirtual 495, 3) := by decide +kernel
theorem d_MM_atom1_66 : decode b_MM_atom1 66 = .ok (.istore_n 3, 1) := by decide +kernel
theorem d_MM_atom1_67 : decode b_MM_atom1 67 = .ok (.aload_n 0, 1) := by decide +kernel
theorem d_MM_atom1_68 : decode b_MM_atom1 68 = .ok (.invokevirtual 435, 3) := by decide +kernel
theorem d_MM_atom1_71 : decode b_MM_atom1 71 = .ok (.aload_n 0, 1) := by decide +kernel
theorem d_MM_atom1_72 : decode b_MM_atom1 72 = .ok (.invokevirtual 422, 3) := by decide +kernel
theorem d_MM_atom1_75 : decode b_MM_atom1 75 = .ok (.bipush 40, 2) := by decide +kernel
theorem d_MM_atom1_77 : decode b_MM_atom1 77 = .ok (.if_icmp .ne 11, 3) := by decide +kernel
theorem d_MM_atom1_80 : decode b_MM_atom1 80 = .ok (.aload_n 0, 1) := by decide +kernel
theorem d_MM_atom1_81 : decode b_MM_atom1 81 = .ok (.iload_n 1, 1) := by decide +kernel
theorem d_MM_atom1_82 : decode b_MM_atom1 82 = .ok (.invokevirtual 498, 3) := by decide +kernel
theorem d_MM_atom1_85 : decode b_MM_atom1 85 = .ok (.goto 4, 3) := by decide +kernel
theorem d_MM_atom1_88 : decode b_MM_atom1 88 = .ok (.iconst (-1), 1) := by decide +kernel
theorem d_MM_atom1_89 : decode b_MM_atom1 89 = .ok (.istore 4, 2) := by decide +kernel
theorem d_MM_atom1_91 : decode b_MM_atom1 91 = .ok (.aload_n 0, 1) := by decide +kernel
theorem d_MM_atom1_92 : decode b_MM_atom1 92 = .ok (.iload 4, 2) := by decide +kernel
theorem d_MM_atom1_94 : decode b_MM_atom1 94 = .ok (.invokevirtual 501, 3) := by decide +kernel
theorem d_MM_atom1_97 : decode b_MM_atom1 97 = .ok (.istore 5, 2) := by decide +kernel
theorem d_MM_atom1_99 : decode b_MM_atom1 99 = .ok (.aload_n 0, 1) := by decide +kernel
theorem d_MM_atom1_100 : decode b_MM_atom1 100 = .ok (.invokevirtual 422, 3) := by decide +kernel
theorem d_MM_atom1_103 : decode b_MM_atom1 103 = .ok (.istore 6, 2) := by decide +kernel
theorem d_MM_atom1_105 : decode b_MM_atom1 105 = .ok (.aload_n 0, 1) := by decide +kernel
theorem d_MM_atom1_106 : decode b_MM_atom1 106 = .ok (.iload_n 3, 1) := by decide +kernel
theorem d_MM_atom1_107 : decode b_MM_atom1 107 = .ok (.iload 6, 2) := by decide +kernel
theorem d_MM_atom1_109 : decode b_MM_atom1 109 = .ok (.bipush 61, 2) := by decide +kernel
theorem d_MM_atom1_111 : decode b_MM_atom1 111 = .ok (.if_icmp .eq 11, 3) := by decide +kernel
theorem d_MM_atom1_114 : decode b_MM_atom1 114 = .ok (.iload 6, 2) := by decide +kernel
theorem d_MM_atom1_116 : decode b_MM_atom1 116 = .ok (.sipush 300, 3) := by decide +kernel
theorem d_MM_atom1_119 : decode b_MM_atom1 119 = .ok (.if_icmp .ne 7, 3) := by decide +kernel
theorem d_MM_atom1_122 : decode b_MM_atom1 122 = .ok (.iconst 2, 1) := by decide +kernel
theorem d_MM_atom1_123 : decode b_MM_atom1 123 = .ok (.goto 4, 3) := by decide +kernel
theorem d_MM_atom1_126 : decode b_MM_atom1 126 = .ok (.iconst 1, 1) := by decide +kernel
theorem d_MM_atom1_127 : decode b_MM_atom1 127 = .ok (.iload 5, 2) := by decide +kernel
theorem d_MM_atom1_129 : decode b_MM_atom1 129 = .ok (.iload_n 2, 1) := by decide +kernel
theorem d_MM_atom1_130 : decode b_MM_atom1 130 = .ok (.invokevirtual 504, 3) := by decide +kernel
theorem d_MM_atom1_133 : decode b_MM_atom1 133 = .ok (.iload 6, 2) := by decide +kernel
theorem d_MM_atom1_135 : decode b_MM_atom1 135 = .ok (.bipush 61, 2) := by decide +kernel
theorem d_MM_atom1_137 : decode b_MM_atom1 137 = .ok (.if_icmp .eq 11, 3) := by decide +kernel
theorem d_MM_atom1_140 : decode b_MM_atom1 140 = .ok (.iload 6, 2) := by decide +kernel
theorem d_MM_atom1_142 : decode b_MM_atom1 142 = .ok (.sipush 300, 3) := by decide +kernel
theorem d_MM_atom1_145 : decode b_MM_atom1 145 = .ok (.if_icmp .ne 16, 3) := by decide +kernel
theorem d_MM_atom1_148 : decode b_MM_atom1 148 = .ok (.aload_n 0, 1) := by decide +kernel
theorem d_MM_atom1_149 : decode b_MM_atom1 149 = .ok (.aload_n 0, 1) := by decide +kernel
theorem d_MM_atom1_150 : decode b_MM_atom1 150 = .ok (.iload_n 3, 1) := by decide +kernel
theorem d_MM_atom1_151 : decode b_MM_atom1 151 = .ok (.iload 4, 2) := by decide +kernel
theorem d_MM_atom1_153 : decode b_MM_atom1 153 = .ok (.invokevirtual 489, 3) := by decide +kernel
theorem d_MM_atom1_156 : decode b_MM_atom1 156 = .ok (.iload_n 1, 1) := by decide +kernel
theorem d_MM_atom1_157 : decode b_MM_atom1 157 = .ok (.invokevirtual 492, 3) := by decide +kernel
theorem d_MM_atom1_160 : decode b_MM_atom1 160 = .ok (.ireturn, 1) := by decide +kernel
theorem d_MM_atom1_161 : decode b_MM_atom1 161 = .ok (.aload_n 0, 1) := by decide +kernel
theorem d_MM_atom1_162 : decode b_MM_atom1 162 = .ok (.iload_n 3, 1) := by decide +kernel
theorem d_MM_atom1_163 : decode b_MM_atom1 163 = .ok (.iload 4, 2) := by decide +kernel
theorem d_MM_atom1_165 : decode b_MM_atom1 165 = .ok (.invokevirtual 508, 3) := by decide +kernel
theorem d_MM_atom1_168 : decode b_MM_atom1 168 = .ok (.aload_n 0, 1) := by decide +kernel
theorem d_MM_atom1_169 : decode b_MM_atom1 169 = .ok (.iconst 0, 1) := by decide +kernel
theorem d_MM_atom1_170 : decode b_MM_atom1 170 = .ok (.aload_n 0, 1) := by decide +kernel
theorem d_MM_atom1_171 : decode b_MM_atom1 171 = .ok (.getfield 132, 3) := by decide +kernel
theorem d_MM_atom1_174 : decode b_MM_atom1 174 = .ok (.iconst (-1), 1) := by decide +kernel
theorem d_MM_atom1_175 : decode b_MM_atom1 175 = .ok (.iconst 1, 1) := by decide +kernel
theorem d_MM_atom1_176 : decode b_MM_atom1 176 = .ok (.invokevirtual 450, 3) := by decide +kernel
theorem d_MM_atom1_179 : decode b_MM_atom1 179 = .ok (.ireturn, 1) := by decide +kernel
abbrev b_MM_variable : ByteArray := prog_14_method_19_code
def y_MM_variable : MethodName := ⟨"ClauseProverModel", "variable", "()I"⟩
theorem d_MM_variable_0 : decode b_MM_variable 0 = .ok (.aload_n 0, 1) := by decide +kernel
theorem d_MM_variable_1 : decode b_MM_variable 1 = .ok (.getfield 99, 3) := by decide +kernel
theorem d_MM_variable_4 : decode b_MM_variable 4 = .ok (.iconst 1, 1) := by decide +kernel
theorem d_MM_variable_5 : decode b_MM_variable 5 = .ok (.isub, 1) := by decide +kernel
theorem d_MM_variable_6 : decode b_MM_variable 6 = .ok (.istore_n 1, 1) := by decide +kernel
theorem d_MM_variable_7 : decode b_MM_variable 7 = .ok (.iload_n 1, 1) := by decide +kernel
theorem d_MM_variable_8 : decode b_MM_variable 8 = .ok (.ifCond .lt 29, 3) := by decide +kernel
theorem d_MM_variable_11 : decode b_MM_variable 11 = .ok (.aload_n 0, 1) := by decide +kernel
theorem d_MM_variable_12 : decode b_MM_variable 12 = .ok (.aload_n 0, 1) := by decide +kernel
theorem d_MM_variable_13 : decode b_MM_variable 13 = .ok (.getfield 93, 3) := by decide +kernel
theorem d_MM_variable_16 : decode b_MM_variable 16 = .ok (.iload_n 1, 1) := by decide +kernel
theorem d_MM_variable_17 : decode b_MM_variable 17 = .ok (.iaload, 1) := by decide +kernel
theorem d_MM_variable_18 : decode b_MM_variable 18 = .ok (.invokevirtual 438, 3) := by decide +kernel
theorem d_MM_variable_21 : decode b_MM_variable 21 = .ok (.ifCond .eq 10, 3) := by decide +kernel
theorem d_MM_variable_24 : decode b_MM_variable 24 = .ok (.aload_n 0, 1) := by decide +kernel
theorem d_MM_variable_25 : decode b_MM_variable 25 = .ok (.getfield 93, 3) := by decide +kernel
theorem d_MM_variable_28 : decode b_MM_variable 28 = .ok (.iload_n 1, 1) := by decide +kernel
theorem d_MM_variable_29 : decode b_MM_variable 29 = .ok (.iaload, 1) := by decide +kernel
theorem d_MM_variable_30 : decode b_MM_variable 30 = .ok (.ireturn, 1) := by decide +kernel
theorem d_MM_variable_31 : decode b_MM_variable 31 = .ok (.iinc 1 (-1), 3) := by decide +kernel
theorem d_MM_variable_34 : decode b_MM_variable 34 = .ok (.goto (-27), 3) := by decide +kernel
theorem d_MM_variable_37 : decode b_MM_variable 37 = .ok (.iconst 0, 1) := by decide +kernel
theorem d_MM_variable_38 : decode b_MM_variable 38 = .ok (.istore_n 1, 1) := by decide +kernel
theorem d_MM_variable_39 : decode b_MM_variable 39 = .ok (.iload_n 1, 1) := by decide +kernel
theorem d_MM_variable_40 : decode b_MM_variable 40 = .ok (.aload_n 0, 1) := by decide +kernel
theorem d_MM_variable_41 : decode b_MM_variable 41 = .ok (.getfield 102, 3) := by decide +kernel
theorem d_MM_variable_44 : decode b_MM_variable 44 = .ok (.if_icmp .ge 29, 3) := by decide +kernel
theorem d_MM_variable_47 : decode b_MM_variable 47 = .ok (.aload_n 0, 1) := by decide +kernel
theorem d_MM_variable_48 : decode b_MM_variable 48 = .ok (.aload_n 0, 1) := by decide +kernel
theorem d_MM_variable_49 : decode b_MM_variable 49 = .ok (.getfield 96, 3) := by decide +kernel
theorem d_MM_variable_52 : decode b_MM_variable 52 = .ok (.iload_n 1, 1) := by decide +kernel
theorem d_MM_variable_53 : decode b_MM_variable 53 = .ok (.iaload, 1) := by decide +kernel
theorem d_MM_variable_54 : decode b_MM_variable 54 = .ok (.invokevirtual 438, 3) := by decide +kernel
theorem d_MM_variable_57 : decode b_MM_variable 57 = .ok (.ifCond .eq 10, 3) := by decide +kernel
theorem d_MM_variable_60 : decode b_MM_variable 60 = .ok (.aload_n 0, 1) := by decide +kernel
theorem d_MM_variable_61 : decode b_MM_variable 61 = .ok (.getfield 96, 3) := by decide +kernel
theorem d_MM_variable_64 : decode b_MM_variable 64 = .ok (.iload_n 1, 1) := by decide +kernel
theorem d_MM_variable_65 : decode b_MM_variable 65 = .ok (.iaload, 1) := by decide +kernel
theorem d_MM_variable_66 : decode b_MM_variable 66 = .ok (.ireturn, 1) := by decide +kernel
theorem d_MM_variable_67 : decode b_MM_variable 67 = .ok (.iinc 1 1, 3) := by decide +kernel
theorem d_MM_variable_70 : decode b_MM_variable 70 = .ok (.goto (-31), 3) := by decide +kernel
theorem d_MM_variable_73 : decode b_MM_variable 73 = .ok (.aload_n 0, 1) := by decide +kernel
theorem d_MM_variable_74 : decode b_MM_variable 74 = .ok (.invokevirtual 441, 3) := by decide +kernel
theorem d_MM_variable_77 : decode b_MM_variable 77 = .ok (.istore_n 1, 1) := by decide +kernel
theorem d_MM_variable_78 : decode b_MM_variable 78 = .ok (.aload_n 0, 1) := by decide +kernel
theorem d_MM_variable_79 : decode b_MM_variable 79 = .ok (.getfield 96, 3) := by decide +kernel
theorem d_MM_variable_82 : decode b_MM_variable 82 = .ok (.aload_n 0, 1) := by decide +kernel
theorem d_MM_variable_83 : decode b_MM_variable 83 = .ok (.dup, 1) := by decide +kernel
theorem d_MM_variable_84 : decode b_MM_variable 84 = .ok (.getfield 102, 3) := by decide +kernel
theorem d_MM_variable_87 : decode b_MM_variable 87 = .ok (.dup_x1, 1) := by decide +kernel
theorem d_MM_variable_88 : decode b_MM_variable 88 = .ok (.iconst 1, 1) := by decide +kernel
theorem d_MM_variable_89 : decode b_MM_variable 89 = .ok (.iadd, 1) := by decide +kernel
theorem d_MM_variable_90 : decode b_MM_variable 90 = .ok (.putfield 102, 3) := by decide +kernel
theorem d_MM_variable_93 : decode b_MM_variable 93 = .ok (.iload_n 1, 1) := by decide +kernel
theorem d_MM_variable_94 : decode b_MM_variable 94 = .ok (.iastore, 1) := by decide +kernel
theorem d_MM_variable_95 : decode b_MM_variable 95 = .ok (.iload_n 1, 1) := by decide +kernel
theorem d_MM_variable_96 : decode b_MM_variable 96 = .ok (.ireturn, 1) := by decide +kernel
abbrev b_MM_equation : ByteArray := prog_14_method_32_code
def y_MM_equation : MethodName := ⟨"ClauseProverModel", "equation", "(II)I"⟩
theorem d_MM_equation_0 : decode b_MM_equation 0 = .ok (.aload_n 0, 1) := by decide +kernel
theorem d_MM_equation_1 : decode b_MM_equation 1 = .ok (.invokevirtual 422, 3) := by decide +kernel
theorem d_MM_equation_4 : decode b_MM_equation 4 = .ok (.sipush 300, 3) := by decide +kernel
theorem d_MM_equation_7 : decode b_MM_equation 7 = .ok (.if_icmp .ne 7, 3) := by decide +kernel
theorem d_MM_equation_10 : decode b_MM_equation 10 = .ok (.iconst 1, 1) := by decide +kernel
theorem d_MM_equation_11 : decode b_MM_equation 11 = .ok (.goto 4, 3) := by decide +kernel
theorem d_MM_equation_14 : decode b_MM_equation 14 = .ok (.iconst 0, 1) := by decide +kernel
theorem d_MM_equation_15 : decode b_MM_equation 15 = .ok (.istore_n 3, 1) := by decide +kernel
theorem d_MM_equation_16 : decode b_MM_equation 16 = .ok (.aload_n 0, 1) := by decide +kernel
theorem d_MM_equation_17 : decode b_MM_equation 17 = .ok (.invokevirtual 435, 3) := by decide +kernel
theorem d_MM_equation_20 : decode b_MM_equation 20 = .ok (.aload_n 0, 1) := by decide +kernel
theorem d_MM_equation_21 : decode b_MM_equation 21 = .ok (.iload_n 2, 1) := by decide +kernel
theorem d_MM_equation_22 : decode b_MM_equation 22 = .ok (.invokevirtual 510, 3) := by decide +kernel
theorem d_MM_equation_25 : decode b_MM_equation 25 = .ok (.istore 4, 2) := by decide +kernel
theorem d_MM_equation_27 : decode b_MM_equation 27 = .ok (.aload_n 0, 1) := by decide +kernel
theorem d_MM_equation_28 : decode b_MM_equation 28 = .ok (.iconst 0, 1) := by decide +kernel
theorem d_MM_equation_29 : decode b_MM_equation 29 = .ok (.iload_n 1, 1) := by decide +kernel
theorem d_MM_equation_30 : decode b_MM_equation 30 = .ok (.iload 4, 2) := by decide +kernel
theorem d_MM_equation_32 : decode b_MM_equation 32 = .ok (.iconst 1, 1) := by decide +kernel
theorem d_MM_equation_33 : decode b_MM_equation 33 = .ok (.invokevirtual 450, 3) := by decide +kernel
theorem d_MM_equation_36 : decode b_MM_equation 36 = .ok (.istore 5, 2) := by decide +kernel
theorem d_MM_equation_38 : decode b_MM_equation 38 = .ok (.iload_n 3, 1) := by decide +kernel
theorem d_MM_equation_39 : decode b_MM_equation 39 = .ok (.ifCond .eq 15, 3) := by decide +kernel
theorem d_MM_equation_42 : decode b_MM_equation 42 = .ok (.aload_n 0, 1) := by decide +kernel
theorem d_MM_equation_43 : decode b_MM_equation 43 = .ok (.iconst 1, 1) := by decide +kernel
theorem d_MM_equation_44 : decode b_MM_equation 44 = .ok (.iload 5, 2) := by decide +kernel
theorem d_MM_equation_46 : decode b_MM_equation 46 = .ok (.iconst 0, 1) := by decide +kernel
theorem d_MM_equation_47 : decode b_MM_equation 47 = .ok (.iconst 1, 1) := by decide +kernel
theorem d_MM_equation_48 : decode b_MM_equation 48 = .ok (.invokevirtual 450, 3) := by decide +kernel
theorem d_MM_equation_51 : decode b_MM_equation 51 = .ok (.goto 5, 3) := by decide +kernel
theorem d_MM_equation_54 : decode b_MM_equation 54 = .ok (.iload 5, 2) := by decide +kernel
theorem d_MM_equation_56 : decode b_MM_equation 56 = .ok (.ireturn, 1) := by decide +kernel
abbrev b_MM_side1 : ByteArray := prog_14_method_34_code
def y_MM_side1 : MethodName := ⟨"ClauseProverModel", "side", "(I)I"⟩
theorem d_MM_side1_0 : decode b_MM_side1 0 = .ok (.aload_n 0, 1) := by decide +kernel
theorem d_MM_side1_1 : decode b_MM_side1 1 = .ok (.invokevirtual 422, 3) := by decide +kernel
theorem d_MM_side1_4 : decode b_MM_side1 4 = .ok (.istore_n 2, 1) := by decide +kernel
theorem d_MM_side1_5 : decode b_MM_side1 5 = .ok (.iload_n 2, 1) := by decide +kernel
theorem d_MM_side1_6 : decode b_MM_side1 6 = .ok (.iconst 1, 1) := by decide +kernel
theorem d_MM_side1_7 : decode b_MM_side1 7 = .ok (.if_icmp .ne 21, 3) := by decide +kernel
theorem d_MM_side1_10 : decode b_MM_side1 10 = .ok (.aload_n 0, 1) := by decide +kernel
theorem d_MM_side1_11 : decode b_MM_side1 11 = .ok (.invokevirtual 486, 3) := by decide +kernel
theorem d_MM_side1_14 : decode b_MM_side1 14 = .ok (.istore_n 3, 1) := by decide +kernel
theorem d_MM_side1_15 : decode b_MM_side1 15 = .ok (.aload_n 0, 1) := by decide +kernel
theorem d_MM_side1_16 : decode b_MM_side1 16 = .ok (.invokevirtual 435, 3) := by decide +kernel
theorem d_MM_side1_19 : decode b_MM_side1 19 = .ok (.aload_n 0, 1) := by decide +kernel
theorem d_MM_side1_20 : decode b_MM_side1 20 = .ok (.iconst (-1), 1) := by decide +kernel
theorem d_MM_side1_21 : decode b_MM_side1 21 = .ok (.iload_n 3, 1) := by decide +kernel
theorem d_MM_side1_22 : decode b_MM_side1 22 = .ok (.isub, 1) := by decide +kernel
theorem d_MM_side1_23 : decode b_MM_side1 23 = .ok (.iconst (-1), 1) := by decide +kernel
theorem d_MM_side1_24 : decode b_MM_side1 24 = .ok (.invokevirtual 489, 3) := by decide +kernel
theorem d_MM_side1_27 : decode b_MM_side1 27 = .ok (.ireturn, 1) := by decide +kernel
theorem d_MM_side1_28 : decode b_MM_side1 28 = .ok (.iload_n 2, 1) := by decide +kernel
theorem d_MM_side1_29 : decode b_MM_side1 29 = .ok (.iconst 2, 1) := by decide +kernel
theorem d_MM_side1_30 : decode b_MM_side1 30 = .ok (.if_icmp .eq 8, 3) := by decide +kernel
theorem d_MM_side1_33 : decode b_MM_side1 33 = .ok (.aload_n 0, 1) := by decide +kernel
theorem d_MM_side1_34 : decode b_MM_side1 34 = .ok (.invokevirtual 431, 3) := by decide +kernel
theorem d_MM_side1_37 : decode b_MM_side1 37 = .ok (.athrow, 1) := by decide +kernel
theorem d_MM_side1_38 : decode b_MM_side1 38 = .ok (.aload_n 0, 1) := by decide +kernel
theorem d_MM_side1_39 : decode b_MM_side1 39 = .ok (.getfield 39, 3) := by decide +kernel
theorem d_MM_side1_42 : decode b_MM_side1 42 = .ok (.istore_n 3, 1) := by decide +kernel
theorem d_MM_side1_43 : decode b_MM_side1 43 = .ok (.aload_n 0, 1) := by decide +kernel
theorem d_MM_side1_44 : decode b_MM_side1 44 = .ok (.invokevirtual 495, 3) := by decide +kernel
theorem d_MM_side1_47 : decode b_MM_side1 47 = .ok (.istore 4, 2) := by decide +kernel
theorem d_MM_side1_49 : decode b_MM_side1 49 = .ok (.aload_n 0, 1) := by decide +kernel
theorem d_MM_side1_50 : decode b_MM_side1 50 = .ok (.invokevirtual 435, 3) := by decide +kernel
theorem d_MM_side1_53 : decode b_MM_side1 53 = .ok (.aload_n 0, 1) := by decide +kernel
theorem d_MM_side1_54 : decode b_MM_side1 54 = .ok (.invokevirtual 422, 3) := by decide +kernel
theorem d_MM_side1_57 : decode b_MM_side1 57 = .ok (.bipush 40, 2) := by decide +kernel
theorem d_MM_side1_59 : decode b_MM_side1 59 = .ok (.if_icmp .ne 11, 3) := by decide +kernel
theorem d_MM_side1_62 : decode b_MM_side1 62 = .ok (.aload_n 0, 1) := by decide +kernel
theorem d_MM_side1_63 : decode b_MM_side1 63 = .ok (.iload_n 1, 1) := by decide +kernel
theorem d_MM_side1_64 : decode b_MM_side1 64 = .ok (.invokevirtual 498, 3) := by decide +kernel
theorem d_MM_side1_67 : decode b_MM_side1 67 = .ok (.goto 4, 3) := by decide +kernel
theorem d_MM_side1_70 : decode b_MM_side1 70 = .ok (.iconst (-1), 1) := by decide +kernel
theorem d_MM_side1_71 : decode b_MM_side1 71 = .ok (.istore 5, 2) := by decide +kernel
theorem d_MM_side1_73 : decode b_MM_side1 73 = .ok (.aload_n 0, 1) := by decide +kernel
theorem d_MM_side1_74 : decode b_MM_side1 74 = .ok (.iload 4, 2) := by decide +kernel
theorem d_MM_side1_76 : decode b_MM_side1 76 = .ok (.iconst 2, 1) := by decide +kernel
theorem d_MM_side1_77 : decode b_MM_side1 77 = .ok (.aload_n 0, 1) := by decide +kernel
theorem d_MM_side1_78 : decode b_MM_side1 78 = .ok (.iload 5, 2) := by decide +kernel
theorem d_MM_side1_80 : decode b_MM_side1 80 = .ok (.invokevirtual 501, 3) := by decide +kernel
theorem d_MM_side1_83 : decode b_MM_side1 83 = .ok (.iload_n 3, 1) := by decide +kernel
theorem d_MM_side1_84 : decode b_MM_side1 84 = .ok (.invokevirtual 504, 3) := by decide +kernel
theorem d_MM_side1_87 : decode b_MM_side1 87 = .ok (.aload_n 0, 1) := by decide +kernel
theorem d_MM_side1_88 : decode b_MM_side1 88 = .ok (.iload 4, 2) := by decide +kernel
theorem d_MM_side1_90 : decode b_MM_side1 90 = .ok (.iload 5, 2) := by decide +kernel
theorem d_MM_side1_92 : decode b_MM_side1 92 = .ok (.invokevirtual 489, 3) := by decide +kernel
theorem d_MM_side1_95 : decode b_MM_side1 95 = .ok (.ireturn, 1) := by decide +kernel
abbrev b_MM_symbol1 : ByteArray := prog_14_method_16_code
def y_MM_symbol1 : MethodName := ⟨"ClauseProverModel", "symbol", "()I"⟩
theorem d_MM_symbol1_0 : decode b_MM_symbol1 0 = .ok (.aload_n 0, 1) := by decide +kernel
theorem d_MM_symbol1_1 : decode b_MM_symbol1 1 = .ok (.getfield 42, 3) := by decide +kernel
theorem d_MM_symbol1_4 : decode b_MM_symbol1 4 = .ok (.aload_n 0, 1) := by decide +kernel
theorem d_MM_symbol1_5 : decode b_MM_symbol1 5 = .ok (.getfield 39, 3) := by decide +kernel
theorem d_MM_symbol1_8 : decode b_MM_symbol1 8 = .ok (.isub, 1) := by decide +kernel
theorem d_MM_symbol1_9 : decode b_MM_symbol1 9 = .ok (.istore_n 1, 1) := by decide +kernel
theorem d_MM_symbol1_10 : decode b_MM_symbol1 10 = .ok (.iconst 1, 1) := by decide +kernel
theorem d_MM_symbol1_11 : decode b_MM_symbol1 11 = .ok (.istore_n 2, 1) := by decide +kernel
theorem d_MM_symbol1_12 : decode b_MM_symbol1 12 = .ok (.iload_n 2, 1) := by decide +kernel
theorem d_MM_symbol1_13 : decode b_MM_symbol1 13 = .ok (.aload_n 0, 1) := by decide +kernel
theorem d_MM_symbol1_14 : decode b_MM_symbol1 14 = .ok (.getfield 74, 3) := by decide +kernel
theorem d_MM_symbol1_17 : decode b_MM_symbol1 17 = .ok (.if_icmp .gt 85, 3) := by decide +kernel
theorem d_MM_symbol1_20 : decode b_MM_symbol1 20 = .ok (.aload_n 0, 1) := by decide +kernel
theorem d_MM_symbol1_21 : decode b_MM_symbol1 21 = .ok (.getfield 56, 3) := by decide +kernel
theorem d_MM_symbol1_24 : decode b_MM_symbol1 24 = .ok (.iload_n 2, 1) := by decide +kernel
theorem d_MM_symbol1_25 : decode b_MM_symbol1 25 = .ok (.iaload, 1) := by decide +kernel
theorem d_MM_symbol1_26 : decode b_MM_symbol1 26 = .ok (.iload_n 1, 1) := by decide +kernel
theorem d_MM_symbol1_27 : decode b_MM_symbol1 27 = .ok (.if_icmp .ne 7, 3) := by decide +kernel
theorem d_MM_symbol1_30 : decode b_MM_symbol1 30 = .ok (.iconst 1, 1) := by decide +kernel
theorem d_MM_symbol1_31 : decode b_MM_symbol1 31 = .ok (.goto 4, 3) := by decide +kernel
theorem d_MM_symbol1_34 : decode b_MM_symbol1 34 = .ok (.iconst 0, 1) := by decide +kernel
theorem d_MM_symbol1_35 : decode b_MM_symbol1 35 = .ok (.istore_n 3, 1) := by decide +kernel
theorem d_MM_symbol1_36 : decode b_MM_symbol1 36 = .ok (.iconst 0, 1) := by decide +kernel
theorem d_MM_symbol1_37 : decode b_MM_symbol1 37 = .ok (.istore 4, 2) := by decide +kernel
theorem d_MM_symbol1_39 : decode b_MM_symbol1 39 = .ok (.iload_n 3, 1) := by decide +kernel
theorem d_MM_symbol1_40 : decode b_MM_symbol1 40 = .ok (.ifCond .eq 50, 3) := by decide +kernel
theorem d_MM_symbol1_43 : decode b_MM_symbol1 43 = .ok (.iload 4, 2) := by decide +kernel
theorem d_MM_symbol1_45 : decode b_MM_symbol1 45 = .ok (.iload_n 1, 1) := by decide +kernel
theorem d_MM_symbol1_46 : decode b_MM_symbol1 46 = .ok (.if_icmp .ge 44, 3) := by decide +kernel
theorem d_MM_symbol1_49 : decode b_MM_symbol1 49 = .ok (.aload_n 0, 1) := by decide +kernel
theorem d_MM_symbol1_50 : decode b_MM_symbol1 50 = .ok (.getfield 65, 3) := by decide +kernel
theorem d_MM_symbol1_53 : decode b_MM_symbol1 53 = .ok (.aload_n 0, 1) := by decide +kernel
theorem d_MM_symbol1_54 : decode b_MM_symbol1 54 = .ok (.getfield 52, 3) := by decide +kernel
theorem d_MM_symbol1_57 : decode b_MM_symbol1 57 = .ok (.iload_n 2, 1) := by decide +kernel
theorem d_MM_symbol1_58 : decode b_MM_symbol1 58 = .ok (.iaload, 1) := by decide +kernel
theorem d_MM_symbol1_59 : decode b_MM_symbol1 59 = .ok (.iload 4, 2) := by decide +kernel
theorem d_MM_symbol1_61 : decode b_MM_symbol1 61 = .ok (.iadd, 1) := by decide +kernel
theorem d_MM_symbol1_62 : decode b_MM_symbol1 62 = .ok (.baload, 1) := by decide +kernel
theorem d_MM_symbol1_63 : decode b_MM_symbol1 63 = .ok (.aload_n 0, 1) := by decide +kernel
theorem d_MM_symbol1_64 : decode b_MM_symbol1 64 = .ok (.getfield 8, 3) := by decide +kernel
theorem d_MM_symbol1_67 : decode b_MM_symbol1 67 = .ok (.aload_n 0, 1) := by decide +kernel
theorem d_MM_symbol1_68 : decode b_MM_symbol1 68 = .ok (.getfield 39, 3) := by decide +kernel
theorem d_MM_symbol1_71 : decode b_MM_symbol1 71 = .ok (.iload 4, 2) := by decide +kernel
theorem d_MM_symbol1_73 : decode b_MM_symbol1 73 = .ok (.iadd, 1) := by decide +kernel
theorem d_MM_symbol1_74 : decode b_MM_symbol1 74 = .ok (.baload, 1) := by decide +kernel
theorem d_MM_symbol1_75 : decode b_MM_symbol1 75 = .ok (.if_icmp .ne 7, 3) := by decide +kernel
theorem d_MM_symbol1_78 : decode b_MM_symbol1 78 = .ok (.iconst 1, 1) := by decide +kernel
theorem d_MM_symbol1_79 : decode b_MM_symbol1 79 = .ok (.goto 4, 3) := by decide +kernel
theorem d_MM_symbol1_82 : decode b_MM_symbol1 82 = .ok (.iconst 0, 1) := by decide +kernel
theorem d_MM_symbol1_83 : decode b_MM_symbol1 83 = .ok (.istore_n 3, 1) := by decide +kernel
theorem d_MM_symbol1_84 : decode b_MM_symbol1 84 = .ok (.iinc 4 1, 3) := by decide +kernel
theorem d_MM_symbol1_87 : decode b_MM_symbol1 87 = .ok (.goto (-48), 3) := by decide +kernel
theorem d_MM_symbol1_90 : decode b_MM_symbol1 90 = .ok (.iload_n 3, 1) := by decide +kernel
theorem d_MM_symbol1_91 : decode b_MM_symbol1 91 = .ok (.ifCond .eq 5, 3) := by decide +kernel
theorem d_MM_symbol1_94 : decode b_MM_symbol1 94 = .ok (.iload_n 2, 1) := by decide +kernel
theorem d_MM_symbol1_95 : decode b_MM_symbol1 95 = .ok (.ireturn, 1) := by decide +kernel
theorem d_MM_symbol1_96 : decode b_MM_symbol1 96 = .ok (.iinc 2 1, 3) := by decide +kernel
theorem d_MM_symbol1_99 : decode b_MM_symbol1 99 = .ok (.goto (-87), 3) := by decide +kernel
theorem d_MM_symbol1_102 : decode b_MM_symbol1 102 = .ok (.aload_n 0, 1) := by decide +kernel
theorem d_MM_symbol1_103 : decode b_MM_symbol1 103 = .ok (.getfield 74, 3) := by decide +kernel
theorem d_MM_symbol1_106 : decode b_MM_symbol1 106 = .ok (.sipush 250, 3) := by decide +kernel
theorem d_MM_symbol1_109 : decode b_MM_symbol1 109 = .ok (.if_icmp .ne 16, 3) := by decide +kernel
theorem d_MM_symbol1_112 : decode b_MM_symbol1 112 = .ok (.new 426, 3) := by decide +kernel
theorem d_MM_symbol1_115 : decode b_MM_symbol1 115 = .ok (.dup, 1) := by decide +kernel
theorem d_MM_symbol1_116 : decode b_MM_symbol1 116 = .ok (.iconst 3, 1) := by decide +kernel
theorem d_MM_symbol1_117 : decode b_MM_symbol1 117 = .ok (.aload_n 0, 1) := by decide +kernel
theorem d_MM_symbol1_118 : decode b_MM_symbol1 118 = .ok (.getfield 39, 3) := by decide +kernel
theorem d_MM_symbol1_121 : decode b_MM_symbol1 121 = .ok (.invokespecial 428, 3) := by decide +kernel
theorem d_MM_symbol1_124 : decode b_MM_symbol1 124 = .ok (.athrow, 1) := by decide +kernel
theorem d_MM_symbol1_125 : decode b_MM_symbol1 125 = .ok (.aload_n 0, 1) := by decide +kernel
theorem d_MM_symbol1_126 : decode b_MM_symbol1 126 = .ok (.dup, 1) := by decide +kernel
theorem d_MM_symbol1_127 : decode b_MM_symbol1 127 = .ok (.getfield 74, 3) := by decide +kernel
theorem d_MM_symbol1_130 : decode b_MM_symbol1 130 = .ok (.iconst 1, 1) := by decide +kernel
theorem d_MM_symbol1_131 : decode b_MM_symbol1 131 = .ok (.iadd, 1) := by decide +kernel
theorem d_MM_symbol1_132 : decode b_MM_symbol1 132 = .ok (.putfield 74, 3) := by decide +kernel
theorem d_MM_symbol1_135 : decode b_MM_symbol1 135 = .ok (.aload_n 0, 1) := by decide +kernel
theorem d_MM_symbol1_136 : decode b_MM_symbol1 136 = .ok (.getfield 52, 3) := by decide +kernel
theorem d_MM_symbol1_139 : decode b_MM_symbol1 139 = .ok (.aload_n 0, 1) := by decide +kernel
theorem d_MM_symbol1_140 : decode b_MM_symbol1 140 = .ok (.getfield 74, 3) := by decide +kernel
theorem d_MM_symbol1_143 : decode b_MM_symbol1 143 = .ok (.aload_n 0, 1) := by decide +kernel
theorem d_MM_symbol1_144 : decode b_MM_symbol1 144 = .ok (.getfield 68, 3) := by decide +kernel
theorem d_MM_symbol1_147 : decode b_MM_symbol1 147 = .ok (.iastore, 1) := by decide +kernel
theorem d_MM_symbol1_148 : decode b_MM_symbol1 148 = .ok (.aload_n 0, 1) := by decide +kernel
theorem d_MM_symbol1_149 : decode b_MM_symbol1 149 = .ok (.getfield 56, 3) := by decide +kernel
theorem d_MM_symbol1_152 : decode b_MM_symbol1 152 = .ok (.aload_n 0, 1) := by decide +kernel
theorem d_MM_symbol1_153 : decode b_MM_symbol1 153 = .ok (.getfield 74, 3) := by decide +kernel
theorem d_MM_symbol1_156 : decode b_MM_symbol1 156 = .ok (.iload_n 1, 1) := by decide +kernel
theorem d_MM_symbol1_157 : decode b_MM_symbol1 157 = .ok (.iastore, 1) := by decide +kernel
theorem d_MM_symbol1_158 : decode b_MM_symbol1 158 = .ok (.aload_n 0, 1) := by decide +kernel
theorem d_MM_symbol1_159 : decode b_MM_symbol1 159 = .ok (.getfield 62, 3) := by decide +kernel
theorem d_MM_symbol1_162 : decode b_MM_symbol1 162 = .ok (.aload_n 0, 1) := by decide +kernel
theorem d_MM_symbol1_163 : decode b_MM_symbol1 163 = .ok (.getfield 74, 3) := by decide +kernel
theorem d_MM_symbol1_166 : decode b_MM_symbol1 166 = .ok (.iconst 0, 1) := by decide +kernel
theorem d_MM_symbol1_167 : decode b_MM_symbol1 167 = .ok (.iastore, 1) := by decide +kernel
theorem d_MM_symbol1_168 : decode b_MM_symbol1 168 = .ok (.iconst 0, 1) := by decide +kernel
theorem d_MM_symbol1_169 : decode b_MM_symbol1 169 = .ok (.istore_n 2, 1) := by decide +kernel
theorem d_MM_symbol1_170 : decode b_MM_symbol1 170 = .ok (.iload_n 2, 1) := by decide +kernel
theorem d_MM_symbol1_171 : decode b_MM_symbol1 171 = .ok (.iload_n 1, 1) := by decide +kernel
theorem d_MM_symbol1_172 : decode b_MM_symbol1 172 = .ok (.if_icmp .ge 36, 3) := by decide +kernel
theorem d_MM_symbol1_175 : decode b_MM_symbol1 175 = .ok (.aload_n 0, 1) := by decide +kernel
theorem d_MM_symbol1_176 : decode b_MM_symbol1 176 = .ok (.getfield 65, 3) := by decide +kernel
theorem d_MM_symbol1_179 : decode b_MM_symbol1 179 = .ok (.aload_n 0, 1) := by decide +kernel
theorem d_MM_symbol1_180 : decode b_MM_symbol1 180 = .ok (.dup, 1) := by decide +kernel
theorem d_MM_symbol1_181 : decode b_MM_symbol1 181 = .ok (.getfield 68, 3) := by decide +kernel
theorem d_MM_symbol1_184 : decode b_MM_symbol1 184 = .ok (.dup_x1, 1) := by decide +kernel
theorem d_MM_symbol1_185 : decode b_MM_symbol1 185 = .ok (.iconst 1, 1) := by decide +kernel
theorem d_MM_symbol1_186 : decode b_MM_symbol1 186 = .ok (.iadd, 1) := by decide +kernel
theorem d_MM_symbol1_187 : decode b_MM_symbol1 187 = .ok (.putfield 68, 3) := by decide +kernel
theorem d_MM_symbol1_190 : decode b_MM_symbol1 190 = .ok (.aload_n 0, 1) := by decide +kernel
theorem d_MM_symbol1_191 : decode b_MM_symbol1 191 = .ok (.getfield 8, 3) := by decide +kernel
theorem d_MM_symbol1_194 : decode b_MM_symbol1 194 = .ok (.aload_n 0, 1) := by decide +kernel
theorem d_MM_symbol1_195 : decode b_MM_symbol1 195 = .ok (.getfield 39, 3) := by decide +kernel
theorem d_MM_symbol1_198 : decode b_MM_symbol1 198 = .ok (.iload_n 2, 1) := by decide +kernel
theorem d_MM_symbol1_199 : decode b_MM_symbol1 199 = .ok (.iadd, 1) := by decide +kernel
theorem d_MM_symbol1_200 : decode b_MM_symbol1 200 = .ok (.baload, 1) := by decide +kernel
theorem d_MM_symbol1_201 : decode b_MM_symbol1 201 = .ok (.bastore, 1) := by decide +kernel
theorem d_MM_symbol1_202 : decode b_MM_symbol1 202 = .ok (.iinc 2 1, 3) := by decide +kernel
theorem d_MM_symbol1_205 : decode b_MM_symbol1 205 = .ok (.goto (-35), 3) := by decide +kernel
theorem d_MM_symbol1_208 : decode b_MM_symbol1 208 = .ok (.aload_n 0, 1) := by decide +kernel
theorem d_MM_symbol1_209 : decode b_MM_symbol1 209 = .ok (.getfield 74, 3) := by decide +kernel
theorem d_MM_symbol1_212 : decode b_MM_symbol1 212 = .ok (.ireturn, 1) := by decide +kernel
abbrev b_MM_arguments : ByteArray := prog_14_method_35_code
def y_MM_arguments : MethodName := ⟨"ClauseProverModel", "arguments", "(I)I"⟩
theorem d_MM_arguments_0 : decode b_MM_arguments 0 = .ok (.aload_n 0, 1) := by decide +kernel
theorem d_MM_arguments_1 : decode b_MM_arguments 1 = .ok (.invokevirtual 435, 3) := by decide +kernel
theorem d_MM_arguments_4 : decode b_MM_arguments 4 = .ok (.aload_n 0, 1) := by decide +kernel
theorem d_MM_arguments_5 : decode b_MM_arguments 5 = .ok (.iload_n 1, 1) := by decide +kernel
theorem d_MM_arguments_6 : decode b_MM_arguments 6 = .ok (.invokevirtual 464, 3) := by decide +kernel
theorem d_MM_arguments_9 : decode b_MM_arguments 9 = .ok (.istore_n 2, 1) := by decide +kernel
theorem d_MM_arguments_10 : decode b_MM_arguments 10 = .ok (.aload_n 0, 1) := by decide +kernel
theorem d_MM_arguments_11 : decode b_MM_arguments 11 = .ok (.iload_n 2, 1) := by decide +kernel
theorem d_MM_arguments_12 : decode b_MM_arguments 12 = .ok (.invokevirtual 510, 3) := by decide +kernel
theorem d_MM_arguments_15 : decode b_MM_arguments 15 = .ok (.istore_n 3, 1) := by decide +kernel
theorem d_MM_arguments_16 : decode b_MM_arguments 16 = .ok (.iload_n 3, 1) := by decide +kernel
theorem d_MM_arguments_17 : decode b_MM_arguments 17 = .ok (.istore 4, 2) := by decide +kernel
theorem d_MM_arguments_19 : decode b_MM_arguments 19 = .ok (.aload_n 0, 1) := by decide +kernel
theorem d_MM_arguments_20 : decode b_MM_arguments 20 = .ok (.invokevirtual 422, 3) := by decide +kernel
theorem d_MM_arguments_23 : decode b_MM_arguments 23 = .ok (.bipush 44, 2) := by decide +kernel
theorem d_MM_arguments_25 : decode b_MM_arguments 25 = .ok (.if_icmp .ne 31, 3) := by decide +kernel
theorem d_MM_arguments_28 : decode b_MM_arguments 28 = .ok (.aload_n 0, 1) := by decide +kernel
theorem d_MM_arguments_29 : decode b_MM_arguments 29 = .ok (.invokevirtual 435, 3) := by decide +kernel
theorem d_MM_arguments_32 : decode b_MM_arguments 32 = .ok (.aload_n 0, 1) := by decide +kernel
theorem d_MM_arguments_33 : decode b_MM_arguments 33 = .ok (.getfield 123, 3) := by decide +kernel
theorem d_MM_arguments_36 : decode b_MM_arguments 36 = .ok (.iload 4, 2) := by decide +kernel
theorem d_MM_arguments_38 : decode b_MM_arguments 38 = .ok (.aload_n 0, 1) := by decide +kernel
theorem d_MM_arguments_39 : decode b_MM_arguments 39 = .ok (.iload_n 2, 1) := by decide +kernel
theorem d_MM_arguments_40 : decode b_MM_arguments 40 = .ok (.invokevirtual 510, 3) := by decide +kernel
theorem d_MM_arguments_43 : decode b_MM_arguments 43 = .ok (.iastore, 1) := by decide +kernel
theorem d_MM_arguments_44 : decode b_MM_arguments 44 = .ok (.aload_n 0, 1) := by decide +kernel
theorem d_MM_arguments_45 : decode b_MM_arguments 45 = .ok (.getfield 123, 3) := by decide +kernel
theorem d_MM_arguments_48 : decode b_MM_arguments 48 = .ok (.iload 4, 2) := by decide +kernel
theorem d_MM_arguments_50 : decode b_MM_arguments 50 = .ok (.iaload, 1) := by decide +kernel
theorem d_MM_arguments_51 : decode b_MM_arguments 51 = .ok (.istore 4, 2) := by decide +kernel
theorem d_MM_arguments_53 : decode b_MM_arguments 53 = .ok (.goto (-34), 3) := by decide +kernel
theorem d_MM_arguments_56 : decode b_MM_arguments 56 = .ok (.aload_n 0, 1) := by decide +kernel
theorem d_MM_arguments_57 : decode b_MM_arguments 57 = .ok (.bipush 41, 2) := by decide +kernel
theorem d_MM_arguments_59 : decode b_MM_arguments 59 = .ok (.invokevirtual 479, 3) := by decide +kernel
theorem d_MM_arguments_62 : decode b_MM_arguments 62 = .ok (.iload_n 3, 1) := by decide +kernel
theorem d_MM_arguments_63 : decode b_MM_arguments 63 = .ok (.ireturn, 1) := by decide +kernel
abbrev b_MM_check : ByteArray := prog_14_method_20_code
def y_MM_check : MethodName := ⟨"ClauseProverModel", "check", "(IIII)V"⟩
theorem d_MM_check_0 : decode b_MM_check 0 = .ok (.aload_n 0, 1) := by decide +kernel
theorem d_MM_check_1 : decode b_MM_check 1 = .ok (.getfield 62, 3) := by decide +kernel
theorem d_MM_check_4 : decode b_MM_check 4 = .ok (.iload_n 1, 1) := by decide +kernel
theorem d_MM_check_5 : decode b_MM_check 5 = .ok (.iaload, 1) := by decide +kernel
theorem d_MM_check_6 : decode b_MM_check 6 = .ok (.ifCond .ne 20, 3) := by decide +kernel
theorem d_MM_check_9 : decode b_MM_check 9 = .ok (.aload_n 0, 1) := by decide +kernel
theorem d_MM_check_10 : decode b_MM_check 10 = .ok (.getfield 62, 3) := by decide +kernel
theorem d_MM_check_13 : decode b_MM_check 13 = .ok (.iload_n 1, 1) := by decide +kernel
theorem d_MM_check_14 : decode b_MM_check 14 = .ok (.iload_n 2, 1) := by decide +kernel
theorem d_MM_check_15 : decode b_MM_check 15 = .ok (.iastore, 1) := by decide +kernel
theorem d_MM_check_16 : decode b_MM_check 16 = .ok (.aload_n 0, 1) := by decide +kernel
theorem d_MM_check_17 : decode b_MM_check 17 = .ok (.getfield 59, 3) := by decide +kernel
theorem d_MM_check_20 : decode b_MM_check 20 = .ok (.iload_n 1, 1) := by decide +kernel
theorem d_MM_check_21 : decode b_MM_check 21 = .ok (.iload_n 3, 1) := by decide +kernel
theorem d_MM_check_22 : decode b_MM_check 22 = .ok (.iastore, 1) := by decide +kernel
theorem d_MM_check_23 : decode b_MM_check 23 = .ok (.goto 34, 3) := by decide +kernel
theorem d_MM_check_26 : decode b_MM_check 26 = .ok (.aload_n 0, 1) := by decide +kernel
theorem d_MM_check_27 : decode b_MM_check 27 = .ok (.getfield 62, 3) := by decide +kernel
theorem d_MM_check_30 : decode b_MM_check 30 = .ok (.iload_n 1, 1) := by decide +kernel
theorem d_MM_check_31 : decode b_MM_check 31 = .ok (.iaload, 1) := by decide +kernel
theorem d_MM_check_32 : decode b_MM_check 32 = .ok (.iload_n 2, 1) := by decide +kernel
theorem d_MM_check_33 : decode b_MM_check 33 = .ok (.if_icmp .ne 13, 3) := by decide +kernel
theorem d_MM_check_36 : decode b_MM_check 36 = .ok (.aload_n 0, 1) := by decide +kernel
theorem d_MM_check_37 : decode b_MM_check 37 = .ok (.getfield 59, 3) := by decide +kernel
theorem d_MM_check_40 : decode b_MM_check 40 = .ok (.iload_n 1, 1) := by decide +kernel
theorem d_MM_check_41 : decode b_MM_check 41 = .ok (.iaload, 1) := by decide +kernel
theorem d_MM_check_42 : decode b_MM_check 42 = .ok (.iload_n 3, 1) := by decide +kernel
theorem d_MM_check_43 : decode b_MM_check 43 = .ok (.if_icmp .eq 14, 3) := by decide +kernel
theorem d_MM_check_46 : decode b_MM_check 46 = .ok (.new 426, 3) := by decide +kernel
theorem d_MM_check_49 : decode b_MM_check 49 = .ok (.dup, 1) := by decide +kernel
theorem d_MM_check_50 : decode b_MM_check 50 = .ok (.iconst 2, 1) := by decide +kernel
theorem d_MM_check_51 : decode b_MM_check 51 = .ok (.iload 4, 2) := by decide +kernel
theorem d_MM_check_53 : decode b_MM_check 53 = .ok (.invokespecial 428, 3) := by decide +kernel
theorem d_MM_check_56 : decode b_MM_check 56 = .ok (.athrow, 1) := by decide +kernel
theorem d_MM_check_57 : decode b_MM_check 57 = .ok (.return_, 1) := by decide +kernel
abbrev b_MM_clausify : ByteArray := prog_14_method_107_code
def y_MM_clausify : MethodName := ⟨"ClauseProverModel", "clausify", "()V"⟩
theorem d_MM_clausify_0 : decode b_MM_clausify 0 = .ok (.iconst 0, 1) := by decide +kernel
theorem d_MM_clausify_1 : decode b_MM_clausify 1 = .ok (.istore_n 1, 1) := by decide +kernel
theorem d_MM_clausify_2 : decode b_MM_clausify 2 = .ok (.iload_n 1, 1) := by decide +kernel
theorem d_MM_clausify_3 : decode b_MM_clausify 3 = .ok (.aload_n 0, 1) := by decide +kernel
theorem d_MM_clausify_4 : decode b_MM_clausify 4 = .ok (.getfield 181, 3) := by decide +kernel
theorem d_MM_clausify_7 : decode b_MM_clausify 7 = .ok (.if_icmp .ge 26, 3) := by decide +kernel
theorem d_MM_clausify_10 : decode b_MM_clausify 10 = .ok (.aload_n 0, 1) := by decide +kernel
theorem d_MM_clausify_11 : decode b_MM_clausify 11 = .ok (.getfield 114, 3) := by decide +kernel
theorem d_MM_clausify_14 : decode b_MM_clausify 14 = .ok (.aload_n 0, 1) := by decide +kernel
theorem d_MM_clausify_15 : decode b_MM_clausify 15 = .ok (.getfield 169, 3) := by decide +kernel
theorem d_MM_clausify_18 : decode b_MM_clausify 18 = .ok (.iload_n 1, 1) := by decide +kernel
theorem d_MM_clausify_19 : decode b_MM_clausify 19 = .ok (.iaload, 1) := by decide +kernel
theorem d_MM_clausify_20 : decode b_MM_clausify 20 = .ok (.iaload, 1) := by decide +kernel
theorem d_MM_clausify_21 : decode b_MM_clausify 21 = .ok (.sipush 200, 3) := by decide +kernel
theorem d_MM_clausify_24 : decode b_MM_clausify 24 = .ok (.if_icmp .gt 9, 3) := by decide +kernel
theorem d_MM_clausify_27 : decode b_MM_clausify 27 = .ok (.iinc 1 1, 3) := by decide +kernel
theorem d_MM_clausify_30 : decode b_MM_clausify 30 = .ok (.goto (-28), 3) := by decide +kernel
theorem d_MM_clausify_33 : decode b_MM_clausify 33 = .ok (.iconst 0, 1) := by decide +kernel
theorem d_MM_clausify_34 : decode b_MM_clausify 34 = .ok (.istore_n 2, 1) := by decide +kernel
theorem d_MM_clausify_35 : decode b_MM_clausify 35 = .ok (.iload_n 2, 1) := by decide +kernel
theorem d_MM_clausify_36 : decode b_MM_clausify 36 = .ok (.iload_n 1, 1) := by decide +kernel
theorem d_MM_clausify_37 : decode b_MM_clausify 37 = .ok (.if_icmp .ge 97, 3) := by decide +kernel
theorem d_MM_clausify_40 : decode b_MM_clausify 40 = .ok (.iconst 0, 1) := by decide +kernel
theorem d_MM_clausify_41 : decode b_MM_clausify 41 = .ok (.istore_n 3, 1) := by decide +kernel
theorem d_MM_clausify_42 : decode b_MM_clausify 42 = .ok (.iload_n 3, 1) := by decide +kernel
theorem d_MM_clausify_43 : decode b_MM_clausify 43 = .ok (.aload_n 0, 1) := by decide +kernel
theorem d_MM_clausify_44 : decode b_MM_clausify 44 = .ok (.getfield 175, 3) := by decide +kernel
theorem d_MM_clausify_47 : decode b_MM_clausify 47 = .ok (.iload_n 2, 1) := by decide +kernel
theorem d_MM_clausify_48 : decode b_MM_clausify 48 = .ok (.iaload, 1) := by decide +kernel
theorem d_MM_clausify_49 : decode b_MM_clausify 49 = .ok (.if_icmp .ge 49, 3) := by decide +kernel
theorem d_MM_clausify_52 : decode b_MM_clausify 52 = .ok (.aload_n 0, 1) := by decide +kernel
theorem d_MM_clausify_53 : decode b_MM_clausify 53 = .ok (.getfield 178, 3) := by decide +kernel
theorem d_MM_clausify_56 : decode b_MM_clausify 56 = .ok (.aload_n 0, 1) := by decide +kernel
theorem d_MM_clausify_57 : decode b_MM_clausify 57 = .ok (.getfield 172, 3) := by decide +kernel
theorem d_MM_clausify_60 : decode b_MM_clausify 60 = .ok (.iload_n 2, 1) := by decide +kernel
theorem d_MM_clausify_61 : decode b_MM_clausify 61 = .ok (.iaload, 1) := by decide +kernel
theorem d_MM_clausify_62 : decode b_MM_clausify 62 = .ok (.iload_n 3, 1) := by decide +kernel
theorem d_MM_clausify_63 : decode b_MM_clausify 63 = .ok (.iadd, 1) := by decide +kernel
theorem d_MM_clausify_64 : decode b_MM_clausify 64 = .ok (.iaload, 1) := by decide +kernel
theorem d_MM_clausify_65 : decode b_MM_clausify 65 = .ok (.istore 4, 2) := by decide +kernel
theorem d_MM_clausify_67 : decode b_MM_clausify 67 = .ok (.aload_n 0, 1) := by decide +kernel
theorem d_MM_clausify_68 : decode b_MM_clausify 68 = .ok (.getfield 190, 3) := by decide +kernel
theorem d_MM_clausify_71 : decode b_MM_clausify 71 = .ok (.iload 4, 2) := by decide +kernel
theorem d_MM_clausify_73 : decode b_MM_clausify 73 = .ok (.iload_n 3, 1) := by decide +kernel
theorem d_MM_clausify_74 : decode b_MM_clausify 74 = .ok (.iastore, 1) := by decide +kernel
theorem d_MM_clausify_75 : decode b_MM_clausify 75 = .ok (.aload_n 0, 1) := by decide +kernel
theorem d_MM_clausify_76 : decode b_MM_clausify 76 = .ok (.getfield 187, 3) := by decide +kernel
theorem d_MM_clausify_79 : decode b_MM_clausify 79 = .ok (.iload_n 2, 1) := by decide +kernel
theorem d_MM_clausify_80 : decode b_MM_clausify 80 = .ok (.baload, 1) := by decide +kernel
theorem d_MM_clausify_81 : decode b_MM_clausify 81 = .ok (.ifCond .eq 11, 3) := by decide +kernel
theorem d_MM_clausify_84 : decode b_MM_clausify 84 = .ok (.aload_n 0, 1) := by decide +kernel
theorem d_MM_clausify_85 : decode b_MM_clausify 85 = .ok (.getfield 86, 3) := by decide +kernel
theorem d_MM_clausify_88 : decode b_MM_clausify 88 = .ok (.iload 4, 2) := by decide +kernel
theorem d_MM_clausify_90 : decode b_MM_clausify 90 = .ok (.iconst 1, 1) := by decide +kernel
theorem d_MM_clausify_91 : decode b_MM_clausify 91 = .ok (.bastore, 1) := by decide +kernel
theorem d_MM_clausify_92 : decode b_MM_clausify 92 = .ok (.iinc 3 1, 3) := by decide +kernel
theorem d_MM_clausify_95 : decode b_MM_clausify 95 = .ok (.goto (-53), 3) := by decide +kernel
theorem d_MM_clausify_98 : decode b_MM_clausify 98 = .ok (.aload_n 0, 1) := by decide +kernel
theorem d_MM_clausify_99 : decode b_MM_clausify 99 = .ok (.aload_n 0, 1) := by decide +kernel
theorem d_MM_clausify_100 : decode b_MM_clausify 100 = .ok (.getfield 169, 3) := by decide +kernel
theorem d_MM_clausify_103 : decode b_MM_clausify 103 = .ok (.iload_n 2, 1) := by decide +kernel
theorem d_MM_clausify_104 : decode b_MM_clausify 104 = .ok (.iaload, 1) := by decide +kernel
theorem d_MM_clausify_105 : decode b_MM_clausify 105 = .ok (.aload_n 0, 1) := by decide +kernel
theorem d_MM_clausify_106 : decode b_MM_clausify 106 = .ok (.getfield 187, 3) := by decide +kernel
theorem d_MM_clausify_109 : decode b_MM_clausify 109 = .ok (.iload_n 2, 1) := by decide +kernel
theorem d_MM_clausify_110 : decode b_MM_clausify 110 = .ok (.baload, 1) := by decide +kernel
theorem d_MM_clausify_111 : decode b_MM_clausify 111 = .ok (.ifCond .ne 7, 3) := by decide +kernel
theorem d_MM_clausify_114 : decode b_MM_clausify 114 = .ok (.iconst 1, 1) := by decide +kernel
theorem d_MM_clausify_115 : decode b_MM_clausify 115 = .ok (.goto 4, 3) := by decide +kernel
theorem d_MM_clausify_118 : decode b_MM_clausify 118 = .ok (.iconst 0, 1) := by decide +kernel
theorem d_MM_clausify_119 : decode b_MM_clausify 119 = .ok (.aload_n 0, 1) := by decide +kernel
theorem d_MM_clausify_120 : decode b_MM_clausify 120 = .ok (.getfield 175, 3) := by decide +kernel
theorem d_MM_clausify_123 : decode b_MM_clausify 123 = .ok (.iload_n 2, 1) := by decide +kernel
theorem d_MM_clausify_124 : decode b_MM_clausify 124 = .ok (.iaload, 1) := by decide +kernel
theorem d_MM_clausify_125 : decode b_MM_clausify 125 = .ok (.invokevirtual 522, 3) := by decide +kernel
theorem d_MM_clausify_128 : decode b_MM_clausify 128 = .ok (.iinc 2 1, 3) := by decide +kernel
theorem d_MM_clausify_131 : decode b_MM_clausify 131 = .ok (.goto (-96), 3) := by decide +kernel
theorem d_MM_clausify_134 : decode b_MM_clausify 134 = .ok (.aload_n 0, 1) := by decide +kernel
theorem d_MM_clausify_135 : decode b_MM_clausify 135 = .ok (.iconst 1, 1) := by decide +kernel
theorem d_MM_clausify_136 : decode b_MM_clausify 136 = .ok (.aload_n 0, 1) := by decide +kernel
theorem d_MM_clausify_137 : decode b_MM_clausify 137 = .ok (.getfield 74, 3) := by decide +kernel
theorem d_MM_clausify_140 : decode b_MM_clausify 140 = .ok (.iadd, 1) := by decide +kernel
theorem d_MM_clausify_141 : decode b_MM_clausify 141 = .ok (.putfield 71, 3) := by decide +kernel
theorem d_MM_clausify_144 : decode b_MM_clausify 144 = .ok (.iconst 1, 1) := by decide +kernel
theorem d_MM_clausify_145 : decode b_MM_clausify 145 = .ok (.istore_n 2, 1) := by decide +kernel
theorem d_MM_clausify_146 : decode b_MM_clausify 146 = .ok (.iload_n 2, 1) := by decide +kernel
theorem d_MM_clausify_147 : decode b_MM_clausify 147 = .ok (.aload_n 0, 1) := by decide +kernel
theorem d_MM_clausify_148 : decode b_MM_clausify 148 = .ok (.getfield 74, 3) := by decide +kernel
theorem d_MM_clausify_151 : decode b_MM_clausify 151 = .ok (.if_icmp .gt 42, 3) := by decide +kernel
theorem d_MM_clausify_154 : decode b_MM_clausify 154 = .ok (.aload_n 0, 1) := by decide +kernel
theorem d_MM_clausify_155 : decode b_MM_clausify 155 = .ok (.getfield 160, 3) := by decide +kernel
theorem d_MM_clausify_158 : decode b_MM_clausify 158 = .ok (.iload_n 2, 1) := by decide +kernel
theorem d_MM_clausify_159 : decode b_MM_clausify 159 = .ok (.aload_n 0, 1) := by decide +kernel
theorem d_MM_clausify_160 : decode b_MM_clausify 160 = .ok (.getfield 59, 3) := by decide +kernel
theorem d_MM_clausify_163 : decode b_MM_clausify 163 = .ok (.iload_n 2, 1) := by decide +kernel
theorem d_MM_clausify_164 : decode b_MM_clausify 164 = .ok (.iaload, 1) := by decide +kernel
theorem d_MM_clausify_165 : decode b_MM_clausify 165 = .ok (.iastore, 1) := by decide +kernel
theorem d_MM_clausify_166 : decode b_MM_clausify 166 = .ok (.aload_n 0, 1) := by decide +kernel
theorem d_MM_clausify_167 : decode b_MM_clausify 167 = .ok (.getfield 163, 3) := by decide +kernel
theorem d_MM_clausify_170 : decode b_MM_clausify 170 = .ok (.iload_n 2, 1) := by decide +kernel
theorem d_MM_clausify_171 : decode b_MM_clausify 171 = .ok (.aload_n 0, 1) := by decide +kernel
theorem d_MM_clausify_172 : decode b_MM_clausify 172 = .ok (.getfield 62, 3) := by decide +kernel
theorem d_MM_clausify_175 : decode b_MM_clausify 175 = .ok (.iload_n 2, 1) := by decide +kernel
theorem d_MM_clausify_176 : decode b_MM_clausify 176 = .ok (.iaload, 1) := by decide +kernel
theorem d_MM_clausify_177 : decode b_MM_clausify 177 = .ok (.iconst 1, 1) := by decide +kernel
theorem d_MM_clausify_178 : decode b_MM_clausify 178 = .ok (.if_icmp .ne 7, 3) := by decide +kernel
theorem d_MM_clausify_181 : decode b_MM_clausify 181 = .ok (.iconst 1, 1) := by decide +kernel
theorem d_MM_clausify_182 : decode b_MM_clausify 182 = .ok (.goto 4, 3) := by decide +kernel
theorem d_MM_clausify_185 : decode b_MM_clausify 185 = .ok (.iconst 0, 1) := by decide +kernel
theorem d_MM_clausify_186 : decode b_MM_clausify 186 = .ok (.bastore, 1) := by decide +kernel
theorem d_MM_clausify_187 : decode b_MM_clausify 187 = .ok (.iinc 2 1, 3) := by decide +kernel
theorem d_MM_clausify_190 : decode b_MM_clausify 190 = .ok (.goto (-44), 3) := by decide +kernel
theorem d_MM_clausify_193 : decode b_MM_clausify 193 = .ok (.iconst 0, 1) := by decide +kernel
theorem d_MM_clausify_194 : decode b_MM_clausify 194 = .ok (.istore_n 2, 1) := by decide +kernel
theorem d_MM_clausify_195 : decode b_MM_clausify 195 = .ok (.iload_n 2, 1) := by decide +kernel
theorem d_MM_clausify_196 : decode b_MM_clausify 196 = .ok (.aload_n 0, 1) := by decide +kernel
theorem d_MM_clausify_197 : decode b_MM_clausify 197 = .ok (.getfield 90, 3) := by decide +kernel
theorem d_MM_clausify_200 : decode b_MM_clausify 200 = .ok (.if_icmp .ge 63, 3) := by decide +kernel
theorem d_MM_clausify_203 : decode b_MM_clausify 203 = .ok (.aload_n 0, 1) := by decide +kernel
theorem d_MM_clausify_204 : decode b_MM_clausify 204 = .ok (.getfield 86, 3) := by decide +kernel
theorem d_MM_clausify_207 : decode b_MM_clausify 207 = .ok (.iload_n 2, 1) := by decide +kernel
theorem d_MM_clausify_208 : decode b_MM_clausify 208 = .ok (.baload, 1) := by decide +kernel
theorem d_MM_clausify_209 : decode b_MM_clausify 209 = .ok (.ifCond .ne 6, 3) := by decide +kernel
theorem d_MM_clausify_212 : decode b_MM_clausify 212 = .ok (.goto 45, 3) := by decide +kernel
theorem d_MM_clausify_215 : decode b_MM_clausify 215 = .ok (.aload_n 0, 1) := by decide +kernel
theorem d_MM_clausify_216 : decode b_MM_clausify 216 = .ok (.getfield 160, 3) := by decide +kernel
theorem d_MM_clausify_219 : decode b_MM_clausify 219 = .ok (.aload_n 0, 1) := by decide +kernel
theorem d_MM_clausify_220 : decode b_MM_clausify 220 = .ok (.getfield 71, 3) := by decide +kernel
theorem d_MM_clausify_223 : decode b_MM_clausify 223 = .ok (.aload_n 0, 1) := by decide +kernel
theorem d_MM_clausify_224 : decode b_MM_clausify 224 = .ok (.getfield 190, 3) := by decide +kernel
theorem d_MM_clausify_227 : decode b_MM_clausify 227 = .ok (.iload_n 2, 1) := by decide +kernel
theorem d_MM_clausify_228 : decode b_MM_clausify 228 = .ok (.iaload, 1) := by decide +kernel
theorem d_MM_clausify_229 : decode b_MM_clausify 229 = .ok (.iastore, 1) := by decide +kernel
theorem d_MM_clausify_230 : decode b_MM_clausify 230 = .ok (.aload_n 0, 1) := by decide +kernel
theorem d_MM_clausify_231 : decode b_MM_clausify 231 = .ok (.getfield 163, 3) := by decide +kernel
theorem d_MM_clausify_234 : decode b_MM_clausify 234 = .ok (.aload_n 0, 1) := by decide +kernel
theorem d_MM_clausify_235 : decode b_MM_clausify 235 = .ok (.getfield 71, 3) := by decide +kernel
theorem d_MM_clausify_238 : decode b_MM_clausify 238 = .ok (.iconst 0, 1) := by decide +kernel
theorem d_MM_clausify_239 : decode b_MM_clausify 239 = .ok (.bastore, 1) := by decide +kernel
theorem d_MM_clausify_240 : decode b_MM_clausify 240 = .ok (.aload_n 0, 1) := by decide +kernel
theorem d_MM_clausify_241 : decode b_MM_clausify 241 = .ok (.getfield 83, 3) := by decide +kernel
theorem d_MM_clausify_244 : decode b_MM_clausify 244 = .ok (.iload_n 2, 1) := by decide +kernel
theorem d_MM_clausify_245 : decode b_MM_clausify 245 = .ok (.aload_n 0, 1) := by decide +kernel
theorem d_MM_clausify_246 : decode b_MM_clausify 246 = .ok (.dup, 1) := by decide +kernel
theorem d_MM_clausify_247 : decode b_MM_clausify 247 = .ok (.getfield 71, 3) := by decide +kernel
theorem d_MM_clausify_250 : decode b_MM_clausify 250 = .ok (.dup_x1, 1) := by decide +kernel
theorem d_MM_clausify_251 : decode b_MM_clausify 251 = .ok (.iconst 1, 1) := by decide +kernel
theorem d_MM_clausify_252 : decode b_MM_clausify 252 = .ok (.iadd, 1) := by decide +kernel
theorem d_MM_clausify_253 : decode b_MM_clausify 253 = .ok (.putfield 71, 3) := by decide +kernel
theorem d_MM_clausify_256 : decode b_MM_clausify 256 = .ok (.iastore, 1) := by decide +kernel
theorem d_MM_clausify_257 : decode b_MM_clausify 257 = .ok (.iinc 2 1, 3) := by decide +kernel
theorem d_MM_clausify_260 : decode b_MM_clausify 260 = .ok (.goto (-65), 3) := by decide +kernel
theorem d_MM_clausify_263 : decode b_MM_clausify 263 = .ok (.iconst 0, 1) := by decide +kernel
theorem d_MM_clausify_264 : decode b_MM_clausify 264 = .ok (.istore_n 2, 1) := by decide +kernel
theorem d_MM_clausify_265 : decode b_MM_clausify 265 = .ok (.iconst 0, 1) := by decide +kernel
theorem d_MM_clausify_266 : decode b_MM_clausify 266 = .ok (.istore_n 3, 1) := by decide +kernel
theorem d_MM_clausify_267 : decode b_MM_clausify 267 = .ok (.iload_n 3, 1) := by decide +kernel
theorem d_MM_clausify_268 : decode b_MM_clausify 268 = .ok (.aload_n 0, 1) := by decide +kernel
theorem d_MM_clausify_269 : decode b_MM_clausify 269 = .ok (.getfield 181, 3) := by decide +kernel
theorem d_MM_clausify_272 : decode b_MM_clausify 272 = .ok (.if_icmp .ge 83, 3) := by decide +kernel
theorem d_MM_clausify_275 : decode b_MM_clausify 275 = .ok (.iload_n 3, 1) := by decide +kernel
theorem d_MM_clausify_276 : decode b_MM_clausify 276 = .ok (.iload_n 1, 1) := by decide +kernel
theorem d_MM_clausify_277 : decode b_MM_clausify 277 = .ok (.if_icmp .ne 18, 3) := by decide +kernel
theorem d_MM_clausify_280 : decode b_MM_clausify 280 = .ok (.new 426, 3) := by decide +kernel
theorem d_MM_clausify_283 : decode b_MM_clausify 283 = .ok (.dup, 1) := by decide +kernel
theorem d_MM_clausify_284 : decode b_MM_clausify 284 = .ok (.iconst 3, 1) := by decide +kernel
theorem d_MM_clausify_285 : decode b_MM_clausify 285 = .ok (.aload_n 0, 1) := by decide +kernel
theorem d_MM_clausify_286 : decode b_MM_clausify 286 = .ok (.getfield 166, 3) := by decide +kernel
theorem d_MM_clausify_289 : decode b_MM_clausify 289 = .ok (.iload_n 3, 1) := by decide +kernel
theorem d_MM_clausify_290 : decode b_MM_clausify 290 = .ok (.iaload, 1) := by decide +kernel
theorem d_MM_clausify_291 : decode b_MM_clausify 291 = .ok (.invokespecial 428, 3) := by decide +kernel
theorem d_MM_clausify_294 : decode b_MM_clausify 294 = .ok (.athrow, 1) := by decide +kernel
theorem d_MM_clausify_295 : decode b_MM_clausify 295 = .ok (.iload_n 2, 1) := by decide +kernel
theorem d_MM_clausify_296 : decode b_MM_clausify 296 = .ok (.aload_n 0, 1) := by decide +kernel
theorem d_MM_clausify_297 : decode b_MM_clausify 297 = .ok (.aload_n 0, 1) := by decide +kernel
theorem d_MM_clausify_298 : decode b_MM_clausify 298 = .ok (.getfield 169, 3) := by decide +kernel
theorem d_MM_clausify_301 : decode b_MM_clausify 301 = .ok (.iload_n 3, 1) := by decide +kernel
theorem d_MM_clausify_302 : decode b_MM_clausify 302 = .ok (.iaload, 1) := by decide +kernel
theorem d_MM_clausify_303 : decode b_MM_clausify 303 = .ok (.aload_n 0, 1) := by decide +kernel
theorem d_MM_clausify_304 : decode b_MM_clausify 304 = .ok (.getfield 187, 3) := by decide +kernel
theorem d_MM_clausify_307 : decode b_MM_clausify 307 = .ok (.iload_n 3, 1) := by decide +kernel
theorem d_MM_clausify_308 : decode b_MM_clausify 308 = .ok (.baload, 1) := by decide +kernel
theorem d_MM_clausify_309 : decode b_MM_clausify 309 = .ok (.ifCond .ne 7, 3) := by decide +kernel
theorem d_MM_clausify_312 : decode b_MM_clausify 312 = .ok (.iconst 1, 1) := by decide +kernel
theorem d_MM_clausify_313 : decode b_MM_clausify 313 = .ok (.goto 4, 3) := by decide +kernel
theorem d_MM_clausify_316 : decode b_MM_clausify 316 = .ok (.iconst 0, 1) := by decide +kernel
theorem d_MM_clausify_317 : decode b_MM_clausify 317 = .ok (.invokevirtual 532, 3) := by decide +kernel
theorem d_MM_clausify_320 : decode b_MM_clausify 320 = .ok (.iadd, 1) := by decide +kernel
theorem d_MM_clausify_321 : decode b_MM_clausify 321 = .ok (.istore_n 2, 1) := by decide +kernel
theorem d_MM_clausify_322 : decode b_MM_clausify 322 = .ok (.iload_n 2, 1) := by decide +kernel
theorem d_MM_clausify_323 : decode b_MM_clausify 323 = .ok (.sipush 200, 3) := by decide +kernel
theorem d_MM_clausify_326 : decode b_MM_clausify 326 = .ok (.if_icmp .le 18, 3) := by decide +kernel
theorem d_MM_clausify_329 : decode b_MM_clausify 329 = .ok (.new 426, 3) := by decide +kernel
theorem d_MM_clausify_332 : decode b_MM_clausify 332 = .ok (.dup, 1) := by decide +kernel
theorem d_MM_clausify_333 : decode b_MM_clausify 333 = .ok (.iconst 3, 1) := by decide +kernel
theorem d_MM_clausify_334 : decode b_MM_clausify 334 = .ok (.aload_n 0, 1) := by decide +kernel
theorem d_MM_clausify_335 : decode b_MM_clausify 335 = .ok (.getfield 166, 3) := by decide +kernel
theorem d_MM_clausify_338 : decode b_MM_clausify 338 = .ok (.iload_n 3, 1) := by decide +kernel
theorem d_MM_clausify_339 : decode b_MM_clausify 339 = .ok (.iaload, 1) := by decide +kernel
theorem d_MM_clausify_340 : decode b_MM_clausify 340 = .ok (.invokespecial 428, 3) := by decide +kernel
theorem d_MM_clausify_343 : decode b_MM_clausify 343 = .ok (.athrow, 1) := by decide +kernel
theorem d_MM_clausify_344 : decode b_MM_clausify 344 = .ok (.aload_n 0, 1) := by decide +kernel
theorem d_MM_clausify_345 : decode b_MM_clausify 345 = .ok (.iload_n 3, 1) := by decide +kernel
theorem d_MM_clausify_346 : decode b_MM_clausify 346 = .ok (.invokevirtual 750, 3) := by decide +kernel
theorem d_MM_clausify_349 : decode b_MM_clausify 349 = .ok (.iinc 3 1, 3) := by decide +kernel
theorem d_MM_clausify_352 : decode b_MM_clausify 352 = .ok (.goto (-85), 3) := by decide +kernel
theorem d_MM_clausify_355 : decode b_MM_clausify 355 = .ok (.return_, 1) := by decide +kernel
abbrev b_MM_sentenceClauses : ByteArray := prog_14_method_108_code
def y_MM_sentenceClauses : MethodName := ⟨"ClauseProverModel", "sentenceClauses", "(I)V"⟩
theorem d_MM_sentenceClauses_0 : decode b_MM_sentenceClauses 0 = .ok (.aload_n 0, 1) := by decide +kernel
theorem d_MM_sentenceClauses_1 : decode b_MM_sentenceClauses 1 = .ok (.ldc_w 633, 3) := by decide +kernel
theorem d_MM_sentenceClauses_4 : decode b_MM_sentenceClauses 4 = .ok (.putfield 157, 3) := by decide +kernel
theorem d_MM_sentenceClauses_7 : decode b_MM_sentenceClauses 7 = .ok (.aload_n 0, 1) := by decide +kernel
theorem d_MM_sentenceClauses_8 : decode b_MM_sentenceClauses 8 = .ok (.iconst 0, 1) := by decide +kernel
theorem d_MM_sentenceClauses_9 : decode b_MM_sentenceClauses 9 = .ok (.putfield 202, 3) := by decide +kernel
theorem d_MM_sentenceClauses_12 : decode b_MM_sentenceClauses 12 = .ok (.iconst 0, 1) := by decide +kernel
theorem d_MM_sentenceClauses_13 : decode b_MM_sentenceClauses 13 = .ok (.istore_n 2, 1) := by decide +kernel
theorem d_MM_sentenceClauses_14 : decode b_MM_sentenceClauses 14 = .ok (.iload_n 2, 1) := by decide +kernel
theorem d_MM_sentenceClauses_15 : decode b_MM_sentenceClauses 15 = .ok (.aload_n 0, 1) := by decide +kernel
theorem d_MM_sentenceClauses_16 : decode b_MM_sentenceClauses 16 = .ok (.getfield 175, 3) := by decide +kernel
theorem d_MM_sentenceClauses_19 : decode b_MM_sentenceClauses 19 = .ok (.iload_n 1, 1) := by decide +kernel
theorem d_MM_sentenceClauses_20 : decode b_MM_sentenceClauses 20 = .ok (.iaload, 1) := by decide +kernel
theorem d_MM_sentenceClauses_21 : decode b_MM_sentenceClauses 21 = .ok (.if_icmp .ge 40, 3) := by decide +kernel
theorem d_MM_sentenceClauses_24 : decode b_MM_sentenceClauses 24 = .ok (.aload_n 0, 1) := by decide +kernel
theorem d_MM_sentenceClauses_25 : decode b_MM_sentenceClauses 25 = .ok (.aload_n 0, 1) := by decide +kernel
theorem d_MM_sentenceClauses_26 : decode b_MM_sentenceClauses 26 = .ok (.getfield 178, 3) := by decide +kernel
theorem d_MM_sentenceClauses_29 : decode b_MM_sentenceClauses 29 = .ok (.aload_n 0, 1) := by decide +kernel
theorem d_MM_sentenceClauses_30 : decode b_MM_sentenceClauses 30 = .ok (.getfield 172, 3) := by decide +kernel
theorem d_MM_sentenceClauses_33 : decode b_MM_sentenceClauses 33 = .ok (.iload_n 1, 1) := by decide +kernel
theorem d_MM_sentenceClauses_34 : decode b_MM_sentenceClauses 34 = .ok (.iaload, 1) := by decide +kernel
theorem d_MM_sentenceClauses_35 : decode b_MM_sentenceClauses 35 = .ok (.iload_n 2, 1) := by decide +kernel
theorem d_MM_sentenceClauses_36 : decode b_MM_sentenceClauses 36 = .ok (.iadd, 1) := by decide +kernel
theorem d_MM_sentenceClauses_37 : decode b_MM_sentenceClauses 37 = .ok (.iaload, 1) := by decide +kernel
theorem d_MM_sentenceClauses_38 : decode b_MM_sentenceClauses 38 = .ok (.aload_n 0, 1) := by decide +kernel
theorem d_MM_sentenceClauses_39 : decode b_MM_sentenceClauses 39 = .ok (.getfield 187, 3) := by decide +kernel
theorem d_MM_sentenceClauses_42 : decode b_MM_sentenceClauses 42 = .ok (.iload_n 1, 1) := by decide +kernel
theorem d_MM_sentenceClauses_43 : decode b_MM_sentenceClauses 43 = .ok (.baload, 1) := by decide +kernel
theorem d_MM_sentenceClauses_44 : decode b_MM_sentenceClauses 44 = .ok (.ifCond .ne 7, 3) := by decide +kernel
theorem d_MM_sentenceClauses_47 : decode b_MM_sentenceClauses 47 = .ok (.iconst 1, 1) := by decide +kernel
theorem d_MM_sentenceClauses_48 : decode b_MM_sentenceClauses 48 = .ok (.goto 4, 3) := by decide +kernel
theorem d_MM_sentenceClauses_51 : decode b_MM_sentenceClauses 51 = .ok (.iconst 0, 1) := by decide +kernel
theorem d_MM_sentenceClauses_52 : decode b_MM_sentenceClauses 52 = .ok (.invokevirtual 571, 3) := by decide +kernel
theorem d_MM_sentenceClauses_55 : decode b_MM_sentenceClauses 55 = .ok (.iinc 2 1, 3) := by decide +kernel
theorem d_MM_sentenceClauses_58 : decode b_MM_sentenceClauses 58 = .ok (.goto (-44), 3) := by decide +kernel
theorem d_MM_sentenceClauses_61 : decode b_MM_sentenceClauses 61 = .ok (.aload_n 0, 1) := by decide +kernel
theorem d_MM_sentenceClauses_62 : decode b_MM_sentenceClauses 62 = .ok (.iconst 0, 1) := by decide +kernel
theorem d_MM_sentenceClauses_63 : decode b_MM_sentenceClauses 63 = .ok (.putfield 211, 3) := by decide +kernel
theorem d_MM_sentenceClauses_66 : decode b_MM_sentenceClauses 66 = .ok (.aload_n 0, 1) := by decide +kernel
theorem d_MM_sentenceClauses_67 : decode b_MM_sentenceClauses 67 = .ok (.aload_n 0, 1) := by decide +kernel
theorem d_MM_sentenceClauses_68 : decode b_MM_sentenceClauses 68 = .ok (.getfield 169, 3) := by decide +kernel
theorem d_MM_sentenceClauses_71 : decode b_MM_sentenceClauses 71 = .ok (.iload_n 1, 1) := by decide +kernel
theorem d_MM_sentenceClauses_72 : decode b_MM_sentenceClauses 72 = .ok (.iaload, 1) := by decide +kernel
theorem d_MM_sentenceClauses_73 : decode b_MM_sentenceClauses 73 = .ok (.aload_n 0, 1) := by decide +kernel
theorem d_MM_sentenceClauses_74 : decode b_MM_sentenceClauses 74 = .ok (.getfield 187, 3) := by decide +kernel
theorem d_MM_sentenceClauses_77 : decode b_MM_sentenceClauses 77 = .ok (.iload_n 1, 1) := by decide +kernel
theorem d_MM_sentenceClauses_78 : decode b_MM_sentenceClauses 78 = .ok (.baload, 1) := by decide +kernel
theorem d_MM_sentenceClauses_79 : decode b_MM_sentenceClauses 79 = .ok (.ifCond .ne 7, 3) := by decide +kernel
theorem d_MM_sentenceClauses_82 : decode b_MM_sentenceClauses 82 = .ok (.iconst 1, 1) := by decide +kernel
theorem d_MM_sentenceClauses_83 : decode b_MM_sentenceClauses 83 = .ok (.goto 4, 3) := by decide +kernel
theorem d_MM_sentenceClauses_86 : decode b_MM_sentenceClauses 86 = .ok (.iconst 0, 1) := by decide +kernel
theorem d_MM_sentenceClauses_87 : decode b_MM_sentenceClauses 87 = .ok (.invokevirtual 560, 3) := by decide +kernel
theorem d_MM_sentenceClauses_90 : decode b_MM_sentenceClauses 90 = .ok (.goto 19, 3) := by decide +kernel
theorem d_MM_sentenceClauses_93 : decode b_MM_sentenceClauses 93 = .ok (.astore_n 2, 1) := by decide +kernel
theorem d_MM_sentenceClauses_94 : decode b_MM_sentenceClauses 94 = .ok (.new 426, 3) := by decide +kernel
theorem d_MM_sentenceClauses_97 : decode b_MM_sentenceClauses 97 = .ok (.dup, 1) := by decide +kernel
theorem d_MM_sentenceClauses_98 : decode b_MM_sentenceClauses 98 = .ok (.iconst 3, 1) := by decide +kernel
theorem d_MM_sentenceClauses_99 : decode b_MM_sentenceClauses 99 = .ok (.aload_n 0, 1) := by decide +kernel
theorem d_MM_sentenceClauses_100 : decode b_MM_sentenceClauses 100 = .ok (.getfield 166, 3) := by decide +kernel
theorem d_MM_sentenceClauses_103 : decode b_MM_sentenceClauses 103 = .ok (.iload_n 1, 1) := by decide +kernel
theorem d_MM_sentenceClauses_104 : decode b_MM_sentenceClauses 104 = .ok (.iaload, 1) := by decide +kernel
theorem d_MM_sentenceClauses_105 : decode b_MM_sentenceClauses 105 = .ok (.invokespecial 428, 3) := by decide +kernel
theorem d_MM_sentenceClauses_108 : decode b_MM_sentenceClauses 108 = .ok (.athrow, 1) := by decide +kernel
theorem d_MM_sentenceClauses_109 : decode b_MM_sentenceClauses 109 = .ok (.iconst 0, 1) := by decide +kernel
theorem d_MM_sentenceClauses_110 : decode b_MM_sentenceClauses 110 = .ok (.istore_n 2, 1) := by decide +kernel
theorem d_MM_sentenceClauses_111 : decode b_MM_sentenceClauses 111 = .ok (.iload_n 2, 1) := by decide +kernel
theorem d_MM_sentenceClauses_112 : decode b_MM_sentenceClauses 112 = .ok (.aload_n 0, 1) := by decide +kernel
theorem d_MM_sentenceClauses_113 : decode b_MM_sentenceClauses 113 = .ok (.getfield 211, 3) := by decide +kernel
theorem d_MM_sentenceClauses_116 : decode b_MM_sentenceClauses 116 = .ok (.if_icmp .ge 41, 3) := by decide +kernel
theorem d_MM_sentenceClauses_119 : decode b_MM_sentenceClauses 119 = .ok (.aload_n 0, 1) := by decide +kernel
theorem d_MM_sentenceClauses_120 : decode b_MM_sentenceClauses 120 = .ok (.bipush 24, 2) := by decide +kernel
theorem d_MM_sentenceClauses_122 : decode b_MM_sentenceClauses 122 = .ok (.iload_n 2, 1) := by decide +kernel
theorem d_MM_sentenceClauses_123 : decode b_MM_sentenceClauses 123 = .ok (.imul, 1) := by decide +kernel
theorem d_MM_sentenceClauses_124 : decode b_MM_sentenceClauses 124 = .ok (.aload_n 0, 1) := by decide +kernel
theorem d_MM_sentenceClauses_125 : decode b_MM_sentenceClauses 125 = .ok (.getfield 208, 3) := by decide +kernel
theorem d_MM_sentenceClauses_128 : decode b_MM_sentenceClauses 128 = .ok (.iload_n 2, 1) := by decide +kernel
theorem d_MM_sentenceClauses_129 : decode b_MM_sentenceClauses 129 = .ok (.iaload, 1) := by decide +kernel
theorem d_MM_sentenceClauses_130 : decode b_MM_sentenceClauses 130 = .ok (.invokevirtual 753, 3) := by decide +kernel
theorem d_MM_sentenceClauses_133 : decode b_MM_sentenceClauses 133 = .ok (.ifCond .ne 18, 3) := by decide +kernel
theorem d_MM_sentenceClauses_136 : decode b_MM_sentenceClauses 136 = .ok (.new 426, 3) := by decide +kernel
theorem d_MM_sentenceClauses_139 : decode b_MM_sentenceClauses 139 = .ok (.dup, 1) := by decide +kernel
theorem d_MM_sentenceClauses_140 : decode b_MM_sentenceClauses 140 = .ok (.iconst 3, 1) := by decide +kernel
theorem d_MM_sentenceClauses_141 : decode b_MM_sentenceClauses 141 = .ok (.aload_n 0, 1) := by decide +kernel
theorem d_MM_sentenceClauses_142 : decode b_MM_sentenceClauses 142 = .ok (.getfield 166, 3) := by decide +kernel
theorem d_MM_sentenceClauses_145 : decode b_MM_sentenceClauses 145 = .ok (.iload_n 1, 1) := by decide +kernel
theorem d_MM_sentenceClauses_146 : decode b_MM_sentenceClauses 146 = .ok (.iaload, 1) := by decide +kernel
theorem d_MM_sentenceClauses_147 : decode b_MM_sentenceClauses 147 = .ok (.invokespecial 428, 3) := by decide +kernel
theorem d_MM_sentenceClauses_150 : decode b_MM_sentenceClauses 150 = .ok (.athrow, 1) := by decide +kernel
theorem d_MM_sentenceClauses_151 : decode b_MM_sentenceClauses 151 = .ok (.iinc 2 1, 3) := by decide +kernel
theorem d_MM_sentenceClauses_154 : decode b_MM_sentenceClauses 154 = .ok (.goto (-43), 3) := by decide +kernel
theorem d_MM_sentenceClauses_157 : decode b_MM_sentenceClauses 157 = .ok (.aload_n 0, 1) := by decide +kernel
theorem d_MM_sentenceClauses_158 : decode b_MM_sentenceClauses 158 = .ok (.aload_n 0, 1) := by decide +kernel
theorem d_MM_sentenceClauses_159 : decode b_MM_sentenceClauses 159 = .ok (.getfield 157, 3) := by decide +kernel
theorem d_MM_sentenceClauses_162 : decode b_MM_sentenceClauses 162 = .ok (.putfield 385, 3) := by decide +kernel
theorem d_MM_sentenceClauses_165 : decode b_MM_sentenceClauses 165 = .ok (.iconst 0, 1) := by decide +kernel
theorem d_MM_sentenceClauses_166 : decode b_MM_sentenceClauses 166 = .ok (.istore_n 2, 1) := by decide +kernel
theorem d_MM_sentenceClauses_167 : decode b_MM_sentenceClauses 167 = .ok (.iload_n 2, 1) := by decide +kernel
theorem d_MM_sentenceClauses_168 : decode b_MM_sentenceClauses 168 = .ok (.aload_n 0, 1) := by decide +kernel
theorem d_MM_sentenceClauses_169 : decode b_MM_sentenceClauses 169 = .ok (.getfield 211, 3) := by decide +kernel
theorem d_MM_sentenceClauses_172 : decode b_MM_sentenceClauses 172 = .ok (.if_icmp .ge 114, 3) := by decide +kernel
theorem d_MM_sentenceClauses_175 : decode b_MM_sentenceClauses 175 = .ok (.bipush 24, 2) := by decide +kernel
theorem d_MM_sentenceClauses_177 : decode b_MM_sentenceClauses 177 = .ok (.iload_n 2, 1) := by decide +kernel
theorem d_MM_sentenceClauses_178 : decode b_MM_sentenceClauses 178 = .ok (.imul, 1) := by decide +kernel
theorem d_MM_sentenceClauses_179 : decode b_MM_sentenceClauses 179 = .ok (.istore_n 3, 1) := by decide +kernel
theorem d_MM_sentenceClauses_180 : decode b_MM_sentenceClauses 180 = .ok (.aload_n 0, 1) := by decide +kernel
theorem d_MM_sentenceClauses_181 : decode b_MM_sentenceClauses 181 = .ok (.aload_n 0, 1) := by decide +kernel
theorem d_MM_sentenceClauses_182 : decode b_MM_sentenceClauses 182 = .ok (.getfield 385, 3) := by decide +kernel
theorem d_MM_sentenceClauses_185 : decode b_MM_sentenceClauses 185 = .ok (.putfield 157, 3) := by decide +kernel
theorem d_MM_sentenceClauses_188 : decode b_MM_sentenceClauses 188 = .ok (.aload_n 0, 1) := by decide +kernel
theorem d_MM_sentenceClauses_189 : decode b_MM_sentenceClauses 189 = .ok (.iconst 0, 1) := by decide +kernel
theorem d_MM_sentenceClauses_190 : decode b_MM_sentenceClauses 190 = .ok (.putfield 311, 3) := by decide +kernel
theorem d_MM_sentenceClauses_193 : decode b_MM_sentenceClauses 193 = .ok (.iload_n 3, 1) := by decide +kernel
theorem d_MM_sentenceClauses_194 : decode b_MM_sentenceClauses 194 = .ok (.istore 4, 2) := by decide +kernel
theorem d_MM_sentenceClauses_196 : decode b_MM_sentenceClauses 196 = .ok (.iload 4, 2) := by decide +kernel
theorem d_MM_sentenceClauses_198 : decode b_MM_sentenceClauses 198 = .ok (.iload_n 3, 1) := by decide +kernel
theorem d_MM_sentenceClauses_199 : decode b_MM_sentenceClauses 199 = .ok (.aload_n 0, 1) := by decide +kernel
theorem d_MM_sentenceClauses_200 : decode b_MM_sentenceClauses 200 = .ok (.getfield 208, 3) := by decide +kernel
theorem d_MM_sentenceClauses_203 : decode b_MM_sentenceClauses 203 = .ok (.iload_n 2, 1) := by decide +kernel
theorem d_MM_sentenceClauses_204 : decode b_MM_sentenceClauses 204 = .ok (.iaload, 1) := by decide +kernel
theorem d_MM_sentenceClauses_205 : decode b_MM_sentenceClauses 205 = .ok (.iadd, 1) := by decide +kernel
theorem d_MM_sentenceClauses_206 : decode b_MM_sentenceClauses 206 = .ok (.if_icmp .ge 55, 3) := by decide +kernel
theorem d_MM_sentenceClauses_209 : decode b_MM_sentenceClauses 209 = .ok (.aload_n 0, 1) := by decide +kernel
theorem d_MM_sentenceClauses_210 : decode b_MM_sentenceClauses 210 = .ok (.aload_n 0, 1) := by decide +kernel
theorem d_MM_sentenceClauses_211 : decode b_MM_sentenceClauses 211 = .ok (.aload_n 0, 1) := by decide +kernel
theorem d_MM_sentenceClauses_212 : decode b_MM_sentenceClauses 212 = .ok (.getfield 205, 3) := by decide +kernel
theorem d_MM_sentenceClauses_215 : decode b_MM_sentenceClauses 215 = .ok (.iload 4, 2) := by decide +kernel
theorem d_MM_sentenceClauses_217 : decode b_MM_sentenceClauses 217 = .ok (.iaload, 1) := by decide +kernel
theorem d_MM_sentenceClauses_218 : decode b_MM_sentenceClauses 218 = .ok (.invokevirtual 519, 3) := by decide +kernel
theorem d_MM_sentenceClauses_221 : decode b_MM_sentenceClauses 221 = .ok (.aload_n 0, 1) := by decide +kernel
theorem d_MM_sentenceClauses_222 : decode b_MM_sentenceClauses 222 = .ok (.aload_n 0, 1) := by decide +kernel
theorem d_MM_sentenceClauses_223 : decode b_MM_sentenceClauses 223 = .ok (.getfield 205, 3) := by decide +kernel
theorem d_MM_sentenceClauses_226 : decode b_MM_sentenceClauses 226 = .ok (.iload 4, 2) := by decide +kernel
theorem d_MM_sentenceClauses_228 : decode b_MM_sentenceClauses 228 = .ok (.iconst 1, 1) := by decide +kernel
theorem d_MM_sentenceClauses_229 : decode b_MM_sentenceClauses 229 = .ok (.iadd, 1) := by decide +kernel
theorem d_MM_sentenceClauses_230 : decode b_MM_sentenceClauses 230 = .ok (.iaload, 1) := by decide +kernel
theorem d_MM_sentenceClauses_231 : decode b_MM_sentenceClauses 231 = .ok (.invokevirtual 519, 3) := by decide +kernel
theorem d_MM_sentenceClauses_234 : decode b_MM_sentenceClauses 234 = .ok (.aload_n 0, 1) := by decide +kernel
theorem d_MM_sentenceClauses_235 : decode b_MM_sentenceClauses 235 = .ok (.getfield 205, 3) := by decide +kernel
theorem d_MM_sentenceClauses_238 : decode b_MM_sentenceClauses 238 = .ok (.iload 4, 2) := by decide +kernel
theorem d_MM_sentenceClauses_240 : decode b_MM_sentenceClauses 240 = .ok (.iconst 2, 1) := by decide +kernel
theorem d_MM_sentenceClauses_241 : decode b_MM_sentenceClauses 241 = .ok (.iadd, 1) := by decide +kernel
theorem d_MM_sentenceClauses_242 : decode b_MM_sentenceClauses 242 = .ok (.iaload, 1) := by decide +kernel
theorem d_MM_sentenceClauses_243 : decode b_MM_sentenceClauses 243 = .ok (.iconst 1, 1) := by decide +kernel
theorem d_MM_sentenceClauses_244 : decode b_MM_sentenceClauses 244 = .ok (.if_icmp .ne 7, 3) := by decide +kernel
theorem d_MM_sentenceClauses_247 : decode b_MM_sentenceClauses 247 = .ok (.iconst 1, 1) := by decide +kernel
theorem d_MM_sentenceClauses_248 : decode b_MM_sentenceClauses 248 = .ok (.goto 4, 3) := by decide +kernel
theorem d_MM_sentenceClauses_251 : decode b_MM_sentenceClauses 251 = .ok (.iconst 0, 1) := by decide +kernel
theorem d_MM_sentenceClauses_252 : decode b_MM_sentenceClauses 252 = .ok (.invokevirtual 634, 3) := by decide +kernel
theorem d_MM_sentenceClauses_255 : decode b_MM_sentenceClauses 255 = .ok (.iinc 4 3, 3) := by decide +kernel
theorem d_MM_sentenceClauses_258 : decode b_MM_sentenceClauses 258 = .ok (.goto (-62), 3) := by decide +kernel
theorem d_MM_sentenceClauses_261 : decode b_MM_sentenceClauses 261 = .ok (.aload_n 0, 1) := by decide +kernel
theorem d_MM_sentenceClauses_262 : decode b_MM_sentenceClauses 262 = .ok (.invokevirtual 641, 3) := by decide +kernel
theorem d_MM_sentenceClauses_265 : decode b_MM_sentenceClauses 265 = .ok (.aload_n 0, 1) := by decide +kernel
theorem d_MM_sentenceClauses_266 : decode b_MM_sentenceClauses 266 = .ok (.invokevirtual 644, 3) := by decide +kernel
theorem d_MM_sentenceClauses_269 : decode b_MM_sentenceClauses 269 = .ok (.ifCond .ne 11, 3) := by decide +kernel
theorem d_MM_sentenceClauses_272 : decode b_MM_sentenceClauses 272 = .ok (.aload_n 0, 1) := by decide +kernel
theorem d_MM_sentenceClauses_273 : decode b_MM_sentenceClauses 273 = .ok (.iconst 0, 1) := by decide +kernel
theorem d_MM_sentenceClauses_274 : decode b_MM_sentenceClauses 274 = .ok (.iconst (-1), 1) := by decide +kernel
theorem d_MM_sentenceClauses_275 : decode b_MM_sentenceClauses 275 = .ok (.iconst (-1), 1) := by decide +kernel
theorem d_MM_sentenceClauses_276 : decode b_MM_sentenceClauses 276 = .ok (.invokevirtual 648, 3) := by decide +kernel
theorem d_MM_sentenceClauses_279 : decode b_MM_sentenceClauses 279 = .ok (.pop, 1) := by decide +kernel
theorem d_MM_sentenceClauses_280 : decode b_MM_sentenceClauses 280 = .ok (.iinc 2 1, 3) := by decide +kernel
theorem d_MM_sentenceClauses_283 : decode b_MM_sentenceClauses 283 = .ok (.goto (-116), 3) := by decide +kernel
theorem d_MM_sentenceClauses_286 : decode b_MM_sentenceClauses 286 = .ok (.return_, 1) := by decide +kernel
abbrev b_MM_clauses : ByteArray := prog_14_method_54_code
def y_MM_clauses : MethodName := ⟨"ClauseProverModel", "clauses", "(IZ)V"⟩
theorem d_MM_clauses_0 : decode b_MM_clauses 0 = .ok (.aload_n 0, 1) := by decide +kernel
theorem d_MM_clauses_1 : decode b_MM_clauses 1 = .ok (.getfield 105, 3) := by decide +kernel
theorem d_MM_clauses_4 : decode b_MM_clauses 4 = .ok (.iload_n 1, 1) := by decide +kernel
theorem d_MM_clauses_5 : decode b_MM_clauses 5 = .ok (.iaload, 1) := by decide +kernel
theorem d_MM_clauses_6 : decode b_MM_clauses 6 = .ok (.tableswitch 227 0 5 #[38, 47, 69, 69, 114, 152], 38) := by decide +kernel
theorem d_MM_clauses_44 : decode b_MM_clauses 44 = .ok (.aload_n 0, 1) := by decide +kernel
theorem d_MM_clauses_45 : decode b_MM_clauses 45 = .ok (.iload_n 1, 1) := by decide +kernel
theorem d_MM_clauses_46 : decode b_MM_clauses 46 = .ok (.iload_n 2, 1) := by decide +kernel
theorem d_MM_clauses_47 : decode b_MM_clauses 47 = .ok (.invokevirtual 566, 3) := by decide +kernel
theorem d_MM_clauses_50 : decode b_MM_clauses 50 = .ok (.goto 270, 3) := by decide +kernel
theorem d_MM_clauses_53 : decode b_MM_clauses 53 = .ok (.aload_n 0, 1) := by decide +kernel
theorem d_MM_clauses_54 : decode b_MM_clauses 54 = .ok (.aload_n 0, 1) := by decide +kernel
theorem d_MM_clauses_55 : decode b_MM_clauses 55 = .ok (.getfield 108, 3) := by decide +kernel
theorem d_MM_clauses_58 : decode b_MM_clauses 58 = .ok (.iload_n 1, 1) := by decide +kernel
theorem d_MM_clauses_59 : decode b_MM_clauses 59 = .ok (.iaload, 1) := by decide +kernel
theorem d_MM_clauses_60 : decode b_MM_clauses 60 = .ok (.iload_n 2, 1) := by decide +kernel
theorem d_MM_clauses_61 : decode b_MM_clauses 61 = .ok (.ifCond .ne 7, 3) := by decide +kernel
theorem d_MM_clauses_64 : decode b_MM_clauses 64 = .ok (.iconst 1, 1) := by decide +kernel
theorem d_MM_clauses_65 : decode b_MM_clauses 65 = .ok (.goto 4, 3) := by decide +kernel
theorem d_MM_clauses_68 : decode b_MM_clauses 68 = .ok (.iconst 0, 1) := by decide +kernel
theorem d_MM_clauses_69 : decode b_MM_clauses 69 = .ok (.invokevirtual 560, 3) := by decide +kernel
theorem d_MM_clauses_72 : decode b_MM_clauses 72 = .ok (.goto 248, 3) := by decide +kernel
theorem d_MM_clauses_75 : decode b_MM_clauses 75 = .ok (.aload_n 0, 1) := by decide +kernel
theorem d_MM_clauses_76 : decode b_MM_clauses 76 = .ok (.aload_n 0, 1) := by decide +kernel
theorem d_MM_clauses_77 : decode b_MM_clauses 77 = .ok (.getfield 108, 3) := by decide +kernel
theorem d_MM_clauses_80 : decode b_MM_clauses 80 = .ok (.iload_n 1, 1) := by decide +kernel
theorem d_MM_clauses_81 : decode b_MM_clauses 81 = .ok (.iaload, 1) := by decide +kernel
theorem d_MM_clauses_82 : decode b_MM_clauses 82 = .ok (.aload_n 0, 1) := by decide +kernel
theorem d_MM_clauses_83 : decode b_MM_clauses 83 = .ok (.getfield 111, 3) := by decide +kernel
theorem d_MM_clauses_86 : decode b_MM_clauses 86 = .ok (.iload_n 1, 1) := by decide +kernel
theorem d_MM_clauses_87 : decode b_MM_clauses 87 = .ok (.iaload, 1) := by decide +kernel
theorem d_MM_clauses_88 : decode b_MM_clauses 88 = .ok (.iload_n 2, 1) := by decide +kernel
theorem d_MM_clauses_89 : decode b_MM_clauses 89 = .ok (.iload_n 2, 1) := by decide +kernel
theorem d_MM_clauses_90 : decode b_MM_clauses 90 = .ok (.aload_n 0, 1) := by decide +kernel
theorem d_MM_clauses_91 : decode b_MM_clauses 91 = .ok (.getfield 105, 3) := by decide +kernel
theorem d_MM_clauses_94 : decode b_MM_clauses 94 = .ok (.iload_n 1, 1) := by decide +kernel
theorem d_MM_clauses_95 : decode b_MM_clauses 95 = .ok (.iaload, 1) := by decide +kernel
theorem d_MM_clauses_96 : decode b_MM_clauses 96 = .ok (.iconst 2, 1) := by decide +kernel
theorem d_MM_clauses_97 : decode b_MM_clauses 97 = .ok (.if_icmp .ne 7, 3) := by decide +kernel
theorem d_MM_clauses_100 : decode b_MM_clauses 100 = .ok (.iconst 1, 1) := by decide +kernel
theorem d_MM_clauses_101 : decode b_MM_clauses 101 = .ok (.goto 4, 3) := by decide +kernel
theorem d_MM_clauses_104 : decode b_MM_clauses 104 = .ok (.iconst 0, 1) := by decide +kernel
theorem d_MM_clauses_105 : decode b_MM_clauses 105 = .ok (.iload_n 2, 1) := by decide +kernel
theorem d_MM_clauses_106 : decode b_MM_clauses 106 = .ok (.if_icmp .ne 7, 3) := by decide +kernel
theorem d_MM_clauses_109 : decode b_MM_clauses 109 = .ok (.iconst 1, 1) := by decide +kernel
theorem d_MM_clauses_110 : decode b_MM_clauses 110 = .ok (.goto 4, 3) := by decide +kernel
theorem d_MM_clauses_113 : decode b_MM_clauses 113 = .ok (.iconst 0, 1) := by decide +kernel
theorem d_MM_clauses_114 : decode b_MM_clauses 114 = .ok (.invokevirtual 568, 3) := by decide +kernel
theorem d_MM_clauses_117 : decode b_MM_clauses 117 = .ok (.goto 203, 3) := by decide +kernel
theorem d_MM_clauses_120 : decode b_MM_clauses 120 = .ok (.aload_n 0, 1) := by decide +kernel
theorem d_MM_clauses_121 : decode b_MM_clauses 121 = .ok (.aload_n 0, 1) := by decide +kernel
theorem d_MM_clauses_122 : decode b_MM_clauses 122 = .ok (.getfield 108, 3) := by decide +kernel
theorem d_MM_clauses_125 : decode b_MM_clauses 125 = .ok (.iload_n 1, 1) := by decide +kernel
theorem d_MM_clauses_126 : decode b_MM_clauses 126 = .ok (.iaload, 1) := by decide +kernel
theorem d_MM_clauses_127 : decode b_MM_clauses 127 = .ok (.aload_n 0, 1) := by decide +kernel
theorem d_MM_clauses_128 : decode b_MM_clauses 128 = .ok (.getfield 111, 3) := by decide +kernel
theorem d_MM_clauses_131 : decode b_MM_clauses 131 = .ok (.iload_n 1, 1) := by decide +kernel
theorem d_MM_clauses_132 : decode b_MM_clauses 132 = .ok (.iaload, 1) := by decide +kernel
theorem d_MM_clauses_133 : decode b_MM_clauses 133 = .ok (.iload_n 2, 1) := by decide +kernel
theorem d_MM_clauses_134 : decode b_MM_clauses 134 = .ok (.ifCond .ne 7, 3) := by decide +kernel
theorem d_MM_clauses_137 : decode b_MM_clauses 137 = .ok (.iconst 1, 1) := by decide +kernel
theorem d_MM_clauses_138 : decode b_MM_clauses 138 = .ok (.goto 4, 3) := by decide +kernel
theorem d_MM_clauses_141 : decode b_MM_clauses 141 = .ok (.iconst 0, 1) := by decide +kernel
theorem d_MM_clauses_142 : decode b_MM_clauses 142 = .ok (.iload_n 2, 1) := by decide +kernel
theorem d_MM_clauses_143 : decode b_MM_clauses 143 = .ok (.iload_n 2, 1) := by decide +kernel
theorem d_MM_clauses_144 : decode b_MM_clauses 144 = .ok (.ifCond .ne 7, 3) := by decide +kernel
theorem d_MM_clauses_147 : decode b_MM_clauses 147 = .ok (.iconst 1, 1) := by decide +kernel
theorem d_MM_clauses_148 : decode b_MM_clauses 148 = .ok (.goto 4, 3) := by decide +kernel
theorem d_MM_clauses_151 : decode b_MM_clauses 151 = .ok (.iconst 0, 1) := by decide +kernel
theorem d_MM_clauses_152 : decode b_MM_clauses 152 = .ok (.invokevirtual 568, 3) := by decide +kernel
theorem d_MM_clauses_155 : decode b_MM_clauses 155 = .ok (.goto 165, 3) := by decide +kernel
theorem d_MM_clauses_158 : decode b_MM_clauses 158 = .ok (.aload_n 0, 1) := by decide +kernel
theorem d_MM_clauses_159 : decode b_MM_clauses 159 = .ok (.aload_n 0, 1) := by decide +kernel
theorem d_MM_clauses_160 : decode b_MM_clauses 160 = .ok (.getfield 108, 3) := by decide +kernel
theorem d_MM_clauses_163 : decode b_MM_clauses 163 = .ok (.iload_n 1, 1) := by decide +kernel
theorem d_MM_clauses_164 : decode b_MM_clauses 164 = .ok (.iaload, 1) := by decide +kernel
theorem d_MM_clauses_165 : decode b_MM_clauses 165 = .ok (.aload_n 0, 1) := by decide +kernel
theorem d_MM_clauses_166 : decode b_MM_clauses 166 = .ok (.getfield 111, 3) := by decide +kernel
theorem d_MM_clauses_169 : decode b_MM_clauses 169 = .ok (.iload_n 1, 1) := by decide +kernel
theorem d_MM_clauses_170 : decode b_MM_clauses 170 = .ok (.iaload, 1) := by decide +kernel
theorem d_MM_clauses_171 : decode b_MM_clauses 171 = .ok (.iload_n 2, 1) := by decide +kernel
theorem d_MM_clauses_172 : decode b_MM_clauses 172 = .ok (.ifCond .ne 7, 3) := by decide +kernel
theorem d_MM_clauses_175 : decode b_MM_clauses 175 = .ok (.iconst 1, 1) := by decide +kernel
theorem d_MM_clauses_176 : decode b_MM_clauses 176 = .ok (.goto 4, 3) := by decide +kernel
theorem d_MM_clauses_179 : decode b_MM_clauses 179 = .ok (.iconst 0, 1) := by decide +kernel
theorem d_MM_clauses_180 : decode b_MM_clauses 180 = .ok (.iconst 1, 1) := by decide +kernel
theorem d_MM_clauses_181 : decode b_MM_clauses 181 = .ok (.iconst 0, 1) := by decide +kernel
theorem d_MM_clauses_182 : decode b_MM_clauses 182 = .ok (.invokevirtual 568, 3) := by decide +kernel
theorem d_MM_clauses_185 : decode b_MM_clauses 185 = .ok (.iload_n 2, 1) := by decide +kernel
theorem d_MM_clauses_186 : decode b_MM_clauses 186 = .ok (.ifCond .eq 25, 3) := by decide +kernel
theorem d_MM_clauses_189 : decode b_MM_clauses 189 = .ok (.aload_n 0, 1) := by decide +kernel
theorem d_MM_clauses_190 : decode b_MM_clauses 190 = .ok (.aload_n 0, 1) := by decide +kernel
theorem d_MM_clauses_191 : decode b_MM_clauses 191 = .ok (.getfield 111, 3) := by decide +kernel
theorem d_MM_clauses_194 : decode b_MM_clauses 194 = .ok (.iload_n 1, 1) := by decide +kernel
theorem d_MM_clauses_195 : decode b_MM_clauses 195 = .ok (.iaload, 1) := by decide +kernel
theorem d_MM_clauses_196 : decode b_MM_clauses 196 = .ok (.aload_n 0, 1) := by decide +kernel
theorem d_MM_clauses_197 : decode b_MM_clauses 197 = .ok (.getfield 108, 3) := by decide +kernel
theorem d_MM_clauses_200 : decode b_MM_clauses 200 = .ok (.iload_n 1, 1) := by decide +kernel
theorem d_MM_clauses_201 : decode b_MM_clauses 201 = .ok (.iaload, 1) := by decide +kernel
theorem d_MM_clauses_202 : decode b_MM_clauses 202 = .ok (.iconst 0, 1) := by decide +kernel
theorem d_MM_clauses_203 : decode b_MM_clauses 203 = .ok (.iconst 1, 1) := by decide +kernel
theorem d_MM_clauses_204 : decode b_MM_clauses 204 = .ok (.iconst 0, 1) := by decide +kernel
theorem d_MM_clauses_205 : decode b_MM_clauses 205 = .ok (.invokevirtual 568, 3) := by decide +kernel
theorem d_MM_clauses_208 : decode b_MM_clauses 208 = .ok (.goto 112, 3) := by decide +kernel
theorem d_MM_clauses_211 : decode b_MM_clauses 211 = .ok (.aload_n 0, 1) := by decide +kernel
theorem d_MM_clauses_212 : decode b_MM_clauses 212 = .ok (.aload_n 0, 1) := by decide +kernel
theorem d_MM_clauses_213 : decode b_MM_clauses 213 = .ok (.getfield 108, 3) := by decide +kernel
theorem d_MM_clauses_216 : decode b_MM_clauses 216 = .ok (.iload_n 1, 1) := by decide +kernel
theorem d_MM_clauses_217 : decode b_MM_clauses 217 = .ok (.iaload, 1) := by decide +kernel
theorem d_MM_clauses_218 : decode b_MM_clauses 218 = .ok (.aload_n 0, 1) := by decide +kernel
theorem d_MM_clauses_219 : decode b_MM_clauses 219 = .ok (.getfield 111, 3) := by decide +kernel
theorem d_MM_clauses_222 : decode b_MM_clauses 222 = .ok (.iload_n 1, 1) := by decide +kernel
theorem d_MM_clauses_223 : decode b_MM_clauses 223 = .ok (.iaload, 1) := by decide +kernel
theorem d_MM_clauses_224 : decode b_MM_clauses 224 = .ok (.iconst 0, 1) := by decide +kernel
theorem d_MM_clauses_225 : decode b_MM_clauses 225 = .ok (.iconst 0, 1) := by decide +kernel
theorem d_MM_clauses_226 : decode b_MM_clauses 226 = .ok (.iconst 0, 1) := by decide +kernel
theorem d_MM_clauses_227 : decode b_MM_clauses 227 = .ok (.invokevirtual 568, 3) := by decide +kernel
theorem d_MM_clauses_230 : decode b_MM_clauses 230 = .ok (.goto 90, 3) := by decide +kernel
theorem d_MM_clauses_233 : decode b_MM_clauses 233 = .ok (.aload_n 0, 1) := by decide +kernel
theorem d_MM_clauses_234 : decode b_MM_clauses 234 = .ok (.getfield 202, 3) := by decide +kernel
theorem d_MM_clauses_237 : decode b_MM_clauses 237 = .ok (.istore_n 3, 1) := by decide +kernel
theorem d_MM_clauses_238 : decode b_MM_clauses 238 = .ok (.iconst 0, 1) := by decide +kernel
theorem d_MM_clauses_239 : decode b_MM_clauses 239 = .ok (.istore 4, 2) := by decide +kernel
theorem d_MM_clauses_241 : decode b_MM_clauses 241 = .ok (.iload 4, 2) := by decide +kernel
theorem d_MM_clauses_243 : decode b_MM_clauses 243 = .ok (.aload_n 0, 1) := by decide +kernel
theorem d_MM_clauses_244 : decode b_MM_clauses 244 = .ok (.getfield 111, 3) := by decide +kernel
theorem d_MM_clauses_247 : decode b_MM_clauses 247 = .ok (.iload_n 1, 1) := by decide +kernel
theorem d_MM_clauses_248 : decode b_MM_clauses 248 = .ok (.iaload, 1) := by decide +kernel
theorem d_MM_clauses_249 : decode b_MM_clauses 249 = .ok (.sipush 1000, 3) := by decide +kernel
theorem d_MM_clauses_252 : decode b_MM_clauses 252 = .ok (.irem, 1) := by decide +kernel
theorem d_MM_clauses_253 : decode b_MM_clauses 253 = .ok (.if_icmp .ge 51, 3) := by decide +kernel
theorem d_MM_clauses_256 : decode b_MM_clauses 256 = .ok (.aload_n 0, 1) := by decide +kernel
theorem d_MM_clauses_257 : decode b_MM_clauses 257 = .ok (.aload_n 0, 1) := by decide +kernel
theorem d_MM_clauses_258 : decode b_MM_clauses 258 = .ok (.getfield 111, 3) := by decide +kernel
theorem d_MM_clauses_261 : decode b_MM_clauses 261 = .ok (.iload_n 1, 1) := by decide +kernel
theorem d_MM_clauses_262 : decode b_MM_clauses 262 = .ok (.iaload, 1) := by decide +kernel
theorem d_MM_clauses_263 : decode b_MM_clauses 263 = .ok (.sipush 1000, 3) := by decide +kernel
theorem d_MM_clauses_266 : decode b_MM_clauses 266 = .ok (.idiv, 1) := by decide +kernel
theorem d_MM_clauses_267 : decode b_MM_clauses 267 = .ok (.iload 4, 2) := by decide +kernel
theorem d_MM_clauses_269 : decode b_MM_clauses 269 = .ok (.iadd, 1) := by decide +kernel
theorem d_MM_clauses_270 : decode b_MM_clauses 270 = .ok (.aload_n 0, 1) := by decide +kernel
theorem d_MM_clauses_271 : decode b_MM_clauses 271 = .ok (.getfield 105, 3) := by decide +kernel
theorem d_MM_clauses_274 : decode b_MM_clauses 274 = .ok (.iload_n 1, 1) := by decide +kernel
theorem d_MM_clauses_275 : decode b_MM_clauses 275 = .ok (.iaload, 1) := by decide +kernel
theorem d_MM_clauses_276 : decode b_MM_clauses 276 = .ok (.bipush 6, 2) := by decide +kernel
theorem d_MM_clauses_278 : decode b_MM_clauses 278 = .ok (.if_icmp .ne 7, 3) := by decide +kernel
theorem d_MM_clauses_281 : decode b_MM_clauses 281 = .ok (.iconst 1, 1) := by decide +kernel
theorem d_MM_clauses_282 : decode b_MM_clauses 282 = .ok (.goto 4, 3) := by decide +kernel
theorem d_MM_clauses_285 : decode b_MM_clauses 285 = .ok (.iconst 0, 1) := by decide +kernel
theorem d_MM_clauses_286 : decode b_MM_clauses 286 = .ok (.iload_n 2, 1) := by decide +kernel
theorem d_MM_clauses_287 : decode b_MM_clauses 287 = .ok (.if_icmp .ne 7, 3) := by decide +kernel
theorem d_MM_clauses_290 : decode b_MM_clauses 290 = .ok (.iconst 1, 1) := by decide +kernel
theorem d_MM_clauses_291 : decode b_MM_clauses 291 = .ok (.goto 4, 3) := by decide +kernel
theorem d_MM_clauses_294 : decode b_MM_clauses 294 = .ok (.iconst 0, 1) := by decide +kernel
theorem d_MM_clauses_295 : decode b_MM_clauses 295 = .ok (.invokevirtual 571, 3) := by decide +kernel
theorem d_MM_clauses_298 : decode b_MM_clauses 298 = .ok (.iinc 4 1, 3) := by decide +kernel
theorem d_MM_clauses_301 : decode b_MM_clauses 301 = .ok (.goto (-60), 3) := by decide +kernel
theorem d_MM_clauses_304 : decode b_MM_clauses 304 = .ok (.aload_n 0, 1) := by decide +kernel
theorem d_MM_clauses_305 : decode b_MM_clauses 305 = .ok (.aload_n 0, 1) := by decide +kernel
theorem d_MM_clauses_306 : decode b_MM_clauses 306 = .ok (.getfield 108, 3) := by decide +kernel
theorem d_MM_clauses_309 : decode b_MM_clauses 309 = .ok (.iload_n 1, 1) := by decide +kernel
theorem d_MM_clauses_310 : decode b_MM_clauses 310 = .ok (.iaload, 1) := by decide +kernel
theorem d_MM_clauses_311 : decode b_MM_clauses 311 = .ok (.iload_n 2, 1) := by decide +kernel
theorem d_MM_clauses_312 : decode b_MM_clauses 312 = .ok (.invokevirtual 560, 3) := by decide +kernel
theorem d_MM_clauses_315 : decode b_MM_clauses 315 = .ok (.aload_n 0, 1) := by decide +kernel
theorem d_MM_clauses_316 : decode b_MM_clauses 316 = .ok (.iload_n 3, 1) := by decide +kernel
theorem d_MM_clauses_317 : decode b_MM_clauses 317 = .ok (.putfield 202, 3) := by decide +kernel
theorem d_MM_clauses_320 : decode b_MM_clauses 320 = .ok (.return_, 1) := by decide +kernel
abbrev b_MM_atom2 : ByteArray := prog_14_method_51_code
def y_MM_atom2 : MethodName := ⟨"ClauseProverModel", "atom", "(IZ)V"⟩
theorem d_MM_atom2_0 : decode b_MM_atom2 0 = .ok (.iconst 1, 1) := by decide +kernel
theorem d_MM_atom2_1 : decode b_MM_atom2 1 = .ok (.istore_n 3, 1) := by decide +kernel
theorem d_MM_atom2_2 : decode b_MM_atom2 2 = .ok (.aload_n 0, 1) := by decide +kernel
theorem d_MM_atom2_3 : decode b_MM_atom2 3 = .ok (.getfield 111, 3) := by decide +kernel
theorem d_MM_atom2_6 : decode b_MM_atom2 6 = .ok (.iload_n 1, 1) := by decide +kernel
theorem d_MM_atom2_7 : decode b_MM_atom2 7 = .ok (.iaload, 1) := by decide +kernel
theorem d_MM_atom2_8 : decode b_MM_atom2 8 = .ok (.ifCond .lt 28, 3) := by decide +kernel
theorem d_MM_atom2_11 : decode b_MM_atom2 11 = .ok (.aload_n 0, 1) := by decide +kernel
theorem d_MM_atom2_12 : decode b_MM_atom2 12 = .ok (.aload_n 0, 1) := by decide +kernel
theorem d_MM_atom2_13 : decode b_MM_atom2 13 = .ok (.getfield 108, 3) := by decide +kernel
theorem d_MM_atom2_16 : decode b_MM_atom2 16 = .ok (.iload_n 1, 1) := by decide +kernel
theorem d_MM_atom2_17 : decode b_MM_atom2 17 = .ok (.iaload, 1) := by decide +kernel
theorem d_MM_atom2_18 : decode b_MM_atom2 18 = .ok (.invokevirtual 541, 3) := by decide +kernel
theorem d_MM_atom2_21 : decode b_MM_atom2 21 = .ok (.aload_n 0, 1) := by decide +kernel
theorem d_MM_atom2_22 : decode b_MM_atom2 22 = .ok (.aload_n 0, 1) := by decide +kernel
theorem d_MM_atom2_23 : decode b_MM_atom2 23 = .ok (.getfield 111, 3) := by decide +kernel
theorem d_MM_atom2_26 : decode b_MM_atom2 26 = .ok (.iload_n 1, 1) := by decide +kernel
theorem d_MM_atom2_27 : decode b_MM_atom2 27 = .ok (.iaload, 1) := by decide +kernel
theorem d_MM_atom2_28 : decode b_MM_atom2 28 = .ok (.invokevirtual 541, 3) := by decide +kernel
theorem d_MM_atom2_31 : decode b_MM_atom2 31 = .ok (.iadd, 1) := by decide +kernel
theorem d_MM_atom2_32 : decode b_MM_atom2 32 = .ok (.istore_n 3, 1) := by decide +kernel
theorem d_MM_atom2_33 : decode b_MM_atom2 33 = .ok (.goto 51, 3) := by decide +kernel
theorem d_MM_atom2_36 : decode b_MM_atom2 36 = .ok (.aload_n 0, 1) := by decide +kernel
theorem d_MM_atom2_37 : decode b_MM_atom2 37 = .ok (.getfield 141, 3) := by decide +kernel
theorem d_MM_atom2_40 : decode b_MM_atom2 40 = .ok (.aload_n 0, 1) := by decide +kernel
theorem d_MM_atom2_41 : decode b_MM_atom2 41 = .ok (.getfield 108, 3) := by decide +kernel
theorem d_MM_atom2_44 : decode b_MM_atom2 44 = .ok (.iload_n 1, 1) := by decide +kernel
theorem d_MM_atom2_45 : decode b_MM_atom2 45 = .ok (.iaload, 1) := by decide +kernel
theorem d_MM_atom2_46 : decode b_MM_atom2 46 = .ok (.iaload, 1) := by decide +kernel
theorem d_MM_atom2_47 : decode b_MM_atom2 47 = .ok (.istore 4, 2) := by decide +kernel
theorem d_MM_atom2_49 : decode b_MM_atom2 49 = .ok (.iload 4, 2) := by decide +kernel
theorem d_MM_atom2_51 : decode b_MM_atom2 51 = .ok (.ifCond .lt 30, 3) := by decide +kernel
theorem d_MM_atom2_54 : decode b_MM_atom2 54 = .ok (.sipush 1000, 3) := by decide +kernel
theorem d_MM_atom2_57 : decode b_MM_atom2 57 = .ok (.iload_n 3, 1) := by decide +kernel
theorem d_MM_atom2_58 : decode b_MM_atom2 58 = .ok (.aload_n 0, 1) := by decide +kernel
theorem d_MM_atom2_59 : decode b_MM_atom2 59 = .ok (.iload 4, 2) := by decide +kernel
theorem d_MM_atom2_61 : decode b_MM_atom2 61 = .ok (.invokevirtual 541, 3) := by decide +kernel
theorem d_MM_atom2_64 : decode b_MM_atom2 64 = .ok (.iadd, 1) := by decide +kernel
theorem d_MM_atom2_65 : decode b_MM_atom2 65 = .ok (.invokestatic 538, 3) := by decide +kernel
theorem d_MM_atom2_68 : decode b_MM_atom2 68 = .ok (.istore_n 3, 1) := by decide +kernel
theorem d_MM_atom2_69 : decode b_MM_atom2 69 = .ok (.aload_n 0, 1) := by decide +kernel
theorem d_MM_atom2_70 : decode b_MM_atom2 70 = .ok (.getfield 123, 3) := by decide +kernel
theorem d_MM_atom2_73 : decode b_MM_atom2 73 = .ok (.iload 4, 2) := by decide +kernel
theorem d_MM_atom2_75 : decode b_MM_atom2 75 = .ok (.iaload, 1) := by decide +kernel
theorem d_MM_atom2_76 : decode b_MM_atom2 76 = .ok (.istore 4, 2) := by decide +kernel
theorem d_MM_atom2_78 : decode b_MM_atom2 78 = .ok (.goto (-29), 3) := by decide +kernel
theorem d_MM_atom2_81 : decode b_MM_atom2 81 = .ok (.iinc 3 1, 3) := by decide +kernel
theorem d_MM_atom2_84 : decode b_MM_atom2 84 = .ok (.iload_n 3, 1) := by decide +kernel
theorem d_MM_atom2_85 : decode b_MM_atom2 85 = .ok (.bipush 100, 2) := by decide +kernel
theorem d_MM_atom2_87 : decode b_MM_atom2 87 = .ok (.if_icmp .le 11, 3) := by decide +kernel
theorem d_MM_atom2_90 : decode b_MM_atom2 90 = .ok (.new 551, 3) := by decide +kernel
theorem d_MM_atom2_93 : decode b_MM_atom2 93 = .ok (.dup, 1) := by decide +kernel
theorem d_MM_atom2_94 : decode b_MM_atom2 94 = .ok (.invokespecial 553, 3) := by decide +kernel
theorem d_MM_atom2_97 : decode b_MM_atom2 97 = .ok (.athrow, 1) := by decide +kernel
theorem d_MM_atom2_98 : decode b_MM_atom2 98 = .ok (.bipush 24, 2) := by decide +kernel
theorem d_MM_atom2_100 : decode b_MM_atom2 100 = .ok (.aload_n 0, 1) := by decide +kernel
theorem d_MM_atom2_101 : decode b_MM_atom2 101 = .ok (.getfield 211, 3) := by decide +kernel
theorem d_MM_atom2_104 : decode b_MM_atom2 104 = .ok (.imul, 1) := by decide +kernel
theorem d_MM_atom2_105 : decode b_MM_atom2 105 = .ok (.istore 4, 2) := by decide +kernel
theorem d_MM_atom2_107 : decode b_MM_atom2 107 = .ok (.aload_n 0, 1) := by decide +kernel
theorem d_MM_atom2_108 : decode b_MM_atom2 108 = .ok (.getfield 205, 3) := by decide +kernel
theorem d_MM_atom2_111 : decode b_MM_atom2 111 = .ok (.iload 4, 2) := by decide +kernel
theorem d_MM_atom2_113 : decode b_MM_atom2 113 = .ok (.aload_n 0, 1) := by decide +kernel
theorem d_MM_atom2_114 : decode b_MM_atom2 114 = .ok (.getfield 111, 3) := by decide +kernel
theorem d_MM_atom2_117 : decode b_MM_atom2 117 = .ok (.iload_n 1, 1) := by decide +kernel
theorem d_MM_atom2_118 : decode b_MM_atom2 118 = .ok (.iaload, 1) := by decide +kernel
theorem d_MM_atom2_119 : decode b_MM_atom2 119 = .ok (.ifCond .lt 16, 3) := by decide +kernel
theorem d_MM_atom2_122 : decode b_MM_atom2 122 = .ok (.aload_n 0, 1) := by decide +kernel
theorem d_MM_atom2_123 : decode b_MM_atom2 123 = .ok (.aload_n 0, 1) := by decide +kernel
theorem d_MM_atom2_124 : decode b_MM_atom2 124 = .ok (.getfield 108, 3) := by decide +kernel
theorem d_MM_atom2_127 : decode b_MM_atom2 127 = .ok (.iload_n 1, 1) := by decide +kernel
theorem d_MM_atom2_128 : decode b_MM_atom2 128 = .ok (.iaload, 1) := by decide +kernel
theorem d_MM_atom2_129 : decode b_MM_atom2 129 = .ok (.invokevirtual 549, 3) := by decide +kernel
theorem d_MM_atom2_132 : decode b_MM_atom2 132 = .ok (.goto 29, 3) := by decide +kernel
theorem d_MM_atom2_135 : decode b_MM_atom2 135 = .ok (.aload_n 0, 1) := by decide +kernel
theorem d_MM_atom2_136 : decode b_MM_atom2 136 = .ok (.aload_n 0, 1) := by decide +kernel
theorem d_MM_atom2_137 : decode b_MM_atom2 137 = .ok (.getfield 138, 3) := by decide +kernel
theorem d_MM_atom2_140 : decode b_MM_atom2 140 = .ok (.aload_n 0, 1) := by decide +kernel
theorem d_MM_atom2_141 : decode b_MM_atom2 141 = .ok (.getfield 108, 3) := by decide +kernel
theorem d_MM_atom2_144 : decode b_MM_atom2 144 = .ok (.iload_n 1, 1) := by decide +kernel
theorem d_MM_atom2_145 : decode b_MM_atom2 145 = .ok (.iaload, 1) := by decide +kernel
theorem d_MM_atom2_146 : decode b_MM_atom2 146 = .ok (.iaload, 1) := by decide +kernel
theorem d_MM_atom2_147 : decode b_MM_atom2 147 = .ok (.aload_n 0, 1) := by decide +kernel
theorem d_MM_atom2_148 : decode b_MM_atom2 148 = .ok (.getfield 141, 3) := by decide +kernel
theorem d_MM_atom2_151 : decode b_MM_atom2 151 = .ok (.aload_n 0, 1) := by decide +kernel
theorem d_MM_atom2_152 : decode b_MM_atom2 152 = .ok (.getfield 108, 3) := by decide +kernel
theorem d_MM_atom2_155 : decode b_MM_atom2 155 = .ok (.iload_n 1, 1) := by decide +kernel
theorem d_MM_atom2_156 : decode b_MM_atom2 156 = .ok (.iaload, 1) := by decide +kernel
theorem d_MM_atom2_157 : decode b_MM_atom2 157 = .ok (.iaload, 1) := by decide +kernel
theorem d_MM_atom2_158 : decode b_MM_atom2 158 = .ok (.invokevirtual 546, 3) := by decide +kernel
theorem d_MM_atom2_161 : decode b_MM_atom2 161 = .ok (.iastore, 1) := by decide +kernel
theorem d_MM_atom2_162 : decode b_MM_atom2 162 = .ok (.aload_n 0, 1) := by decide +kernel
theorem d_MM_atom2_163 : decode b_MM_atom2 163 = .ok (.getfield 205, 3) := by decide +kernel
theorem d_MM_atom2_166 : decode b_MM_atom2 166 = .ok (.iload 4, 2) := by decide +kernel
theorem d_MM_atom2_168 : decode b_MM_atom2 168 = .ok (.iconst 1, 1) := by decide +kernel
theorem d_MM_atom2_169 : decode b_MM_atom2 169 = .ok (.iadd, 1) := by decide +kernel
theorem d_MM_atom2_170 : decode b_MM_atom2 170 = .ok (.aload_n 0, 1) := by decide +kernel
theorem d_MM_atom2_171 : decode b_MM_atom2 171 = .ok (.getfield 111, 3) := by decide +kernel
theorem d_MM_atom2_174 : decode b_MM_atom2 174 = .ok (.iload_n 1, 1) := by decide +kernel
theorem d_MM_atom2_175 : decode b_MM_atom2 175 = .ok (.iaload, 1) := by decide +kernel
theorem d_MM_atom2_176 : decode b_MM_atom2 176 = .ok (.ifCond .lt 16, 3) := by decide +kernel
theorem d_MM_atom2_179 : decode b_MM_atom2 179 = .ok (.aload_n 0, 1) := by decide +kernel
theorem d_MM_atom2_180 : decode b_MM_atom2 180 = .ok (.aload_n 0, 1) := by decide +kernel
theorem d_MM_atom2_181 : decode b_MM_atom2 181 = .ok (.getfield 111, 3) := by decide +kernel
theorem d_MM_atom2_184 : decode b_MM_atom2 184 = .ok (.iload_n 1, 1) := by decide +kernel
theorem d_MM_atom2_185 : decode b_MM_atom2 185 = .ok (.iaload, 1) := by decide +kernel
theorem d_MM_atom2_186 : decode b_MM_atom2 186 = .ok (.invokevirtual 549, 3) := by decide +kernel
theorem d_MM_atom2_189 : decode b_MM_atom2 189 = .ok (.goto 8, 3) := by decide +kernel
theorem d_MM_atom2_192 : decode b_MM_atom2 192 = .ok (.aload_n 0, 1) := by decide +kernel
theorem d_MM_atom2_193 : decode b_MM_atom2 193 = .ok (.iconst 0, 1) := by decide +kernel
theorem d_MM_atom2_194 : decode b_MM_atom2 194 = .ok (.invokevirtual 516, 3) := by decide +kernel
theorem d_MM_atom2_197 : decode b_MM_atom2 197 = .ok (.iastore, 1) := by decide +kernel
theorem d_MM_atom2_198 : decode b_MM_atom2 198 = .ok (.aload_n 0, 1) := by decide +kernel
theorem d_MM_atom2_199 : decode b_MM_atom2 199 = .ok (.getfield 205, 3) := by decide +kernel
theorem d_MM_atom2_202 : decode b_MM_atom2 202 = .ok (.iload 4, 2) := by decide +kernel
theorem d_MM_atom2_204 : decode b_MM_atom2 204 = .ok (.iconst 2, 1) := by decide +kernel
theorem d_MM_atom2_205 : decode b_MM_atom2 205 = .ok (.iadd, 1) := by decide +kernel
theorem d_MM_atom2_206 : decode b_MM_atom2 206 = .ok (.iload_n 2, 1) := by decide +kernel
theorem d_MM_atom2_207 : decode b_MM_atom2 207 = .ok (.ifCond .eq 7, 3) := by decide +kernel
theorem d_MM_atom2_210 : decode b_MM_atom2 210 = .ok (.iconst 1, 1) := by decide +kernel
theorem d_MM_atom2_211 : decode b_MM_atom2 211 = .ok (.goto 4, 3) := by decide +kernel
theorem d_MM_atom2_214 : decode b_MM_atom2 214 = .ok (.iconst 0, 1) := by decide +kernel
theorem d_MM_atom2_215 : decode b_MM_atom2 215 = .ok (.iastore, 1) := by decide +kernel
theorem d_MM_atom2_216 : decode b_MM_atom2 216 = .ok (.aload_n 0, 1) := by decide +kernel
theorem d_MM_atom2_217 : decode b_MM_atom2 217 = .ok (.getfield 208, 3) := by decide +kernel
theorem d_MM_atom2_220 : decode b_MM_atom2 220 = .ok (.aload_n 0, 1) := by decide +kernel
theorem d_MM_atom2_221 : decode b_MM_atom2 221 = .ok (.dup, 1) := by decide +kernel
theorem d_MM_atom2_222 : decode b_MM_atom2 222 = .ok (.getfield 211, 3) := by decide +kernel
theorem d_MM_atom2_225 : decode b_MM_atom2 225 = .ok (.dup_x1, 1) := by decide +kernel
theorem d_MM_atom2_226 : decode b_MM_atom2 226 = .ok (.iconst 1, 1) := by decide +kernel
theorem d_MM_atom2_227 : decode b_MM_atom2 227 = .ok (.iadd, 1) := by decide +kernel
theorem d_MM_atom2_228 : decode b_MM_atom2 228 = .ok (.putfield 211, 3) := by decide +kernel
theorem d_MM_atom2_231 : decode b_MM_atom2 231 = .ok (.iconst 3, 1) := by decide +kernel
theorem d_MM_atom2_232 : decode b_MM_atom2 232 = .ok (.iastore, 1) := by decide +kernel
theorem d_MM_atom2_233 : decode b_MM_atom2 233 = .ok (.return_, 1) := by decide +kernel
abbrev b_MM_joined2 : ByteArray := prog_14_method_53_code
def y_MM_joined2 : MethodName := ⟨"ClauseProverModel", "joined", "(IIZZZ)V"⟩
theorem d_MM_joined2_0 : decode b_MM_joined2 0 = .ok (.aload_n 0, 1) := by decide +kernel
theorem d_MM_joined2_1 : decode b_MM_joined2 1 = .ok (.getfield 211, 3) := by decide +kernel
theorem d_MM_joined2_4 : decode b_MM_joined2 4 = .ok (.istore 6, 2) := by decide +kernel
theorem d_MM_joined2_6 : decode b_MM_joined2 6 = .ok (.aload_n 0, 1) := by decide +kernel
theorem d_MM_joined2_7 : decode b_MM_joined2 7 = .ok (.iload_n 1, 1) := by decide +kernel
theorem d_MM_joined2_8 : decode b_MM_joined2 8 = .ok (.iload_n 3, 1) := by decide +kernel
theorem d_MM_joined2_9 : decode b_MM_joined2 9 = .ok (.invokevirtual 560, 3) := by decide +kernel
theorem d_MM_joined2_12 : decode b_MM_joined2 12 = .ok (.aload_n 0, 1) := by decide +kernel
theorem d_MM_joined2_13 : decode b_MM_joined2 13 = .ok (.getfield 211, 3) := by decide +kernel
theorem d_MM_joined2_16 : decode b_MM_joined2 16 = .ok (.istore 7, 2) := by decide +kernel
theorem d_MM_joined2_18 : decode b_MM_joined2 18 = .ok (.aload_n 0, 1) := by decide +kernel
theorem d_MM_joined2_19 : decode b_MM_joined2 19 = .ok (.iload_n 2, 1) := by decide +kernel
theorem d_MM_joined2_20 : decode b_MM_joined2 20 = .ok (.iload 4, 2) := by decide +kernel
theorem d_MM_joined2_22 : decode b_MM_joined2 22 = .ok (.invokevirtual 560, 3) := by decide +kernel
theorem d_MM_joined2_25 : decode b_MM_joined2 25 = .ok (.iload 5, 2) := by decide +kernel
theorem d_MM_joined2_27 : decode b_MM_joined2 27 = .ok (.ifCond .ne 11, 3) := by decide +kernel
theorem d_MM_joined2_30 : decode b_MM_joined2 30 = .ok (.aload_n 0, 1) := by decide +kernel
theorem d_MM_joined2_31 : decode b_MM_joined2 31 = .ok (.iload 6, 2) := by decide +kernel
theorem d_MM_joined2_33 : decode b_MM_joined2 33 = .ok (.iload 7, 2) := by decide +kernel
theorem d_MM_joined2_35 : decode b_MM_joined2 35 = .ok (.invokevirtual 563, 3) := by decide +kernel
theorem d_MM_joined2_38 : decode b_MM_joined2 38 = .ok (.return_, 1) := by decide +kernel
abbrev b_MM_either : ByteArray := prog_14_method_52_code
def y_MM_either : MethodName := ⟨"ClauseProverModel", "either", "(II)V"⟩
theorem d_MM_either_0 : decode b_MM_either 0 = .ok (.aload_n 0, 1) := by decide +kernel
theorem d_MM_either_1 : decode b_MM_either 1 = .ok (.getfield 211, 3) := by decide +kernel
theorem d_MM_either_4 : decode b_MM_either 4 = .ok (.istore_n 3, 1) := by decide +kernel
theorem d_MM_either_5 : decode b_MM_either 5 = .ok (.iload_n 1, 1) := by decide +kernel
theorem d_MM_either_6 : decode b_MM_either 6 = .ok (.istore 4, 2) := by decide +kernel
theorem d_MM_either_8 : decode b_MM_either 8 = .ok (.iload 4, 2) := by decide +kernel
theorem d_MM_either_10 : decode b_MM_either 10 = .ok (.iload_n 2, 1) := by decide +kernel
theorem d_MM_either_11 : decode b_MM_either 11 = .ok (.if_icmp .ge 154, 3) := by decide +kernel
theorem d_MM_either_14 : decode b_MM_either 14 = .ok (.iload_n 2, 1) := by decide +kernel
theorem d_MM_either_15 : decode b_MM_either 15 = .ok (.istore 5, 2) := by decide +kernel
theorem d_MM_either_17 : decode b_MM_either 17 = .ok (.iload 5, 2) := by decide +kernel
theorem d_MM_either_19 : decode b_MM_either 19 = .ok (.iload_n 3, 1) := by decide +kernel
theorem d_MM_either_20 : decode b_MM_either 20 = .ok (.if_icmp .ge 139, 3) := by decide +kernel
theorem d_MM_either_23 : decode b_MM_either 23 = .ok (.aload_n 0, 1) := by decide +kernel
theorem d_MM_either_24 : decode b_MM_either 24 = .ok (.getfield 208, 3) := by decide +kernel
theorem d_MM_either_27 : decode b_MM_either 27 = .ok (.iload 4, 2) := by decide +kernel
theorem d_MM_either_29 : decode b_MM_either 29 = .ok (.iaload, 1) := by decide +kernel
theorem d_MM_either_30 : decode b_MM_either 30 = .ok (.aload_n 0, 1) := by decide +kernel
theorem d_MM_either_31 : decode b_MM_either 31 = .ok (.getfield 208, 3) := by decide +kernel
theorem d_MM_either_34 : decode b_MM_either 34 = .ok (.iload 5, 2) := by decide +kernel
theorem d_MM_either_36 : decode b_MM_either 36 = .ok (.iaload, 1) := by decide +kernel
theorem d_MM_either_37 : decode b_MM_either 37 = .ok (.iadd, 1) := by decide +kernel
theorem d_MM_either_38 : decode b_MM_either 38 = .ok (.bipush 24, 2) := by decide +kernel
theorem d_MM_either_40 : decode b_MM_either 40 = .ok (.if_icmp .le 11, 3) := by decide +kernel
theorem d_MM_either_43 : decode b_MM_either 43 = .ok (.new 551, 3) := by decide +kernel
theorem d_MM_either_46 : decode b_MM_either 46 = .ok (.dup, 1) := by decide +kernel
theorem d_MM_either_47 : decode b_MM_either 47 = .ok (.invokespecial 553, 3) := by decide +kernel
theorem d_MM_either_50 : decode b_MM_either 50 = .ok (.athrow, 1) := by decide +kernel
theorem d_MM_either_51 : decode b_MM_either 51 = .ok (.aload_n 0, 1) := by decide +kernel
theorem d_MM_either_52 : decode b_MM_either 52 = .ok (.getfield 205, 3) := by decide +kernel
theorem d_MM_either_55 : decode b_MM_either 55 = .ok (.bipush 24, 2) := by decide +kernel
theorem d_MM_either_57 : decode b_MM_either 57 = .ok (.iload 4, 2) := by decide +kernel
theorem d_MM_either_59 : decode b_MM_either 59 = .ok (.imul, 1) := by decide +kernel
theorem d_MM_either_60 : decode b_MM_either 60 = .ok (.aload_n 0, 1) := by decide +kernel
theorem d_MM_either_61 : decode b_MM_either 61 = .ok (.getfield 205, 3) := by decide +kernel
theorem d_MM_either_64 : decode b_MM_either 64 = .ok (.bipush 24, 2) := by decide +kernel
theorem d_MM_either_66 : decode b_MM_either 66 = .ok (.aload_n 0, 1) := by decide +kernel
theorem d_MM_either_67 : decode b_MM_either 67 = .ok (.getfield 211, 3) := by decide +kernel
theorem d_MM_either_70 : decode b_MM_either 70 = .ok (.imul, 1) := by decide +kernel
theorem d_MM_either_71 : decode b_MM_either 71 = .ok (.aload_n 0, 1) := by decide +kernel
theorem d_MM_either_72 : decode b_MM_either 72 = .ok (.getfield 208, 3) := by decide +kernel
theorem d_MM_either_75 : decode b_MM_either 75 = .ok (.iload 4, 2) := by decide +kernel
theorem d_MM_either_77 : decode b_MM_either 77 = .ok (.iaload, 1) := by decide +kernel
theorem d_MM_either_78 : decode b_MM_either 78 = .ok (.invokestatic 554, 3) := by decide +kernel
theorem d_MM_either_81 : decode b_MM_either 81 = .ok (.aload_n 0, 1) := by decide +kernel
theorem d_MM_either_82 : decode b_MM_either 82 = .ok (.getfield 205, 3) := by decide +kernel
theorem d_MM_either_85 : decode b_MM_either 85 = .ok (.bipush 24, 2) := by decide +kernel
theorem d_MM_either_87 : decode b_MM_either 87 = .ok (.iload 5, 2) := by decide +kernel
theorem d_MM_either_89 : decode b_MM_either 89 = .ok (.imul, 1) := by decide +kernel
theorem d_MM_either_90 : decode b_MM_either 90 = .ok (.aload_n 0, 1) := by decide +kernel
theorem d_MM_either_91 : decode b_MM_either 91 = .ok (.getfield 205, 3) := by decide +kernel
theorem d_MM_either_94 : decode b_MM_either 94 = .ok (.bipush 24, 2) := by decide +kernel
theorem d_MM_either_96 : decode b_MM_either 96 = .ok (.aload_n 0, 1) := by decide +kernel
theorem d_MM_either_97 : decode b_MM_either 97 = .ok (.getfield 211, 3) := by decide +kernel
theorem d_MM_either_100 : decode b_MM_either 100 = .ok (.imul, 1) := by decide +kernel
theorem d_MM_either_101 : decode b_MM_either 101 = .ok (.aload_n 0, 1) := by decide +kernel
theorem d_MM_either_102 : decode b_MM_either 102 = .ok (.getfield 208, 3) := by decide +kernel
theorem d_MM_either_105 : decode b_MM_either 105 = .ok (.iload 4, 2) := by decide +kernel
theorem d_MM_either_107 : decode b_MM_either 107 = .ok (.iaload, 1) := by decide +kernel
theorem d_MM_either_108 : decode b_MM_either 108 = .ok (.iadd, 1) := by decide +kernel
theorem d_MM_either_109 : decode b_MM_either 109 = .ok (.aload_n 0, 1) := by decide +kernel
theorem d_MM_either_110 : decode b_MM_either 110 = .ok (.getfield 208, 3) := by decide +kernel
theorem d_MM_either_113 : decode b_MM_either 113 = .ok (.iload 5, 2) := by decide +kernel
theorem d_MM_either_115 : decode b_MM_either 115 = .ok (.iaload, 1) := by decide +kernel
theorem d_MM_either_116 : decode b_MM_either 116 = .ok (.invokestatic 554, 3) := by decide +kernel
theorem d_MM_either_119 : decode b_MM_either 119 = .ok (.aload_n 0, 1) := by decide +kernel
theorem d_MM_either_120 : decode b_MM_either 120 = .ok (.getfield 208, 3) := by decide +kernel
theorem d_MM_either_123 : decode b_MM_either 123 = .ok (.aload_n 0, 1) := by decide +kernel
theorem d_MM_either_124 : decode b_MM_either 124 = .ok (.getfield 211, 3) := by decide +kernel
theorem d_MM_either_127 : decode b_MM_either 127 = .ok (.aload_n 0, 1) := by decide +kernel
theorem d_MM_either_128 : decode b_MM_either 128 = .ok (.getfield 208, 3) := by decide +kernel
theorem d_MM_either_131 : decode b_MM_either 131 = .ok (.iload 4, 2) := by decide +kernel
theorem d_MM_either_133 : decode b_MM_either 133 = .ok (.iaload, 1) := by decide +kernel
theorem d_MM_either_134 : decode b_MM_either 134 = .ok (.aload_n 0, 1) := by decide +kernel
theorem d_MM_either_135 : decode b_MM_either 135 = .ok (.getfield 208, 3) := by decide +kernel
theorem d_MM_either_138 : decode b_MM_either 138 = .ok (.iload 5, 2) := by decide +kernel
theorem d_MM_either_140 : decode b_MM_either 140 = .ok (.iaload, 1) := by decide +kernel
theorem d_MM_either_141 : decode b_MM_either 141 = .ok (.iadd, 1) := by decide +kernel
theorem d_MM_either_142 : decode b_MM_either 142 = .ok (.iastore, 1) := by decide +kernel
theorem d_MM_either_143 : decode b_MM_either 143 = .ok (.aload_n 0, 1) := by decide +kernel
theorem d_MM_either_144 : decode b_MM_either 144 = .ok (.dup, 1) := by decide +kernel
theorem d_MM_either_145 : decode b_MM_either 145 = .ok (.getfield 211, 3) := by decide +kernel
theorem d_MM_either_148 : decode b_MM_either 148 = .ok (.iconst 1, 1) := by decide +kernel
theorem d_MM_either_149 : decode b_MM_either 149 = .ok (.iadd, 1) := by decide +kernel
theorem d_MM_either_150 : decode b_MM_either 150 = .ok (.putfield 211, 3) := by decide +kernel
theorem d_MM_either_153 : decode b_MM_either 153 = .ok (.iinc 5 1, 3) := by decide +kernel
theorem d_MM_either_156 : decode b_MM_either 156 = .ok (.goto (-139), 3) := by decide +kernel
theorem d_MM_either_159 : decode b_MM_either 159 = .ok (.iinc 4 1, 3) := by decide +kernel
theorem d_MM_either_162 : decode b_MM_either 162 = .ok (.goto (-154), 3) := by decide +kernel
theorem d_MM_either_165 : decode b_MM_either 165 = .ok (.aload_n 0, 1) := by decide +kernel
theorem d_MM_either_166 : decode b_MM_either 166 = .ok (.getfield 211, 3) := by decide +kernel
theorem d_MM_either_169 : decode b_MM_either 169 = .ok (.iload_n 3, 1) := by decide +kernel
theorem d_MM_either_170 : decode b_MM_either 170 = .ok (.isub, 1) := by decide +kernel
theorem d_MM_either_171 : decode b_MM_either 171 = .ok (.istore 4, 2) := by decide +kernel
theorem d_MM_either_173 : decode b_MM_either 173 = .ok (.iconst 0, 1) := by decide +kernel
theorem d_MM_either_174 : decode b_MM_either 174 = .ok (.istore 5, 2) := by decide +kernel
theorem d_MM_either_176 : decode b_MM_either 176 = .ok (.iload 5, 2) := by decide +kernel
theorem d_MM_either_178 : decode b_MM_either 178 = .ok (.iload 4, 2) := by decide +kernel
theorem d_MM_either_180 : decode b_MM_either 180 = .ok (.if_icmp .ge 61, 3) := by decide +kernel
theorem d_MM_either_183 : decode b_MM_either 183 = .ok (.aload_n 0, 1) := by decide +kernel
theorem d_MM_either_184 : decode b_MM_either 184 = .ok (.getfield 205, 3) := by decide +kernel
theorem d_MM_either_187 : decode b_MM_either 187 = .ok (.bipush 24, 2) := by decide +kernel
theorem d_MM_either_189 : decode b_MM_either 189 = .ok (.iload_n 3, 1) := by decide +kernel
theorem d_MM_either_190 : decode b_MM_either 190 = .ok (.iload 5, 2) := by decide +kernel
theorem d_MM_either_192 : decode b_MM_either 192 = .ok (.iadd, 1) := by decide +kernel
theorem d_MM_either_193 : decode b_MM_either 193 = .ok (.imul, 1) := by decide +kernel
theorem d_MM_either_194 : decode b_MM_either 194 = .ok (.aload_n 0, 1) := by decide +kernel
theorem d_MM_either_195 : decode b_MM_either 195 = .ok (.getfield 205, 3) := by decide +kernel
theorem d_MM_either_198 : decode b_MM_either 198 = .ok (.bipush 24, 2) := by decide +kernel
theorem d_MM_either_200 : decode b_MM_either 200 = .ok (.iload_n 1, 1) := by decide +kernel
theorem d_MM_either_201 : decode b_MM_either 201 = .ok (.iload 5, 2) := by decide +kernel
theorem d_MM_either_203 : decode b_MM_either 203 = .ok (.iadd, 1) := by decide +kernel
theorem d_MM_either_204 : decode b_MM_either 204 = .ok (.imul, 1) := by decide +kernel
theorem d_MM_either_205 : decode b_MM_either 205 = .ok (.aload_n 0, 1) := by decide +kernel
theorem d_MM_either_206 : decode b_MM_either 206 = .ok (.getfield 208, 3) := by decide +kernel
theorem d_MM_either_209 : decode b_MM_either 209 = .ok (.iload_n 3, 1) := by decide +kernel
theorem d_MM_either_210 : decode b_MM_either 210 = .ok (.iload 5, 2) := by decide +kernel
theorem d_MM_either_212 : decode b_MM_either 212 = .ok (.iadd, 1) := by decide +kernel
theorem d_MM_either_213 : decode b_MM_either 213 = .ok (.iaload, 1) := by decide +kernel
theorem d_MM_either_214 : decode b_MM_either 214 = .ok (.invokestatic 554, 3) := by decide +kernel
theorem d_MM_either_217 : decode b_MM_either 217 = .ok (.aload_n 0, 1) := by decide +kernel
theorem d_MM_either_218 : decode b_MM_either 218 = .ok (.getfield 208, 3) := by decide +kernel
theorem d_MM_either_221 : decode b_MM_either 221 = .ok (.iload_n 1, 1) := by decide +kernel
theorem d_MM_either_222 : decode b_MM_either 222 = .ok (.iload 5, 2) := by decide +kernel
theorem d_MM_either_224 : decode b_MM_either 224 = .ok (.iadd, 1) := by decide +kernel
theorem d_MM_either_225 : decode b_MM_either 225 = .ok (.aload_n 0, 1) := by decide +kernel
theorem d_MM_either_226 : decode b_MM_either 226 = .ok (.getfield 208, 3) := by decide +kernel
theorem d_MM_either_229 : decode b_MM_either 229 = .ok (.iload_n 3, 1) := by decide +kernel
theorem d_MM_either_230 : decode b_MM_either 230 = .ok (.iload 5, 2) := by decide +kernel
theorem d_MM_either_232 : decode b_MM_either 232 = .ok (.iadd, 1) := by decide +kernel
theorem d_MM_either_233 : decode b_MM_either 233 = .ok (.iaload, 1) := by decide +kernel
theorem d_MM_either_234 : decode b_MM_either 234 = .ok (.iastore, 1) := by decide +kernel
theorem d_MM_either_235 : decode b_MM_either 235 = .ok (.iinc 5 1, 3) := by decide +kernel
theorem d_MM_either_238 : decode b_MM_either 238 = .ok (.goto (-62), 3) := by decide +kernel
theorem d_MM_either_241 : decode b_MM_either 241 = .ok (.aload_n 0, 1) := by decide +kernel
theorem d_MM_either_242 : decode b_MM_either 242 = .ok (.iload_n 1, 1) := by decide +kernel
theorem d_MM_either_243 : decode b_MM_either 243 = .ok (.iload 4, 2) := by decide +kernel
theorem d_MM_either_245 : decode b_MM_either 245 = .ok (.iadd, 1) := by decide +kernel
theorem d_MM_either_246 : decode b_MM_either 246 = .ok (.putfield 211, 3) := by decide +kernel
theorem d_MM_either_249 : decode b_MM_either 249 = .ok (.return_, 1) := by decide +kernel
abbrev b_MM_read : ByteArray := prog_14_method_106_code
def y_MM_read : MethodName := ⟨"ClauseProverModel", "read", "()I"⟩
theorem d_MM_read_0 : decode b_MM_read 0 = .ok (.aload_n 0, 1) := by decide +kernel
theorem d_MM_read_1 : decode b_MM_read 1 = .ok (.iconst 0, 1) := by decide +kernel
theorem d_MM_read_2 : decode b_MM_read 2 = .ok (.putfield 24, 3) := by decide +kernel
theorem d_MM_read_5 : decode b_MM_read 5 = .ok (.aload_n 0, 1) := by decide +kernel
theorem d_MM_read_6 : decode b_MM_read 6 = .ok (.iconst 0, 1) := by decide +kernel
theorem d_MM_read_7 : decode b_MM_read 7 = .ok (.putfield 68, 3) := by decide +kernel
theorem d_MM_read_10 : decode b_MM_read 10 = .ok (.aload_n 0, 1) := by decide +kernel
theorem d_MM_read_11 : decode b_MM_read 11 = .ok (.iconst 0, 1) := by decide +kernel
theorem d_MM_read_12 : decode b_MM_read 12 = .ok (.putfield 74, 3) := by decide +kernel
theorem d_MM_read_15 : decode b_MM_read 15 = .ok (.aload_n 0, 1) := by decide +kernel
theorem d_MM_read_16 : decode b_MM_read 16 = .ok (.iconst 1, 1) := by decide +kernel
theorem d_MM_read_17 : decode b_MM_read 17 = .ok (.putfield 71, 3) := by decide +kernel
theorem d_MM_read_20 : decode b_MM_read 20 = .ok (.aload_n 0, 1) := by decide +kernel
theorem d_MM_read_21 : decode b_MM_read 21 = .ok (.iconst 0, 1) := by decide +kernel
theorem d_MM_read_22 : decode b_MM_read 22 = .ok (.putfield 90, 3) := by decide +kernel
theorem d_MM_read_25 : decode b_MM_read 25 = .ok (.aload_n 0, 1) := by decide +kernel
theorem d_MM_read_26 : decode b_MM_read 26 = .ok (.iconst 0, 1) := by decide +kernel
theorem d_MM_read_27 : decode b_MM_read 27 = .ok (.putfield 126, 3) := by decide +kernel
theorem d_MM_read_30 : decode b_MM_read 30 = .ok (.aload_n 0, 1) := by decide +kernel
theorem d_MM_read_31 : decode b_MM_read 31 = .ok (.iconst 0, 1) := by decide +kernel
theorem d_MM_read_32 : decode b_MM_read 32 = .ok (.putfield 129, 3) := by decide +kernel
theorem d_MM_read_35 : decode b_MM_read 35 = .ok (.aload_n 0, 1) := by decide +kernel
theorem d_MM_read_36 : decode b_MM_read 36 = .ok (.iconst 0, 1) := by decide +kernel
theorem d_MM_read_37 : decode b_MM_read 37 = .ok (.putfield 135, 3) := by decide +kernel
theorem d_MM_read_40 : decode b_MM_read 40 = .ok (.aload_n 0, 1) := by decide +kernel
theorem d_MM_read_41 : decode b_MM_read 41 = .ok (.iconst 0, 1) := by decide +kernel
theorem d_MM_read_42 : decode b_MM_read 42 = .ok (.putfield 181, 3) := by decide +kernel
theorem d_MM_read_45 : decode b_MM_read 45 = .ok (.aload_n 0, 1) := by decide +kernel
theorem d_MM_read_46 : decode b_MM_read 46 = .ok (.iconst 0, 1) := by decide +kernel
theorem d_MM_read_47 : decode b_MM_read 47 = .ok (.putfield 184, 3) := by decide +kernel
theorem d_MM_read_50 : decode b_MM_read 50 = .ok (.aload_n 0, 1) := by decide +kernel
theorem d_MM_read_51 : decode b_MM_read 51 = .ok (.iconst 0, 1) := by decide +kernel
theorem d_MM_read_52 : decode b_MM_read 52 = .ok (.putfield 269, 3) := by decide +kernel
theorem d_MM_read_55 : decode b_MM_read 55 = .ok (.aload_n 0, 1) := by decide +kernel
theorem d_MM_read_56 : decode b_MM_read 56 = .ok (.iconst 0, 1) := by decide +kernel
theorem d_MM_read_57 : decode b_MM_read 57 = .ok (.putfield 232, 3) := by decide +kernel
theorem d_MM_read_60 : decode b_MM_read 60 = .ok (.aload_n 0, 1) := by decide +kernel
theorem d_MM_read_61 : decode b_MM_read 61 = .ok (.iconst 0, 1) := by decide +kernel
theorem d_MM_read_62 : decode b_MM_read 62 = .ok (.putfield 272, 3) := by decide +kernel
theorem d_MM_read_65 : decode b_MM_read 65 = .ok (.aload_n 0, 1) := by decide +kernel
theorem d_MM_read_66 : decode b_MM_read 66 = .ok (.iconst 0, 1) := by decide +kernel
theorem d_MM_read_67 : decode b_MM_read 67 = .ok (.putfield 275, 3) := by decide +kernel
theorem d_MM_read_70 : decode b_MM_read 70 = .ok (.aload_n 0, 1) := by decide +kernel
theorem d_MM_read_71 : decode b_MM_read 71 = .ok (.iconst 0, 1) := by decide +kernel
theorem d_MM_read_72 : decode b_MM_read 72 = .ok (.putfield 278, 3) := by decide +kernel
theorem d_MM_read_75 : decode b_MM_read 75 = .ok (.aload_n 0, 1) := by decide +kernel
theorem d_MM_read_76 : decode b_MM_read 76 = .ok (.iconst (-1), 1) := by decide +kernel
theorem d_MM_read_77 : decode b_MM_read 77 = .ok (.putfield 281, 3) := by decide +kernel
theorem d_MM_read_80 : decode b_MM_read 80 = .ok (.aload_n 0, 1) := by decide +kernel
theorem d_MM_read_81 : decode b_MM_read 81 = .ok (.iconst 0, 1) := by decide +kernel
theorem d_MM_read_82 : decode b_MM_read 82 = .ok (.putfield 284, 3) := by decide +kernel
theorem d_MM_read_85 : decode b_MM_read 85 = .ok (.aload_n 0, 1) := by decide +kernel
theorem d_MM_read_86 : decode b_MM_read 86 = .ok (.iconst 0, 1) := by decide +kernel
theorem d_MM_read_87 : decode b_MM_read 87 = .ok (.putfield 287, 3) := by decide +kernel
theorem d_MM_read_90 : decode b_MM_read 90 = .ok (.aload_n 0, 1) := by decide +kernel
theorem d_MM_read_91 : decode b_MM_read 91 = .ok (.iconst 0, 1) := by decide +kernel
theorem d_MM_read_92 : decode b_MM_read 92 = .ok (.putfield 290, 3) := by decide +kernel
theorem d_MM_read_95 : decode b_MM_read 95 = .ok (.aload_n 0, 1) := by decide +kernel
theorem d_MM_read_96 : decode b_MM_read 96 = .ok (.iconst 0, 1) := by decide +kernel
theorem d_MM_read_97 : decode b_MM_read 97 = .ok (.putfield 293, 3) := by decide +kernel
theorem d_MM_read_100 : decode b_MM_read 100 = .ok (.aload_n 0, 1) := by decide +kernel
theorem d_MM_read_101 : decode b_MM_read 101 = .ok (.iconst 0, 1) := by decide +kernel
theorem d_MM_read_102 : decode b_MM_read 102 = .ok (.putfield 296, 3) := by decide +kernel
theorem d_MM_read_105 : decode b_MM_read 105 = .ok (.aload_n 0, 1) := by decide +kernel
theorem d_MM_read_106 : decode b_MM_read 106 = .ok (.iconst 0, 1) := by decide +kernel
theorem d_MM_read_107 : decode b_MM_read 107 = .ok (.putfield 299, 3) := by decide +kernel
theorem d_MM_read_110 : decode b_MM_read 110 = .ok (.aload_n 0, 1) := by decide +kernel
theorem d_MM_read_111 : decode b_MM_read 111 = .ok (.iconst 0, 1) := by decide +kernel
theorem d_MM_read_112 : decode b_MM_read 112 = .ok (.putfield 332, 3) := by decide +kernel
theorem d_MM_read_115 : decode b_MM_read 115 = .ok (.aload_n 0, 1) := by decide +kernel
theorem d_MM_read_116 : decode b_MM_read 116 = .ok (.iconst 0, 1) := by decide +kernel
theorem d_MM_read_117 : decode b_MM_read 117 = .ok (.putfield 27, 3) := by decide +kernel
theorem d_MM_read_120 : decode b_MM_read 120 = .ok (.aload_n 0, 1) := by decide +kernel
theorem d_MM_read_121 : decode b_MM_read 121 = .ok (.iconst 0, 1) := by decide +kernel
theorem d_MM_read_122 : decode b_MM_read 122 = .ok (.putfield 30, 3) := by decide +kernel
theorem d_MM_read_125 : decode b_MM_read 125 = .ok (.aload_n 0, 1) := by decide +kernel
theorem d_MM_read_126 : decode b_MM_read 126 = .ok (.getfield 163, 3) := by decide +kernel
theorem d_MM_read_129 : decode b_MM_read 129 = .ok (.iconst 0, 1) := by decide +kernel
theorem d_MM_read_130 : decode b_MM_read 130 = .ok (.iconst 1, 1) := by decide +kernel
theorem d_MM_read_131 : decode b_MM_read 131 = .ok (.bastore, 1) := by decide +kernel
theorem d_MM_read_132 : decode b_MM_read 132 = .ok (.aload_n 0, 1) := by decide +kernel
theorem d_MM_read_133 : decode b_MM_read 133 = .ok (.getfield 160, 3) := by decide +kernel
theorem d_MM_read_136 : decode b_MM_read 136 = .ok (.iconst 0, 1) := by decide +kernel
theorem d_MM_read_137 : decode b_MM_read 137 = .ok (.iconst 0, 1) := by decide +kernel
theorem d_MM_read_138 : decode b_MM_read 138 = .ok (.iastore, 1) := by decide +kernel
theorem d_MM_read_139 : decode b_MM_read 139 = .ok (.aload_n 0, 1) := by decide +kernel
theorem d_MM_read_140 : decode b_MM_read 140 = .ok (.invokevirtual 741, 3) := by decide +kernel
theorem d_MM_read_143 : decode b_MM_read 143 = .ok (.aload_n 0, 1) := by decide +kernel
theorem d_MM_read_144 : decode b_MM_read 144 = .ok (.invokevirtual 744, 3) := by decide +kernel
theorem d_MM_read_147 : decode b_MM_read 147 = .ok (.goto 40, 3) := by decide +kernel
theorem d_MM_read_150 : decode b_MM_read 150 = .ok (.astore_n 1, 1) := by decide +kernel
theorem d_MM_read_151 : decode b_MM_read 151 = .ok (.aload_n 0, 1) := by decide +kernel
theorem d_MM_read_152 : decode b_MM_read 152 = .ok (.aload_n 1, 1) := by decide +kernel
theorem d_MM_read_153 : decode b_MM_read 153 = .ok (.getfield 747, 3) := by decide +kernel
theorem d_MM_read_156 : decode b_MM_read 156 = .ok (.putfield 27, 3) := by decide +kernel
theorem d_MM_read_159 : decode b_MM_read 159 = .ok (.aload_n 0, 1) := by decide +kernel
theorem d_MM_read_160 : decode b_MM_read 160 = .ok (.aload_n 1, 1) := by decide +kernel
theorem d_MM_read_161 : decode b_MM_read 161 = .ok (.getfield 749, 3) := by decide +kernel
theorem d_MM_read_164 : decode b_MM_read 164 = .ok (.putfield 30, 3) := by decide +kernel
theorem d_MM_read_167 : decode b_MM_read 167 = .ok (.aload_n 0, 1) := by decide +kernel
theorem d_MM_read_168 : decode b_MM_read 168 = .ok (.iconst 0, 1) := by decide +kernel
theorem d_MM_read_169 : decode b_MM_read 169 = .ok (.putfield 269, 3) := by decide +kernel
theorem d_MM_read_172 : decode b_MM_read 172 = .ok (.aload_n 0, 1) := by decide +kernel
theorem d_MM_read_173 : decode b_MM_read 173 = .ok (.iconst 0, 1) := by decide +kernel
theorem d_MM_read_174 : decode b_MM_read 174 = .ok (.putfield 232, 3) := by decide +kernel
theorem d_MM_read_177 : decode b_MM_read 177 = .ok (.aload_n 0, 1) := by decide +kernel
theorem d_MM_read_178 : decode b_MM_read 178 = .ok (.iconst 1, 1) := by decide +kernel
theorem d_MM_read_179 : decode b_MM_read 179 = .ok (.putfield 71, 3) := by decide +kernel
theorem d_MM_read_182 : decode b_MM_read 182 = .ok (.aload_n 0, 1) := by decide +kernel
theorem d_MM_read_183 : decode b_MM_read 183 = .ok (.iconst 0, 1) := by decide +kernel
theorem d_MM_read_184 : decode b_MM_read 184 = .ok (.putfield 74, 3) := by decide +kernel
theorem d_MM_read_187 : decode b_MM_read 187 = .ok (.aload_n 0, 1) := by decide +kernel
theorem d_MM_read_188 : decode b_MM_read 188 = .ok (.iconst 0, 1) := by decide +kernel
theorem d_MM_read_189 : decode b_MM_read 189 = .ok (.putfield 17, 3) := by decide +kernel
theorem d_MM_read_192 : decode b_MM_read 192 = .ok (.aload_n 0, 1) := by decide +kernel
theorem d_MM_read_193 : decode b_MM_read 193 = .ok (.aload_n 0, 1) := by decide +kernel
theorem d_MM_read_194 : decode b_MM_read 194 = .ok (.getfield 269, 3) := by decide +kernel
theorem d_MM_read_197 : decode b_MM_read 197 = .ok (.putfield 272, 3) := by decide +kernel
theorem d_MM_read_200 : decode b_MM_read 200 = .ok (.aload_n 0, 1) := by decide +kernel
theorem d_MM_read_201 : decode b_MM_read 201 = .ok (.getfield 27, 3) := by decide +kernel
theorem d_MM_read_204 : decode b_MM_read 204 = .ok (.ifCond .le 7, 3) := by decide +kernel
theorem d_MM_read_207 : decode b_MM_read 207 = .ok (.iconst (-1), 1) := by decide +kernel
theorem d_MM_read_208 : decode b_MM_read 208 = .ok (.goto 7, 3) := by decide +kernel
theorem d_MM_read_211 : decode b_MM_read 211 = .ok (.aload_n 0, 1) := by decide +kernel
theorem d_MM_read_212 : decode b_MM_read 212 = .ok (.getfield 269, 3) := by decide +kernel
theorem d_MM_read_215 : decode b_MM_read 215 = .ok (.ireturn, 1) := by decide +kernel
theorem tc_MM_take : Cond.code y_MM_take b_MM_take 1 none ∈ lw_tbg := tb_in (i := 1956) (by decide +kernel) rfl
theorem ml_MM_435 : ax_LV "ClauseProverModel" 435 y_MM_take b_MM_take 1 none 0 := ax_LV.mk (tb_in (i := 1953) (by decide +kernel) rfl) (tb_in (i := 1955) (by decide +kernel) rfl) (pv_in (i := 98) (by decide +kernel) rfl) ti_MM tc_MM_take (by decide +kernel)
theorem tc_MM_formula : Cond.code y_MM_formula b_MM_formula 4 (some (.int)) ∈ lw_tbg := tb_in (i := 1960) (by decide +kernel) rfl
theorem ml_MM_476 : ax_LV "ClauseProverModel" 476 y_MM_formula b_MM_formula 4 (some (.int)) 1 := ax_LV.mk (tb_in (i := 1957) (by decide +kernel) rfl) (tb_in (i := 1959) (by decide +kernel) rfl) (pv_in (i := 99) (by decide +kernel) rfl) ti_MM tc_MM_formula (by decide +kernel)
theorem tc_MM_must : Cond.code y_MM_must b_MM_must 2 none ∈ lw_tbg := tb_in (i := 2030) (by decide +kernel) rfl
theorem ml_MM_479 : ax_LV "ClauseProverModel" 479 y_MM_must b_MM_must 2 none 1 := ax_LV.mk (tb_in (i := 2027) (by decide +kernel) rfl) (tb_in (i := 2029) (by decide +kernel) rfl) (pv_in (i := 109) (by decide +kernel) rfl) ti_MM tc_MM_must (by decide +kernel)
theorem tc_MM_implication : Cond.code y_MM_implication b_MM_implication 4 (some (.int)) ∈ lw_tbg := tb_in (i := 1964) (by decide +kernel) rfl
theorem ml_MM_454 : ax_LV "ClauseProverModel" 454 y_MM_implication b_MM_implication 4 (some (.int)) 1 := ax_LV.mk (tb_in (i := 1961) (by decide +kernel) rfl) (tb_in (i := 1963) (by decide +kernel) rfl) (pv_in (i := 100) (by decide +kernel) rfl) ti_MM tc_MM_implication (by decide +kernel)
theorem tc_MM_joined1 : Cond.code y_MM_joined1 b_MM_joined1 4 (some (.int)) ∈ lw_tbg := tb_in (i := 2078) (by decide +kernel) rfl
theorem ml_MM_457 : ax_LV "ClauseProverModel" 457 y_MM_joined1 b_MM_joined1 4 (some (.int)) 3 := ax_LV.mk (tb_in (i := 2075) (by decide +kernel) rfl) (tb_in (i := 2077) (by decide +kernel) rfl) (pv_in (i := 121) (by decide +kernel) rfl) ti_MM tc_MM_joined1 (by decide +kernel)
theorem tc_MM_choice : Cond.code y_MM_choice b_MM_choice 4 (some (.int)) ∈ lw_tbg := tb_in (i := 1968) (by decide +kernel) rfl
theorem ml_MM_461 : ax_LV "ClauseProverModel" 461 y_MM_choice b_MM_choice 4 (some (.int)) 1 := ax_LV.mk (tb_in (i := 1965) (by decide +kernel) rfl) (tb_in (i := 1967) (by decide +kernel) rfl) (pv_in (i := 101) (by decide +kernel) rfl) ti_MM tc_MM_choice (by decide +kernel)
theorem tc_MM_nest : Cond.code y_MM_nest b_MM_nest 2 (some (.int)) ∈ lw_tbg := tb_in (i := 1980) (by decide +kernel) rfl
theorem ml_MM_464 : ax_LV "ClauseProverModel" 464 y_MM_nest b_MM_nest 2 (some (.int)) 1 := ax_LV.mk (tb_in (i := 1977) (by decide +kernel) rfl) (tb_in (i := 1979) (by decide +kernel) rfl) (pv_in (i := 104) (by decide +kernel) rfl) ti_MM tc_MM_nest (by decide +kernel)
theorem tc_MM_joint : Cond.code y_MM_joint b_MM_joint 4 (some (.int)) ∈ lw_tbg := tb_in (i := 1972) (by decide +kernel) rfl
theorem ml_MM_467 : ax_LV "ClauseProverModel" 467 y_MM_joint b_MM_joint 4 (some (.int)) 1 := ax_LV.mk (tb_in (i := 1969) (by decide +kernel) rfl) (tb_in (i := 1971) (by decide +kernel) rfl) (pv_in (i := 102) (by decide +kernel) rfl) ti_MM tc_MM_joint (by decide +kernel)
theorem tc_MM_unit : Cond.code y_MM_unit b_MM_unit 4 (some (.int)) ∈ lw_tbg := tb_in (i := 1976) (by decide +kernel) rfl
theorem ml_MM_470 : ax_LV "ClauseProverModel" 470 y_MM_unit b_MM_unit 4 (some (.int)) 1 := ax_LV.mk (tb_in (i := 1973) (by decide +kernel) rfl) (tb_in (i := 1975) (by decide +kernel) rfl) (pv_in (i := 103) (by decide +kernel) rfl) ti_MM tc_MM_unit (by decide +kernel)
theorem tc_MM_cant : Cond.code y_MM_cant b_MM_cant 1 (some (.object "ClauseProverModel$Wrong")) ∈ lw_tbg := tb_in (i := 2022) (by decide +kernel) rfl
theorem ml_MM_431 : ax_LV "ClauseProverModel" 431 y_MM_cant b_MM_cant 1 (some (.object "ClauseProverModel$Wrong")) 0 := ax_LV.mk (tb_in (i := 2019) (by decide +kernel) rfl) (tb_in (i := 2021) (by decide +kernel) rfl) (pv_in (i := 107) (by decide +kernel) rfl) ti_MM tc_MM_cant (by decide +kernel)
theorem tc_MM_bound2 : Cond.code y_MM_bound2 b_MM_bound2 7 (some (.int)) ∈ lw_tbg := tb_in (i := 2018) (by decide +kernel) rfl
theorem ml_MM_473 : ax_LV "ClauseProverModel" 473 y_MM_bound2 b_MM_bound2 7 (some (.int)) 2 := ax_LV.mk (tb_in (i := 2015) (by decide +kernel) rfl) (tb_in (i := 2017) (by decide +kernel) rfl) (pv_in (i := 106) (by decide +kernel) rfl) ti_MM tc_MM_bound2 (by decide +kernel)
theorem tc_MM_atom1 : Cond.code y_MM_atom1 b_MM_atom1 7 (some (.int)) ∈ lw_tbg := tb_in (i := 2034) (by decide +kernel) rfl
theorem ml_MM_483 : ax_LV "ClauseProverModel" 483 y_MM_atom1 b_MM_atom1 7 (some (.int)) 1 := ax_LV.mk (tb_in (i := 2031) (by decide +kernel) rfl) (tb_in (i := 2033) (by decide +kernel) rfl) (pv_in (i := 110) (by decide +kernel) rfl) ti_MM tc_MM_atom1 (by decide +kernel)
theorem tc_MM_binder : Cond.code y_MM_binder b_MM_binder 1 (some (.int)) ∈ lw_tbg := tb_in (i := 2026) (by decide +kernel) rfl
theorem ml_MM_441 : ax_LV "ClauseProverModel" 441 y_MM_binder b_MM_binder 1 (some (.int)) 0 := ax_LV.mk (tb_in (i := 2023) (by decide +kernel) rfl) (tb_in (i := 2025) (by decide +kernel) rfl) (pv_in (i := 108) (by decide +kernel) rfl) ti_MM tc_MM_binder (by decide +kernel)
theorem tc_MM_symbol1 : Cond.code y_MM_symbol1 b_MM_symbol1 5 (some (.int)) ∈ lw_tbg := tb_in (i := 2058) (by decide +kernel) rfl
theorem ml_MM_495 : ax_LV "ClauseProverModel" 495 y_MM_symbol1 b_MM_symbol1 5 (some (.int)) 0 := ax_LV.mk (tb_in (i := 2055) (by decide +kernel) rfl) (tb_in (i := 2057) (by decide +kernel) rfl) (pv_in (i := 116) (by decide +kernel) rfl) ti_MM tc_MM_symbol1 (by decide +kernel)
theorem tc_MM_arguments : Cond.code y_MM_arguments b_MM_arguments 5 (some (.int)) ∈ lw_tbg := tb_in (i := 2062) (by decide +kernel) rfl
theorem ml_MM_498 : ax_LV "ClauseProverModel" 498 y_MM_arguments b_MM_arguments 5 (some (.int)) 1 := ax_LV.mk (tb_in (i := 2059) (by decide +kernel) rfl) (tb_in (i := 2061) (by decide +kernel) rfl) (pv_in (i := 117) (by decide +kernel) rfl) ti_MM tc_MM_arguments (by decide +kernel)
theorem tc_MM_variable : Cond.code y_MM_variable b_MM_variable 2 (some (.int)) ∈ lw_tbg := tb_in (i := 2038) (by decide +kernel) rfl
theorem ml_MM_486 : ax_LV "ClauseProverModel" 486 y_MM_variable b_MM_variable 2 (some (.int)) 0 := ax_LV.mk (tb_in (i := 2035) (by decide +kernel) rfl) (tb_in (i := 2037) (by decide +kernel) rfl) (pv_in (i := 111) (by decide +kernel) rfl) ti_MM tc_MM_variable (by decide +kernel)
theorem tc_MM_term : Cond.code y_MM_term b_MM_term 3 (some (.int)) ∈ lw_tbg := tb_in (i := 2046) (by decide +kernel) rfl
theorem ml_MM_489 : ax_LV "ClauseProverModel" 489 y_MM_term b_MM_term 3 (some (.int)) 2 := ax_LV.mk (tb_in (i := 2043) (by decide +kernel) rfl) (tb_in (i := 2045) (by decide +kernel) rfl) (pv_in (i := 113) (by decide +kernel) rfl) ti_MM tc_MM_term (by decide +kernel)
theorem tc_MM_equation : Cond.code y_MM_equation b_MM_equation 6 (some (.int)) ∈ lw_tbg := tb_in (i := 2050) (by decide +kernel) rfl
theorem ml_MM_492 : ax_LV "ClauseProverModel" 492 y_MM_equation b_MM_equation 6 (some (.int)) 2 := ax_LV.mk (tb_in (i := 2047) (by decide +kernel) rfl) (tb_in (i := 2049) (by decide +kernel) rfl) (pv_in (i := 114) (by decide +kernel) rfl) ti_MM tc_MM_equation (by decide +kernel)
theorem tc_MM_length : Cond.code y_MM_length b_MM_length 4 (some (.int)) ∈ lw_tbg := tb_in (i := 2066) (by decide +kernel) rfl
theorem ml_MM_501 : ax_LV "ClauseProverModel" 501 y_MM_length b_MM_length 4 (some (.int)) 1 := ax_LV.mk (tb_in (i := 2063) (by decide +kernel) rfl) (tb_in (i := 2065) (by decide +kernel) rfl) (pv_in (i := 118) (by decide +kernel) rfl) ti_MM tc_MM_length (by decide +kernel)
theorem tc_MM_check : Cond.code y_MM_check b_MM_check 5 none ∈ lw_tbg := tb_in (i := 2070) (by decide +kernel) rfl
theorem ml_MM_504 : ax_LV "ClauseProverModel" 504 y_MM_check b_MM_check 5 none 4 := ax_LV.mk (tb_in (i := 2067) (by decide +kernel) rfl) (tb_in (i := 2069) (by decide +kernel) rfl) (pv_in (i := 119) (by decide +kernel) rfl) ti_MM tc_MM_check (by decide +kernel)
theorem tc_MM_termOf : Cond.code y_MM_termOf b_MM_termOf 3 none ∈ lw_tbg := tb_in (i := 2074) (by decide +kernel) rfl
theorem ml_MM_508 : ax_LV "ClauseProverModel" 508 y_MM_termOf b_MM_termOf 3 none 2 := ax_LV.mk (tb_in (i := 2071) (by decide +kernel) rfl) (tb_in (i := 2073) (by decide +kernel) rfl) (pv_in (i := 120) (by decide +kernel) rfl) ti_MM tc_MM_termOf (by decide +kernel)
theorem tc_MM_isBinder : Cond.code y_MM_isBinder b_MM_isBinder 3 (some (.boolean)) ∈ lw_tbg := tb_in (i := 2042) (by decide +kernel) rfl
theorem ml_MM_438 : ax_LV "ClauseProverModel" 438 y_MM_isBinder b_MM_isBinder 3 (some (.boolean)) 1 := ax_LV.mk (tb_in (i := 2039) (by decide +kernel) rfl) (tb_in (i := 2041) (by decide +kernel) rfl) (pv_in (i := 112) (by decide +kernel) rfl) ti_MM tc_MM_isBinder (by decide +kernel)
theorem tc_MM_side1 : Cond.code y_MM_side1 b_MM_side1 6 (some (.int)) ∈ lw_tbg := tb_in (i := 2054) (by decide +kernel) rfl
theorem ml_MM_510 : ax_LV "ClauseProverModel" 510 y_MM_side1 b_MM_side1 6 (some (.int)) 1 := ax_LV.mk (tb_in (i := 2051) (by decide +kernel) rfl) (tb_in (i := 2053) (by decide +kernel) rfl) (pv_in (i := 115) (by decide +kernel) rfl) ti_MM tc_MM_side1 (by decide +kernel)
theorem tcw_MM_sentenceClauses : Cond.codeWith y_MM_sentenceClauses b_MM_sentenceClauses 5 none [(66, 90, 93, 551)] ∈ lw_tbg := tb_in (i := 2107) (by decide +kernel) rfl
theorem mlw_750 : ax_LVvw "ClauseProverModel" 750 y_MM_sentenceClauses b_MM_sentenceClauses 5 [(66, 90, 93, 551)] 1 := ax_LVvw.mk (tb_in (i := 2104) (by decide +kernel) rfl) (tb_in (i := 2106) (by decide +kernel) rfl) (pv_in (i := 127) (by decide +kernel) rfl) ti_MM tcw_MM_sentenceClauses (by decide +kernel)
theorem tc_MM_bind2 : Cond.code y_MM_bind2 b_MM_bind2 5 none ∈ lw_tbg := tb_in (i := 2113) (by decide +kernel) rfl
theorem ml_MM_571 : ax_LV "ClauseProverModel" 571 y_MM_bind2 b_MM_bind2 5 none 2 := ax_LV.mk (tb_in (i := 2110) (by decide +kernel) rfl) (tb_in (i := 2112) (by decide +kernel) rfl) (pv_in (i := 128) (by decide +kernel) rfl) ti_MM tc_MM_bind2 (by decide +kernel)
theorem tc_MM_clauses : Cond.code y_MM_clauses b_MM_clauses 5 none ∈ lw_tbg := tb_in (i := 2117) (by decide +kernel) rfl
theorem ml_MM_560 : ax_LV "ClauseProverModel" 560 y_MM_clauses b_MM_clauses 5 none 2 := ax_LV.mk (tb_in (i := 2114) (by decide +kernel) rfl) (tb_in (i := 2116) (by decide +kernel) rfl) (pv_in (i := 129) (by decide +kernel) rfl) ti_MM tc_MM_clauses (by decide +kernel)
theorem tc_MM_fits : Cond.code y_MM_fits b_MM_fits 5 (some (.boolean)) ∈ lw_tbg := tb_in (i := 2168) (by decide +kernel) rfl
theorem ml_MM_753 : ax_LV "ClauseProverModel" 753 y_MM_fits b_MM_fits 5 (some (.boolean)) 2 := ax_LV.mk (tb_in (i := 2165) (by decide +kernel) rfl) (tb_in (i := 2167) (by decide +kernel) rfl) (pv_in (i := 138) (by decide +kernel) rfl) ti_MM tc_MM_fits (by decide +kernel)
theorem tc_MM_atom2 : Cond.code y_MM_atom2 b_MM_atom2 5 none ∈ lw_tbg := tb_in (i := 2121) (by decide +kernel) rfl
theorem ml_MM_566 : ax_LV "ClauseProverModel" 566 y_MM_atom2 b_MM_atom2 5 none 2 := ax_LV.mk (tb_in (i := 2118) (by decide +kernel) rfl) (tb_in (i := 2120) (by decide +kernel) rfl) (pv_in (i := 130) (by decide +kernel) rfl) ti_MM tc_MM_atom2 (by decide +kernel)
theorem tc_MM_joined2 : Cond.code y_MM_joined2 b_MM_joined2 8 none ∈ lw_tbg := tb_in (i := 2159) (by decide +kernel) rfl
theorem ml_MM_568 : ax_LV "ClauseProverModel" 568 y_MM_joined2 b_MM_joined2 8 none 5 := ax_LV.mk (tb_in (i := 2156) (by decide +kernel) rfl) (tb_in (i := 2158) (by decide +kernel) rfl) (pv_in (i := 136) (by decide +kernel) rfl) ti_MM tc_MM_joined2 (by decide +kernel)
theorem tc_MM_either : Cond.code y_MM_either b_MM_either 6 none ∈ lw_tbg := tb_in (i := 2163) (by decide +kernel) rfl
theorem ml_MM_563 : ax_LV "ClauseProverModel" 563 y_MM_either b_MM_either 6 none 2 := ax_LV.mk (tb_in (i := 2160) (by decide +kernel) rfl) (tb_in (i := 2162) (by decide +kernel) rfl) (pv_in (i := 137) (by decide +kernel) rfl) ti_MM tc_MM_either (by decide +kernel)
theorem tc_MM_parse : Cond.code y_MM_parse b_MM_parse 3 none ∈ lw_tbg := tb_in (i := 1928) (by decide +kernel) rfl
theorem ml_MM_741 : ax_LV "ClauseProverModel" 741 y_MM_parse b_MM_parse 3 none 0 := ax_LV.mk (tb_in (i := 1925) (by decide +kernel) rfl) (tb_in (i := 1927) (by decide +kernel) rfl) (pv_in (i := 91) (by decide +kernel) rfl) ti_MM tc_MM_parse (by decide +kernel)
theorem tc_MM_clausify : Cond.code y_MM_clausify b_MM_clausify 5 none ∈ lw_tbg := tb_in (i := 2083) (by decide +kernel) rfl
theorem ml_MM_744 : ax_LV "ClauseProverModel" 744 y_MM_clausify b_MM_clausify 5 none 0 := ax_LV.mk (tb_in (i := 2080) (by decide +kernel) rfl) (tb_in (i := 2082) (by decide +kernel) rfl) (pv_in (i := 122) (by decide +kernel) rfl) ti_MM tc_MM_clausify (by decide +kernel)
theorem lkF_MM_747 : Cond.fieldLink "ClauseProverModel" 747 (F_Wro 5).1 (F_Wro 5).2.1 (F_Wro 5).2.2.1 ∈ lw_tbg := tb_in (i := 2002) (by decide +kernel) rfl
theorem lkF_MM_749 : Cond.fieldLink "ClauseProverModel" 749 (F_Wro 6).1 (F_Wro 6).2.1 (F_Wro 6).2.2.1 ∈ lw_tbg := tb_in (i := 2004) (by decide +kernel) rfl
