abbrev b_MM_read : ByteArray := prog_14_method_106_code
def y_MM_read : MethodName := ⟨"ClauseProverModel", "read", "()I"⟩
theorem d_MM_read_0 : decode b_MM_read 0 = .ok (.aload_n 0, 1) := by decide +kernel
theorem d_MM_read_1 : decode b_MM_read 1 = .ok (.iconst 0, 1) := by decide +kernel
theorem d_MM_read_2 : decode b_MM_read 2 = .ok (.putfield 24, 3) := by decide +kernel
theorem d_MM_read_5 : decode b_MM_read 5 = .ok (.aload_n 0, 1) := by decide +kernel
theorem d_MM_read_6 : decode b_MM_read 6 = .ok (.iconst 0, 1) := by decide +kernel
theorem d_MM_read_7 : decode b_MM_read 7 = .ok (.putfield 68, 3) := by decide +kernel
theorem d_MM_read_10 : decode b_MM_read 10 = .ok (.aload_n 0, 1) := by decide +kernel
theorem d_MM_read_11 : decode b_MM_read 11 = .ok (.iconst 0, 1) := by decide +kernel
theorem d_MM_read_12 : decode b_MM_read 12 = .ok (.putfield 74, 3) := by decide +kernel
theorem d_MM_read_15 : decode b_MM_read 15 = .ok (.aload_n 0, 1) := by decide +kernel
theorem d_MM_read_16 : decode b_MM_read 16 = .ok (.iconst 1, 1) := by decide +kernel
theorem d_MM_read_17 : decode b_MM_read 17 = .ok (.putfield 71, 3) := by decide +kernel
theorem d_MM_read_20 : decode b_MM_read 20 = .ok (.aload_n 0, 1) := by decide +kernel
theorem d_MM_read_21 : decode b_MM_read 21 = .ok (.iconst 0, 1) := by decide +kernel
theorem d_MM_read_22 : decode b_MM_read 22 = .ok (.putfield 90, 3) := by decide +kernel
theorem d_MM_read_25 : decode b_MM_read 25 = .ok (.aload_n 0, 1) := by decide +kernel
theorem d_MM_read_26 : decode b_MM_read 26 = .ok (.iconst 0, 1) := by decide +kernel
theorem d_MM_read_27 : decode b_MM_read 27 = .ok (.putfield 126, 3) := by decide +kernel
theorem d_MM_read_30 : decode b_MM_read 30 = .ok (.aload_n 0, 1) := by decide +kernel
theorem d_MM_read_31 : decode b_MM_read 31 = .ok (.iconst 0, 1) := by decide +kernel
theorem d_MM_read_32 : decode b_MM_read 32 = .ok (.putfield 129, 3) := by decide +kernel
theorem d_MM_read_35 : decode b_MM_read 35 = .ok (.aload_n 0, 1) := by decide +kernel
theorem d_MM_read_36 : decode b_MM_read 36 = .ok (.iconst 0, 1) := by decide +kernel
theorem d_MM_read_37 : decode b_MM_read 37 = .ok (.putfield 135, 3) := by decide +kernel
theorem d_MM_read_40 : decode b_MM_read 40 = .ok (.aload_n 0, 1) := by decide +kernel
theorem d_MM_read_41 : decode b_MM_read 41 = .ok (.iconst 0, 1) := by decide +kernel
theorem d_MM_read_42 : decode b_MM_read 42 = .ok (.putfield 181, 3) := by decide +kernel
theorem d_MM_read_45 : decode b_MM_read 45 = .ok (.aload_n 0, 1) := by decide +kernel
theorem d_MM_read_46 : decode b_MM_read 46 = .ok (.iconst 0, 1) := by decide +kernel
theorem d_MM_read_47 : decode b_MM_read 47 = .ok (.putfield 184, 3) := by decide +kernel
theorem d_MM_read_50 : decode b_MM_read 50 = .ok (.aload_n 0, 1) := by decide +kernel
theorem d_MM_read_51 : decode b_MM_read 51 = .ok (.iconst 0, 1) := by decide +kernel
theorem d_MM_read_52 : decode b_MM_read 52 = .ok (.putfield 269, 3) := by decide +kernel
theorem d_MM_read_55 : decode b_MM_read 55 = .ok (.aload_n 0, 1) := by decide +kernel
theorem d_MM_read_56 : decode b_MM_read 56 = .ok (.iconst 0, 1) := by decide +kernel
theorem d_MM_read_57 : decode b_MM_read 57 = .ok (.putfield 232, 3) := by decide +kernel
theorem d_MM_read_60 : decode b_MM_read 60 = .ok (.aload_n 0, 1) := by decide +kernel
theorem d_MM_read_61 : decode b_MM_read 61 = .ok (.iconst 0, 1) := by decide +kernel
theorem d_MM_read_62 : decode b_MM_read 62 = .ok (.putfield 272, 3) := by decide +kernel
theorem d_MM_read_65 : decode b_MM_read 65 = .ok (.aload_n 0, 1) := by decide +kernel
theorem d_MM_read_66 : decode b_MM_read 66 = .ok (.iconst 0, 1) := by decide +kernel
theorem d_MM_read_67 : decode b_MM_read 67 = .ok (.putfield 275, 3) := by decide +kernel
theorem d_MM_read_70 : decode b_MM_read 70 = .ok (.aload_n 0, 1) := by decide +kernel
theorem d_MM_read_71 : decode b_MM_read 71 = .ok (.iconst 0, 1) := by decide +kernel
theorem d_MM_read_72 : decode b_MM_read 72 = .ok (.putfield 278, 3) := by decide +kernel
theorem d_MM_read_75 : decode b_MM_read 75 = .ok (.aload_n 0, 1) := by decide +kernel
theorem d_MM_read_76 : decode b_MM_read 76 = .ok (.iconst (-1), 1) := by decide +kernel
theorem d_MM_read_77 : decode b_MM_read 77 = .ok (.putfield 281, 3) := by decide +kernel
theorem d_MM_read_80 : decode b_MM_read 80 = .ok (.aload_n 0, 1) := by decide +kernel
theorem d_MM_read_81 : decode b_MM_read 81 = .ok (.iconst 0, 1) := by decide +kernel
theorem d_MM_read_82 : decode b_MM_read 82 = .ok (.putfield 284, 3) := by decide +kernel
theorem d_MM_read_85 : decode b_MM_read 85 = .ok (.aload_n 0, 1) := by decide +kernel
theorem d_MM_read_86 : decode b_MM_read 86 = .ok (.iconst 0, 1) := by decide +kernel
theorem d_MM_read_87 : decode b_MM_read 87 = .ok (.putfield 287, 3) := by decide +kernel
theorem d_MM_read_90 : decode b_MM_read 90 = .ok (.aload_n 0, 1) := by decide +kernel
theorem d_MM_read_91 : decode b_MM_read 91 = .ok (.iconst 0, 1) := by decide +kernel
theorem d_MM_read_92 : decode b_MM_read 92 = .ok (.putfield 290, 3) := by decide +kernel
theorem d_MM_read_95 : decode b_MM_read 95 = .ok (.aload_n 0, 1) := by decide +kernel
theorem d_MM_read_96 : decode b_MM_read 96 = .ok (.iconst 0, 1) := by decide +kernel
theorem d_MM_read_97 : decode b_MM_read 97 = .ok (.putfield 293, 3) := by decide +kernel
theorem d_MM_read_100 : decode b_MM_read 100 = .ok (.aload_n 0, 1) := by decide +kernel
theorem d_MM_read_101 : decode b_MM_read 101 = .ok (.iconst 0, 1) := by decide +kernel
theorem d_MM_read_102 : decode b_MM_read 102 = .ok (.putfield 296, 3) := by decide +kernel
theorem d_MM_read_105 : decode b_MM_read 105 = .ok (.aload_n 0, 1) := by decide +kernel
theorem d_MM_read_106 : decode b_MM_read 106 = .ok (.iconst 0, 1) := by decide +kernel
theorem d_MM_read_107 : decode b_MM_read 107 = .ok (.putfield 299, 3) := by decide +kernel
theorem d_MM_read_110 : decode b_MM_read 110 = .ok (.aload_n 0, 1) := by decide +kernel
theorem d_MM_read_111 : decode b_MM_read 111 = .ok (.iconst 0, 1) := by decide +kernel
theorem d_MM_read_112 : decode b_MM_read 112 = .ok (.putfield 332, 3) := by decide +kernel
theorem d_MM_read_115 : decode b_MM_read 115 = .ok (.aload_n 0, 1) := by decide +kernel
theorem d_MM_read_116 : decode b_MM_read 116 = .ok (.iconst 0, 1) := by decide +kernel
theorem d_MM_read_117 : decode b_MM_read 117 = .ok (.putfield 27, 3) := by decide +kernel
theorem d_MM_read_120 : decode b_MM_read 120 = .ok (.aload_n 0, 1) := by decide +kernel
theorem d_MM_read_121 : decode b_MM_read 121 = .ok (.iconst 0, 1) := by decide +kernel
theorem d_MM_read_122 : decode b_MM_read 122 = .ok (.putfield 30, 3) := by decide +kernel
theorem d_MM_read_125 : decode b_MM_read 125 = .ok (.aload_n 0, 1) := by decide +kernel
theorem d_MM_read_126 : decode b_MM_read 126 = .ok (.getfield 163, 3) := by decide +kernel
theorem d_MM_read_129 : decode b_MM_read 129 = .ok (.iconst 0, 1) := by decide +kernel
theorem d_MM_read_130 : decode b_MM_read 130 = .ok (.iconst 1, 1) := by decide +kernel
theorem d_MM_read_131 : decode b_MM_read 131 = .ok (.bastore, 1) := by decide +kernel
theorem d_MM_read_132 : decode b_MM_read 132 = .ok (.aload_n 0, 1) := by decide +kernel
theorem d_MM_read_133 : decode b_MM_read 133 = .ok (.getfield 160, 3) := by decide +kernel
theorem d_MM_read_136 : decode b_MM_read 136 = .ok (.iconst 0, 1) := by decide +kernel
theorem d_MM_read_137 : decode b_MM_read 137 = .ok (.iconst 0, 1) := by decide +kernel
theorem d_MM_read_138 : decode b_MM_read 138 = .ok (.iastore, 1) := by decide +kernel
theorem d_MM_read_139 : decode b_MM_read 139 = .ok (.aload_n 0, 1) := by decide +kernel
theorem d_MM_read_140 : decode b_MM_read 140 = .ok (.invokevirtual 741, 3) := by decide +kernel
theorem d_MM_read_143 : decode b_MM_read 143 = .ok (.aload_n 0, 1) := by decide +kernel
theorem d_MM_read_144 : decode b_MM_read 144 = .ok (.invokevirtual 744, 3) := by decide +kernel
theorem d_MM_read_147 : decode b_MM_read 147 = .ok (.goto 40, 3) := by decide +kernel
theorem d_MM_read_150 : decode b_MM_read 150 = .ok (.astore_n 1, 1) := by decide +kernel
theorem d_MM_read_151 : decode b_MM_read 151 = .ok (.aload_n 0, 1) := by decide +kernel
theorem d_MM_read_152 : decode b_MM_read 152 = .ok (.aload_n 1, 1) := by decide +kernel
theorem d_MM_read_153 : decode b_MM_read 153 = .ok (.getfield 747, 3) := by decide +kernel
theorem d_MM_read_156 : decode b_MM_read 156 = .ok (.putfield 27, 3) := by decide +kernel
theorem d_MM_read_159 : decode b_MM_read 159 = .ok (.aload_n 0, 1) := by decide +kernel
theorem d_MM_read_160 : decode b_MM_read 160 = .ok (.aload_n 1, 1) := by decide +kernel
theorem d_MM_read_161 : decode b_MM_read 161 = .ok (.getfield 749, 3) := by decide +kernel
theorem d_MM_read_164 : decode b_MM_read 164 = .ok (.putfield 30, 3) := by decide +kernel
theorem d_MM_read_167 : decode b_MM_read 167 = .ok (.aload_n 0, 1) := by decide +kernel
theorem d_MM_read_168 : decode b_MM_read 168 = .ok (.iconst 0, 1) := by decide +kernel
theorem d_MM_read_169 : decode b_MM_read 169 = .ok (.putfield 269, 3) := by decide +kernel
theorem d_MM_read_172 : decode b_MM_read 172 = .ok (.aload_n 0, 1) := by decide +kernel
theorem d_MM_read_173 : decode b_MM_read 173 = .ok (.iconst 0, 1) := by decide +kernel
theorem d_MM_read_174 : decode b_MM_read 174 = .ok (.putfield 232, 3) := by decide +kernel
theorem d_MM_read_177 : decode b_MM_read 177 = .ok (.aload_n 0, 1) := by decide +kernel
theorem d_MM_read_178 : decode b_MM_read 178 = .ok (.iconst 1, 1) := by decide +kernel
theorem d_MM_read_179 : decode b_MM_read 179 = .ok (.putfield 71, 3) := by decide +kernel
theorem d_MM_read_182 : decode b_MM_read 182 = .ok (.aload_n 0, 1) := by decide +kernel
theorem d_MM_read_183 : decode b_MM_read 183 = .ok (.iconst 0, 1) := by decide +kernel
theorem d_MM_read_184 : decode b_MM_read 184 = .ok (.putfield 74, 3) := by decide +kernel
theorem d_MM_read_187 : decode b_MM_read 187 = .ok (.aload_n 0, 1) := by decide +kernel
theorem d_MM_read_188 : decode b_MM_read 188 = .ok (.iconst 0, 1) := by decide +kernel
theorem d_MM_read_189 : decode b_MM_read 189 = .ok (.putfield 17, 3) := by decide +kernel
theorem d_MM_read_192 : decode b_MM_read 192 = .ok (.aload_n 0, 1) := by decide +kernel
theorem d_MM_read_193 : decode b_MM_read 193 = .ok (.aload_n 0, 1) := by decide +kernel
theorem d_MM_read_194 : decode b_MM_read 194 = .ok (.getfield 269, 3) := by decide +kernel
theorem d_MM_read_197 : decode b_MM_read 197 = .ok (.putfield 272, 3) := by decide +kernel
theorem d_MM_read_200 : decode b_MM_read 200 = .ok (.aload_n 0, 1) := by decide +kernel
theorem d_MM_read_201 : decode b_MM_read 201 = .ok (.getfield 27, 3) := by decide +kernel
theorem d_MM_read_204 : decode b_MM_read 204 = .ok (.ifCond .le 7, 3) := by decide +kernel
theorem d_MM_read_207 : decode b_MM_read 207 = .ok (.iconst (-1), 1) := by decide +kernel
theorem d_MM_read_208 : decode b_MM_read 208 = .ok (.goto 7, 3) := by decide +kernel
theorem d_MM_read_211 : decode b_MM_read 211 = .ok (.aload_n 0, 1) := by decide +kernel
theorem d_MM_read_212 : decode b_MM_read 212 = .ok (.getfield 269, 3) := by decide +kernel
theorem d_MM_read_215 : decode b_MM_read 215 = .ok (.ireturn, 1) := by decide +kernel
abbrev b_MM_parse : ByteArray := prog_14_method_40_code
def y_MM_parse : MethodName := ⟨"ClauseProverModel", "parse", "()V"⟩
theorem d_MM_parse_0 : decode b_MM_parse 0 = .ok (.aload_n 0, 1) := by decide +kernel
theorem d_MM_parse_1 : decode b_MM_parse 1 = .ok (.iconst 0, 1) := by decide +kernel
theorem d_MM_parse_2 : decode b_MM_parse 2 = .ok (.putfield 33, 3) := by decide +kernel
theorem d_MM_parse_5 : decode b_MM_parse 5 = .ok (.aload_n 0, 1) := by decide +kernel
theorem d_MM_parse_6 : decode b_MM_parse 6 = .ok (.iconst 0, 1) := by decide +kernel
theorem d_MM_parse_7 : decode b_MM_parse 7 = .ok (.putfield 49, 3) := by decide +kernel
theorem d_MM_parse_10 : decode b_MM_parse 10 = .ok (.aload_n 0, 1) := by decide +kernel
theorem d_MM_parse_11 : decode b_MM_parse 11 = .ok (.iconst 0, 1) := by decide +kernel
theorem d_MM_parse_12 : decode b_MM_parse 12 = .ok (.putfield 45, 3) := by decide +kernel
theorem d_MM_parse_15 : decode b_MM_parse 15 = .ok (.aload_n 0, 1) := by decide +kernel
theorem d_MM_parse_16 : decode b_MM_parse 16 = .ok (.invokevirtual 422, 3) := by decide +kernel
theorem d_MM_parse_19 : decode b_MM_parse 19 = .ok (.ifCond .eq 241, 3) := by decide +kernel
theorem d_MM_parse_22 : decode b_MM_parse 22 = .ok (.aload_n 0, 1) := by decide +kernel
theorem d_MM_parse_23 : decode b_MM_parse 23 = .ok (.getfield 166, 3) := by decide +kernel
theorem d_MM_parse_26 : decode b_MM_parse 26 = .ok (.aload_n 0, 1) := by decide +kernel
theorem d_MM_parse_27 : decode b_MM_parse 27 = .ok (.getfield 181, 3) := by decide +kernel
theorem d_MM_parse_30 : decode b_MM_parse 30 = .ok (.aload_n 0, 1) := by decide +kernel
theorem d_MM_parse_31 : decode b_MM_parse 31 = .ok (.getfield 39, 3) := by decide +kernel
theorem d_MM_parse_34 : decode b_MM_parse 34 = .ok (.iastore, 1) := by decide +kernel
theorem d_MM_parse_35 : decode b_MM_parse 35 = .ok (.aload_n 0, 1) := by decide +kernel
theorem d_MM_parse_36 : decode b_MM_parse 36 = .ok (.iconst 0, 1) := by decide +kernel
theorem d_MM_parse_37 : decode b_MM_parse 37 = .ok (.putfield 99, 3) := by decide +kernel
theorem d_MM_parse_40 : decode b_MM_parse 40 = .ok (.aload_n 0, 1) := by decide +kernel
theorem d_MM_parse_41 : decode b_MM_parse 41 = .ok (.iconst 0, 1) := by decide +kernel
theorem d_MM_parse_42 : decode b_MM_parse 42 = .ok (.putfield 102, 3) := by decide +kernel
theorem d_MM_parse_45 : decode b_MM_parse 45 = .ok (.aload_n 0, 1) := by decide +kernel
theorem d_MM_parse_46 : decode b_MM_parse 46 = .ok (.getfield 36, 3) := by decide +kernel
theorem d_MM_parse_49 : decode b_MM_parse 49 = .ok (.iconst 2, 1) := by decide +kernel
theorem d_MM_parse_50 : decode b_MM_parse 50 = .ok (.if_icmp .ne 93, 3) := by decide +kernel
theorem d_MM_parse_53 : decode b_MM_parse 53 = .ok (.aload_n 0, 1) := by decide +kernel
theorem d_MM_parse_54 : decode b_MM_parse 54 = .ok (.getfield 42, 3) := by decide +kernel
theorem d_MM_parse_57 : decode b_MM_parse 57 = .ok (.aload_n 0, 1) := by decide +kernel
theorem d_MM_parse_58 : decode b_MM_parse 58 = .ok (.getfield 39, 3) := by decide +kernel
theorem d_MM_parse_61 : decode b_MM_parse 61 = .ok (.isub, 1) := by decide +kernel
theorem d_MM_parse_62 : decode b_MM_parse 62 = .ok (.iconst 5, 1) := by decide +kernel
theorem d_MM_parse_63 : decode b_MM_parse 63 = .ok (.if_icmp .ne 80, 3) := by decide +kernel
theorem d_MM_parse_66 : decode b_MM_parse 66 = .ok (.aload_n 0, 1) := by decide +kernel
theorem d_MM_parse_67 : decode b_MM_parse 67 = .ok (.aload_n 0, 1) := by decide +kernel
theorem d_MM_parse_68 : decode b_MM_parse 68 = .ok (.getfield 39, 3) := by decide +kernel
theorem d_MM_parse_71 : decode b_MM_parse 71 = .ok (.bipush 112, 2) := by decide +kernel
theorem d_MM_parse_73 : decode b_MM_parse 73 = .ok (.invokevirtual 419, 3) := by decide +kernel
theorem d_MM_parse_76 : decode b_MM_parse 76 = .ok (.ifCond .eq 67, 3) := by decide +kernel
theorem d_MM_parse_79 : decode b_MM_parse 79 = .ok (.aload_n 0, 1) := by decide +kernel
theorem d_MM_parse_80 : decode b_MM_parse 80 = .ok (.aload_n 0, 1) := by decide +kernel
theorem d_MM_parse_81 : decode b_MM_parse 81 = .ok (.getfield 39, 3) := by decide +kernel
theorem d_MM_parse_84 : decode b_MM_parse 84 = .ok (.iconst 1, 1) := by decide +kernel
theorem d_MM_parse_85 : decode b_MM_parse 85 = .ok (.iadd, 1) := by decide +kernel
theorem d_MM_parse_86 : decode b_MM_parse 86 = .ok (.bipush 114, 2) := by decide +kernel
theorem d_MM_parse_88 : decode b_MM_parse 88 = .ok (.invokevirtual 419, 3) := by decide +kernel
theorem d_MM_parse_91 : decode b_MM_parse 91 = .ok (.ifCond .eq 52, 3) := by decide +kernel
theorem d_MM_parse_94 : decode b_MM_parse 94 = .ok (.aload_n 0, 1) := by decide +kernel
theorem d_MM_parse_95 : decode b_MM_parse 95 = .ok (.aload_n 0, 1) := by decide +kernel
theorem d_MM_parse_96 : decode b_MM_parse 96 = .ok (.getfield 39, 3) := by decide +kernel
theorem d_MM_parse_99 : decode b_MM_parse 99 = .ok (.iconst 2, 1) := by decide +kernel
theorem d_MM_parse_100 : decode b_MM_parse 100 = .ok (.iadd, 1) := by decide +kernel
theorem d_MM_parse_101 : decode b_MM_parse 101 = .ok (.bipush 111, 2) := by decide +kernel
theorem d_MM_parse_103 : decode b_MM_parse 103 = .ok (.invokevirtual 419, 3) := by decide +kernel
theorem d_MM_parse_106 : decode b_MM_parse 106 = .ok (.ifCond .eq 37, 3) := by decide +kernel
theorem d_MM_parse_109 : decode b_MM_parse 109 = .ok (.aload_n 0, 1) := by decide +kernel
theorem d_MM_parse_110 : decode b_MM_parse 110 = .ok (.aload_n 0, 1) := by decide +kernel
theorem d_MM_parse_111 : decode b_MM_parse 111 = .ok (.getfield 39, 3) := by decide +kernel
theorem d_MM_parse_114 : decode b_MM_parse 114 = .ok (.iconst 3, 1) := by decide +kernel
theorem d_MM_parse_115 : decode b_MM_parse 115 = .ok (.iadd, 1) := by decide +kernel
theorem d_MM_parse_116 : decode b_MM_parse 116 = .ok (.bipush 118, 2) := by decide +kernel
theorem d_MM_parse_118 : decode b_MM_parse 118 = .ok (.invokevirtual 419, 3) := by decide +kernel
theorem d_MM_parse_121 : decode b_MM_parse 121 = .ok (.ifCond .eq 22, 3) := by decide +kernel
theorem d_MM_parse_124 : decode b_MM_parse 124 = .ok (.aload_n 0, 1) := by decide +kernel
theorem d_MM_parse_125 : decode b_MM_parse 125 = .ok (.aload_n 0, 1) := by decide +kernel
theorem d_MM_parse_126 : decode b_MM_parse 126 = .ok (.getfield 39, 3) := by decide +kernel
theorem d_MM_parse_129 : decode b_MM_parse 129 = .ok (.iconst 4, 1) := by decide +kernel
theorem d_MM_parse_130 : decode b_MM_parse 130 = .ok (.iadd, 1) := by decide +kernel
theorem d_MM_parse_131 : decode b_MM_parse 131 = .ok (.bipush 101, 2) := by decide +kernel
theorem d_MM_parse_133 : decode b_MM_parse 133 = .ok (.invokevirtual 419, 3) := by decide +kernel
theorem d_MM_parse_136 : decode b_MM_parse 136 = .ok (.ifCond .eq 7, 3) := by decide +kernel
theorem d_MM_parse_139 : decode b_MM_parse 139 = .ok (.iconst 1, 1) := by decide +kernel
theorem d_MM_parse_140 : decode b_MM_parse 140 = .ok (.goto 4, 3) := by decide +kernel
theorem d_MM_parse_143 : decode b_MM_parse 143 = .ok (.iconst 0, 1) := by decide +kernel
theorem d_MM_parse_144 : decode b_MM_parse 144 = .ok (.istore_n 1, 1) := by decide +kernel
theorem d_MM_parse_145 : decode b_MM_parse 145 = .ok (.iload_n 1, 1) := by decide +kernel
theorem d_MM_parse_146 : decode b_MM_parse 146 = .ok (.ifCond .eq 7, 3) := by decide +kernel
theorem d_MM_parse_149 : decode b_MM_parse 149 = .ok (.aload_n 0, 1) := by decide +kernel
theorem d_MM_parse_150 : decode b_MM_parse 150 = .ok (.invokevirtual 435, 3) := by decide +kernel
theorem d_MM_parse_153 : decode b_MM_parse 153 = .ok (.aload_n 0, 1) := by decide +kernel
theorem d_MM_parse_154 : decode b_MM_parse 154 = .ok (.getfield 187, 3) := by decide +kernel
theorem d_MM_parse_157 : decode b_MM_parse 157 = .ok (.aload_n 0, 1) := by decide +kernel
theorem d_MM_parse_158 : decode b_MM_parse 158 = .ok (.getfield 181, 3) := by decide +kernel
theorem d_MM_parse_161 : decode b_MM_parse 161 = .ok (.iload_n 1, 1) := by decide +kernel
theorem d_MM_parse_162 : decode b_MM_parse 162 = .ok (.bastore, 1) := by decide +kernel
theorem d_MM_parse_163 : decode b_MM_parse 163 = .ok (.aload_n 0, 1) := by decide +kernel
theorem d_MM_parse_164 : decode b_MM_parse 164 = .ok (.getfield 169, 3) := by decide +kernel
theorem d_MM_parse_167 : decode b_MM_parse 167 = .ok (.aload_n 0, 1) := by decide +kernel
theorem d_MM_parse_168 : decode b_MM_parse 168 = .ok (.getfield 181, 3) := by decide +kernel
theorem d_MM_parse_171 : decode b_MM_parse 171 = .ok (.aload_n 0, 1) := by decide +kernel
theorem d_MM_parse_172 : decode b_MM_parse 172 = .ok (.iconst 0, 1) := by decide +kernel
theorem d_MM_parse_173 : decode b_MM_parse 173 = .ok (.invokevirtual 476, 3) := by decide +kernel
theorem d_MM_parse_176 : decode b_MM_parse 176 = .ok (.iastore, 1) := by decide +kernel
theorem d_MM_parse_177 : decode b_MM_parse 177 = .ok (.aload_n 0, 1) := by decide +kernel
theorem d_MM_parse_178 : decode b_MM_parse 178 = .ok (.bipush 46, 2) := by decide +kernel
theorem d_MM_parse_180 : decode b_MM_parse 180 = .ok (.invokevirtual 479, 3) := by decide +kernel
theorem d_MM_parse_183 : decode b_MM_parse 183 = .ok (.aload_n 0, 1) := by decide +kernel
theorem d_MM_parse_184 : decode b_MM_parse 184 = .ok (.getfield 172, 3) := by decide +kernel
theorem d_MM_parse_187 : decode b_MM_parse 187 = .ok (.aload_n 0, 1) := by decide +kernel
theorem d_MM_parse_188 : decode b_MM_parse 188 = .ok (.getfield 181, 3) := by decide +kernel
theorem d_MM_parse_191 : decode b_MM_parse 191 = .ok (.aload_n 0, 1) := by decide +kernel
theorem d_MM_parse_192 : decode b_MM_parse 192 = .ok (.getfield 184, 3) := by decide +kernel
theorem d_MM_parse_195 : decode b_MM_parse 195 = .ok (.iastore, 1) := by decide +kernel
theorem d_MM_parse_196 : decode b_MM_parse 196 = .ok (.aload_n 0, 1) := by decide +kernel
theorem d_MM_parse_197 : decode b_MM_parse 197 = .ok (.getfield 175, 3) := by decide +kernel
theorem d_MM_parse_200 : decode b_MM_parse 200 = .ok (.aload_n 0, 1) := by decide +kernel
theorem d_MM_parse_201 : decode b_MM_parse 201 = .ok (.getfield 181, 3) := by decide +kernel
theorem d_MM_parse_204 : decode b_MM_parse 204 = .ok (.aload_n 0, 1) := by decide +kernel
theorem d_MM_parse_205 : decode b_MM_parse 205 = .ok (.getfield 102, 3) := by decide +kernel
theorem d_MM_parse_208 : decode b_MM_parse 208 = .ok (.iastore, 1) := by decide +kernel
theorem d_MM_parse_209 : decode b_MM_parse 209 = .ok (.iconst 0, 1) := by decide +kernel
theorem d_MM_parse_210 : decode b_MM_parse 210 = .ok (.istore_n 2, 1) := by decide +kernel
theorem d_MM_parse_211 : decode b_MM_parse 211 = .ok (.iload_n 2, 1) := by decide +kernel
theorem d_MM_parse_212 : decode b_MM_parse 212 = .ok (.aload_n 0, 1) := by decide +kernel
theorem d_MM_parse_213 : decode b_MM_parse 213 = .ok (.getfield 102, 3) := by decide +kernel
theorem d_MM_parse_216 : decode b_MM_parse 216 = .ok (.if_icmp .ge 31, 3) := by decide +kernel
theorem d_MM_parse_219 : decode b_MM_parse 219 = .ok (.aload_n 0, 1) := by decide +kernel
theorem d_MM_parse_220 : decode b_MM_parse 220 = .ok (.getfield 178, 3) := by decide +kernel
theorem d_MM_parse_223 : decode b_MM_parse 223 = .ok (.aload_n 0, 1) := by decide +kernel
theorem d_MM_parse_224 : decode b_MM_parse 224 = .ok (.dup, 1) := by decide +kernel
theorem d_MM_parse_225 : decode b_MM_parse 225 = .ok (.getfield 184, 3) := by decide +kernel
theorem d_MM_parse_228 : decode b_MM_parse 228 = .ok (.dup_x1, 1) := by decide +kernel
theorem d_MM_parse_229 : decode b_MM_parse 229 = .ok (.iconst 1, 1) := by decide +kernel
theorem d_MM_parse_230 : decode b_MM_parse 230 = .ok (.iadd, 1) := by decide +kernel
theorem d_MM_parse_231 : decode b_MM_parse 231 = .ok (.putfield 184, 3) := by decide +kernel
theorem d_MM_parse_234 : decode b_MM_parse 234 = .ok (.aload_n 0, 1) := by decide +kernel
theorem d_MM_parse_235 : decode b_MM_parse 235 = .ok (.getfield 96, 3) := by decide +kernel
theorem d_MM_parse_238 : decode b_MM_parse 238 = .ok (.iload_n 2, 1) := by decide +kernel
theorem d_MM_parse_239 : decode b_MM_parse 239 = .ok (.iaload, 1) := by decide +kernel
theorem d_MM_parse_240 : decode b_MM_parse 240 = .ok (.iastore, 1) := by decide +kernel
theorem d_MM_parse_241 : decode b_MM_parse 241 = .ok (.iinc 2 1, 3) := by decide +kernel
theorem d_MM_parse_244 : decode b_MM_parse 244 = .ok (.goto (-33), 3) := by decide +kernel
theorem d_MM_parse_247 : decode b_MM_parse 247 = .ok (.aload_n 0, 1) := by decide +kernel
theorem d_MM_parse_248 : decode b_MM_parse 248 = .ok (.dup, 1) := by decide +kernel
theorem d_MM_parse_249 : decode b_MM_parse 249 = .ok (.getfield 181, 3) := by decide +kernel
theorem d_MM_parse_252 : decode b_MM_parse 252 = .ok (.iconst 1, 1) := by decide +kernel
theorem d_MM_parse_253 : decode b_MM_parse 253 = .ok (.iadd, 1) := by decide +kernel
theorem d_MM_parse_254 : decode b_MM_parse 254 = .ok (.putfield 181, 3) := by decide +kernel
theorem d_MM_parse_257 : decode b_MM_parse 257 = .ok (.goto (-242), 3) := by decide +kernel
theorem d_MM_parse_260 : decode b_MM_parse 260 = .ok (.return_, 1) := by decide +kernel
abbrev b_MM_peek : ByteArray := prog_14_method_10_code
def y_MM_peek : MethodName := ⟨"ClauseProverModel", "peek", "()I"⟩
theorem d_MM_peek_0 : decode b_MM_peek 0 = .ok (.aload_n 0, 1) := by decide +kernel
theorem d_MM_peek_1 : decode b_MM_peek 1 = .ok (.getfield 45, 3) := by decide +kernel
theorem d_MM_peek_4 : decode b_MM_peek 4 = .ok (.ifCond .eq 8, 3) := by decide +kernel
theorem d_MM_peek_7 : decode b_MM_peek 7 = .ok (.aload_n 0, 1) := by decide +kernel
theorem d_MM_peek_8 : decode b_MM_peek 8 = .ok (.getfield 36, 3) := by decide +kernel
theorem d_MM_peek_11 : decode b_MM_peek 11 = .ok (.ireturn, 1) := by decide +kernel
theorem d_MM_peek_12 : decode b_MM_peek 12 = .ok (.aload_n 0, 1) := by decide +kernel
theorem d_MM_peek_13 : decode b_MM_peek 13 = .ok (.invokevirtual 409, 3) := by decide +kernel
theorem d_MM_peek_16 : decode b_MM_peek 16 = .ok (.aload_n 0, 1) := by decide +kernel
theorem d_MM_peek_17 : decode b_MM_peek 17 = .ok (.iconst 1, 1) := by decide +kernel
theorem d_MM_peek_18 : decode b_MM_peek 18 = .ok (.putfield 45, 3) := by decide +kernel
theorem d_MM_peek_21 : decode b_MM_peek 21 = .ok (.aload_n 0, 1) := by decide +kernel
theorem d_MM_peek_22 : decode b_MM_peek 22 = .ok (.aload_n 0, 1) := by decide +kernel
theorem d_MM_peek_23 : decode b_MM_peek 23 = .ok (.getfield 33, 3) := by decide +kernel
theorem d_MM_peek_26 : decode b_MM_peek 26 = .ok (.putfield 39, 3) := by decide +kernel
theorem d_MM_peek_29 : decode b_MM_peek 29 = .ok (.aload_n 0, 1) := by decide +kernel
theorem d_MM_peek_30 : decode b_MM_peek 30 = .ok (.aload_n 0, 1) := by decide +kernel
theorem d_MM_peek_31 : decode b_MM_peek 31 = .ok (.getfield 33, 3) := by decide +kernel
theorem d_MM_peek_34 : decode b_MM_peek 34 = .ok (.putfield 42, 3) := by decide +kernel
theorem d_MM_peek_37 : decode b_MM_peek 37 = .ok (.aload_n 0, 1) := by decide +kernel
theorem d_MM_peek_38 : decode b_MM_peek 38 = .ok (.getfield 33, 3) := by decide +kernel
theorem d_MM_peek_41 : decode b_MM_peek 41 = .ok (.aload_n 0, 1) := by decide +kernel
theorem d_MM_peek_42 : decode b_MM_peek 42 = .ok (.getfield 17, 3) := by decide +kernel
theorem d_MM_peek_45 : decode b_MM_peek 45 = .ok (.if_icmp .ne 10, 3) := by decide +kernel
theorem d_MM_peek_48 : decode b_MM_peek 48 = .ok (.aload_n 0, 1) := by decide +kernel
theorem d_MM_peek_49 : decode b_MM_peek 49 = .ok (.iconst 0, 1) := by decide +kernel
theorem d_MM_peek_50 : decode b_MM_peek 50 = .ok (.putfield 36, 3) := by decide +kernel
theorem d_MM_peek_53 : decode b_MM_peek 53 = .ok (.iconst 0, 1) := by decide +kernel
theorem d_MM_peek_54 : decode b_MM_peek 54 = .ok (.ireturn, 1) := by decide +kernel
theorem d_MM_peek_55 : decode b_MM_peek 55 = .ok (.aload_n 0, 1) := by decide +kernel
theorem d_MM_peek_56 : decode b_MM_peek 56 = .ok (.dup, 1) := by decide +kernel
theorem d_MM_peek_57 : decode b_MM_peek 57 = .ok (.getfield 49, 3) := by decide +kernel
theorem d_MM_peek_60 : decode b_MM_peek 60 = .ok (.iconst 1, 1) := by decide +kernel
theorem d_MM_peek_61 : decode b_MM_peek 61 = .ok (.iadd, 1) := by decide +kernel
theorem d_MM_peek_62 : decode b_MM_peek 62 = .ok (.putfield 49, 3) := by decide +kernel
theorem d_MM_peek_65 : decode b_MM_peek 65 = .ok (.aload_n 0, 1) := by decide +kernel
theorem d_MM_peek_66 : decode b_MM_peek 66 = .ok (.sipush 304, 3) := by decide +kernel
theorem d_MM_peek_69 : decode b_MM_peek 69 = .ok (.putfield 36, 3) := by decide +kernel
theorem d_MM_peek_72 : decode b_MM_peek 72 = .ok (.aload_n 0, 1) := by decide +kernel
theorem d_MM_peek_73 : decode b_MM_peek 73 = .ok (.getfield 49, 3) := by decide +kernel
theorem d_MM_peek_76 : decode b_MM_peek 76 = .ok (.sipush 20000, 3) := by decide +kernel
theorem d_MM_peek_79 : decode b_MM_peek 79 = .ok (.if_icmp .le 7, 3) := by decide +kernel
theorem d_MM_peek_82 : decode b_MM_peek 82 = .ok (.sipush 304, 3) := by decide +kernel
theorem d_MM_peek_85 : decode b_MM_peek 85 = .ok (.ireturn, 1) := by decide +kernel
theorem d_MM_peek_86 : decode b_MM_peek 86 = .ok (.aload_n 0, 1) := by decide +kernel
theorem d_MM_peek_87 : decode b_MM_peek 87 = .ok (.getfield 8, 3) := by decide +kernel
theorem d_MM_peek_90 : decode b_MM_peek 90 = .ok (.aload_n 0, 1) := by decide +kernel
theorem d_MM_peek_91 : decode b_MM_peek 91 = .ok (.getfield 33, 3) := by decide +kernel
theorem d_MM_peek_94 : decode b_MM_peek 94 = .ok (.baload, 1) := by decide +kernel
theorem d_MM_peek_95 : decode b_MM_peek 95 = .ok (.istore_n 1, 1) := by decide +kernel
theorem d_MM_peek_96 : decode b_MM_peek 96 = .ok (.aload_n 0, 1) := by decide +kernel
theorem d_MM_peek_97 : decode b_MM_peek 97 = .ok (.iload_n 1, 1) := by decide +kernel
theorem d_MM_peek_98 : decode b_MM_peek 98 = .ok (.invokevirtual 405, 3) := by decide +kernel
theorem d_MM_peek_101 : decode b_MM_peek 101 = .ok (.ifCond .eq 83, 3) := by decide +kernel
theorem d_MM_peek_104 : decode b_MM_peek 104 = .ok (.aload_n 0, 1) := by decide +kernel
theorem d_MM_peek_105 : decode b_MM_peek 105 = .ok (.getfield 42, 3) := by decide +kernel
theorem d_MM_peek_108 : decode b_MM_peek 108 = .ok (.aload_n 0, 1) := by decide +kernel
theorem d_MM_peek_109 : decode b_MM_peek 109 = .ok (.getfield 17, 3) := by decide +kernel
theorem d_MM_peek_112 : decode b_MM_peek 112 = .ok (.if_icmp .ge 32, 3) := by decide +kernel
theorem d_MM_peek_115 : decode b_MM_peek 115 = .ok (.aload_n 0, 1) := by decide +kernel
theorem d_MM_peek_116 : decode b_MM_peek 116 = .ok (.aload_n 0, 1) := by decide +kernel
theorem d_MM_peek_117 : decode b_MM_peek 117 = .ok (.getfield 8, 3) := by decide +kernel
theorem d_MM_peek_120 : decode b_MM_peek 120 = .ok (.aload_n 0, 1) := by decide +kernel
theorem d_MM_peek_121 : decode b_MM_peek 121 = .ok (.getfield 42, 3) := by decide +kernel
theorem d_MM_peek_124 : decode b_MM_peek 124 = .ok (.baload, 1) := by decide +kernel
theorem d_MM_peek_125 : decode b_MM_peek 125 = .ok (.invokevirtual 412, 3) := by decide +kernel
theorem d_MM_peek_128 : decode b_MM_peek 128 = .ok (.ifCond .eq 16, 3) := by decide +kernel
theorem d_MM_peek_131 : decode b_MM_peek 131 = .ok (.aload_n 0, 1) := by decide +kernel
theorem d_MM_peek_132 : decode b_MM_peek 132 = .ok (.dup, 1) := by decide +kernel
theorem d_MM_peek_133 : decode b_MM_peek 133 = .ok (.getfield 42, 3) := by decide +kernel
theorem d_MM_peek_136 : decode b_MM_peek 136 = .ok (.iconst 1, 1) := by decide +kernel
theorem d_MM_peek_137 : decode b_MM_peek 137 = .ok (.iadd, 1) := by decide +kernel
theorem d_MM_peek_138 : decode b_MM_peek 138 = .ok (.putfield 42, 3) := by decide +kernel
theorem d_MM_peek_141 : decode b_MM_peek 141 = .ok (.goto (-37), 3) := by decide +kernel
theorem d_MM_peek_144 : decode b_MM_peek 144 = .ok (.aload_n 0, 1) := by decide +kernel
theorem d_MM_peek_145 : decode b_MM_peek 145 = .ok (.aload_n 0, 1) := by decide +kernel
theorem d_MM_peek_146 : decode b_MM_peek 146 = .ok (.getfield 42, 3) := by decide +kernel
theorem d_MM_peek_149 : decode b_MM_peek 149 = .ok (.aload_n 0, 1) := by decide +kernel
theorem d_MM_peek_150 : decode b_MM_peek 150 = .ok (.getfield 39, 3) := by decide +kernel
theorem d_MM_peek_153 : decode b_MM_peek 153 = .ok (.isub, 1) := by decide +kernel
theorem d_MM_peek_154 : decode b_MM_peek 154 = .ok (.bipush 31, 2) := by decide +kernel
theorem d_MM_peek_156 : decode b_MM_peek 156 = .ok (.if_icmp .le 9, 3) := by decide +kernel
theorem d_MM_peek_159 : decode b_MM_peek 159 = .ok (.sipush 303, 3) := by decide +kernel
theorem d_MM_peek_162 : decode b_MM_peek 162 = .ok (.goto 14, 3) := by decide +kernel
theorem d_MM_peek_165 : decode b_MM_peek 165 = .ok (.iload_n 1, 1) := by decide +kernel
theorem d_MM_peek_166 : decode b_MM_peek 166 = .ok (.bipush 97, 2) := by decide +kernel
theorem d_MM_peek_168 : decode b_MM_peek 168 = .ok (.if_icmp .ge 7, 3) := by decide +kernel
theorem d_MM_peek_171 : decode b_MM_peek 171 = .ok (.iconst 1, 1) := by decide +kernel
theorem d_MM_peek_172 : decode b_MM_peek 172 = .ok (.goto 4, 3) := by decide +kernel
theorem d_MM_peek_175 : decode b_MM_peek 175 = .ok (.iconst 2, 1) := by decide +kernel
theorem d_MM_peek_176 : decode b_MM_peek 176 = .ok (.putfield 36, 3) := by decide +kernel
theorem d_MM_peek_179 : decode b_MM_peek 179 = .ok (.aload_n 0, 1) := by decide +kernel
theorem d_MM_peek_180 : decode b_MM_peek 180 = .ok (.getfield 36, 3) := by decide +kernel
theorem d_MM_peek_183 : decode b_MM_peek 183 = .ok (.ireturn, 1) := by decide +kernel
theorem d_MM_peek_184 : decode b_MM_peek 184 = .ok (.aload_n 0, 1) := by decide +kernel
theorem d_MM_peek_185 : decode b_MM_peek 185 = .ok (.aload_n 0, 1) := by decide +kernel
theorem d_MM_peek_186 : decode b_MM_peek 186 = .ok (.iload_n 1, 1) := by decide +kernel
theorem d_MM_peek_187 : decode b_MM_peek 187 = .ok (.invokevirtual 415, 3) := by decide +kernel
theorem d_MM_peek_190 : decode b_MM_peek 190 = .ok (.putfield 36, 3) := by decide +kernel
theorem d_MM_peek_193 : decode b_MM_peek 193 = .ok (.aload_n 0, 1) := by decide +kernel
theorem d_MM_peek_194 : decode b_MM_peek 194 = .ok (.getfield 36, 3) := by decide +kernel
theorem d_MM_peek_197 : decode b_MM_peek 197 = .ok (.ireturn, 1) := by decide +kernel
abbrev b_MM_parts : ByteArray := prog_14_method_8_code
def y_MM_parts : MethodName := ⟨"ClauseProverModel", "parts", "()V"⟩
theorem d_MM_parts_0 : decode b_MM_parts 0 = .ok (.iconst 1, 1) := by decide +kernel
theorem d_MM_parts_1 : decode b_MM_parts 1 = .ok (.istore_n 1, 1) := by decide +kernel
theorem d_MM_parts_2 : decode b_MM_parts 2 = .ok (.iload_n 1, 1) := by decide +kernel
theorem d_MM_parts_3 : decode b_MM_parts 3 = .ok (.ifCond .eq 153, 3) := by decide +kernel
theorem d_MM_parts_6 : decode b_MM_parts 6 = .ok (.iconst 0, 1) := by decide +kernel
theorem d_MM_parts_7 : decode b_MM_parts 7 = .ok (.istore_n 1, 1) := by decide +kernel
theorem d_MM_parts_8 : decode b_MM_parts 8 = .ok (.aload_n 0, 1) := by decide +kernel
theorem d_MM_parts_9 : decode b_MM_parts 9 = .ok (.getfield 33, 3) := by decide +kernel
theorem d_MM_parts_12 : decode b_MM_parts 12 = .ok (.aload_n 0, 1) := by decide +kernel
theorem d_MM_parts_13 : decode b_MM_parts 13 = .ok (.getfield 17, 3) := by decide +kernel
theorem d_MM_parts_16 : decode b_MM_parts 16 = .ok (.if_icmp .ge 72, 3) := by decide +kernel
theorem d_MM_parts_19 : decode b_MM_parts 19 = .ok (.aload_n 0, 1) := by decide +kernel
theorem d_MM_parts_20 : decode b_MM_parts 20 = .ok (.getfield 8, 3) := by decide +kernel
theorem d_MM_parts_23 : decode b_MM_parts 23 = .ok (.aload_n 0, 1) := by decide +kernel
theorem d_MM_parts_24 : decode b_MM_parts 24 = .ok (.getfield 33, 3) := by decide +kernel
theorem d_MM_parts_27 : decode b_MM_parts 27 = .ok (.baload, 1) := by decide +kernel
theorem d_MM_parts_28 : decode b_MM_parts 28 = .ok (.bipush 32, 2) := by decide +kernel
theorem d_MM_parts_30 : decode b_MM_parts 30 = .ok (.if_icmp .eq 45, 3) := by decide +kernel
theorem d_MM_parts_33 : decode b_MM_parts 33 = .ok (.aload_n 0, 1) := by decide +kernel
theorem d_MM_parts_34 : decode b_MM_parts 34 = .ok (.getfield 8, 3) := by decide +kernel
theorem d_MM_parts_37 : decode b_MM_parts 37 = .ok (.aload_n 0, 1) := by decide +kernel
theorem d_MM_parts_38 : decode b_MM_parts 38 = .ok (.getfield 33, 3) := by decide +kernel
theorem d_MM_parts_41 : decode b_MM_parts 41 = .ok (.baload, 1) := by decide +kernel
theorem d_MM_parts_42 : decode b_MM_parts 42 = .ok (.bipush 9, 2) := by decide +kernel
theorem d_MM_parts_44 : decode b_MM_parts 44 = .ok (.if_icmp .eq 31, 3) := by decide +kernel
theorem d_MM_parts_47 : decode b_MM_parts 47 = .ok (.aload_n 0, 1) := by decide +kernel
theorem d_MM_parts_48 : decode b_MM_parts 48 = .ok (.getfield 8, 3) := by decide +kernel
theorem d_MM_parts_51 : decode b_MM_parts 51 = .ok (.aload_n 0, 1) := by decide +kernel
theorem d_MM_parts_52 : decode b_MM_parts 52 = .ok (.getfield 33, 3) := by decide +kernel
theorem d_MM_parts_55 : decode b_MM_parts 55 = .ok (.baload, 1) := by decide +kernel
theorem d_MM_parts_56 : decode b_MM_parts 56 = .ok (.bipush 10, 2) := by decide +kernel
theorem d_MM_parts_58 : decode b_MM_parts 58 = .ok (.if_icmp .eq 17, 3) := by decide +kernel
theorem d_MM_parts_61 : decode b_MM_parts 61 = .ok (.aload_n 0, 1) := by decide +kernel
theorem d_MM_parts_62 : decode b_MM_parts 62 = .ok (.getfield 8, 3) := by decide +kernel
theorem d_MM_parts_65 : decode b_MM_parts 65 = .ok (.aload_n 0, 1) := by decide +kernel
theorem d_MM_parts_66 : decode b_MM_parts 66 = .ok (.getfield 33, 3) := by decide +kernel
theorem d_MM_parts_69 : decode b_MM_parts 69 = .ok (.baload, 1) := by decide +kernel
theorem d_MM_parts_70 : decode b_MM_parts 70 = .ok (.bipush 13, 2) := by decide +kernel
theorem d_MM_parts_72 : decode b_MM_parts 72 = .ok (.if_icmp .ne 16, 3) := by decide +kernel
theorem d_MM_parts_75 : decode b_MM_parts 75 = .ok (.aload_n 0, 1) := by decide +kernel
theorem d_MM_parts_76 : decode b_MM_parts 76 = .ok (.dup, 1) := by decide +kernel
theorem d_MM_parts_77 : decode b_MM_parts 77 = .ok (.getfield 33, 3) := by decide +kernel
theorem d_MM_parts_80 : decode b_MM_parts 80 = .ok (.iconst 1, 1) := by decide +kernel
theorem d_MM_parts_81 : decode b_MM_parts 81 = .ok (.iadd, 1) := by decide +kernel
theorem d_MM_parts_82 : decode b_MM_parts 82 = .ok (.putfield 33, 3) := by decide +kernel
theorem d_MM_parts_85 : decode b_MM_parts 85 = .ok (.goto (-77), 3) := by decide +kernel
theorem d_MM_parts_88 : decode b_MM_parts 88 = .ok (.aload_n 0, 1) := by decide +kernel
theorem d_MM_parts_89 : decode b_MM_parts 89 = .ok (.getfield 33, 3) := by decide +kernel
theorem d_MM_parts_92 : decode b_MM_parts 92 = .ok (.aload_n 0, 1) := by decide +kernel
theorem d_MM_parts_93 : decode b_MM_parts 93 = .ok (.getfield 17, 3) := by decide +kernel
theorem d_MM_parts_96 : decode b_MM_parts 96 = .ok (.if_icmp .ge (-94), 3) := by decide +kernel
theorem d_MM_parts_99 : decode b_MM_parts 99 = .ok (.aload_n 0, 1) := by decide +kernel
theorem d_MM_parts_100 : decode b_MM_parts 100 = .ok (.getfield 8, 3) := by decide +kernel
theorem d_MM_parts_103 : decode b_MM_parts 103 = .ok (.aload_n 0, 1) := by decide +kernel
theorem d_MM_parts_104 : decode b_MM_parts 104 = .ok (.getfield 33, 3) := by decide +kernel
theorem d_MM_parts_107 : decode b_MM_parts 107 = .ok (.baload, 1) := by decide +kernel
theorem d_MM_parts_108 : decode b_MM_parts 108 = .ok (.bipush 37, 2) := by decide +kernel
theorem d_MM_parts_110 : decode b_MM_parts 110 = .ok (.if_icmp .ne (-108), 3) := by decide +kernel
theorem d_MM_parts_113 : decode b_MM_parts 113 = .ok (.aload_n 0, 1) := by decide +kernel
theorem d_MM_parts_114 : decode b_MM_parts 114 = .ok (.getfield 33, 3) := by decide +kernel
theorem d_MM_parts_117 : decode b_MM_parts 117 = .ok (.aload_n 0, 1) := by decide +kernel
theorem d_MM_parts_118 : decode b_MM_parts 118 = .ok (.getfield 17, 3) := by decide +kernel
theorem d_MM_parts_121 : decode b_MM_parts 121 = .ok (.if_icmp .ge 30, 3) := by decide +kernel
theorem d_MM_parts_124 : decode b_MM_parts 124 = .ok (.aload_n 0, 1) := by decide +kernel
theorem d_MM_parts_125 : decode b_MM_parts 125 = .ok (.getfield 8, 3) := by decide +kernel
theorem d_MM_parts_128 : decode b_MM_parts 128 = .ok (.aload_n 0, 1) := by decide +kernel
theorem d_MM_parts_129 : decode b_MM_parts 129 = .ok (.getfield 33, 3) := by decide +kernel
theorem d_MM_parts_132 : decode b_MM_parts 132 = .ok (.baload, 1) := by decide +kernel
theorem d_MM_parts_133 : decode b_MM_parts 133 = .ok (.bipush 10, 2) := by decide +kernel
theorem d_MM_parts_135 : decode b_MM_parts 135 = .ok (.if_icmp .eq 16, 3) := by decide +kernel
theorem d_MM_parts_138 : decode b_MM_parts 138 = .ok (.aload_n 0, 1) := by decide +kernel
theorem d_MM_parts_139 : decode b_MM_parts 139 = .ok (.dup, 1) := by decide +kernel
theorem d_MM_parts_140 : decode b_MM_parts 140 = .ok (.getfield 33, 3) := by decide +kernel
theorem d_MM_parts_143 : decode b_MM_parts 143 = .ok (.iconst 1, 1) := by decide +kernel
theorem d_MM_parts_144 : decode b_MM_parts 144 = .ok (.iadd, 1) := by decide +kernel
theorem d_MM_parts_145 : decode b_MM_parts 145 = .ok (.putfield 33, 3) := by decide +kernel
theorem d_MM_parts_148 : decode b_MM_parts 148 = .ok (.goto (-35), 3) := by decide +kernel
theorem d_MM_parts_151 : decode b_MM_parts 151 = .ok (.iconst 1, 1) := by decide +kernel
theorem d_MM_parts_152 : decode b_MM_parts 152 = .ok (.istore_n 1, 1) := by decide +kernel
theorem d_MM_parts_153 : decode b_MM_parts 153 = .ok (.goto (-151), 3) := by decide +kernel
theorem d_MM_parts_156 : decode b_MM_parts 156 = .ok (.return_, 1) := by decide +kernel
theorem tc_CP_read : Cond.code y_CP_read b_CP_read 2 (some (.int)) ∈ lw_tbg := tb_in (i := 539) (by decide +kernel) rfl
theorem ml_Law_75 : ax_LV "ClauseProverLaw" 75 y_CP_read b_CP_read 2 (some (.int)) 0 := ax_LV.mk (tb_in (i := 536) (by decide +kernel) rfl) (tb_in (i := 537) (by decide +kernel) rfl) (tb_in (i := 538) (by decide +kernel) rfl) ti_CP tc_CP_read (by decide +kernel)
set_option maxHeartbeats 4000000 in
set_option maxRecDepth 100000 in
theorem m57_MM_parts (l : Launch) (D : va_G) (kA : Nat → ClassId) (a0 : Nat) (b0 : Nat) (b1 : Nat) (b2 : Nat) (b3 : Nat) (b4 : Nat) (b5 : Nat) (b6 : Nat) (b7 : Nat) (b8 : Nat) (b9 : Nat) (b10 : Nat) (b11 : Nat) (b12 : Nat) (b13 : Nat) (b14 : Nat) (b15 : Nat) (b16 : Nat) (b17 : Nat) (b18 : Nat) (b19 : Nat) (b20 : Nat) (b21 : Nat) (b22 : Nat) (b23 : Nat) (b24 : Nat) (b25 : Nat) (b26 : Nat) (b27 : Nat) (b28 : Nat) (b29 : Nat) (b30 : Nat) (b31 : Nat) (b32 : Nat) (b33 : Nat) (b34 : Nat) (b35 : Nat) (b36 : Nat) (b37 : Nat) (b38 : Nat) (b39 : Nat) (b40 : Nat) (b41 : Nat) (b42 : Nat) (b43 : Nat) (b44 : Nat) (b45 : Nat) (b46 : Nat) (b47 : Nat) (b48 : Nat) (b49 : Nat) (b50 : Nat) (b51 : Nat) (b52 : Nat) (b53 : Nat) (b54 : Nat) (b55 : Nat) (b56 : Nat) (b57 : Nat) (b58 : Nat) (b59 : Nat) (b60 : Nat) (b61 : Nat) (b62 : Nat) (b63 : Nat) (b64 : Nat) (b65 : Nat) (b66 : Nat) (b67 : Nat) (b68 : Nat) (b69 : Nat) (b70 : Nat) (b71 : Nat) (b72 : Nat) (b73 : Nat) (b74 : Nat) (b75 : Nat) : ax_Mv l D kA y_MM_parts b_MM_parts 2 0 0 0 0 [.ref a0] [(a0, .inr (12, [.ref b0, .ref b1, .int 0, .int 0, .int 0, .int 0, .int 0, .int 0, .int 0, .int 0, .int 0, .int 0, .int 0, .ref b2, .ref b3, .ref b4, .ref b5, .ref b6, .int 0, .int 1, .int 0, .ref b7, .ref b8, .ref b9, .ref b10, .int 0, .ref b11, .ref b12, .int 0, .int 0, .ref b13, .ref b14, .ref b15, .ref b16, .ref b17, .ref b18, .ref b19, .int 0, .int 0, .int 0, .int 0, .ref b20, .ref b21, .ref b22, .ref b23, .ref b24, .ref b25, .int 0, .ref b26, .ref b27, .ref b28, .ref b29, .ref b30, .ref b31, .ref b32, .int 0, .int 0, .ref b33, .ref b34, .ref b35, .ref b36, .ref b37, .int 0, .ref b38, .ref b39, .int 0, .ref b40, .ref b41, .ref b42, .ref b43, .ref b44, .ref b45, .int 0, .ref b46, .ref b47, .ref b48, .ref b49, .ref b50, .ref b51, .ref b52, .ref b53, .ref b54, .ref b55, .ref b56, .int 0, .int 0, .int 0, .int 0, .int (-1), .int 0, .int 0, .int 0, .int 0, .int 0, .int 0, .ref b57, .ref b58, .ref b59, .int 0, .ref b60, .ref b61, .int 0, .ref b62, .ref b63, .ref b64, .int 0, .ref b65, .ref b66, .ref b67, .ref b68, .ref b69, .ref b70, .int 0, .int (-1), .int 0, .ref b71, .int (-1), .int (-1), .int (-1), .ref b72, .int 0, .ref b73, .int 0, .ref b74, .int 0, .int 0, .ref b75]))] (fun w1 => w1 = [(a0, .inr (12, [.ref b0, .ref b1, .int 0, .int 0, .int 0, .int 0, .int 0, .int 0, .int 0, .int 0, .int 0, .int 0, .int 0, .ref b2, .ref b3, .ref b4, .ref b5, .ref b6, .int 0, .int 1, .int 0, .ref b7, .ref b8, .ref b9, .ref b10, .int 0, .ref b11, .ref b12, .int 0, .int 0, .ref b13, .ref b14, .ref b15, .ref b16, .ref b17, .ref b18, .ref b19, .int 0, .int 0, .int 0, .int 0, .ref b20, .ref b21, .ref b22, .ref b23, .ref b24, .ref b25, .int 0, .ref b26, .ref b27, .ref b28, .ref b29, .ref b30, .ref b31, .ref b32, .int 0, .int 0, .ref b33, .ref b34, .ref b35, .ref b36, .ref b37, .int 0, .ref b38, .ref b39, .int 0, .ref b40, .ref b41, .ref b42, .ref b43, .ref b44, .ref b45, .int 0, .ref b46, .ref b47, .ref b48, .ref b49, .ref b50, .ref b51, .ref b52, .ref b53, .ref b54, .ref b55, .ref b56, .int 0, .int 0, .int 0, .int 0, .int (-1), .int 0, .int 0, .int 0, .int 0, .int 0, .int 0, .ref b57, .ref b58, .ref b59, .int 0, .ref b60, .ref b61, .int 0, .ref b62, .ref b63, .ref b64, .int 0, .ref b65, .ref b66, .ref b67, .ref b68, .ref b69, .ref b70, .int 0, .int (-1), .int 0, .ref b71, .int (-1), .int (-1), .int (-1), .ref b72, .int 0, .ref b73, .int 0, .ref b74, .int 0, .int 0, .ref b75]))]) := by
  refine ax_Mv.of (by decide +kernel) (Nat.le_of_ble_eq_true rfl) ?_
  intro p e s m args below meth c C hnm
  refine ax_ls ([(0, .ref a0)]) [0] rfl ?_
  refine ax_iconst (pc := 0) C 1 d_MM_parts_0 (by decide +kernel) ?_
  refine ax_istore_n (pc := 1) C d_MM_parts_1 rfl (Nat.le_of_ble_eq_true rfl) ([(1, .int 1), (0, .ref a0)]) rfl ?_
  refine ax_iload_n (pc := 2) C d_MM_parts_2 rfl 0 rfl ?_
  refine ax_if_eq (pc := 3) C 156 d_MM_parts_3 (by decide) (fun h => absurd h (by decide)) (fun _ => ?_)
  refine ax_iconst (pc := 6) C 0 d_MM_parts_6 (by decide +kernel) ?_
  refine ax_istore_n (pc := 7) C d_MM_parts_7 rfl (Nat.le_of_ble_eq_true rfl) ([(1, .int 0), (0, .ref a0)]) rfl ?_
  refine ax_aload_n (pc := 8) C d_MM_parts_8 rfl 1 rfl ?_
  refine ax_get (pc := 9) C k_MM 7 lk_MM_33 d_MM_parts_9 (Nat.le_of_ble_eq_true rfl) 0 rfl rfl ?_
  refine ax_aload_n (pc := 12) C d_MM_parts_12 rfl 1 rfl ?_
  refine ax_get (pc := 13) C k_MM 2 lk_MM_17 d_MM_parts_13 (Nat.le_of_ble_eq_true rfl) 0 rfl rfl ?_
  refine ax_icmp_ge (pc := 16) C 88 d_MM_parts_16 (by decide) (fun _ => ?_) (fun h => absurd h (by decide))
  refine ax_aload_n (pc := 88) C d_MM_parts_88 rfl 1 rfl ?_
  refine ax_get (pc := 89) C k_MM 7 lk_MM_33 d_MM_parts_89 (Nat.le_of_ble_eq_true rfl) 0 rfl rfl ?_
  refine ax_aload_n (pc := 92) C d_MM_parts_92 rfl 1 rfl ?_
  refine ax_get (pc := 93) C k_MM 2 lk_MM_17 d_MM_parts_93 (Nat.le_of_ble_eq_true rfl) 0 rfl rfl ?_
  refine ax_icmp_ge (pc := 96) C 2 d_MM_parts_96 (by decide) (fun _ => ?_) (fun h => absurd h (by decide))
  refine ax_iload_n (pc := 2) C d_MM_parts_2 rfl 0 rfl ?_
  refine ax_if_eq (pc := 3) C 156 d_MM_parts_3 (by decide) (fun _ => ?_) (fun h => absurd h (by decide))
  exact ax_vret (pc := 156) C d_MM_parts_156 rfl (by decide) (by decide)
theorem tc_MM_parts : Cond.code y_MM_parts b_MM_parts 2 none ∈ lw_tbg := tb_in (i := 1936) (by decide +kernel) rfl
theorem ml_MM_409 : ax_LV "ClauseProverModel" 409 y_MM_parts b_MM_parts 2 none 0 := ax_LV.mk (tb_in (i := 1933) (by decide +kernel) rfl) (tb_in (i := 1935) (by decide +kernel) rfl) (pv_in (i := 93) (by decide +kernel) rfl) ti_MM tc_MM_parts (by decide +kernel)
set_option maxHeartbeats 4000000 in
set_option maxRecDepth 100000 in
theorem m56_MM_peek (l : Launch) (D : va_G) (kA : Nat → ClassId) (a0 : Nat) (b0 : Nat) (b1 : Nat) (b2 : Nat) (b3 : Nat) (b4 : Nat) (b5 : Nat) (b6 : Nat) (b7 : Nat) (b8 : Nat) (b9 : Nat) (b10 : Nat) (b11 : Nat) (b12 : Nat) (b13 : Nat) (b14 : Nat) (b15 : Nat) (b16 : Nat) (b17 : Nat) (b18 : Nat) (b19 : Nat) (b20 : Nat) (b21 : Nat) (b22 : Nat) (b23 : Nat) (b24 : Nat) (b25 : Nat) (b26 : Nat) (b27 : Nat) (b28 : Nat) (b29 : Nat) (b30 : Nat) (b31 : Nat) (b32 : Nat) (b33 : Nat) (b34 : Nat) (b35 : Nat) (b36 : Nat) (b37 : Nat) (b38 : Nat) (b39 : Nat) (b40 : Nat) (b41 : Nat) (b42 : Nat) (b43 : Nat) (b44 : Nat) (b45 : Nat) (b46 : Nat) (b47 : Nat) (b48 : Nat) (b49 : Nat) (b50 : Nat) (b51 : Nat) (b52 : Nat) (b53 : Nat) (b54 : Nat) (b55 : Nat) (b56 : Nat) (b57 : Nat) (b58 : Nat) (b59 : Nat) (b60 : Nat) (b61 : Nat) (b62 : Nat) (b63 : Nat) (b64 : Nat) (b65 : Nat) (b66 : Nat) (b67 : Nat) (b68 : Nat) (b69 : Nat) (b70 : Nat) (b71 : Nat) (b72 : Nat) (b73 : Nat) (b74 : Nat) (b75 : Nat) : ax_Mi l D kA y_MM_peek b_MM_peek 2 .int 1 21 0 0 [.ref a0] [(a0, .inr (12, [.ref b0, .ref b1, .int 0, .int 0, .int 0, .int 0, .int 0, .int 0, .int 0, .int 0, .int 0, .int 0, .int 0, .ref b2, .ref b3, .ref b4, .ref b5, .ref b6, .int 0, .int 1, .int 0, .ref b7, .ref b8, .ref b9, .ref b10, .int 0, .ref b11, .ref b12, .int 0, .int 0, .ref b13, .ref b14, .ref b15, .ref b16, .ref b17, .ref b18, .ref b19, .int 0, .int 0, .int 0, .int 0, .ref b20, .ref b21, .ref b22, .ref b23, .ref b24, .ref b25, .int 0, .ref b26, .ref b27, .ref b28, .ref b29, .ref b30, .ref b31, .ref b32, .int 0, .int 0, .ref b33, .ref b34, .ref b35, .ref b36, .ref b37, .int 0, .ref b38, .ref b39, .int 0, .ref b40, .ref b41, .ref b42, .ref b43, .ref b44, .ref b45, .int 0, .ref b46, .ref b47, .ref b48, .ref b49, .ref b50, .ref b51, .ref b52, .ref b53, .ref b54, .ref b55, .ref b56, .int 0, .int 0, .int 0, .int 0, .int (-1), .int 0, .int 0, .int 0, .int 0, .int 0, .int 0, .ref b57, .ref b58, .ref b59, .int 0, .ref b60, .ref b61, .int 0, .ref b62, .ref b63, .ref b64, .int 0, .ref b65, .ref b66, .ref b67, .ref b68, .ref b69, .ref b70, .int 0, .int (-1), .int 0, .ref b71, .int (-1), .int (-1), .int (-1), .ref b72, .int 0, .ref b73, .int 0, .ref b74, .int 0, .int 0, .ref b75]))] (fun r w1 => r = 0 ∧ w1 = [(a0, .inr (12, [.ref b0, .ref b1, .int 0, .int 0, .int 0, .int 0, .int 0, .int 0, .int 0, .int 0, .int 0, .int 1, .int 0, .ref b2, .ref b3, .ref b4, .ref b5, .ref b6, .int 0, .int 1, .int 0, .ref b7, .ref b8, .ref b9, .ref b10, .int 0, .ref b11, .ref b12, .int 0, .int 0, .ref b13, .ref b14, .ref b15, .ref b16, .ref b17, .ref b18, .ref b19, .int 0, .int 0, .int 0, .int 0, .ref b20, .ref b21, .ref b22, .ref b23, .ref b24, .ref b25, .int 0, .ref b26, .ref b27, .ref b28, .ref b29, .ref b30, .ref b31, .ref b32, .int 0, .int 0, .ref b33, .ref b34, .ref b35, .ref b36, .ref b37, .int 0, .ref b38, .ref b39, .int 0, .ref b40, .ref b41, .ref b42, .ref b43, .ref b44, .ref b45, .int 0, .ref b46, .ref b47, .ref b48, .ref b49, .ref b50, .ref b51, .ref b52, .ref b53, .ref b54, .ref b55, .ref b56, .int 0, .int 0, .int 0, .int 0, .int (-1), .int 0, .int 0, .int 0, .int 0, .int 0, .int 0, .ref b57, .ref b58, .ref b59, .int 0, .ref b60, .ref b61, .int 0, .ref b62, .ref b63, .ref b64, .int 0, .ref b65, .ref b66, .ref b67, .ref b68, .ref b69, .ref b70, .int 0, .int (-1), .int 0, .ref b71, .int (-1), .int (-1), .int (-1), .ref b72, .int 0, .ref b73, .int 0, .ref b74, .int 0, .int 0, .ref b75]))]) := by
  refine ax_Mi.of (by decide +kernel) (Nat.le_of_ble_eq_true rfl) ?_
  intro p e s m args below meth c C hnm
  refine ax_ls ([(0, .ref a0)]) [0] rfl ?_
  refine ax_aload_n (pc := 0) C d_MM_peek_0 rfl 0 rfl ?_
  refine ax_get (pc := 1) C k_MM 11 lk_MM_45 d_MM_peek_1 (Nat.le_of_ble_eq_true rfl) 0 rfl rfl ?_
  refine ax_if_eq (pc := 4) C 12 d_MM_peek_4 (by decide) (fun _ => ?_) (fun h => absurd h (by decide))
  refine ax_aload_n (pc := 12) C d_MM_peek_12 rfl 0 rfl ?_
  refine ax_callVv (pc := 13) C (As := []) (rest := []) (wr := []) (m57_MM_parts l D kA a0 b0 b1 b2 b3 b4 b5 b6 b7 b8 b9 b10 b11 b12 b13 b14 b15 b16 b17 b18 b19 b20 b21 b22 b23 b24 b25 b26 b27 b28 b29 b30 b31 b32 b33 b34 b35 b36 b37 b38 b39 b40 b41 b42 b43 b44 b45 b46 b47 b48 b49 b50 b51 b52 b53 b54 b55 b56 b57 b58 b59 b60 b61 b62 b63 b64 b65 b66 b67 b68 b69 b70 b71 b72 b73 b74 b75) ml_MM_409 0 rfl rfl rfl d_MM_peek_13 rfl rfl [0] [] rfl (by decide) rfl (by decide) (by decide) (Nat.le_of_ble_eq_true rfl) (Nat.le_of_ble_eq_true rfl) (Nat.le_of_ble_eq_true rfl) (Nat.le_of_ble_eq_true rfl) (Nat.le_of_ble_eq_true rfl) (fun w1 hw1 => ?_)
  obtain rfl := hw1
  refine ax_w ([(a0, .inr (12, [.ref b0, .ref b1, .int 0, .int 0, .int 0, .int 0, .int 0, .int 0, .int 0, .int 0, .int 0, .int 0, .int 0, .ref b2, .ref b3, .ref b4, .ref b5, .ref b6, .int 0, .int 1, .int 0, .ref b7, .ref b8, .ref b9, .ref b10, .int 0, .ref b11, .ref b12, .int 0, .int 0, .ref b13, .ref b14, .ref b15, .ref b16, .ref b17, .ref b18, .ref b19, .int 0, .int 0, .int 0, .int 0, .ref b20, .ref b21, .ref b22, .ref b23, .ref b24, .ref b25, .int 0, .ref b26, .ref b27, .ref b28, .ref b29, .ref b30, .ref b31, .ref b32, .int 0, .int 0, .ref b33, .ref b34, .ref b35, .ref b36, .ref b37, .int 0, .ref b38, .ref b39, .int 0, .ref b40, .ref b41, .ref b42, .ref b43, .ref b44, .ref b45, .int 0, .ref b46, .ref b47, .ref b48, .ref b49, .ref b50, .ref b51, .ref b52, .ref b53, .ref b54, .ref b55, .ref b56, .int 0, .int 0, .int 0, .int 0, .int (-1), .int 0, .int 0, .int 0, .int 0, .int 0, .int 0, .ref b57, .ref b58, .ref b59, .int 0, .ref b60, .ref b61, .int 0, .ref b62, .ref b63, .ref b64, .int 0, .ref b65, .ref b66, .ref b67, .ref b68, .ref b69, .ref b70, .int 0, .int (-1), .int 0, .ref b71, .int (-1), .int (-1), .int (-1), .ref b72, .int 0, .ref b73, .int 0, .ref b74, .int 0, .int 0, .ref b75]))]) rfl ?_
  refine ax_aload_n (pc := 16) C d_MM_peek_16 rfl 0 rfl ?_
  refine ax_iconst (pc := 17) C 1 d_MM_peek_17 (by decide +kernel) ?_
  refine ax_put (pc := 18) C k_MM 11 lk_MM_45 d_MM_peek_18 (Nat.le_of_ble_eq_true rfl) 0 rfl rfl rfl rfl (Nat.le_of_ble_eq_true rfl) ?_
  refine ax_w ([(a0, .inr (12, [.ref b0, .ref b1, .int 0, .int 0, .int 0, .int 0, .int 0, .int 0, .int 0, .int 0, .int 0, .int 1, .int 0, .ref b2, .ref b3, .ref b4, .ref b5, .ref b6, .int 0, .int 1, .int 0, .ref b7, .ref b8, .ref b9, .ref b10, .int 0, .ref b11, .ref b12, .int 0, .int 0, .ref b13, .ref b14, .ref b15, .ref b16, .ref b17, .ref b18, .ref b19, .int 0, .int 0, .int 0, .int 0, .ref b20, .ref b21, .ref b22, .ref b23, .ref b24, .ref b25, .int 0, .ref b26, .ref b27, .ref b28, .ref b29, .ref b30, .ref b31, .ref b32, .int 0, .int 0, .ref b33, .ref b34, .ref b35, .ref b36, .ref b37, .int 0, .ref b38, .ref b39, .int 0, .ref b40, .ref b41, .ref b42, .ref b43, .ref b44, .ref b45, .int 0, .ref b46, .ref b47, .ref b48, .ref b49, .ref b50, .ref b51, .ref b52, .ref b53, .ref b54, .ref b55, .ref b56, .int 0, .int 0, .int 0, .int 0, .int (-1), .int 0, .int 0, .int 0, .int 0, .int 0, .int 0, .ref b57, .ref b58, .ref b59, .int 0, .ref b60, .ref b61, .int 0, .ref b62, .ref b63, .ref b64, .int 0, .ref b65, .ref b66, .ref b67, .ref b68, .ref b69, .ref b70, .int 0, .int (-1), .int 0, .ref b71, .int (-1), .int (-1), .int (-1), .ref b72, .int 0, .ref b73, .int 0, .ref b74, .int 0, .int 0, .ref b75]))]) rfl ?_
  refine ax_aload_n (pc := 21) C d_MM_peek_21 rfl 0 rfl ?_
  refine ax_aload_n (pc := 22) C d_MM_peek_22 rfl 0 rfl ?_
  refine ax_get (pc := 23) C k_MM 7 lk_MM_33 d_MM_peek_23 (Nat.le_of_ble_eq_true rfl) 0 rfl rfl ?_
  refine ax_put (pc := 26) C k_MM 9 lk_MM_39 d_MM_peek_26 (Nat.le_of_ble_eq_true rfl) 0 rfl rfl rfl rfl (Nat.le_of_ble_eq_true rfl) ?_
  refine ax_w ([(a0, .inr (12, [.ref b0, .ref b1, .int 0, .int 0, .int 0, .int 0, .int 0, .int 0, .int 0, .int 0, .int 0, .int 1, .int 0, .ref b2, .ref b3, .ref b4, .ref b5, .ref b6, .int 0, .int 1, .int 0, .ref b7, .ref b8, .ref b9, .ref b10, .int 0, .ref b11, .ref b12, .int 0, .int 0, .ref b13, .ref b14, .ref b15, .ref b16, .ref b17, .ref b18, .ref b19, .int 0, .int 0, .int 0, .int 0, .ref b20, .ref b21, .ref b22, .ref b23, .ref b24, .ref b25, .int 0, .ref b26, .ref b27, .ref b28, .ref b29, .ref b30, .ref b31, .ref b32, .int 0, .int 0, .ref b33, .ref b34, .ref b35, .ref b36, .ref b37, .int 0, .ref b38, .ref b39, .int 0, .ref b40, .ref b41, .ref b42, .ref b43, .ref b44, .ref b45, .int 0, .ref b46, .ref b47, .ref b48, .ref b49, .ref b50, .ref b51, .ref b52, .ref b53, .ref b54, .ref b55, .ref b56, .int 0, .int 0, .int 0, .int 0, .int (-1), .int 0, .int 0, .int 0, .int 0, .int 0, .int 0, .ref b57, .ref b58, .ref b59, .int 0, .ref b60, .ref b61, .int 0, .ref b62, .ref b63, .ref b64, .int 0, .ref b65, .ref b66, .ref b67, .ref b68, .ref b69, .ref b70, .int 0, .int (-1), .int 0, .ref b71, .int (-1), .int (-1), .int (-1), .ref b72, .int 0, .ref b73, .int 0, .ref b74, .int 0, .int 0, .ref b75]))]) rfl ?_
  refine ax_aload_n (pc := 29) C d_MM_peek_29 rfl 0 rfl ?_
  refine ax_aload_n (pc := 30) C d_MM_peek_30 rfl 0 rfl ?_
  refine ax_get (pc := 31) C k_MM 7 lk_MM_33 d_MM_peek_31 (Nat.le_of_ble_eq_true rfl) 0 rfl rfl ?_
  refine ax_put (pc := 34) C k_MM 10 lk_MM_42 d_MM_peek_34 (Nat.le_of_ble_eq_true rfl) 0 rfl rfl rfl rfl (Nat.le_of_ble_eq_true rfl) ?_
  refine ax_w ([(a0, .inr (12, [.ref b0, .ref b1, .int 0, .int 0, .int 0, .int 0, .int 0, .int 0, .int 0, .int 0, .int 0, .int 1, .int 0, .ref b2, .ref b3, .ref b4, .ref b5, .ref b6, .int 0, .int 1, .int 0, .ref b7, .ref b8, .ref b9, .ref b10, .int 0, .ref b11, .ref b12, .int 0, .int 0, .ref b13, .ref b14, .ref b15, .ref b16, .ref b17, .ref b18, .ref b19, .int 0, .int 0, .int 0, .int 0, .ref b20, .ref b21, .ref b22, .ref b23, .ref b24, .ref b25, .int 0, .ref b26, .ref b27, .ref b28, .ref b29, .ref b30, .ref b31, .ref b32, .int 0, .int 0, .ref b33, .ref b34, .ref b35, .ref b36, .ref b37, .int 0, .ref b38, .ref b39, .int 0, .ref b40, .ref b41, .ref b42, .ref b43, .ref b44, .ref b45, .int 0, .ref b46, .ref b47, .ref b48, .ref b49, .ref b50, .ref b51, .ref b52, .ref b53, .ref b54, .ref b55, .ref b56, .int 0, .int 0, .int 0, .int 0, .int (-1), .int 0, .int 0, .int 0, .int 0, .int 0, .int 0, .ref b57, .ref b58, .ref b59, .int 0, .ref b60, .ref b61, .int 0, .ref b62, .ref b63, .ref b64, .int 0, .ref b65, .ref b66, .ref b67, .ref b68, .ref b69, .ref b70, .int 0, .int (-1), .int 0, .ref b71, .int (-1), .int (-1), .int (-1), .ref b72, .int 0, .ref b73, .int 0, .ref b74, .int 0, .int 0, .ref b75]))]) rfl ?_
  refine ax_aload_n (pc := 37) C d_MM_peek_37 rfl 0 rfl ?_
  refine ax_get (pc := 38) C k_MM 7 lk_MM_33 d_MM_peek_38 (Nat.le_of_ble_eq_true rfl) 0 rfl rfl ?_
  refine ax_aload_n (pc := 41) C d_MM_peek_41 rfl 0 rfl ?_
  refine ax_get (pc := 42) C k_MM 2 lk_MM_17 d_MM_peek_42 (Nat.le_of_ble_eq_true rfl) 0 rfl rfl ?_
  refine ax_icmp_ne (pc := 45) C 55 d_MM_peek_45 (by decide) (fun h => absurd h (by decide)) (fun _ => ?_)
  refine ax_aload_n (pc := 48) C d_MM_peek_48 rfl 0 rfl ?_
  refine ax_iconst (pc := 49) C 0 d_MM_peek_49 (by decide +kernel) ?_
  refine ax_put (pc := 50) C k_MM 8 lk_MM_36 d_MM_peek_50 (Nat.le_of_ble_eq_true rfl) 0 rfl rfl rfl rfl (Nat.le_of_ble_eq_true rfl) ?_
  refine ax_w ([(a0, .inr (12, [.ref b0, .ref b1, .int 0, .int 0, .int 0, .int 0, .int 0, .int 0, .int 0, .int 0, .int 0, .int 1, .int 0, .ref b2, .ref b3, .ref b4, .ref b5, .ref b6, .int 0, .int 1, .int 0, .ref b7, .ref b8, .ref b9, .ref b10, .int 0, .ref b11, .ref b12, .int 0, .int 0, .ref b13, .ref b14, .ref b15, .ref b16, .ref b17, .ref b18, .ref b19, .int 0, .int 0, .int 0, .int 0, .ref b20, .ref b21, .ref b22, .ref b23, .ref b24, .ref b25, .int 0, .ref b26, .ref b27, .ref b28, .ref b29, .ref b30, .ref b31, .ref b32, .int 0, .int 0, .ref b33, .ref b34, .ref b35, .ref b36, .ref b37, .int 0, .ref b38, .ref b39, .int 0, .ref b40, .ref b41, .ref b42, .ref b43, .ref b44, .ref b45, .int 0, .ref b46, .ref b47, .ref b48, .ref b49, .ref b50, .ref b51, .ref b52, .ref b53, .ref b54, .ref b55, .ref b56, .int 0, .int 0, .int 0, .int 0, .int (-1), .int 0, .int 0, .int 0, .int 0, .int 0, .int 0, .ref b57, .ref b58, .ref b59, .int 0, .ref b60, .ref b61, .int 0, .ref b62, .ref b63, .ref b64, .int 0, .ref b65, .ref b66, .ref b67, .ref b68, .ref b69, .ref b70, .int 0, .int (-1), .int 0, .ref b71, .int (-1), .int (-1), .int (-1), .ref b72, .int 0, .ref b73, .int 0, .ref b74, .int 0, .int 0, .ref b75]))]) rfl ?_
  refine ax_iconst (pc := 53) C 0 d_MM_peek_53 (by decide +kernel) ?_
  exact ax_iret (pc := 54) C d_MM_peek_54 ⟨rfl, rfl⟩ (by decide) (by decide)
theorem tc_MM_peek : Cond.code y_MM_peek b_MM_peek 2 (some (.int)) ∈ lw_tbg := tb_in (i := 1932) (by decide +kernel) rfl
theorem ml_MM_422 : ax_LV "ClauseProverModel" 422 y_MM_peek b_MM_peek 2 (some (.int)) 0 := ax_LV.mk (tb_in (i := 1929) (by decide +kernel) rfl) (tb_in (i := 1931) (by decide +kernel) rfl) (pv_in (i := 92) (by decide +kernel) rfl) ti_MM tc_MM_peek (by decide +kernel)
set_option maxHeartbeats 4000000 in
set_option maxRecDepth 100000 in
theorem m55_MM_parse (l : Launch) (D : va_G) (kA : Nat → ClassId) (a0 : Nat) (b0 : Nat) (b1 : Nat) (b2 : Nat) (b3 : Nat) (b4 : Nat) (b5 : Nat) (b6 : Nat) (b7 : Nat) (b8 : Nat) (b9 : Nat) (b10 : Nat) (b11 : Nat) (b12 : Nat) (b13 : Nat) (b14 : Nat) (b15 : Nat) (b16 : Nat) (b17 : Nat) (b18 : Nat) (b19 : Nat) (b20 : Nat) (b21 : Nat) (b22 : Nat) (b23 : Nat) (b24 : Nat) (b25 : Nat) (b26 : Nat) (b27 : Nat) (b28 : Nat) (b29 : Nat) (b30 : Nat) (b31 : Nat) (b32 : Nat) (b33 : Nat) (b34 : Nat) (b35 : Nat) (b36 : Nat) (b37 : Nat) (b38 : Nat) (b39 : Nat) (b40 : Nat) (b41 : Nat) (b42 : Nat) (b43 : Nat) (b44 : Nat) (b45 : Nat) (b46 : Nat) (b47 : Nat) (b48 : Nat) (b49 : Nat) (b50 : Nat) (b51 : Nat) (b52 : Nat) (b53 : Nat) (b54 : Nat) (b55 : Nat) (b56 : Nat) (b57 : Nat) (b58 : Nat) (b59 : Nat) (b60 : Nat) (b61 : Nat) (b62 : Nat) (b63 : Nat) (b64 : Nat) (b65 : Nat) (b66 : Nat) (b67 : Nat) (b68 : Nat) (b69 : Nat) (b70 : Nat) (b71 : Nat) (b72 : Nat) (b73 : Nat) (b74 : Nat) (b75 : Nat) : ax_Mv l D kA y_MM_parse b_MM_parse 3 2 42 0 0 [.ref a0] [(a0, .inr (12, [.ref b0, .ref b1, .int 0, .int 0, .int 0, .int 0, .int 0, .int 0, .int 0, .int 0, .int 0, .int 0, .int 0, .ref b2, .ref b3, .ref b4, .ref b5, .ref b6, .int 0, .int 1, .int 0, .ref b7, .ref b8, .ref b9, .ref b10, .int 0, .ref b11, .ref b12, .int 0, .int 0, .ref b13, .ref b14, .ref b15, .ref b16, .ref b17, .ref b18, .ref b19, .int 0, .int 0, .int 0, .int 0, .ref b20, .ref b21, .ref b22, .ref b23, .ref b24, .ref b25, .int 0, .ref b26, .ref b27, .ref b28, .ref b29, .ref b30, .ref b31, .ref b32, .int 0, .int 0, .ref b33, .ref b34, .ref b35, .ref b36, .ref b37, .int 0, .ref b38, .ref b39, .int 0, .ref b40, .ref b41, .ref b42, .ref b43, .ref b44, .ref b45, .int 0, .ref b46, .ref b47, .ref b48, .ref b49, .ref b50, .ref b51, .ref b52, .ref b53, .ref b54, .ref b55, .ref b56, .int 0, .int 0, .int 0, .int 0, .int (-1), .int 0, .int 0, .int 0, .int 0, .int 0, .int 0, .ref b57, .ref b58, .ref b59, .int 0, .ref b60, .ref b61, .int 0, .ref b62, .ref b63, .ref b64, .int 0, .ref b65, .ref b66, .ref b67, .ref b68, .ref b69, .ref b70, .int 0, .int (-1), .int 0, .ref b71, .int (-1), .int (-1), .int (-1), .ref b72, .int 0, .ref b73, .int 0, .ref b74, .int 0, .int 0, .ref b75]))] (fun w1 => w1 = [(a0, .inr (12, [.ref b0, .ref b1, .int 0, .int 0, .int 0, .int 0, .int 0, .int 0, .int 0, .int 0, .int 0, .int 1, .int 0, .ref b2, .ref b3, .ref b4, .ref b5, .ref b6, .int 0, .int 1, .int 0, .ref b7, .ref b8, .ref b9, .ref b10, .int 0, .ref b11, .ref b12, .int 0, .int 0, .ref b13, .ref b14, .ref b15, .ref b16, .ref b17, .ref b18, .ref b19, .int 0, .int 0, .int 0, .int 0, .ref b20, .ref b21, .ref b22, .ref b23, .ref b24, .ref b25, .int 0, .ref b26, .ref b27, .ref b28, .ref b29, .ref b30, .ref b31, .ref b32, .int 0, .int 0, .ref b33, .ref b34, .ref b35, .ref b36, .ref b37, .int 0, .ref b38, .ref b39, .int 0, .ref b40, .ref b41, .ref b42, .ref b43, .ref b44, .ref b45, .int 0, .ref b46, .ref b47, .ref b48, .ref b49, .ref b50, .ref b51, .ref b52, .ref b53, .ref b54, .ref b55, .ref b56, .int 0, .int 0, .int 0, .int 0, .int (-1), .int 0, .int 0, .int 0, .int 0, .int 0, .int 0, .ref b57, .ref b58, .ref b59, .int 0, .ref b60, .ref b61, .int 0, .ref b62, .ref b63, .ref b64, .int 0, .ref b65, .ref b66, .ref b67, .ref b68, .ref b69, .ref b70, .int 0, .int (-1), .int 0, .ref b71, .int (-1), .int (-1), .int (-1), .ref b72, .int 0, .ref b73, .int 0, .ref b74, .int 0, .int 0, .ref b75]))]) := by
  refine ax_Mv.of (by decide +kernel) (Nat.le_of_ble_eq_true rfl) ?_
  intro p e s m args below meth c C hnm
  refine ax_ls ([(0, .ref a0)]) [0] rfl ?_
  refine ax_aload_n (pc := 0) C d_MM_parse_0 rfl 0 rfl ?_
  refine ax_iconst (pc := 1) C 0 d_MM_parse_1 (by decide +kernel) ?_
  refine ax_put (pc := 2) C k_MM 7 lk_MM_33 d_MM_parse_2 (Nat.le_of_ble_eq_true rfl) 0 rfl rfl rfl rfl (Nat.le_of_ble_eq_true rfl) ?_
  refine ax_w ([(a0, .inr (12, [.ref b0, .ref b1, .int 0, .int 0, .int 0, .int 0, .int 0, .int 0, .int 0, .int 0, .int 0, .int 0, .int 0, .ref b2, .ref b3, .ref b4, .ref b5, .ref b6, .int 0, .int 1, .int 0, .ref b7, .ref b8, .ref b9, .ref b10, .int 0, .ref b11, .ref b12, .int 0, .int 0, .ref b13, .ref b14, .ref b15, .ref b16, .ref b17, .ref b18, .ref b19, .int 0, .int 0, .int 0, .int 0, .ref b20, .ref b21, .ref b22, .ref b23, .ref b24, .ref b25, .int 0, .ref b26, .ref b27, .ref b28, .ref b29, .ref b30, .ref b31, .ref b32, .int 0, .int 0, .ref b33, .ref b34, .ref b35, .ref b36, .ref b37, .int 0, .ref b38, .ref b39, .int 0, .ref b40, .ref b41, .ref b42, .ref b43, .ref b44, .ref b45, .int 0, .ref b46, .ref b47, .ref b48, .ref b49, .ref b50, .ref b51, .ref b52, .ref b53, .ref b54, .ref b55, .ref b56, .int 0, .int 0, .int 0, .int 0, .int (-1), .int 0, .int 0, .int 0, .int 0, .int 0, .int 0, .ref b57, .ref b58, .ref b59, .int 0, .ref b60, .ref b61, .int 0, .ref b62, .ref b63, .ref b64, .int 0, .ref b65, .ref b66, .ref b67, .ref b68, .ref b69, .ref b70, .int 0, .int (-1), .int 0, .ref b71, .int (-1), .int (-1), .int (-1), .ref b72, .int 0, .ref b73, .int 0, .ref b74, .int 0, .int 0, .ref b75]))]) rfl ?_
  refine ax_aload_n (pc := 5) C d_MM_parse_5 rfl 0 rfl ?_
  refine ax_iconst (pc := 6) C 0 d_MM_parse_6 (by decide +kernel) ?_
  refine ax_put (pc := 7) C k_MM 12 lk_MM_49 d_MM_parse_7 (Nat.le_of_ble_eq_true rfl) 0 rfl rfl rfl rfl (Nat.le_of_ble_eq_true rfl) ?_
  refine ax_w ([(a0, .inr (12, [.ref b0, .ref b1, .int 0, .int 0, .int 0, .int 0, .int 0, .int 0, .int 0, .int 0, .int 0, .int 0, .int 0, .ref b2, .ref b3, .ref b4, .ref b5, .ref b6, .int 0, .int 1, .int 0, .ref b7, .ref b8, .ref b9, .ref b10, .int 0, .ref b11, .ref b12, .int 0, .int 0, .ref b13, .ref b14, .ref b15, .ref b16, .ref b17, .ref b18, .ref b19, .int 0, .int 0, .int 0, .int 0, .ref b20, .ref b21, .ref b22, .ref b23, .ref b24, .ref b25, .int 0, .ref b26, .ref b27, .ref b28, .ref b29, .ref b30, .ref b31, .ref b32, .int 0, .int 0, .ref b33, .ref b34, .ref b35, .ref b36, .ref b37, .int 0, .ref b38, .ref b39, .int 0, .ref b40, .ref b41, .ref b42, .ref b43, .ref b44, .ref b45, .int 0, .ref b46, .ref b47, .ref b48, .ref b49, .ref b50, .ref b51, .ref b52, .ref b53, .ref b54, .ref b55, .ref b56, .int 0, .int 0, .int 0, .int 0, .int (-1), .int 0, .int 0, .int 0, .int 0, .int 0, .int 0, .ref b57, .ref b58, .ref b59, .int 0, .ref b60, .ref b61, .int 0, .ref b62, .ref b63, .ref b64, .int 0, .ref b65, .ref b66, .ref b67, .ref b68, .ref b69, .ref b70, .int 0, .int (-1), .int 0, .ref b71, .int (-1), .int (-1), .int (-1), .ref b72, .int 0, .ref b73, .int 0, .ref b74, .int 0, .int 0, .ref b75]))]) rfl ?_
  refine ax_aload_n (pc := 10) C d_MM_parse_10 rfl 0 rfl ?_
  refine ax_iconst (pc := 11) C 0 d_MM_parse_11 (by decide +kernel) ?_
  refine ax_put (pc := 12) C k_MM 11 lk_MM_45 d_MM_parse_12 (Nat.le_of_ble_eq_true rfl) 0 rfl rfl rfl rfl (Nat.le_of_ble_eq_true rfl) ?_
  refine ax_w ([(a0, .inr (12, [.ref b0, .ref b1, .int 0, .int 0, .int 0, .int 0, .int 0, .int 0, .int 0, .int 0, .int 0, .int 0, .int 0, .ref b2, .ref b3, .ref b4, .ref b5, .ref b6, .int 0, .int 1, .int 0, .ref b7, .ref b8, .ref b9, .ref b10, .int 0, .ref b11, .ref b12, .int 0, .int 0, .ref b13, .ref b14, .ref b15, .ref b16, .ref b17, .ref b18, .ref b19, .int 0, .int 0, .int 0, .int 0, .ref b20, .ref b21, .ref b22, .ref b23, .ref b24, .ref b25, .int 0, .ref b26, .ref b27, .ref b28, .ref b29, .ref b30, .ref b31, .ref b32, .int 0, .int 0, .ref b33, .ref b34, .ref b35, .ref b36, .ref b37, .int 0, .ref b38, .ref b39, .int 0, .ref b40, .ref b41, .ref b42, .ref b43, .ref b44, .ref b45, .int 0, .ref b46, .ref b47, .ref b48, .ref b49, .ref b50, .ref b51, .ref b52, .ref b53, .ref b54, .ref b55, .ref b56, .int 0, .int 0, .int 0, .int 0, .int (-1), .int 0, .int 0, .int 0, .int 0, .int 0, .int 0, .ref b57, .ref b58, .ref b59, .int 0, .ref b60, .ref b61, .int 0, .ref b62, .ref b63, .ref b64, .int 0, .ref b65, .ref b66, .ref b67, .ref b68, .ref b69, .ref b70, .int 0, .int (-1), .int 0, .ref b71, .int (-1), .int (-1), .int (-1), .ref b72, .int 0, .ref b73, .int 0, .ref b74, .int 0, .int 0, .ref b75]))]) rfl ?_
  refine ax_aload_n (pc := 15) C d_MM_parse_15 rfl 0 rfl ?_
  refine ax_callVi (pc := 16) C (As := []) (rest := []) (wr := []) (m56_MM_peek l D kA a0 b0 b1 b2 b3 b4 b5 b6 b7 b8 b9 b10 b11 b12 b13 b14 b15 b16 b17 b18 b19 b20 b21 b22 b23 b24 b25 b26 b27 b28 b29 b30 b31 b32 b33 b34 b35 b36 b37 b38 b39 b40 b41 b42 b43 b44 b45 b46 b47 b48 b49 b50 b51 b52 b53 b54 b55 b56 b57 b58 b59 b60 b61 b62 b63 b64 b65 b66 b67 b68 b69 b70 b71 b72 b73 b74 b75) ml_MM_422 0 rfl rfl rfl d_MM_parse_16 rfl rfl [0] [] rfl (by decide) rfl (by decide) (by decide) (Nat.le_of_ble_eq_true rfl) (Nat.le_of_ble_eq_true rfl) (Nat.le_of_ble_eq_true rfl) (Nat.le_of_ble_eq_true rfl) (Nat.le_of_ble_eq_true rfl) (fun r16 w1 hw1 => ?_)
  obtain ⟨rfl, rfl⟩ := hw1
  refine ax_w ([(a0, .inr (12, [.ref b0, .ref b1, .int 0, .int 0, .int 0, .int 0, .int 0, .int 0, .int 0, .int 0, .int 0, .int 1, .int 0, .ref b2, .ref b3, .ref b4, .ref b5, .ref b6, .int 0, .int 1, .int 0, .ref b7, .ref b8, .ref b9, .ref b10, .int 0, .ref b11, .ref b12, .int 0, .int 0, .ref b13, .ref b14, .ref b15, .ref b16, .ref b17, .ref b18, .ref b19, .int 0, .int 0, .int 0, .int 0, .ref b20, .ref b21, .ref b22, .ref b23, .ref b24, .ref b25, .int 0, .ref b26, .ref b27, .ref b28, .ref b29, .ref b30, .ref b31, .ref b32, .int 0, .int 0, .ref b33, .ref b34, .ref b35, .ref b36, .ref b37, .int 0, .ref b38, .ref b39, .int 0, .ref b40, .ref b41, .ref b42, .ref b43, .ref b44, .ref b45, .int 0, .ref b46, .ref b47, .ref b48, .ref b49, .ref b50, .ref b51, .ref b52, .ref b53, .ref b54, .ref b55, .ref b56, .int 0, .int 0, .int 0, .int 0, .int (-1), .int 0, .int 0, .int 0, .int 0, .int 0, .int 0, .ref b57, .ref b58, .ref b59, .int 0, .ref b60, .ref b61, .int 0, .ref b62, .ref b63, .ref b64, .int 0, .ref b65, .ref b66, .ref b67, .ref b68, .ref b69, .ref b70, .int 0, .int (-1), .int 0, .ref b71, .int (-1), .int (-1), .int (-1), .ref b72, .int 0, .ref b73, .int 0, .ref b74, .int 0, .int 0, .ref b75]))]) rfl ?_
  refine ax_if_eq (pc := 19) C 260 d_MM_parse_19 (by decide) (fun _ => ?_) (fun h => absurd h (by decide))
  exact ax_vret (pc := 260) C d_MM_parse_260 rfl (by decide) (by decide)
abbrev b_MM_clausify : ByteArray := prog_14_method_107_code
def y_MM_clausify : MethodName := ⟨"ClauseProverModel", "clausify", "()V"⟩
theorem d_MM_clausify_0 : decode b_MM_clausify 0 = .ok (.iconst 0, 1) := by decide +kernel
theorem d_MM_clausify_1 : decode b_MM_clausify 1 = .ok (.istore_n 1, 1) := by decide +kernel
theorem d_MM_clausify_2 : decode b_MM_clausify 2 = .ok (.iload_n 1, 1) := by decide +kernel
theorem d_MM_clausify_3 : decode b_MM_clausify 3 = .ok (.aload_n 0, 1) := by decide +kernel
theorem d_MM_clausify_4 : decode b_MM_clausify 4 = .ok (.getfield 181, 3) := by decide +kernel
theorem d_MM_clausify_7 : decode b_MM_clausify 7 = .ok (.if_icmp .ge 26, 3) := by decide +kernel
theorem d_MM_clausify_10 : decode b_MM_clausify 10 = .ok (.aload_n 0, 1) := by decide +kernel
theorem d_MM_clausify_11 : decode b_MM_clausify 11 = .ok (.getfield 114, 3) := by decide +kernel
theorem d_MM_clausify_14 : decode b_MM_clausify 14 = .ok (.aload_n 0, 1) := by decide +kernel
theorem d_MM_clausify_15 : decode b_MM_clausify 15 = .ok (.getfield 169, 3) := by decide +kernel
theorem d_MM_clausify_18 : decode b_MM_clausify 18 = .ok (.iload_n 1, 1) := by decide +kernel
theorem d_MM_clausify_19 : decode b_MM_clausify 19 = .ok (.iaload, 1) := by decide +kernel
theorem d_MM_clausify_20 : decode b_MM_clausify 20 = .ok (.iaload, 1) := by decide +kernel
theorem d_MM_clausify_21 : decode b_MM_clausify 21 = .ok (.sipush 200, 3) := by decide +kernel
theorem d_MM_clausify_24 : decode b_MM_clausify 24 = .ok (.if_icmp .gt 9, 3) := by decide +kernel
theorem d_MM_clausify_27 : decode b_MM_clausify 27 = .ok (.iinc 1 1, 3) := by decide +kernel
theorem d_MM_clausify_30 : decode b_MM_clausify 30 = .ok (.goto (-28), 3) := by decide +kernel
theorem d_MM_clausify_33 : decode b_MM_clausify 33 = .ok (.iconst 0, 1) := by decide +kernel
theorem d_MM_clausify_34 : decode b_MM_clausify 34 = .ok (.istore_n 2, 1) := by decide +kernel
theorem d_MM_clausify_35 : decode b_MM_clausify 35 = .ok (.iload_n 2, 1) := by decide +kernel
theorem d_MM_clausify_36 : decode b_MM_clausify 36 = .ok (.iload_n 1, 1) := by decide +kernel
theorem d_MM_clausify_37 : decode b_MM_clausify 37 = .ok (.if_icmp .ge 97, 3) := by decide +kernel
theorem d_MM_clausify_40 : decode b_MM_clausify 40 = .ok (.iconst 0, 1) := by decide +kernel
theorem d_MM_clausify_41 : decode b_MM_clausify 41 = .ok (.istore_n 3, 1) := by decide +kernel
theorem d_MM_clausify_42 : decode b_MM_clausify 42 = .ok (.iload_n 3, 1) := by decide +kernel
theorem d_MM_clausify_43 : decode b_MM_clausify 43 = .ok (.aload_n 0, 1) := by decide +kernel
theorem d_MM_clausify_44 : decode b_MM_clausify 44 = .ok (.getfield 175, 3) := by decide +kernel
theorem d_MM_clausify_47 : decode b_MM_clausify 47 = .ok (.iload_n 2, 1) := by decide +kernel
theorem d_MM_clausify_48 : decode b_MM_clausify 48 = .ok (.iaload, 1) := by decide +kernel
theorem d_MM_clausify_49 : decode b_MM_clausify 49 = .ok (.if_icmp .ge 49, 3) := by decide +kernel
theorem d_MM_clausify_52 : decode b_MM_clausify 52 = .ok (.aload_n 0, 1) := by decide +kernel
theorem d_MM_clausify_53 : decode b_MM_clausify 53 = .ok (.getfield 178, 3) := by decide +kernel
theorem d_MM_clausify_56 : decode b_MM_clausify 56 = .ok (.aload_n 0, 1) := by decide +kernel
theorem d_MM_clausify_57 : decode b_MM_clausify 57 = .ok (.getfield 172, 3) := by decide +kernel
theorem d_MM_clausify_60 : decode b_MM_clausify 60 = .ok (.iload_n 2, 1) := by decide +kernel
theorem d_MM_clausify_61 : decode b_MM_clausify 61 = .ok (.iaload, 1) := by decide +kernel
theorem d_MM_clausify_62 : decode b_MM_clausify 62 = .ok (.iload_n 3, 1) := by decide +kernel
theorem d_MM_clausify_63 : decode b_MM_clausify 63 = .ok (.iadd, 1) := by decide +kernel
theorem d_MM_clausify_64 : decode b_MM_clausify 64 = .ok (.iaload, 1) := by decide +kernel
theorem d_MM_clausify_65 : decode b_MM_clausify 65 = .ok (.istore 4, 2) := by decide +kernel
theorem d_MM_clausify_67 : decode b_MM_clausify 67 = .ok (.aload_n 0, 1) := by decide +kernel
theorem d_MM_clausify_68 : decode b_MM_clausify 68 = .ok (.getfield 190, 3) := by decide +kernel
theorem d_MM_clausify_71 : decode b_MM_clausify 71 = .ok (.iload 4, 2) := by decide +kernel
theorem d_MM_clausify_73 : decode b_MM_clausify 73 = .ok (.iload_n 3, 1) := by decide +kernel
theorem d_MM_clausify_74 : decode b_MM_clausify 74 = .ok (.iastore, 1) := by decide +kernel
theorem d_MM_clausify_75 : decode b_MM_clausify 75 = .ok (.aload_n 0, 1) := by decide +kernel
theorem d_MM_clausify_76 : decode b_MM_clausify 76 = .ok (.getfield 187, 3) := by decide +kernel
theorem d_MM_clausify_79 : decode b_MM_clausify 79 = .ok (.iload_n 2, 1) := by decide +kernel
theorem d_MM_clausify_80 : decode b_MM_clausify 80 = .ok (.baload, 1) := by decide +kernel
theorem d_MM_clausify_81 : decode b_MM_clausify 81 = .ok (.ifCond .eq 11, 3) := by decide +kernel
theorem d_MM_clausify_84 : decode b_MM_clausify 84 = .ok (.aload_n 0, 1) := by decide +kernel
theorem d_MM_clausify_85 : decode b_MM_clausify 85 = .ok (.getfield 86, 3) := by decide +kernel
theorem d_MM_clausify_88 : decode b_MM_clausify 88 = .ok (.iload 4, 2) := by decide +kernel
theorem d_MM_clausify_90 : decode b_MM_clausify 90 = .ok (.iconst 1, 1) := by decide +kernel
theorem d_MM_clausify_91 : decode b_MM_clausify 91 = .ok (.bastore, 1) := by decide +kernel
theorem d_MM_clausify_92 : decode b_MM_clausify 92 = .ok (.iinc 3 1, 3) := by decide +kernel
theorem d_MM_clausify_95 : decode b_MM_clausify 95 = .ok (.goto (-53), 3) := by decide +kernel
theorem d_MM_clausify_98 : decode b_MM_clausify 98 = .ok (.aload_n 0, 1) := by decide +kernel
theorem d_MM_clausify_99 : decode b_MM_clausify 99 = .ok (.aload_n 0, 1) := by decide +kernel
theorem d_MM_clausify_100 : decode b_MM_clausify 100 = .ok (.getfield 169, 3) := by decide +kernel
theorem d_MM_clausify_103 : decode b_MM_clausify 103 = .ok (.iload_n 2, 1) := by decide +kernel
theorem d_MM_clausify_104 : decode b_MM_clausify 104 = .ok (.iaload, 1) := by decide +kernel
theorem d_MM_clausify_105 : decode b_MM_clausify 105 = .ok (.aload_n 0, 1) := by decide +kernel
theorem d_MM_clausify_106 : decode b_MM_clausify 106 = .ok (.getfield 187, 3) := by decide +kernel
theorem d_MM_clausify_109 : decode b_MM_clausify 109 = .ok (.iload_n 2, 1) := by decide +kernel
theorem d_MM_clausify_110 : decode b_MM_clausify 110 = .ok (.baload, 1) := by decide +kernel
theorem d_MM_clausify_111 : decode b_MM_clausify 111 = .ok (.ifCond .ne 7, 3) := by decide +kernel
theorem d_MM_clausify_114 : decode b_MM_clausify 114 = .ok (.iconst 1, 1) := by decide +kernel
theorem d_MM_clausify_115 : decode b_MM_clausify 115 = .ok (.goto 4, 3) := by decide +kernel
theorem d_MM_clausify_118 : decode b_MM_clausify 118 = .ok (.iconst 0, 1) := by decide +kernel
theorem d_MM_clausify_119 : decode b_MM_clausify 119 = .ok (.aload_n 0, 1) := by decide +kernel
theorem d_MM_clausify_120 : decode b_MM_clausify 120 = .ok (.getfield 175, 3) := by decide +kernel
theorem d_MM_clausify_123 : decode b_MM_clausify 123 = .ok (.iload_n 2, 1) := by decide +kernel
theorem d_MM_clausify_124 : decode b_MM_clausify 124 = .ok (.iaload, 1) := by decide +kernel
theorem d_MM_clausify_125 : decode b_MM_clausify 125 = .ok (.invokevirtual 522, 3) := by decide +kernel
theorem d_MM_clausify_128 : decode b_MM_clausify 128 = .ok (.iinc 2 1, 3) := by decide +kernel
theorem d_MM_clausify_131 : decode b_MM_clausify 131 = .ok (.goto (-96), 3) := by decide +kernel
theorem d_MM_clausify_134 : decode b_MM_clausify 134 = .ok (.aload_n 0, 1) := by decide +kernel
theorem d_MM_clausify_135 : decode b_MM_clausify 135 = .ok (.iconst 1, 1) := by decide +kernel
theorem d_MM_clausify_136 : decode b_MM_clausify 136 = .ok (.aload_n 0, 1) := by decide +kernel
theorem d_MM_clausify_137 : decode b_MM_clausify 137 = .ok (.getfield 74, 3) := by decide +kernel
theorem d_MM_clausify_140 : decode b_MM_clausify 140 = .ok (.iadd, 1) := by decide +kernel
theorem d_MM_clausify_141 : decode b_MM_clausify 141 = .ok (.putfield 71, 3) := by decide +kernel
theorem d_MM_clausify_144 : decode b_MM_clausify 144 = .ok (.iconst 1, 1) := by decide +kernel
theorem d_MM_clausify_145 : decode b_MM_clausify 145 = .ok (.istore_n 2, 1) := by decide +kernel
theorem d_MM_clausify_146 : decode b_MM_clausify 146 = .ok (.iload_n 2, 1) := by decide +kernel
theorem d_MM_clausify_147 : decode b_MM_clausify 147 = .ok (.aload_n 0, 1) := by decide +kernel
theorem d_MM_clausify_148 : decode b_MM_clausify 148 = .ok (.getfield 74, 3) := by decide +kernel
theorem d_MM_clausify_151 : decode b_MM_clausify 151 = .ok (.if_icmp .gt 42, 3) := by decide +kernel
theorem d_MM_clausify_154 : decode b_MM_clausify 154 = .ok (.aload_n 0, 1) := by decide +kernel
theorem d_MM_clausify_155 : decode b_MM_clausify 155 = .ok (.getfield 160, 3) := by decide +kernel
theorem d_MM_clausify_158 : decode b_MM_clausify 158 = .ok (.iload_n 2, 1) := by decide +kernel
theorem d_MM_clausify_159 : decode b_MM_clausify 159 = .ok (.aload_n 0, 1) := by decide +kernel
theorem d_MM_clausify_160 : decode b_MM_clausify 160 = .ok (.getfield 59, 3) := by decide +kernel
theorem d_MM_clausify_163 : decode b_MM_clausify 163 = .ok (.iload_n 2, 1) := by decide +kernel
theorem d_MM_clausify_164 : decode b_MM_clausify 164 = .ok (.iaload, 1) := by decide +kernel
theorem d_MM_clausify_165 : decode b_MM_clausify 165 = .ok (.iastore, 1) := by decide +kernel
theorem d_MM_clausify_166 : decode b_MM_clausify 166 = .ok (.aload_n 0, 1) := by decide +kernel
theorem d_MM_clausify_167 : decode b_MM_clausify 167 = .ok (.getfield 163, 3) := by decide +kernel
theorem d_MM_clausify_170 : decode b_MM_clausify 170 = .ok (.iload_n 2, 1) := by decide +kernel
theorem d_MM_clausify_171 : decode b_MM_clausify 171 = .ok (.aload_n 0, 1) := by decide +kernel
theorem d_MM_clausify_172 : decode b_MM_clausify 172 = .ok (.getfield 62, 3) := by decide +kernel
theorem d_MM_clausify_175 : decode b_MM_clausify 175 = .ok (.iload_n 2, 1) := by decide +kernel
theorem d_MM_clausify_176 : decode b_MM_clausify 176 = .ok (.iaload, 1) := by decide +kernel
theorem d_MM_clausify_177 : decode b_MM_clausify 177 = .ok (.iconst 1, 1) := by decide +kernel
theorem d_MM_clausify_178 : decode b_MM_clausify 178 = .ok (.if_icmp .ne 7, 3) := by decide +kernel
theorem d_MM_clausify_181 : decode b_MM_clausify 181 = .ok (.iconst 1, 1) := by decide +kernel
theorem d_MM_clausify_182 : decode b_MM_clausify 182 = .ok (.goto 4, 3) := by decide +kernel
theorem d_MM_clausify_185 : decode b_MM_clausify 185 = .ok (.iconst 0, 1) := by decide +kernel
theorem d_MM_clausify_186 : decode b_MM_clausify 186 = .ok (.bastore, 1) := by decide +kernel
theorem d_MM_clausify_187 : decode b_MM_clausify 187 = .ok (.iinc 2 1, 3) := by decide +kernel
theorem d_MM_clausify_190 : decode b_MM_clausify 190 = .ok (.goto (-44), 3) := by decide +kernel
theorem d_MM_clausify_193 : decode b_MM_clausify 193 = .ok (.iconst 0, 1) := by decide +kernel
theorem d_MM_clausify_194 : decode b_MM_clausify 194 = .ok (.istore_n 2, 1) := by decide +kernel
theorem d_MM_clausify_195 : decode b_MM_clausify 195 = .ok (.iload_n 2, 1) := by decide +kernel
theorem d_MM_clausify_196 : decode b_MM_clausify 196 = .ok (.aload_n 0, 1) := by decide +kernel
theorem d_MM_clausify_197 : decode b_MM_clausify 197 = .ok (.getfield 90, 3) := by decide +kernel
theorem d_MM_clausify_200 : decode b_MM_clausify 200 = .ok (.if_icmp .ge 63, 3) := by decide +kernel
theorem d_MM_clausify_203 : decode b_MM_clausify 203 = .ok (.aload_n 0, 1) := by decide +kernel
theorem d_MM_clausify_204 : decode b_MM_clausify 204 = .ok (.getfield 86, 3) := by decide +kernel
theorem d_MM_clausify_207 : decode b_MM_clausify 207 = .ok (.iload_n 2, 1) := by decide +kernel
theorem d_MM_clausify_208 : decode b_MM_clausify 208 = .ok (.baload, 1) := by decide +kernel
theorem d_MM_clausify_209 : decode b_MM_clausify 209 = .ok (.ifCond .ne 6, 3) := by decide +kernel
theorem d_MM_clausify_212 : decode b_MM_clausify 212 = .ok (.goto 45, 3) := by decide +kernel
theorem d_MM_clausify_215 : decode b_MM_clausify 215 = .ok (.aload_n 0, 1) := by decide +kernel
theorem d_MM_clausify_216 : decode b_MM_clausify 216 = .ok (.getfield 160, 3) := by decide +kernel
theorem d_MM_clausify_219 : decode b_MM_clausify 219 = .ok (.aload_n 0, 1) := by decide +kernel
theorem d_MM_clausify_220 : decode b_MM_clausify 220 = .ok (.getfield 71, 3) := by decide +kernel
theorem d_MM_clausify_223 : decode b_MM_clausify 223 = .ok (.aload_n 0, 1) := by decide +kernel
theorem d_MM_clausify_224 : decode b_MM_clausify 224 = .ok (.getfield 190, 3) := by decide +kernel
theorem d_MM_clausify_227 : decode b_MM_clausify 227 = .ok (.iload_n 2, 1) := by decide +kernel
theorem d_MM_clausify_228 : decode b_MM_clausify 228 = .ok (.iaload, 1) := by decide +kernel
theorem d_MM_clausify_229 : decode b_MM_clausify 229 = .ok (.iastore, 1) := by decide +kernel
theorem d_MM_clausify_230 : decode b_MM_clausify 230 = .ok (.aload_n 0, 1) := by decide +kernel
theorem d_MM_clausify_231 : decode b_MM_clausify 231 = .ok (.getfield 163, 3) := by decide +kernel
theorem d_MM_clausify_234 : decode b_MM_clausify 234 = .ok (.aload_n 0, 1) := by decide +kernel
theorem d_MM_clausify_235 : decode b_MM_clausify 235 = .ok (.getfield 71, 3) := by decide +kernel
theorem d_MM_clausify_238 : decode b_MM_clausify 238 = .ok (.iconst 0, 1) := by decide +kernel
theorem d_MM_clausify_239 : decode b_MM_clausify 239 = .ok (.bastore, 1) := by decide +kernel
theorem d_MM_clausify_240 : decode b_MM_clausify 240 = .ok (.aload_n 0, 1) := by decide +kernel
theorem d_MM_clausify_241 : decode b_MM_clausify 241 = .ok (.getfield 83, 3) := by decide +kernel
theorem d_MM_clausify_244 : decode b_MM_clausify 244 = .ok (.iload_n 2, 1) := by decide +kernel
theorem d_MM_clausify_245 : decode b_MM_clausify 245 = .ok (.aload_n 0, 1) := by decide +kernel
theorem d_MM_clausify_246 : decode b_MM_clausify 246 = .ok (.dup, 1) := by decide +kernel
theorem d_MM_clausify_247 : decode b_MM_clausify 247 = .ok (.getfield 71, 3) := by decide +kernel
theorem d_MM_clausify_250 : decode b_MM_clausify 250 = .ok (.dup_x1, 1) := by decide +kernel
theorem d_MM_clausify_251 : decode b_MM_clausify 251 = .ok (.iconst 1, 1) := by decide +kernel
theorem d_MM_clausify_252 : decode b_MM_clausify 252 = .ok (.iadd, 1) := by decide +kernel
theorem d_MM_clausify_253 : decode b_MM_clausify 253 = .ok (.putfield 71, 3) := by decide +kernel
theorem d_MM_clausify_256 : decode b_MM_clausify 256 = .ok (.iastore, 1) := by decide +kernel
theorem d_MM_clausify_257 : decode b_MM_clausify 257 = .ok (.iinc 2 1, 3) := by decide +kernel
theorem d_MM_clausify_260 : decode b_MM_clausify 260 = .ok (.goto (-65), 3) := by decide +kernel
theorem d_MM_clausify_263 : decode b_MM_clausify 263 = .ok (.iconst 0, 1) := by decide +kernel
theorem d_MM_clausify_264 : decode b_MM_clausify 264 = .ok (.istore_n 2, 1) := by decide +kernel
theorem d_MM_clausify_265 : decode b_MM_clausify 265 = .ok (.iconst 0, 1) := by decide +kernel
theorem d_MM_clausify_266 : decode b_MM_clausify 266 = .ok (.istore_n 3, 1) := by decide +kernel
theorem d_MM_clausify_267 : decode b_MM_clausify 267 = .ok (.iload_n 3, 1) := by decide +kernel
theorem d_MM_clausify_268 : decode b_MM_clausify 268 = .ok (.aload_n 0, 1) := by decide +kernel
theorem d_MM_clausify_269 : decode b_MM_clausify 269 = .ok (.getfield 181, 3) := by decide +kernel
theorem d_MM_clausify_272 : decode b_MM_clausify 272 = .ok (.if_icmp .ge 83, 3) := by decide +kernel
theorem d_MM_clausify_275 : decode b_MM_clausify 275 = .ok (.iload_n 3, 1) := by decide +kernel
theorem d_MM_clausify_276 : decode b_MM_clausify 276 = .ok (.iload_n 1, 1) := by decide +kernel
theorem d_MM_clausify_277 : decode b_MM_clausify 277 = .ok (.if_icmp .ne 18, 3) := by decide +kernel
theorem d_MM_clausify_280 : decode b_MM_clausify 280 = .ok (.new 426, 3) := by decide +kernel
theorem d_MM_clausify_283 : decode b_MM_clausify 283 = .ok (.dup, 1) := by decide +kernel
theorem d_MM_clausify_284 : decode b_MM_clausify 284 = .ok (.iconst 3, 1) := by decide +kernel
theorem d_MM_clausify_285 : decode b_MM_clausify 285 = .ok (.aload_n 0, 1) := by decide +kernel
theorem d_MM_clausify_286 : decode b_MM_clausify 286 = .ok (.getfield 166, 3) := by decide +kernel
theorem d_MM_clausify_289 : decode b_MM_clausify 289 = .ok (.iload_n 3, 1) := by decide +kernel
theorem d_MM_clausify_290 : decode b_MM_clausify 290 = .ok (.iaload, 1) := by decide +kernel
theorem d_MM_clausify_291 : decode b_MM_clausify 291 = .ok (.invokespecial 428, 3) := by decide +kernel
theorem d_MM_clausify_294 : decode b_MM_clausify 294 = .ok (.athrow, 1) := by decide +kernel
theorem d_MM_clausify_295 : decode b_MM_clausify 295 = .ok (.iload_n 2, 1) := by decide +kernel
theorem d_MM_clausify_296 : decode b_MM_clausify 296 = .ok (.aload_n 0, 1) := by decide +kernel
theorem d_MM_clausify_297 : decode b_MM_clausify 297 = .ok (.aload_n 0, 1) := by decide +kernel
theorem d_MM_clausify_298 : decode b_MM_clausify 298 = .ok (.getfield 169, 3) := by decide +kernel
theorem d_MM_clausify_301 : decode b_MM_clausify 301 = .ok (.iload_n 3, 1) := by decide +kernel
theorem d_MM_clausify_302 : decode b_MM_clausify 302 = .ok (.iaload, 1) := by decide +kernel
theorem d_MM_clausify_303 : decode b_MM_clausify 303 = .ok (.aload_n 0, 1) := by decide +kernel
theorem d_MM_clausify_304 : decode b_MM_clausify 304 = .ok (.getfield 187, 3) := by decide +kernel
theorem d_MM_clausify_307 : decode b_MM_clausify 307 = .ok (.iload_n 3, 1) := by decide +kernel
theorem d_MM_clausify_308 : decode b_MM_clausify 308 = .ok (.baload, 1) := by decide +kernel
theorem d_MM_clausify_309 : decode b_MM_clausify 309 = .ok (.ifCond .ne 7, 3) := by decide +kernel
theorem d_MM_clausify_312 : decode b_MM_clausify 312 = .ok (.iconst 1, 1) := by decide +kernel
theorem d_MM_clausify_313 : decode b_MM_clausify 313 = .ok (.goto 4, 3) := by decide +kernel
theorem d_MM_clausify_316 : decode b_MM_clausify 316 = .ok (.iconst 0, 1) := by decide +kernel
theorem d_MM_clausify_317 : decode b_MM_clausify 317 = .ok (.invokevirtual 532, 3) := by decide +kernel
theorem d_MM_clausify_320 : decode b_MM_clausify 320 = .ok (.iadd, 1) := by decide +kernel
theorem d_MM_clausify_321 : decode b_MM_clausify 321 = .ok (.istore_n 2, 1) := by decide +kernel
theorem d_MM_clausify_322 : decode b_MM_clausify 322 = .ok (.iload_n 2, 1) := by decide +kernel
theorem d_MM_clausify_323 : decode b_MM_clausify 323 = .ok (.sipush 200, 3) := by decide +kernel
theorem d_MM_clausify_326 : decode b_MM_clausify 326 = .ok (.if_icmp .le 18, 3) := by decide +kernel
theorem d_MM_clausify_329 : decode b_MM_clausify 329 = .ok (.new 426, 3) := by decide +kernel
theorem d_MM_clausify_332 : decode b_MM_clausify 332 = .ok (.dup, 1) := by decide +kernel
theorem d_MM_clausify_333 : decode b_MM_clausify 333 = .ok (.iconst 3, 1) := by decide +kernel
theorem d_MM_clausify_334 : decode b_MM_clausify 334 = .ok (.aload_n 0, 1) := by decide +kernel
theorem d_MM_clausify_335 : decode b_MM_clausify 335 = .ok (.getfield 166, 3) := by decide +kernel
theorem d_MM_clausify_338 : decode b_MM_clausify 338 = .ok (.iload_n 3, 1) := by decide +kernel
theorem d_MM_clausify_339 : decode b_MM_clausify 339 = .ok (.iaload, 1) := by decide +kernel
theorem d_MM_clausify_340 : decode b_MM_clausify 340 = .ok (.invokespecial 428, 3) := by decide +kernel
theorem d_MM_clausify_343 : decode b_MM_clausify 343 = .ok (.athrow, 1) := by decide +kernel
theorem d_MM_clausify_344 : decode b_MM_clausify 344 = .ok (.aload_n 0, 1) := by decide +kernel
theorem d_MM_clausify_345 : decode b_MM_clausify 345 = .ok (.iload_n 3, 1) := by decide +kernel
theorem d_MM_clausify_346 : decode b_MM_clausify 346 = .ok (.invokevirtual 750, 3) := by decide +kernel
theorem d_MM_clausify_349 : decode b_MM_clausify 349 = .ok (.iinc 3 1, 3) := by decide +kernel
theorem d_MM_clausify_352 : decode b_MM_clausify 352 = .ok (.goto (-85), 3) := by decide +kernel
theorem d_MM_clausify_355 : decode b_MM_clausify 355 = .ok (.return_, 1) := by decide +kernel
theorem tc_MM_parse : Cond.code y_MM_parse b_MM_parse 3 none ∈ lw_tbg := tb_in (i := 1928) (by decide +kernel) rfl
theorem ml_MM_741 : ax_LV "ClauseProverModel" 741 y_MM_parse b_MM_parse 3 none 0 := ax_LV.mk (tb_in (i := 1925) (by decide +kernel) rfl) (tb_in (i := 1927) (by decide +kernel) rfl) (pv_in (i := 91) (by decide +kernel) rfl) ti_MM tc_MM_parse (by decide +kernel)
set_option maxHeartbeats 4000000 in
set_option maxRecDepth 100000 in
theorem m58_MM_clausify (l : Launch) (D : va_G) (kA : Nat → ClassId) (a0 : Nat) (b0 : Nat) (b1 : Nat) (b2 : Nat) (b3 : Nat) (b4 : Nat) (b5 : Nat) (b6 : Nat) (b7 : Nat) (b8 : Nat) (b9 : Nat) (b10 : Nat) (b11 : Nat) (b12 : Nat) (b13 : Nat) (b14 : Nat) (b15 : Nat) (b16 : Nat) (b17 : Nat) (b18 : Nat) (b19 : Nat) (b20 : Nat) (b21 : Nat) (b22 : Nat) (b23 : Nat) (b24 : Nat) (b25 : Nat) (b26 : Nat) (b27 : Nat) (b28 : Nat) (b29 : Nat) (b30 : Nat) (b31 : Nat) (b32 : Nat) (b33 : Nat) (b34 : Nat) (b35 : Nat) (b36 : Nat) (b37 : Nat) (b38 : Nat) (b39 : Nat) (b40 : Nat) (b41 : Nat) (b42 : Nat) (b43 : Nat) (b44 : Nat) (b45 : Nat) (b46 : Nat) (b47 : Nat) (b48 : Nat) (b49 : Nat) (b50 : Nat) (b51 : Nat) (b52 : Nat) (b53 : Nat) (b54 : Nat) (b55 : Nat) (b56 : Nat) (b57 : Nat) (b58 : Nat) (b59 : Nat) (b60 : Nat) (b61 : Nat) (b62 : Nat) (b63 : Nat) (b64 : Nat) (b65 : Nat) (b66 : Nat) (b67 : Nat) (b68 : Nat) (b69 : Nat) (b70 : Nat) (b71 : Nat) (b72 : Nat) (b73 : Nat) (b74 : Nat) (b75 : Nat) : ax_Mv l D kA y_MM_clausify b_MM_clausify 5 0 0 0 0 [.ref a0] [(a0, .inr (12, [.ref b0, .ref b1, .int 0, .int 0, .int 0, .int 0, .int 0, .int 0, .int 0, .int 0, .int 0, .int 1, .int 0, .ref b2, .ref b3, .ref b4, .ref b5, .ref b6, .int 0, .int 1, .int 0, .ref b7, .ref b8, .ref b9, .ref b10, .int 0, .ref b11, .ref b12, .int 0, .int 0, .ref b13, .ref b14, .ref b15, .ref b16, .ref b17, .ref b18, .ref b19, .int 0, .int 0, .int 0, .int 0, .ref b20, .ref b21, .ref b22, .ref b23, .ref b24, .ref b25, .int 0, .ref b26, .ref b27, .ref b28, .ref b29, .ref b30, .ref b31, .ref b32, .int 0, .int 0, .ref b33, .ref b34, .ref b35, .ref b36, .ref b37, .int 0, .ref b38, .ref b39, .int 0, .ref b40, .ref b41, .ref b42, .ref b43, .ref b44, .ref b45, .int 0, .ref b46, .ref b47, .ref b48, .ref b49, .ref b50, .ref b51, .ref b52, .ref b53, .ref b54, .ref b55, .ref b56, .int 0, .int 0, .int 0, .int 0, .int (-1), .int 0, .int 0, .int 0, .int 0, .int 0, .int 0, .ref b57, .ref b58, .ref b59, .int 0, .ref b60, .ref b61, .int 0, .ref b62, .ref b63, .ref b64, .int 0, .ref b65, .ref b66, .ref b67, .ref b68, .ref b69, .ref b70, .int 0, .int (-1), .int 0, .ref b71, .int (-1), .int (-1), .int (-1), .ref b72, .int 0, .ref b73, .int 0, .ref b74, .int 0, .int 0, .ref b75]))] (fun w1 => w1 = [(a0, .inr (12, [.ref b0, .ref b1, .int 0, .int 0, .int 0, .int 0, .int 0, .int 0, .int 0, .int 0, .int 0, .int 1, .int 0, .ref b2, .ref b3, .ref b4, .ref b5, .ref b6, .int 0, .int 1, .int 0, .ref b7, .ref b8, .ref b9, .ref b10, .int 0, .ref b11, .ref b12, .int 0, .int 0, .ref b13, .ref b14, .ref b15, .ref b16, .ref b17, .ref b18, .ref b19, .int 0, .int 0, .int 0, .int 0, .ref b20, .ref b21, .ref b22, .ref b23, .ref b24, .ref b25, .int 0, .ref b26, .ref b27, .ref b28, .ref b29, .ref b30, .ref b31, .ref b32, .int 0, .int 0, .ref b33, .ref b34, .ref b35, .ref b36, .ref b37, .int 0, .ref b38, .ref b39, .int 0, .ref b40, .ref b41, .ref b42, .ref b43, .ref b44, .ref b45, .int 0, .ref b46, .ref b47, .ref b48, .ref b49, .ref b50, .ref b51, .ref b52, .ref b53, .ref b54, .ref b55, .ref b56, .int 0, .int 0, .int 0, .int 0, .int (-1), .int 0, .int 0, .int 0, .int 0, .int 0, .int 0, .ref b57, .ref b58, .ref b59, .int 0, .ref b60, .ref b61, .int 0, .ref b62, .ref b63, .ref b64, .int 0, .ref b65, .ref b66, .ref b67, .ref b68, .ref b69, .ref b70, .int 0, .int (-1), .int 0, .ref b71, .int (-1), .int (-1), .int (-1), .ref b72, .int 0, .ref b73, .int 0, .ref b74, .int 0, .int 0, .ref b75]))]) := by
  refine ax_Mv.of (by decide +kernel) (Nat.le_of_ble_eq_true rfl) ?_
  intro p e s m args below meth c C hnm
  refine ax_ls ([(0, .ref a0)]) [0] rfl ?_
  refine ax_iconst (pc := 0) C 0 d_MM_clausify_0 (by decide +kernel) ?_
  refine ax_istore_n (pc := 1) C d_MM_clausify_1 rfl (Nat.le_of_ble_eq_true rfl) ([(1, .int 0), (0, .ref a0)]) rfl ?_
  refine ax_iload_n (pc := 2) C d_MM_clausify_2 rfl 0 rfl ?_
  refine ax_aload_n (pc := 3) C d_MM_clausify_3 rfl 1 rfl ?_
  refine ax_get (pc := 4) C k_MM 55 lk_MM_181 d_MM_clausify_4 (Nat.le_of_ble_eq_true rfl) 0 rfl rfl ?_
  refine ax_icmp_ge (pc := 7) C 33 d_MM_clausify_7 (by decide) (fun _ => ?_) (fun h => absurd h (by decide))
  refine ax_iconst (pc := 33) C 0 d_MM_clausify_33 (by decide +kernel) ?_
  refine ax_istore_n (pc := 34) C d_MM_clausify_34 rfl (Nat.le_of_ble_eq_true rfl) ([(2, .int 0), (1, .int 0), (0, .ref a0)]) rfl ?_
  refine ax_iload_n (pc := 35) C d_MM_clausify_35 rfl 0 rfl ?_
  refine ax_iload_n (pc := 36) C d_MM_clausify_36 rfl 1 rfl ?_
  refine ax_icmp_ge (pc := 37) C 134 d_MM_clausify_37 (by decide) (fun _ => ?_) (fun h => absurd h (by decide))
  refine ax_aload_n (pc := 134) C d_MM_clausify_134 rfl 2 rfl ?_
  refine ax_iconst (pc := 135) C 1 d_MM_clausify_135 (by decide +kernel) ?_
  refine ax_aload_n (pc := 136) C d_MM_clausify_136 rfl 2 rfl ?_
  refine ax_get (pc := 137) C k_MM 20 lk_MM_74 d_MM_clausify_137 (Nat.le_of_ble_eq_true rfl) 0 rfl rfl ?_
  refine ax_iadd (pc := 140) C d_MM_clausify_140 ?_
  refine ax_nrm 1 (by decide) ?_
  refine ax_put (pc := 141) C k_MM 19 lk_MM_71 d_MM_clausify_141 (Nat.le_of_ble_eq_true rfl) 0 rfl rfl rfl rfl (Nat.le_of_ble_eq_true rfl) ?_
  refine ax_w ([(a0, .inr (12, [.ref b0, .ref b1, .int 0, .int 0, .int 0, .int 0, .int 0, .int 0, .int 0, .int 0, .int 0, .int 1, .int 0, .ref b2, .ref b3, .ref b4, .ref b5, .ref b6, .int 0, .int 1, .int 0, .ref b7, .ref b8, .ref b9, .ref b10, .int 0, .ref b11, .ref b12, .int 0, .int 0, .ref b13, .ref b14, .ref b15, .ref b16, .ref b17, .ref b18, .ref b19, .int 0, .int 0, .int 0, .int 0, .ref b20, .ref b21, .ref b22, .ref b23, .ref b24, .ref b25, .int 0, .ref b26, .ref b27, .ref b28, .ref b29, .ref b30, .ref b31, .ref b32, .int 0, .int 0, .ref b33, .ref b34, .ref b35, .ref b36, .ref b37, .int 0, .ref b38, .ref b39, .int 0, .ref b40, .ref b41, .ref b42, .ref b43, .ref b44, .ref b45, .int 0, .ref b46, .ref b47, .ref b48, .ref b49, .ref b50, .ref b51, .ref b52, .ref b53, .ref b54, .ref b55, .ref b56, .int 0, .int 0, .int 0, .int 0, .int (-1), .int 0, .int 0, .int 0, .int 0, .int 0, .int 0, .ref b57, .ref b58, .ref b59, .int 0, .ref b60, .ref b61, .int 0, .ref b62, .ref b63, .ref b64, .int 0, .ref b65, .ref b66, .ref b67, .ref b68, .ref b69, .ref b70, .int 0, .int (-1), .int 0, .ref b71, .int (-1), .int (-1), .int (-1), .ref b72, .int 0, .ref b73, .int 0, .ref b74, .int 0, .int 0, .ref b75]))]) rfl ?_
  refine ax_iconst (pc := 144) C 1 d_MM_clausify_144 (by decide +kernel) ?_
  refine ax_istore_n (pc := 145) C d_MM_clausify_145 rfl (Nat.le_of_ble_eq_true rfl) ([(2, .int 1), (1, .int 0), (0, .ref a0)]) rfl ?_
  refine ax_iload_n (pc := 146) C d_MM_clausify_146 rfl 0 rfl ?_
  refine ax_aload_n (pc := 147) C d_MM_clausify_147 rfl 2 rfl ?_
  refine ax_get (pc := 148) C k_MM 20 lk_MM_74 d_MM_clausify_148 (Nat.le_of_ble_eq_true rfl) 0 rfl rfl ?_
  refine ax_icmp_gt (pc := 151) C 193 d_MM_clausify_151 (by decide) (fun _ => ?_) (fun h => absurd h (by decide))
  refine ax_iconst (pc := 193) C 0 d_MM_clausify_193 (by decide +kernel) ?_
  refine ax_istore_n (pc := 194) C d_MM_clausify_194 rfl (Nat.le_of_ble_eq_true rfl) ([(2, .int 0), (1, .int 0), (0, .ref a0)]) rfl ?_
  refine ax_iload_n (pc := 195) C d_MM_clausify_195 rfl 0 rfl ?_
  refine ax_aload_n (pc := 196) C d_MM_clausify_196 rfl 2 rfl ?_
  refine ax_get (pc := 197) C k_MM 25 lk_MM_90 d_MM_clausify_197 (Nat.le_of_ble_eq_true rfl) 0 rfl rfl ?_
  refine ax_icmp_ge (pc := 200) C 263 d_MM_clausify_200 (by decide) (fun _ => ?_) (fun h => absurd h (by decide))
  refine ax_iconst (pc := 263) C 0 d_MM_clausify_263 (by decide +kernel) ?_
  refine ax_istore_n (pc := 264) C d_MM_clausify_264 rfl (Nat.le_of_ble_eq_true rfl) ([(2, .int 0), (1, .int 0), (0, .ref a0)]) rfl ?_
  refine ax_iconst (pc := 265) C 0 d_MM_clausify_265 (by decide +kernel) ?_
  refine ax_istore_n (pc := 266) C d_MM_clausify_266 rfl (Nat.le_of_ble_eq_true rfl) ([(3, .int 0), (2, .int 0), (1, .int 0), (0, .ref a0)]) rfl ?_
  refine ax_iload_n (pc := 267) C d_MM_clausify_267 rfl 0 rfl ?_
  refine ax_aload_n (pc := 268) C d_MM_clausify_268 rfl 3 rfl ?_
  refine ax_get (pc := 269) C k_MM 55 lk_MM_181 d_MM_clausify_269 (Nat.le_of_ble_eq_true rfl) 0 rfl rfl ?_
  refine ax_icmp_ge (pc := 272) C 355 d_MM_clausify_272 (by decide) (fun _ => ?_) (fun h => absurd h (by decide))
  exact ax_vret (pc := 355) C d_MM_clausify_355 rfl (by decide) (by decide)
theorem tc_MM_clausify : Cond.code y_MM_clausify b_MM_clausify 5 none ∈ lw_tbg := tb_in (i := 2083) (by decide +kernel) rfl
theorem ml_MM_744 : ax_LV "ClauseProverModel" 744 y_MM_clausify b_MM_clausify 5 none 0 := ax_LV.mk (tb_in (i := 2080) (by decide +kernel) rfl) (tb_in (i := 2082) (by decide +kernel) rfl) (pv_in (i := 122) (by decide +kernel) rfl) ti_MM tc_MM_clausify (by decide +kernel)
set_option maxHeartbeats 4000000 in
set_option maxRecDepth 100000 in
theorem m54_MM_read (l : Launch) (D : va_G) (kA : Nat → ClassId) (a0 : Nat) (a1 : Nat) (a2 : Nat) (b0 : Nat) (b1 : Nat) (b2 : Nat) (b3 : Nat) (b4 : Nat) (b5 : Nat) (b6 : Nat) (b7 : Nat) (b8 : Nat) (b9 : Nat) (b10 : Nat) (b11 : Nat) (b12 : Nat) (b13 : Nat) (b14 : Nat) (b15 : Nat) (b16 : Nat) (b17 : Nat) (b18 : Nat) (b19 : Nat) (b20 : Nat) (b21 : Nat) (b22 : Nat) (b23 : Nat) (b24 : Nat) (b25 : Nat) (b26 : Nat) (b27 : Nat) (b28 : Nat) (b29 : Nat) (b30 : Nat) (b31 : Nat) (b32 : Nat) (b33 : Nat) (b34 : Nat) (b35 : Nat) (b36 : Nat) (b37 : Nat) (b38 : Nat) (b39 : Nat) (b40 : Nat) (b41 : Nat) (b42 : Nat) (b43 : Nat) (b44 : Nat) (b45 : Nat) (b46 : Nat) (b47 : Nat) (b48 : Nat) (b49 : Nat) (b50 : Nat) (b51 : Nat) (b52 : Nat) (b53 : Nat) (b54 : Nat) (b55 : Nat) (b56 : Nat) (b57 : Nat) (b58 : Nat) (b59 : Nat) (b60 : Nat) (b61 : Nat) (b62 : Nat) (b63 : Nat) (b64 : Nat) (b65 : Nat) (b66 : Nat) (b67 : Nat) (b68 : Nat) (b69 : Nat) (b70 : Nat) (b71 : Nat) (b72 : Nat) (b73 : Nat) : ax_Mw l D kA y_MM_read b_MM_read 2 [(139, 147, 150, 426)] 3 64 0 0 [.ref a0] [(a0, .inr (12, [.ref b0, .ref b1, .int 0, .int 0, .int 0, .int 0, .int 0, .int 0, .int 0, .int 0, .int 0, .int 0, .int 0, .ref b2, .ref b3, .ref b4, .ref b5, .ref b6, .int 0, .int 1, .int 0, .ref b7, .ref b8, .ref b9, .ref b10, .int 0, .ref b11, .ref b12, .int 0, .int 0, .ref b13, .ref b14, .ref b15, .ref b16, .ref b17, .ref b18, .ref b19, .int 0, .int 0, .int 0, .int 0, .ref b20, .ref b21, .ref b22, .ref b23, .ref b24, .ref b25, .int 0, .ref a1, .ref a2, .ref b26, .ref b27, .ref b28, .ref b29, .ref b30, .int 0, .int 0, .ref b31, .ref b32, .ref b33, .ref b34, .ref b35, .int 0, .ref b36, .ref b37, .int 0, .ref b38, .ref b39, .ref b40, .ref b41, .ref b42, .ref b43, .int 0, .ref b44, .ref b45, .ref b46, .ref b47, .ref b48, .ref b49, .ref b50, .ref b51, .ref b52, .ref b53, .ref b54, .int 0, .int 0, .int 0, .int 0, .int (-1), .int 0, .int 0, .int 0, .int 0, .int 0, .int 0, .ref b55, .ref b56, .ref b57, .int 0, .ref b58, .ref b59, .int 0, .ref b60, .ref b61, .ref b62, .int 0, .ref b63, .ref b64, .ref b65, .ref b66, .ref b67, .ref b68, .int 0, .int (-1), .int 0, .ref b69, .int (-1), .int (-1), .int (-1), .ref b70, .int 0, .ref b71, .int 0, .ref b72, .int 0, .int 0, .ref b73])), (a1, .inl (kA 0, 900, .inl (fun _ => 0))), (a2, .inl (kA 1, 900, .inl (upd (fun _ => 0) (Int32.toNatClampNeg 0) (vp_nar .boolean 1))))] (fun r w1 => r = 0 ∧ w1 = [(a1, .inl (kA 0, 900, .inl (upd (fun _ => 0) (Int32.toNatClampNeg 0) 0))), (a2, .inl (kA 1, 900, .inl (upd (upd (fun _ => 0) (Int32.toNatClampNeg 0) (vp_nar .boolean 1)) (Int32.toNatClampNeg 0) (vp_nar .boolean 1)))), (a0, .inr (12, [.ref b0, .ref b1, .int 0, .int 0, .int 0, .int 0, .int 0, .int 0, .int 0, .int 0, .int 0, .int 1, .int 0, .ref b2, .ref b3, .ref b4, .ref b5, .ref b6, .int 0, .int 1, .int 0, .ref b7, .ref b8, .ref b9, .ref b10, .int 0, .ref b11, .ref b12, .int 0, .int 0, .ref b13, .ref b14, .ref b15, .ref b16, .ref b17, .ref b18, .ref b19, .int 0, .int 0, .int 0, .int 0, .ref b20, .ref b21, .ref b22, .ref b23, .ref b24, .ref b25, .int 0, .ref a1, .ref a2, .ref b26, .ref b27, .ref b28, .ref b29, .ref b30, .int 0, .int 0, .ref b31, .ref b32, .ref b33, .ref b34, .ref b35, .int 0, .ref b36, .ref b37, .int 0, .ref b38, .ref b39, .ref b40, .ref b41, .ref b42, .ref b43, .int 0, .ref b44, .ref b45, .ref b46, .ref b47, .ref b48, .ref b49, .ref b50, .ref b51, .ref b52, .ref b53, .ref b54, .int 0, .int 0, .int 0, .int 0, .int (-1), .int 0, .int 0, .int 0, .int 0, .int 0, .int 0, .ref b55, .ref b56, .ref b57, .int 0, .ref b58, .ref b59, .int 0, .ref b60, .ref b61, .ref b62, .int 0, .ref b63, .ref b64, .ref b65, .ref b66, .ref b67, .ref b68, .int 0, .int (-1), .int 0, .ref b69, .int (-1), .int (-1), .int (-1), .ref b70, .int 0, .ref b71, .int 0, .ref b72, .int 0, .int 0, .ref b73]))]) := by
  refine ax_Mw.of (by decide +kernel) (Nat.le_of_ble_eq_true rfl) ?_
  intro p e s m args below meth c C hadm hmeth hcode htb hX
  refine ax_ls ([(0, .ref a0)]) [0] rfl ?_
  refine ax_aload_n (pc := 0) C d_MM_read_0 rfl 0 rfl ?_
  refine ax_iconst (pc := 1) C 0 d_MM_read_1 (by decide +kernel) ?_
  refine ax_put (pc := 2) C k_MM 4 lk_MM_24 d_MM_read_2 (Nat.le_of_ble_eq_true rfl) 0 rfl rfl rfl rfl (Nat.le_of_ble_eq_true rfl) ?_
  refine ax_w ([(a0, .inr (12, [.ref b0, .ref b1, .int 0, .int 0, .int 0, .int 0, .int 0, .int 0, .int 0, .int 0, .int 0, .int 0, .int 0, .ref b2, .ref b3, .ref b4, .ref b5, .ref b6, .int 0, .int 1, .int 0, .ref b7, .ref b8, .ref b9, .ref b10, .int 0, .ref b11, .ref b12, .int 0, .int 0, .ref b13, .ref b14, .ref b15, .ref b16, .ref b17, .ref b18, .ref b19, .int 0, .int 0, .int 0, .int 0, .ref b20, .ref b21, .ref b22, .ref b23, .ref b24, .ref b25, .int 0, .ref a1, .ref a2, .ref b26, .ref b27, .ref b28, .ref b29, .ref b30, .int 0, .int 0, .ref b31, .ref b32, .ref b33, .ref b34, .ref b35, .int 0, .ref b36, .ref b37, .int 0, .ref b38, .ref b39, .ref b40, .ref b41, .ref b42, .ref b43, .int 0, .ref b44, .ref b45, .ref b46, .ref b47, .ref b48, .ref b49, .ref b50, .ref b51, .ref b52, .ref b53, .ref b54, .int 0, .int 0, .int 0, .int 0, .int (-1), .int 0, .int 0, .int 0, .int 0, .int 0, .int 0, .ref b55, .ref b56, .ref b57, .int 0, .ref b58, .ref b59, .int 0, .ref b60, .ref b61, .ref b62, .int 0, .ref b63, .ref b64, .ref b65, .ref b66, .ref b67, .ref b68, .int 0, .int (-1), .int 0, .ref b69, .int (-1), .int (-1), .int (-1), .ref b70, .int 0, .ref b71, .int 0, .ref b72, .int 0, .int 0, .ref b73])), (a1, .inl (kA 0, 900, .inl (fun _ => 0))), (a2, .inl (kA 1, 900, .inl (upd (fun _ => 0) (Int32.toNatClampNeg 0) (vp_nar .boolean 1))))]) rfl ?_
  refine ax_aload_n (pc := 5) C d_MM_read_5 rfl 0 rfl ?_
  refine ax_iconst (pc := 6) C 0 d_MM_read_6 (by decide +kernel) ?_
  refine ax_put (pc := 7) C k_MM 18 lk_MM_68 d_MM_read_7 (Nat.le_of_ble_eq_true rfl) 0 rfl rfl rfl rfl (Nat.le_of_ble_eq_true rfl) ?_
  refine ax_w ([(a0, .inr (12, [.ref b0, .ref b1, .int 0, .int 0, .int 0, .int 0, .int 0, .int 0, .int 0, .int 0, .int 0, .int 0, .int 0, .ref b2, .ref b3, .ref b4, .ref b5, .ref b6, .int 0, .int 1, .int 0, .ref b7, .ref b8, .ref b9, .ref b10, .int 0, .ref b11, .ref b12, .int 0, .int 0, .ref b13, .ref b14, .ref b15, .ref b16, .ref b17, .ref b18, .ref b19, .int 0, .int 0, .int 0, .int 0, .ref b20, .ref b21, .ref b22, .ref b23, .ref b24, .ref b25, .int 0, .ref a1, .ref a2, .ref b26, .ref b27, .ref b28, .ref b29, .ref b30, .int 0, .int 0, .ref b31, .ref b32, .ref b33, .ref b34, .ref b35, .int 0, .ref b36, .ref b37, .int 0, .ref b38, .ref b39, .ref b40, .ref b41, .ref b42, .ref b43, .int 0, .ref b44, .ref b45, .ref b46, .ref b47, .ref b48, .ref b49, .ref b50, .ref b51, .ref b52, .ref b53, .ref b54, .int 0, .int 0, .int 0, .int 0, .int (-1), .int 0, .int 0, .int 0, .int 0, .int 0, .int 0, .ref b55, .ref b56, .ref b57, .int 0, .ref b58, .ref b59, .int 0, .ref b60, .ref b61, .ref b62, .int 0, .ref b63, .ref b64, .ref b65, .ref b66, .ref b67, .ref b68, .int 0, .int (-1), .int 0, .ref b69, .int (-1), .int (-1), .int (-1), .ref b70, .int 0, .ref b71, .int 0, .ref b72, .int 0, .int 0, .ref b73])), (a1, .inl (kA 0, 900, .inl (fun _ => 0))), (a2, .inl (kA 1, 900, .inl (upd (fun _ => 0) (Int32.toNatClampNeg 0) (vp_nar .boolean 1))))]) rfl ?_
  refine ax_aload_n (pc := 10) C d_MM_read_10 rfl 0 rfl ?_
  refine ax_iconst (pc := 11) C 0 d_MM_read_11 (by decide +kernel) ?_
  refine ax_put (pc := 12) C k_MM 20 lk_MM_74 d_MM_read_12 (Nat.le_of_ble_eq_true rfl) 0 rfl rfl rfl rfl (Nat.le_of_ble_eq_true rfl) ?_
  refine ax_w ([(a0, .inr (12, [.ref b0, .ref b1, .int 0, .int 0, .int 0, .int 0, .int 0, .int 0, .int 0, .int 0, .int 0, .int 0, .int 0, .ref b2, .ref b3, .ref b4, .ref b5, .ref b6, .int 0, .int 1, .int 0, .ref b7, .ref b8, .ref b9, .ref b10, .int 0, .ref b11, .ref b12, .int 0, .int 0, .ref b13, .ref b14, .ref b15, .ref b16, .ref b17, .ref b18, .ref b19, .int 0, .int 0, .int 0, .int 0, .ref b20, .ref b21, .ref b22, .ref b23, .ref b24, .ref b25, .int 0, .ref a1, .ref a2, .ref b26, .ref b27, .ref b28, .ref b29, .ref b30, .int 0, .int 0, .ref b31, .ref b32, .ref b33, .ref b34, .ref b35, .int 0, .ref b36, .ref b37, .int 0, .ref b38, .ref b39, .ref b40, .ref b41, .ref b42, .ref b43, .int 0, .ref b44, .ref b45, .ref b46, .ref b47, .ref b48, .ref b49, .ref b50, .ref b51, .ref b52, .ref b53, .ref b54, .int 0, .int 0, .int 0, .int 0, .int (-1), .int 0, .int 0, .int 0, .int 0, .int 0, .int 0, .ref b55, .ref b56, .ref b57, .int 0, .ref b58, .ref b59, .int 0, .ref b60, .ref b61, .ref b62, .int 0, .ref b63, .ref b64, .ref b65, .ref b66, .ref b67, .ref b68, .int 0, .int (-1), .int 0, .ref b69, .int (-1), .int (-1), .int (-1), .ref b70, .int 0, .ref b71, .int 0, .ref b72, .int 0, .int 0, .ref b73])), (a1, .inl (kA 0, 900, .inl (fun _ => 0))), (a2, .inl (kA 1, 900, .inl (upd (fun _ => 0) (Int32.toNatClampNeg 0) (vp_nar .boolean 1))))]) rfl ?_
  refine ax_aload_n (pc := 15) C d_MM_read_15 rfl 0 rfl ?_
  refine ax_iconst (pc := 16) C 1 d_MM_read_16 (by decide +kernel) ?_
  refine ax_put (pc := 17) C k_MM 19 lk_MM_71 d_MM_read_17 (Nat.le_of_ble_eq_true rfl) 0 rfl rfl rfl rfl (Nat.le_of_ble_eq_true rfl) ?_
  refine ax_w ([(a0, .inr (12, [.ref b0, .ref b1, .int 0, .int 0, .int 0, .int 0, .int 0, .int 0, .int 0, .int 0, .int 0, .int 0, .int 0, .ref b2, .ref b3, .ref b4, .ref b5, .ref b6, .int 0, .int 1, .int 0, .ref b7, .ref b8, .ref b9, .ref b10, .int 0, .ref b11, .ref b12, .int 0, .int 0, .ref b13, .ref b14, .ref b15, .ref b16, .ref b17, .ref b18, .ref b19, .int 0, .int 0, .int 0, .int 0, .ref b20, .ref b21, .ref b22, .ref b23, .ref b24, .ref b25, .int 0, .ref a1, .ref a2, .ref b26, .ref b27, .ref b28, .ref b29, .ref b30, .int 0, .int 0, .ref b31, .ref b32, .ref b33, .ref b34, .ref b35, .int 0, .ref b36, .ref b37, .int 0, .ref b38, .ref b39, .ref b40, .ref b41, .ref b42, .ref b43, .int 0, .ref b44, .ref b45, .ref b46, .ref b47, .ref b48, .ref b49, .ref b50, .ref b51, .ref b52, .ref b53, .ref b54, .int 0, .int 0, .int 0, .int 0, .int (-1), .int 0, .int 0, .int 0, .int 0, .int 0, .int 0, .ref b55, .ref b56, .ref b57, .int 0, .ref b58, .ref b59, .int 0, .ref b60, .ref b61, .ref b62, .int 0, .ref b63, .ref b64, .ref b65, .ref b66, .ref b67, .ref b68, .int 0, .int (-1), .int 0, .ref b69, .int (-1), .int (-1), .int (-1), .ref b70, .int 0, .ref b71, .int 0, .ref b72, .int 0, .int 0, .ref b73])), (a1, .inl (kA 0, 900, .inl (fun _ => 0))), (a2, .inl (kA 1, 900, .inl (upd (fun _ => 0) (Int32.toNatClampNeg 0) (vp_nar .boolean 1))))]) rfl ?_
  refine ax_aload_n (pc := 20) C d_MM_read_20 rfl 0 rfl ?_
  refine ax_iconst (pc := 21) C 0 d_MM_read_21 (by decide +kernel) ?_
  refine ax_put (pc := 22) C k_MM 25 lk_MM_90 d_MM_read_22 (Nat.le_of_ble_eq_true rfl) 0 rfl rfl rfl rfl (Nat.le_of_ble_eq_true rfl) ?_
  refine ax_w ([(a0, .inr (12, [.ref b0, .ref b1, .int 0, .int 0, .int 0, .int 0, .int 0, .int 0, .int 0, .int 0, .int 0, .int 0, .int 0, .ref b2, .ref b3, .ref b4, .ref b5, .ref b6, .int 0, .int 1, .int 0, .ref b7, .ref b8, .ref b9, .ref b10, .int 0, .ref b11, .ref b12, .int 0, .int 0, .ref b13, .ref b14, .ref b15, .ref b16, .ref b17, .ref b18, .ref b19, .int 0, .int 0, .int 0, .int 0, .ref b20, .ref b21, .ref b22, .ref b23, .ref b24, .ref b25, .int 0, .ref a1, .ref a2, .ref b26, .ref b27, .ref b28, .ref b29, .ref b30, .int 0, .int 0, .ref b31, .ref b32, .ref b33, .ref b34, .ref b35, .int 0, .ref b36, .ref b37, .int 0, .ref b38, .ref b39, .ref b40, .ref b41, .ref b42, .ref b43, .int 0, .ref b44, .ref b45, .ref b46, .ref b47, .ref b48, .ref b49, .ref b50, .ref b51, .ref b52, .ref b53, .ref b54, .int 0, .int 0, .int 0, .int 0, .int (-1), .int 0, .int 0, .int 0, .int 0, .int 0, .int 0, .ref b55, .ref b56, .ref b57, .int 0, .ref b58, .ref b59, .int 0, .ref b60, .ref b61, .ref b62, .int 0, .ref b63, .ref b64, .ref b65, .ref b66, .ref b67, .ref b68, .int 0, .int (-1), .int 0, .ref b69, .int (-1), .int (-1), .int (-1), .ref b70, .int 0, .ref b71, .int 0, .ref b72, .int 0, .int 0, .ref b73])), (a1, .inl (kA 0, 900, .inl (fun _ => 0))), (a2, .inl (kA 1, 900, .inl (upd (fun _ => 0) (Int32.toNatClampNeg 0) (vp_nar .boolean 1))))]) rfl ?_
  refine ax_aload_n (pc := 25) C d_MM_read_25 rfl 0 rfl ?_
  refine ax_iconst (pc := 26) C 0 d_MM_read_26 (by decide +kernel) ?_
  refine ax_put (pc := 27) C k_MM 37 lk_MM_126 d_MM_read_27 (Nat.le_of_ble_eq_true rfl) 0 rfl rfl rfl rfl (Nat.le_of_ble_eq_true rfl) ?_
  refine ax_w ([(a0, .inr (12, [.ref b0, .ref b1, .int 0, .int 0, .int 0, .int 0, .int 0, .int 0, .int 0, .int 0, .int 0, .int 0, .int 0, .ref b2, .ref b3, .ref b4, .ref b5, .ref b6, .int 0, .int 1, .int 0, .ref b7, .ref b8, .ref b9, .ref b10, .int 0, .ref b11, .ref b12, .int 0, .int 0, .ref b13, .ref b14, .ref b15, .ref b16, .ref b17, .ref b18, .ref b19, .int 0, .int 0, .int 0, .int 0, .ref b20, .ref b21, .ref b22, .ref b23, .ref b24, .ref b25, .int 0, .ref a1, .ref a2, .ref b26, .ref b27, .ref b28, .ref b29, .ref b30, .int 0, .int 0, .ref b31, .ref b32, .ref b33, .ref b34, .ref b35, .int 0, .ref b36, .ref b37, .int 0, .ref b38, .ref b39, .ref b40, .ref b41, .ref b42, .ref b43, .int 0, .ref b44, .ref b45, .ref b46, .ref b47, .ref b48, .ref b49, .ref b50, .ref b51, .ref b52, .ref b53, .ref b54, .int 0, .int 0, .int 0, .int 0, .int (-1), .int 0, .int 0, .int 0, .int 0, .int 0, .int 0, .ref b55, .ref b56, .ref b57, .int 0, .ref b58, .ref b59, .int 0, .ref b60, .ref b61, .ref b62, .int 0, .ref b63, .ref b64, .ref b65, .ref b66, .ref b67, .ref b68, .int 0, .int (-1), .int 0, .ref b69, .int (-1), .int (-1), .int (-1), .ref b70, .int 0, .ref b71, .int 0, .ref b72, .int 0, .int 0, .ref b73])), (a1, .inl (kA 0, 900, .inl (fun _ => 0))), (a2, .inl (kA 1, 900, .inl (upd (fun _ => 0) (Int32.toNatClampNeg 0) (vp_nar .boolean 1))))]) rfl ?_
  refine ax_aload_n (pc := 30) C d_MM_read_30 rfl 0 rfl ?_
  refine ax_iconst (pc := 31) C 0 d_MM_read_31 (by decide +kernel) ?_
  refine ax_put (pc := 32) C k_MM 38 lk_MM_129 d_MM_read_32 (Nat.le_of_ble_eq_true rfl) 0 rfl rfl rfl rfl (Nat.le_of_ble_eq_true rfl) ?_
  refine ax_w ([(a0, .inr (12, [.ref b0, .ref b1, .int 0, .int 0, .int 0, .int 0, .int 0, .int 0, .int 0, .int 0, .int 0, .int 0, .int 0, .ref b2, .ref b3, .ref b4, .ref b5, .ref b6, .int 0, .int 1, .int 0, .ref b7, .ref b8, .ref b9, .ref b10, .int 0, .ref b11, .ref b12, .int 0, .int 0, .ref b13, .ref b14, .ref b15, .ref b16, .ref b17, .ref b18, .ref b19, .int 0, .int 0, .int 0, .int 0, .ref b20, .ref b21, .ref b22, .ref b23, .ref b24, .ref b25, .int 0, .ref a1, .ref a2, .ref b26, .ref b27, .ref b28, .ref b29, .ref b30, .int 0, .int 0, .ref b31, .ref b32, .ref b33, .ref b34, .ref b35, .int 0, .ref b36, .ref b37, .int 0, .ref b38, .ref b39, .ref b40, .ref b41, .ref b42, .ref b43, .int 0, .ref b44, .ref b45, .ref b46, .ref b47, .ref b48, .ref b49, .ref b50, .ref b51, .ref b52, .ref b53, .ref b54, .int 0, .int 0, .int 0, .int 0, .int (-1), .int 0, .int 0, .int 0, .int 0, .int 0, .int 0, .ref b55, .ref b56, .ref b57, .int 0, .ref b58, .ref b59, .int 0, .ref b60, .ref b61, .ref b62, .int 0, .ref b63, .ref b64, .ref b65, .ref b66, .ref b67, .ref b68, .int 0, .int (-1), .int 0, .ref b69, .int (-1), .int (-1), .int (-1), .ref b70, .int 0, .ref b71, .int 0, .ref b72, .int 0, .int 0, .ref b73])), (a1, .inl (kA 0, 900, .inl (fun _ => 0))), (a2, .inl (kA 1, 900, .inl (upd (fun _ => 0) (Int32.toNatClampNeg 0) (vp_nar .boolean 1))))]) rfl ?_
  refine ax_aload_n (pc := 35) C d_MM_read_35 rfl 0 rfl ?_
  refine ax_iconst (pc := 36) C 0 d_MM_read_36 (by decide +kernel) ?_
  refine ax_put (pc := 37) C k_MM 40 lk_MM_135 d_MM_read_37 (Nat.le_of_ble_eq_true rfl) 0 rfl rfl rfl rfl (Nat.le_of_ble_eq_true rfl) ?_
  refine ax_w ([(a0, .inr (12, [.ref b0, .ref b1, .int 0, .int 0, .int 0, .int 0, .int 0, .int 0, .int 0, .int 0, .int 0, .int 0, .int 0, .ref b2, .ref b3, .ref b4, .ref b5, .ref b6, .int 0, .int 1, .int 0, .ref b7, .ref b8, .ref b9, .ref b10, .int 0, .ref b11, .ref b12, .int 0, .int 0, .ref b13, .ref b14, .ref b15, .ref b16, .ref b17, .ref b18, .ref b19, .int 0, .int 0, .int 0, .int 0, .ref b20, .ref b21, .ref b22, .ref b23, .ref b24, .ref b25, .int 0, .ref a1, .ref a2, .ref b26, .ref b27, .ref b28, .ref b29, .ref b30, .int 0, .int 0, .ref b31, .ref b32, .ref b33, .ref b34, .ref b35, .int 0, .ref b36, .ref b37, .int 0, .ref b38, .ref b39, .ref b40, .ref b41, .ref b42, .ref b43, .int 0, .ref b44, .ref b45, .ref b46, .ref b47, .ref b48, .ref b49, .ref b50, .ref b51, .ref b52, .ref b53, .ref b54, .int 0, .int 0, .int 0, .int 0, .int (-1), .int 0, .int 0, .int 0, .int 0, .int 0, .int 0, .ref b55, .ref b56, .ref b57, .int 0, .ref b58, .ref b59, .int 0, .ref b60, .ref b61, .ref b62, .int 0, .ref b63, .ref b64, .ref b65, .ref b66, .ref b67, .ref b68, .int 0, .int (-1), .int 0, .ref b69, .int (-1), .int (-1), .int (-1), .ref b70, .int 0, .ref b71, .int 0, .ref b72, .int 0, .int 0, .ref b73])), (a1, .inl (kA 0, 900, .inl (fun _ => 0))), (a2, .inl (kA 1, 900, .inl (upd (fun _ => 0) (Int32.toNatClampNeg 0) (vp_nar .boolean 1))))]) rfl ?_
  refine ax_aload_n (pc := 40) C d_MM_read_40 rfl 0 rfl ?_
  refine ax_iconst (pc := 41) C 0 d_MM_read_41 (by decide +kernel) ?_
  refine ax_put (pc := 42) C k_MM 55 lk_MM_181 d_MM_read_42 (Nat.le_of_ble_eq_true rfl) 0 rfl rfl rfl rfl (Nat.le_of_ble_eq_true rfl) ?_
  refine ax_w ([(a0, .inr (12, [.ref b0, .ref b1, .int 0, .int 0, .int 0, .int 0, .int 0, .int 0, .int 0, .int 0, .int 0, .int 0, .int 0, .ref b2, .ref b3, .ref b4, .ref b5, .ref b6, .int 0, .int 1, .int 0, .ref b7, .ref b8, .ref b9, .ref b10, .int 0, .ref b11, .ref b12, .int 0, .int 0, .ref b13, .ref b14, .ref b15, .ref b16, .ref b17, .ref b18, .ref b19, .int 0, .int 0, .int 0, .int 0, .ref b20, .ref b21, .ref b22, .ref b23, .ref b24, .ref b25, .int 0, .ref a1, .ref a2, .ref b26, .ref b27, .ref b28, .ref b29, .ref b30, .int 0, .int 0, .ref b31, .ref b32, .ref b33, .ref b34, .ref b35, .int 0, .ref b36, .ref b37, .int 0, .ref b38, .ref b39, .ref b40, .ref b41, .ref b42, .ref b43, .int 0, .ref b44, .ref b45, .ref b46, .ref b47, .ref b48, .ref b49, .ref b50, .ref b51, .ref b52, .ref b53, .ref b54, .int 0, .int 0, .int 0, .int 0, .int (-1), .int 0, .int 0, .int 0, .int 0, .int 0, .int 0, .ref b55, .ref b56, .ref b57, .int 0, .ref b58, .ref b59, .int 0, .ref b60, .ref b61, .ref b62, .int 0, .ref b63, .ref b64, .ref b65, .ref b66, .ref b67, .ref b68, .int 0, .int (-1), .int 0, .ref b69, .int (-1), .int (-1), .int (-1), .ref b70, .int 0, .ref b71, .int 0, .ref b72, .int 0, .int 0, .ref b73])), (a1, .inl (kA 0, 900, .inl (fun _ => 0))), (a2, .inl (kA 1, 900, .inl (upd (fun _ => 0) (Int32.toNatClampNeg 0) (vp_nar .boolean 1))))]) rfl ?_
  refine ax_aload_n (pc := 45) C d_MM_read_45 rfl 0 rfl ?_
  refine ax_iconst (pc := 46) C 0 d_MM_read_46 (by decide +kernel) ?_
  refine ax_put (pc := 47) C k_MM 56 lk_MM_184 d_MM_read_47 (Nat.le_of_ble_eq_true rfl) 0 rfl rfl rfl rfl (Nat.le_of_ble_eq_true rfl) ?_
  refine ax_w ([(a0, .inr (12, [.ref b0, .ref b1, .int 0, .int 0, .int 0, .int 0, .int 0, .int 0, .int 0, .int 0, .int 0, .int 0, .int 0, .ref b2, .ref b3, .ref b4, .ref b5, .ref b6, .int 0, .int 1, .int 0, .ref b7, .ref b8, .ref b9, .ref b10, .int 0, .ref b11, .ref b12, .int 0, .int 0, .ref b13, .ref b14, .ref b15, .ref b16, .ref b17, .ref b18, .ref b19, .int 0, .int 0, .int 0, .int 0, .ref b20, .ref b21, .ref b22, .ref b23, .ref b24, .ref b25, .int 0, .ref a1, .ref a2, .ref b26, .ref b27, .ref b28, .ref b29, .ref b30, .int 0, .int 0, .ref b31, .ref b32, .ref b33, .ref b34, .ref b35, .int 0, .ref b36, .ref b37, .int 0, .ref b38, .ref b39, .ref b40, .ref b41, .ref b42, .ref b43, .int 0, .ref b44, .ref b45, .ref b46, .ref b47, .ref b48, .ref b49, .ref b50, .ref b51, .ref b52, .ref b53, .ref b54, .int 0, .int 0, .int 0, .int 0, .int (-1), .int 0, .int 0, .int 0, .int 0, .int 0, .int 0, .ref b55, .ref b56, .ref b57, .int 0, .ref b58, .ref b59, .int 0, .ref b60, .ref b61, .ref b62, .int 0, .ref b63, .ref b64, .ref b65, .ref b66, .ref b67, .ref b68, .int 0, .int (-1), .int 0, .ref b69, .int (-1), .int (-1), .int (-1), .ref b70, .int 0, .ref b71, .int 0, .ref b72, .int 0, .int 0, .ref b73])), (a1, .inl (kA 0, 900, .inl (fun _ => 0))), (a2, .inl (kA 1, 900, .inl (upd (fun _ => 0) (Int32.toNatClampNeg 0) (vp_nar .boolean 1))))]) rfl ?_
  refine ax_aload_n (pc := 50) C d_MM_read_50 rfl 0 rfl ?_
  refine ax_iconst (pc := 51) C 0 d_MM_read_51 (by decide +kernel) ?_
  refine ax_put (pc := 52) C k_MM 84 lk_MM_269 d_MM_read_52 (Nat.le_of_ble_eq_true rfl) 0 rfl rfl rfl rfl (Nat.le_of_ble_eq_true rfl) ?_
  refine ax_w ([(a0, .inr (12, [.ref b0, .ref b1, .int 0, .int 0, .int 0, .int 0, .int 0, .int 0, .int 0, .int 0, .int 0, .int 0, .int 0, .ref b2, .ref b3, .ref b4, .ref b5, .ref b6, .int 0, .int 1, .int 0, .ref b7, .ref b8, .ref b9, .ref b10, .int 0, .ref b11, .ref b12, .int 0, .int 0, .ref b13, .ref b14, .ref b15, .ref b16, .ref b17, .ref b18, .ref b19, .int 0, .int 0, .int 0, .int 0, .ref b20, .ref b21, .ref b22, .ref b23, .ref b24, .ref b25, .int 0, .ref a1, .ref a2, .ref b26, .ref b27, .ref b28, .ref b29, .ref b30, .int 0, .int 0, .ref b31, .ref b32, .ref b33, .ref b34, .ref b35, .int 0, .ref b36, .ref b37, .int 0, .ref b38, .ref b39, .ref b40, .ref b41, .ref b42, .ref b43, .int 0, .ref b44, .ref b45, .ref b46, .ref b47, .ref b48, .ref b49, .ref b50, .ref b51, .ref b52, .ref b53, .ref b54, .int 0, .int 0, .int 0, .int 0, .int (-1), .int 0, .int 0, .int 0, .int 0, .int 0, .int 0, .ref b55, .ref b56, .ref b57, .int 0, .ref b58, .ref b59, .int 0, .ref b60, .ref b61, .ref b62, .int 0, .ref b63, .ref b64, .ref b65, .ref b66, .ref b67, .ref b68, .int 0, .int (-1), .int 0, .ref b69, .int (-1), .int (-1), .int (-1), .ref b70, .int 0, .ref b71, .int 0, .ref b72, .int 0, .int 0, .ref b73])), (a1, .inl (kA 0, 900, .inl (fun _ => 0))), (a2, .inl (kA 1, 900, .inl (upd (fun _ => 0) (Int32.toNatClampNeg 0) (vp_nar .boolean 1))))]) rfl ?_
  refine ax_aload_n (pc := 55) C d_MM_read_55 rfl 0 rfl ?_
  refine ax_iconst (pc := 56) C 0 d_MM_read_56 (by decide +kernel) ?_
  refine ax_put (pc := 57) C k_MM 72 lk_MM_232 d_MM_read_57 (Nat.le_of_ble_eq_true rfl) 0 rfl rfl rfl rfl (Nat.le_of_ble_eq_true rfl) ?_
  refine ax_w ([(a0, .inr (12, [.ref b0, .ref b1, .int 0, .int 0, .int 0, .int 0, .int 0, .int 0, .int 0, .int 0, .int 0, .int 0, .int 0, .ref b2, .ref b3, .ref b4, .ref b5, .ref b6, .int 0, .int 1, .int 0, .ref b7, .ref b8, .ref b9, .ref b10, .int 0, .ref b11, .ref b12, .int 0, .int 0, .ref b13, .ref b14, .ref b15, .ref b16, .ref b17, .ref b18, .ref b19, .int 0, .int 0, .int 0, .int 0, .ref b20, .ref b21, .ref b22, .ref b23, .ref b24, .ref b25, .int 0, .ref a1, .ref a2, .ref b26, .ref b27, .ref b28, .ref b29, .ref b30, .int 0, .int 0, .ref b31, .ref b32, .ref b33, .ref b34, .ref b35, .int 0, .ref b36, .ref b37, .int 0, .ref b38, .ref b39, .ref b40, .ref b41, .ref b42, .ref b43, .int 0, .ref b44, .ref b45, .ref b46, .ref b47, .ref b48, .ref b49, .ref b50, .ref b51, .ref b52, .ref b53, .ref b54, .int 0, .int 0, .int 0, .int 0, .int (-1), .int 0, .int 0, .int 0, .int 0, .int 0, .int 0, .ref b55, .ref b56, .ref b57, .int 0, .ref b58, .ref b59, .int 0, .ref b60, .ref b61, .ref b62, .int 0, .ref b63, .ref b64, .ref b65, .ref b66, .ref b67, .ref b68, .int 0, .int (-1), .int 0, .ref b69, .int (-1), .int (-1), .int (-1), .ref b70, .int 0, .ref b71, .int 0, .ref b72, .int 0, .int 0, .ref b73])), (a1, .inl (kA 0, 900, .inl (fun _ => 0))), (a2, .inl (kA 1, 900, .inl (upd (fun _ => 0) (Int32.toNatClampNeg 0) (vp_nar .boolean 1))))]) rfl ?_
  refine ax_aload_n (pc := 60) C d_MM_read_60 rfl 0 rfl ?_
  refine ax_iconst (pc := 61) C 0 d_MM_read_61 (by decide +kernel) ?_
  refine ax_put (pc := 62) C k_MM 85 lk_MM_272 d_MM_read_62 (Nat.le_of_ble_eq_true rfl) 0 rfl rfl rfl rfl (Nat.le_of_ble_eq_true rfl) ?_
  refine ax_w ([(a0, .inr (12, [.ref b0, .ref b1, .int 0, .int 0, .int 0, .int 0, .int 0, .int 0, .int 0, .int 0, .int 0, .int 0, .int 0, .ref b2, .ref b3, .ref b4, .ref b5, .ref b6, .int 0, .int 1, .int 0, .ref b7, .ref b8, .ref b9, .ref b10, .int 0, .ref b11, .ref b12, .int 0, .int 0, .ref b13, .ref b14, .ref b15, .ref b16, .ref b17, .ref b18, .ref b19, .int 0, .int 0, .int 0, .int 0, .ref b20, .ref b21, .ref b22, .ref b23, .ref b24, .ref b25, .int 0, .ref a1, .ref a2, .ref b26, .ref b27, .ref b28, .ref b29, .ref b30, .int 0, .int 0, .ref b31, .ref b32, .ref b33, .ref b34, .ref b35, .int 0, .ref b36, .ref b37, .int 0, .ref b38, .ref b39, .ref b40, .ref b41, .ref b42, .ref b43, .int 0, .ref b44, .ref b45, .ref b46, .ref b47, .ref b48, .ref b49, .ref b50, .ref b51, .ref b52, .ref b53, .ref b54, .int 0, .int 0, .int 0, .int 0, .int (-1), .int 0, .int 0, .int 0, .int 0, .int 0, .int 0, .ref b55, .ref b56, .ref b57, .int 0, .ref b58, .ref b59, .int 0, .ref b60, .ref b61, .ref b62, .int 0, .ref b63, .ref b64, .ref b65, .ref b66, .ref b67, .ref b68, .int 0, .int (-1), .int 0, .ref b69, .int (-1), .int (-1), .int (-1), .ref b70, .int 0, .ref b71, .int 0, .ref b72, .int 0, .int 0, .ref b73])), (a1, .inl (kA 0, 900, .inl (fun _ => 0))), (a2, .inl (kA 1, 900, .inl (upd (fun _ => 0) (Int32.toNatClampNeg 0) (vp_nar .boolean 1))))]) rfl ?_
  refine ax_aload_n (pc := 65) C d_MM_read_65 rfl 0 rfl ?_
  refine ax_iconst (pc := 66) C 0 d_MM_read_66 (by decide +kernel) ?_
  refine ax_put (pc := 67) C k_MM 86 lk_MM_275 d_MM_read_67 (Nat.le_of_ble_eq_true rfl) 0 rfl rfl rfl rfl (Nat.le_of_ble_eq_true rfl) ?_
  refine ax_w ([(a0, .inr (12, [.ref b0, .ref b1, .int 0, .int 0, .int 0, .int 0, .int 0, .int 0, .int 0, .int 0, .int 0, .int 0, .int 0, .ref b2, .ref b3, .ref b4, .ref b5, .ref b6, .int 0, .int 1, .int 0, .ref b7, .ref b8, .ref b9, .ref b10, .int 0, .ref b11, .ref b12, .int 0, .int 0, .ref b13, .ref b14, .ref b15, .ref b16, .ref b17, .ref b18, .ref b19, .int 0, .int 0, .int 0, .int 0, .ref b20, .ref b21, .ref b22, .ref b23, .ref b24, .ref b25, .int 0, .ref a1, .ref a2, .ref b26, .ref b27, .ref b28, .ref b29, .ref b30, .int 0, .int 0, .ref b31, .ref b32, .ref b33, .ref b34, .ref b35, .int 0, .ref b36, .ref b37, .int 0, .ref b38, .ref b39, .ref b40, .ref b41, .ref b42, .ref b43, .int 0, .ref b44, .ref b45, .ref b46, .ref b47, .ref b48, .ref b49, .ref b50, .ref b51, .ref b52, .ref b53, .ref b54, .int 0, .int 0, .int 0, .int 0, .int (-1), .int 0, .int 0, .int 0, .int 0, .int 0, .int 0, .ref b55, .ref b56, .ref b57, .int 0, .ref b58, .ref b59, .int 0, .ref b60, .ref b61, .ref b62, .int 0, .ref b63, .ref b64, .ref b65, .ref b66, .ref b67, .ref b68, .int 0, .int (-1), .int 0, .ref b69, .int (-1), .int (-1), .int (-1), .ref b70, .int 0, .ref b71, .int 0, .ref b72, .int 0, .int 0, .ref b73])), (a1, .inl (kA 0, 900, .inl (fun _ => 0))), (a2, .inl (kA 1, 900, .inl (upd (fun _ => 0) (Int32.toNatClampNeg 0) (vp_nar .boolean 1))))]) rfl ?_
  refine ax_aload_n (pc := 70) C d_MM_read_70 rfl 0 rfl ?_
  refine ax_iconst (pc := 71) C 0 d_MM_read_71 (by decide +kernel) ?_
  refine ax_put (pc := 72) C k_MM 87 lk_MM_278 d_MM_read_72 (Nat.le_of_ble_eq_true rfl) 0 rfl rfl rfl rfl (Nat.le_of_ble_eq_true rfl) ?_
  refine ax_w ([(a0, .inr (12, [.ref b0, .ref b1, .int 0, .int 0, .int 0, .int 0, .int 0, .int 0, .int 0, .int 0, .int 0, .int 0, .int 0, .ref b2, .ref b3, .ref b4, .ref b5, .ref b6, .int 0, .int 1, .int 0, .ref b7, .ref b8, .ref b9, .ref b10, .int 0, .ref b11, .ref b12, .int 0, .int 0, .ref b13, .ref b14, .ref b15, .ref b16, .ref b17, .ref b18, .ref b19, .int 0, .int 0, .int 0, .int 0, .ref b20, .ref b21, .ref b22, .ref b23, .ref b24, .ref b25, .int 0, .ref a1, .ref a2, .ref b26, .ref b27, .ref b28, .ref b29, .ref b30, .int 0, .int 0, .ref b31, .ref b32, .ref b33, .ref b34, .ref b35, .int 0, .ref b36, .ref b37, .int 0, .ref b38, .ref b39, .ref b40, .ref b41, .ref b42, .ref b43, .int 0, .ref b44, .ref b45, .ref b46, .ref b47, .ref b48, .ref b49, .ref b50, .ref b51, .ref b52, .ref b53, .ref b54, .int 0, .int 0, .int 0, .int 0, .int (-1), .int 0, .int 0, .int 0, .int 0, .int 0, .int 0, .ref b55, .ref b56, .ref b57, .int 0, .ref b58, .ref b59, .int 0, .ref b60, .ref b61, .ref b62, .int 0, .ref b63, .ref b64, .ref b65, .ref b66, .ref b67, .ref b68, .int 0, .int (-1), .int 0, .ref b69, .int (-1), .int (-1), .int (-1), .ref b70, .int 0, .ref b71, .int 0, .ref b72, .int 0, .int 0, .ref b73])), (a1, .inl (kA 0, 900, .inl (fun _ => 0))), (a2, .inl (kA 1, 900, .inl (upd (fun _ => 0) (Int32.toNatClampNeg 0) (vp_nar .boolean 1))))]) rfl ?_
  refine ax_aload_n (pc := 75) C d_MM_read_75 rfl 0 rfl ?_
  refine ax_iconst (pc := 76) C (-1) d_MM_read_76 (by decide +kernel) ?_
  refine ax_put (pc := 77) C k_MM 88 lk_MM_281 d_MM_read_77 (Nat.le_of_ble_eq_true rfl) 0 rfl rfl rfl rfl (Nat.le_of_ble_eq_true rfl) ?_
  refine ax_w ([(a0, .inr (12, [.ref b0, .ref b1, .int 0, .int 0, .int 0, .int 0, .int 0, .int 0, .int 0, .int 0, .int 0, .int 0, .int 0, .ref b2, .ref b3, .ref b4, .ref b5, .ref b6, .int 0, .int 1, .int 0, .ref b7, .ref b8, .ref b9, .ref b10, .int 0, .ref b11, .ref b12, .int 0, .int 0, .ref b13, .ref b14, .ref b15, .ref b16, .ref b17, .ref b18, .ref b19, .int 0, .int 0, .int 0, .int 0, .ref b20, .ref b21, .ref b22, .ref b23, .ref b24, .ref b25, .int 0, .ref a1, .ref a2, .ref b26, .ref b27, .ref b28, .ref b29, .ref b30, .int 0, .int 0, .ref b31, .ref b32, .ref b33, .ref b34, .ref b35, .int 0, .ref b36, .ref b37, .int 0, .ref b38, .ref b39, .ref b40, .ref b41, .ref b42, .ref b43, .int 0, .ref b44, .ref b45, .ref b46, .ref b47, .ref b48, .ref b49, .ref b50, .ref b51, .ref b52, .ref b53, .ref b54, .int 0, .int 0, .int 0, .int 0, .int (-1), .int 0, .int 0, .int 0, .int 0, .int 0, .int 0, .ref b55, .ref b56, .ref b57, .int 0, .ref b58, .ref b59, .int 0, .ref b60, .ref b61, .ref b62, .int 0, .ref b63, .ref b64, .ref b65, .ref b66, .ref b67, .ref b68, .int 0, .int (-1), .int 0, .ref b69, .int (-1), .int (-1), .int (-1), .ref b70, .int 0, .ref b71, .int 0, .ref b72, .int 0, .int 0, .ref b73])), (a1, .inl (kA 0, 900, .inl (fun _ => 0))), (a2, .inl (kA 1, 900, .inl (upd (fun _ => 0) (Int32.toNatClampNeg 0) (vp_nar .boolean 1))))]) rfl ?_
  refine ax_aload_n (pc := 80) C d_MM_read_80 rfl 0 rfl ?_
  refine ax_iconst (pc := 81) C 0 d_MM_read_81 (by decide +kernel) ?_
  refine ax_put (pc := 82) C k_MM 89 lk_MM_284 d_MM_read_82 (Nat.le_of_ble_eq_true rfl) 0 rfl rfl rfl rfl (Nat.le_of_ble_eq_true rfl) ?_
  refine ax_w ([(a0, .inr (12, [.ref b0, .ref b1, .int 0, .int 0, .int 0, .int 0, .int 0, .int 0, .int 0, .int 0, .int 0, .int 0, .int 0, .ref b2, .ref b3, .ref b4, .ref b5, .ref b6, .int 0, .int 1, .int 0, .ref b7, .ref b8, .ref b9, .ref b10, .int 0, .ref b11, .ref b12, .int 0, .int 0, .ref b13, .ref b14, .ref b15, .ref b16, .ref b17, .ref b18, .ref b19, .int 0, .int 0, .int 0, .int 0, .ref b20, .ref b21, .ref b22, .ref b23, .ref b24, .ref b25, .int 0, .ref a1, .ref a2, .ref b26, .ref b27, .ref b28, .ref b29, .ref b30, .int 0, .int 0, .ref b31, .ref b32, .ref b33, .ref b34, .ref b35, .int 0, .ref b36, .ref b37, .int 0, .ref b38, .ref b39, .ref b40, .ref b41, .ref b42, .ref b43, .int 0, .ref b44, .ref b45, .ref b46, .ref b47, .ref b48, .ref b49, .ref b50, .ref b51, .ref b52, .ref b53, .ref b54, .int 0, .int 0, .int 0, .int 0, .int (-1), .int 0, .int 0, .int 0, .int 0, .int 0, .int 0, .ref b55, .ref b56, .ref b57, .int 0, .ref b58, .ref b59, .int 0, .ref b60, .ref b61, .ref b62, .int 0, .ref b63, .ref b64, .ref b65, .ref b66, .ref b67, .ref b68, .int 0, .int (-1), .int 0, .ref b69, .int (-1), .int (-1), .int (-1), .ref b70, .int 0, .ref b71, .int 0, .ref b72, .int 0, .int 0, .ref b73])), (a1, .inl (kA 0, 900, .inl (fun _ => 0))), (a2, .inl (kA 1, 900, .inl (upd (fun _ => 0) (Int32.toNatClampNeg 0) (vp_nar .boolean 1))))]) rfl ?_
  refine ax_aload_n (pc := 85) C d_MM_read_85 rfl 0 rfl ?_
  refine ax_iconst (pc := 86) C 0 d_MM_read_86 (by decide +kernel) ?_
  refine ax_put (pc := 87) C k_MM 90 lk_MM_287 d_MM_read_87 (Nat.le_of_ble_eq_true rfl) 0 rfl rfl rfl rfl (Nat.le_of_ble_eq_true rfl) ?_
  refine ax_w ([(a0, .inr (12, [.ref b0, .ref b1, .int 0, .int 0, .int 0, .int 0, .int 0, .int 0, .int 0, .int 0, .int 0, .int 0, .int 0, .ref b2, .ref b3, .ref b4, .ref b5, .ref b6, .int 0, .int 1, .int 0, .ref b7, .ref b8, .ref b9, .ref b10, .int 0, .ref b11, .ref b12, .int 0, .int 0, .ref b13, .ref b14, .ref b15, .ref b16, .ref b17, .ref b18, .ref b19, .int 0, .int 0, .int 0, .int 0, .ref b20, .ref b21, .ref b22, .ref b23, .ref b24, .ref b25, .int 0, .ref a1, .ref a2, .ref b26, .ref b27, .ref b28, .ref b29, .ref b30, .int 0, .int 0, .ref b31, .ref b32, .ref b33, .ref b34, .ref b35, .int 0, .ref b36, .ref b37, .int 0, .ref b38, .ref b39, .ref b40, .ref b41, .ref b42, .ref b43, .int 0, .ref b44, .ref b45, .ref b46, .ref b47, .ref b48, .ref b49, .ref b50, .ref b51, .ref b52, .ref b53, .ref b54, .int 0, .int 0, .int 0, .int 0, .int (-1), .int 0, .int 0, .int 0, .int 0, .int 0, .int 0, .ref b55, .ref b56, .ref b57, .int 0, .ref b58, .ref b59, .int 0, .ref b60, .ref b61, .ref b62, .int 0, .ref b63, .ref b64, .ref b65, .ref b66, .ref b67, .ref b68, .int 0, .int (-1), .int 0, .ref b69, .int (-1), .int (-1), .int (-1), .ref b70, .int 0, .ref b71, .int 0, .ref b72, .int 0, .int 0, .ref b73])), (a1, .inl (kA 0, 900, .inl (fun _ => 0))), (a2, .inl (kA 1, 900, .inl (upd (fun _ => 0) (Int32.toNatClampNeg 0) (vp_nar .boolean 1))))]) rfl ?_
  refine ax_aload_n (pc := 90) C d_MM_read_90 rfl 0 rfl ?_
  refine ax_iconst (pc := 91) C 0 d_MM_read_91 (by decide +kernel) ?_
  refine ax_put (pc := 92) C k_MM 91 lk_MM_290 d_MM_read_92 (Nat.le_of_ble_eq_true rfl) 0 rfl rfl rfl rfl (Nat.le_of_ble_eq_true rfl) ?_
  refine ax_w ([(a0, .inr (12, [.ref b0, .ref b1, .int 0, .int 0, .int 0, .int 0, .int 0, .int 0, .int 0, .int 0, .int 0, .int 0, .int 0, .ref b2, .ref b3, .ref b4, .ref b5, .ref b6, .int 0, .int 1, .int 0, .ref b7, .ref b8, .ref b9, .ref b10, .int 0, .ref b11, .ref b12, .int 0, .int 0, .ref b13, .ref b14, .ref b15, .ref b16, .ref b17, .ref b18, .ref b19, .int 0, .int 0, .int 0, .int 0, .ref b20, .ref b21, .ref b22, .ref b23, .ref b24, .ref b25, .int 0, .ref a1, .ref a2, .ref b26, .ref b27, .ref b28, .ref b29, .ref b30, .int 0, .int 0, .ref b31, .ref b32, .ref b33, .ref b34, .ref b35, .int 0, .ref b36, .ref b37, .int 0, .ref b38, .ref b39, .ref b40, .ref b41, .ref b42, .ref b43, .int 0, .ref b44, .ref b45, .ref b46, .ref b47, .ref b48, .ref b49, .ref b50, .ref b51, .ref b52, .ref b53, .ref b54, .int 0, .int 0, .int 0, .int 0, .int (-1), .int 0, .int 0, .int 0, .int 0, .int 0, .int 0, .ref b55, .ref b56, .ref b57, .int 0, .ref b58, .ref b59, .int 0, .ref b60, .ref b61, .ref b62, .int 0, .ref b63, .ref b64, .ref b65, .ref b66, .ref b67, .ref b68, .int 0, .int (-1), .int 0, .ref b69, .int (-1), .int (-1), .int (-1), .ref b70, .int 0, .ref b71, .int 0, .ref b72, .int 0, .int 0, .ref b73])), (a1, .inl (kA 0, 900, .inl (fun _ => 0))), (a2, .inl (kA 1, 900, .inl (upd (fun _ => 0) (Int32.toNatClampNeg 0) (vp_nar .boolean 1))))]) rfl ?_
  refine ax_aload_n (pc := 95) C d_MM_read_95 rfl 0 rfl ?_
  refine ax_iconst (pc := 96) C 0 d_MM_read_96 (by decide +kernel) ?_
  refine ax_put (pc := 97) C k_MM 92 lk_MM_293 d_MM_read_97 (Nat.le_of_ble_eq_true rfl) 0 rfl rfl rfl rfl (Nat.le_of_ble_eq_true rfl) ?_
  refine ax_w ([(a0, .inr (12, [.ref b0, .ref b1, .int 0, .int 0, .int 0, .int 0, .int 0, .int 0, .int 0, .int 0, .int 0, .int 0, .int 0, .ref b2, .ref b3, .ref b4, .ref b5, .ref b6, .int 0, .int 1, .int 0, .ref b7, .ref b8, .ref b9, .ref b10, .int 0, .ref b11, .ref b12, .int 0, .int 0, .ref b13, .ref b14, .ref b15, .ref b16, .ref b17, .ref b18, .ref b19, .int 0, .int 0, .int 0, .int 0, .ref b20, .ref b21, .ref b22, .ref b23, .ref b24, .ref b25, .int 0, .ref a1, .ref a2, .ref b26, .ref b27, .ref b28, .ref b29, .ref b30, .int 0, .int 0, .ref b31, .ref b32, .ref b33, .ref b34, .ref b35, .int 0, .ref b36, .ref b37, .int 0, .ref b38, .ref b39, .ref b40, .ref b41, .ref b42, .ref b43, .int 0, .ref b44, .ref b45, .ref b46, .ref b47, .ref b48, .ref b49, .ref b50, .ref b51, .ref b52, .ref b53, .ref b54, .int 0, .int 0, .int 0, .int 0, .int (-1), .int 0, .int 0, .int 0, .int 0, .int 0, .int 0, .ref b55, .ref b56, .ref b57, .int 0, .ref b58, .ref b59, .int 0, .ref b60, .ref b61, .ref b62, .int 0, .ref b63, .ref b64, .ref b65, .ref b66, .ref b67, .ref b68, .int 0, .int (-1), .int 0, .ref b69, .int (-1), .int (-1), .int (-1), .ref b70, .int 0, .ref b71, .int 0, .ref b72, .int 0, .int 0, .ref b73])), (a1, .inl (kA 0, 900, .inl (fun _ => 0))), (a2, .inl (kA 1, 900, .inl (upd (fun _ => 0) (Int32.toNatClampNeg 0) (vp_nar .boolean 1))))]) rfl ?_
  refine ax_aload_n (pc := 100) C d_MM_read_100 rfl 0 rfl ?_
  refine ax_iconst (pc := 101) C 0 d_MM_read_101 (by decide +kernel) ?_
  refine ax_put (pc := 102) C k_MM 93 lk_MM_296 d_MM_read_102 (Nat.le_of_ble_eq_true rfl) 0 rfl rfl rfl rfl (Nat.le_of_ble_eq_true rfl) ?_
  refine ax_w ([(a0, .inr (12, [.ref b0, .ref b1, .int 0, .int 0, .int 0, .int 0, .int 0, .int 0, .int 0, .int 0, .int 0, .int 0, .int 0, .ref b2, .ref b3, .ref b4, .ref b5, .ref b6, .int 0, .int 1, .int 0, .ref b7, .ref b8, .ref b9, .ref b10, .int 0, .ref b11, .ref b12, .int 0, .int 0, .ref b13, .ref b14, .ref b15, .ref b16, .ref b17, .ref b18, .ref b19, .int 0, .int 0, .int 0, .int 0, .ref b20, .ref b21, .ref b22, .ref b23, .ref b24, .ref b25, .int 0, .ref a1, .ref a2, .ref b26, .ref b27, .ref b28, .ref b29, .ref b30, .int 0, .int 0, .ref b31, .ref b32, .ref b33, .ref b34, .ref b35, .int 0, .ref b36, .ref b37, .int 0, .ref b38, .ref b39, .ref b40, .ref b41, .ref b42, .ref b43, .int 0, .ref b44, .ref b45, .ref b46, .ref b47, .ref b48, .ref b49, .ref b50, .ref b51, .ref b52, .ref b53, .ref b54, .int 0, .int 0, .int 0, .int 0, .int (-1), .int 0, .int 0, .int 0, .int 0, .int 0, .int 0, .ref b55, .ref b56, .ref b57, .int 0, .ref b58, .ref b59, .int 0, .ref b60, .ref b61, .ref b62, .int 0, .ref b63, .ref b64, .ref b65, .ref b66, .ref b67, .ref b68, .int 0, .int (-1), .int 0, .ref b69, .int (-1), .int (-1), .int (-1), .ref b70, .int 0, .ref b71, .int 0, .ref b72, .int 0, .int 0, .ref b73])), (a1, .inl (kA 0, 900, .inl (fun _ => 0))), (a2, .inl (kA 1, 900, .inl (upd (fun _ => 0) (Int32.toNatClampNeg 0) (vp_nar .boolean 1))))]) rfl ?_
  refine ax_aload_n (pc := 105) C d_MM_read_105 rfl 0 rfl ?_
  refine ax_iconst (pc := 106) C 0 d_MM_read_106 (by decide +kernel) ?_
  refine ax_put (pc := 107) C k_MM 94 lk_MM_299 d_MM_read_107 (Nat.le_of_ble_eq_true rfl) 0 rfl rfl rfl rfl (Nat.le_of_ble_eq_true rfl) ?_
  refine ax_w ([(a0, .inr (12, [.ref b0, .ref b1, .int 0, .int 0, .int 0, .int 0, .int 0, .int 0, .int 0, .int 0, .int 0, .int 0, .int 0, .ref b2, .ref b3, .ref b4, .ref b5, .ref b6, .int 0, .int 1, .int 0, .ref b7, .ref b8, .ref b9, .ref b10, .int 0, .ref b11, .ref b12, .int 0, .int 0, .ref b13, .ref b14, .ref b15, .ref b16, .ref b17, .ref b18, .ref b19, .int 0, .int 0, .int 0, .int 0, .ref b20, .ref b21, .ref b22, .ref b23, .ref b24, .ref b25, .int 0, .ref a1, .ref a2, .ref b26, .ref b27, .ref b28, .ref b29, .ref b30, .int 0, .int 0, .ref b31, .ref b32, .ref b33, .ref b34, .ref b35, .int 0, .ref b36, .ref b37, .int 0, .ref b38, .ref b39, .ref b40, .ref b41, .ref b42, .ref b43, .int 0, .ref b44, .ref b45, .ref b46, .ref b47, .ref b48, .ref b49, .ref b50, .ref b51, .ref b52, .ref b53, .ref b54, .int 0, .int 0, .int 0, .int 0, .int (-1), .int 0, .int 0, .int 0, .int 0, .int 0, .int 0, .ref b55, .ref b56, .ref b57, .int 0, .ref b58, .ref b59, .int 0, .ref b60, .ref b61, .ref b62, .int 0, .ref b63, .ref b64, .ref b65, .ref b66, .ref b67, .ref b68, .int 0, .int (-1), .int 0, .ref b69, .int (-1), .int (-1), .int (-1), .ref b70, .int 0, .ref b71, .int 0, .ref b72, .int 0, .int 0, .ref b73])), (a1, .inl (kA 0, 900, .inl (fun _ => 0))), (a2, .inl (kA 1, 900, .inl (upd (fun _ => 0) (Int32.toNatClampNeg 0) (vp_nar .boolean 1))))]) rfl ?_
  refine ax_aload_n (pc := 110) C d_MM_read_110 rfl 0 rfl ?_
  refine ax_iconst (pc := 111) C 0 d_MM_read_111 (by decide +kernel) ?_
  refine ax_put (pc := 112) C k_MM 105 lk_MM_332 d_MM_read_112 (Nat.le_of_ble_eq_true rfl) 0 rfl rfl rfl rfl (Nat.le_of_ble_eq_true rfl) ?_
  refine ax_w ([(a0, .inr (12, [.ref b0, .ref b1, .int 0, .int 0, .int 0, .int 0, .int 0, .int 0, .int 0, .int 0, .int 0, .int 0, .int 0, .ref b2, .ref b3, .ref b4, .ref b5, .ref b6, .int 0, .int 1, .int 0, .ref b7, .ref b8, .ref b9, .ref b10, .int 0, .ref b11, .ref b12, .int 0, .int 0, .ref b13, .ref b14, .ref b15, .ref b16, .ref b17, .ref b18, .ref b19, .int 0, .int 0, .int 0, .int 0, .ref b20, .ref b21, .ref b22, .ref b23, .ref b24, .ref b25, .int 0, .ref a1, .ref a2, .ref b26, .ref b27, .ref b28, .ref b29, .ref b30, .int 0, .int 0, .ref b31, .ref b32, .ref b33, .ref b34, .ref b35, .int 0, .ref b36, .ref b37, .int 0, .ref b38, .ref b39, .ref b40, .ref b41, .ref b42, .ref b43, .int 0, .ref b44, .ref b45, .ref b46, .ref b47, .ref b48, .ref b49, .ref b50, .ref b51, .ref b52, .ref b53, .ref b54, .int 0, .int 0, .int 0, .int 0, .int (-1), .int 0, .int 0, .int 0, .int 0, .int 0, .int 0, .ref b55, .ref b56, .ref b57, .int 0, .ref b58, .ref b59, .int 0, .ref b60, .ref b61, .ref b62, .int 0, .ref b63, .ref b64, .ref b65, .ref b66, .ref b67, .ref b68, .int 0, .int (-1), .int 0, .ref b69, .int (-1), .int (-1), .int (-1), .ref b70, .int 0, .ref b71, .int 0, .ref b72, .int 0, .int 0, .ref b73])), (a1, .inl (kA 0, 900, .inl (fun _ => 0))), (a2, .inl (kA 1, 900, .inl (upd (fun _ => 0) (Int32.toNatClampNeg 0) (vp_nar .boolean 1))))]) rfl ?_
  refine ax_aload_n (pc := 115) C d_MM_read_115 rfl 0 rfl ?_
  refine ax_iconst (pc := 116) C 0 d_MM_read_116 (by decide +kernel) ?_
  refine ax_put (pc := 117) C k_MM 5 lk_MM_27 d_MM_read_117 (Nat.le_of_ble_eq_true rfl) 0 rfl rfl rfl rfl (Nat.le_of_ble_eq_true rfl) ?_
  refine ax_w ([(a0, .inr (12, [.ref b0, .ref b1, .int 0, .int 0, .int 0, .int 0, .int 0, .int 0, .int 0, .int 0, .int 0, .int 0, .int 0, .ref b2, .ref b3, .ref b4, .ref b5, .ref b6, .int 0, .int 1, .int 0, .ref b7, .ref b8, .ref b9, .ref b10, .int 0, .ref b11, .ref b12, .int 0, .int 0, .ref b13, .ref b14, .ref b15, .ref b16, .ref b17, .ref b18, .ref b19, .int 0, .int 0, .int 0, .int 0, .ref b20, .ref b21, .ref b22, .ref b23, .ref b24, .ref b25, .int 0, .ref a1, .ref a2, .ref b26, .ref b27, .ref b28, .ref b29, .ref b30, .int 0, .int 0, .ref b31, .ref b32, .ref b33, .ref b34, .ref b35, .int 0, .ref b36, .ref b37, .int 0, .ref b38, .ref b39, .ref b40, .ref b41, .ref b42, .ref b43, .int 0, .ref b44, .ref b45, .ref b46, .ref b47, .ref b48, .ref b49, .ref b50, .ref b51, .ref b52, .ref b53, .ref b54, .int 0, .int 0, .int 0, .int 0, .int (-1), .int 0, .int 0, .int 0, .int 0, .int 0, .int 0, .ref b55, .ref b56, .ref b57, .int 0, .ref b58, .ref b59, .int 0, .ref b60, .ref b61, .ref b62, .int 0, .ref b63, .ref b64, .ref b65, .ref b66, .ref b67, .ref b68, .int 0, .int (-1), .int 0, .ref b69, .int (-1), .int (-1), .int (-1), .ref b70, .int 0, .ref b71, .int 0, .ref b72, .int 0, .int 0, .ref b73])), (a1, .inl (kA 0, 900, .inl (fun _ => 0))), (a2, .inl (kA 1, 900, .inl (upd (fun _ => 0) (Int32.toNatClampNeg 0) (vp_nar .boolean 1))))]) rfl ?_
  refine ax_aload_n (pc := 120) C d_MM_read_120 rfl 0 rfl ?_
  refine ax_iconst (pc := 121) C 0 d_MM_read_121 (by decide +kernel) ?_
  refine ax_put (pc := 122) C k_MM 6 lk_MM_30 d_MM_read_122 (Nat.le_of_ble_eq_true rfl) 0 rfl rfl rfl rfl (Nat.le_of_ble_eq_true rfl) ?_
  refine ax_w ([(a0, .inr (12, [.ref b0, .ref b1, .int 0, .int 0, .int 0, .int 0, .int 0, .int 0, .int 0, .int 0, .int 0, .int 0, .int 0, .ref b2, .ref b3, .ref b4, .ref b5, .ref b6, .int 0, .int 1, .int 0, .ref b7, .ref b8, .ref b9, .ref b10, .int 0, .ref b11, .ref b12, .int 0, .int 0, .ref b13, .ref b14, .ref b15, .ref b16, .ref b17, .ref b18, .ref b19, .int 0, .int 0, .int 0, .int 0, .ref b20, .ref b21, .ref b22, .ref b23, .ref b24, .ref b25, .int 0, .ref a1, .ref a2, .ref b26, .ref b27, .ref b28, .ref b29, .ref b30, .int 0, .int 0, .ref b31, .ref b32, .ref b33, .ref b34, .ref b35, .int 0, .ref b36, .ref b37, .int 0, .ref b38, .ref b39, .ref b40, .ref b41, .ref b42, .ref b43, .int 0, .ref b44, .ref b45, .ref b46, .ref b47, .ref b48, .ref b49, .ref b50, .ref b51, .ref b52, .ref b53, .ref b54, .int 0, .int 0, .int 0, .int 0, .int (-1), .int 0, .int 0, .int 0, .int 0, .int 0, .int 0, .ref b55, .ref b56, .ref b57, .int 0, .ref b58, .ref b59, .int 0, .ref b60, .ref b61, .ref b62, .int 0, .ref b63, .ref b64, .ref b65, .ref b66, .ref b67, .ref b68, .int 0, .int (-1), .int 0, .ref b69, .int (-1), .int (-1), .int (-1), .ref b70, .int 0, .ref b71, .int 0, .ref b72, .int 0, .int 0, .ref b73])), (a1, .inl (kA 0, 900, .inl (fun _ => 0))), (a2, .inl (kA 1, 900, .inl (upd (fun _ => 0) (Int32.toNatClampNeg 0) (vp_nar .boolean 1))))]) rfl ?_
  refine ax_aload_n (pc := 125) C d_MM_read_125 rfl 0 rfl ?_
  refine ax_get (pc := 126) C k_MM 49 lk_MM_163 d_MM_read_126 (Nat.le_of_ble_eq_true rfl) 0 rfl rfl ?_
  refine ax_iconst (pc := 129) C 0 d_MM_read_129 (by decide +kernel) ?_
  refine ax_iconst (pc := 130) C 1 d_MM_read_130 (by decide +kernel) ?_
  refine ax_zast (pc := 131) C 2 rfl d_MM_read_131 (by unfold vp_in; decide) ?_
  refine ax_w ([(a0, .inr (12, [.ref b0, .ref b1, .int 0, .int 0, .int 0, .int 0, .int 0, .int 0, .int 0, .int 0, .int 0, .int 0, .int 0, .ref b2, .ref b3, .ref b4, .ref b5, .ref b6, .int 0, .int 1, .int 0, .ref b7, .ref b8, .ref b9, .ref b10, .int 0, .ref b11, .ref b12, .int 0, .int 0, .ref b13, .ref b14, .ref b15, .ref b16, .ref b17, .ref b18, .ref b19, .int 0, .int 0, .int 0, .int 0, .ref b20, .ref b21, .ref b22, .ref b23, .ref b24, .ref b25, .int 0, .ref a1, .ref a2, .ref b26, .ref b27, .ref b28, .ref b29, .ref b30, .int 0, .int 0, .ref b31, .ref b32, .ref b33, .ref b34, .ref b35, .int 0, .ref b36, .ref b37, .int 0, .ref b38, .ref b39, .ref b40, .ref b41, .ref b42, .ref b43, .int 0, .ref b44, .ref b45, .ref b46, .ref b47, .ref b48, .ref b49, .ref b50, .ref b51, .ref b52, .ref b53, .ref b54, .int 0, .int 0, .int 0, .int 0, .int (-1), .int 0, .int 0, .int 0, .int 0, .int 0, .int 0, .ref b55, .ref b56, .ref b57, .int 0, .ref b58, .ref b59, .int 0, .ref b60, .ref b61, .ref b62, .int 0, .ref b63, .ref b64, .ref b65, .ref b66, .ref b67, .ref b68, .int 0, .int (-1), .int 0, .ref b69, .int (-1), .int (-1), .int (-1), .ref b70, .int 0, .ref b71, .int 0, .ref b72, .int 0, .int 0, .ref b73])), (a1, .inl (kA 0, 900, .inl (fun _ => 0))), (a2, .inl (kA 1, 900, .inl (upd (upd (fun _ => 0) (Int32.toNatClampNeg 0) (vp_nar .boolean 1)) (Int32.toNatClampNeg 0) (vp_nar .boolean 1))))]) rfl ?_
  refine ax_aload_n (pc := 132) C d_MM_read_132 rfl 0 rfl ?_
  refine ax_get (pc := 133) C k_MM 48 lk_MM_160 d_MM_read_133 (Nat.le_of_ble_eq_true rfl) 0 rfl rfl ?_
  refine ax_iconst (pc := 136) C 0 d_MM_read_136 (by decide +kernel) ?_
  refine ax_iconst (pc := 137) C 0 d_MM_read_137 (by decide +kernel) ?_
  refine ax_iast (pc := 138) C 1 rfl d_MM_read_138 (by unfold vp_in; decide) ?_
  refine ax_w ([(a0, .inr (12, [.ref b0, .ref b1, .int 0, .int 0, .int 0, .int 0, .int 0, .int 0, .int 0, .int 0, .int 0, .int 0, .int 0, .ref b2, .ref b3, .ref b4, .ref b5, .ref b6, .int 0, .int 1, .int 0, .ref b7, .ref b8, .ref b9, .ref b10, .int 0, .ref b11, .ref b12, .int 0, .int 0, .ref b13, .ref b14, .ref b15, .ref b16, .ref b17, .ref b18, .ref b19, .int 0, .int 0, .int 0, .int 0, .ref b20, .ref b21, .ref b22, .ref b23, .ref b24, .ref b25, .int 0, .ref a1, .ref a2, .ref b26, .ref b27, .ref b28, .ref b29, .ref b30, .int 0, .int 0, .ref b31, .ref b32, .ref b33, .ref b34, .ref b35, .int 0, .ref b36, .ref b37, .int 0, .ref b38, .ref b39, .ref b40, .ref b41, .ref b42, .ref b43, .int 0, .ref b44, .ref b45, .ref b46, .ref b47, .ref b48, .ref b49, .ref b50, .ref b51, .ref b52, .ref b53, .ref b54, .int 0, .int 0, .int 0, .int 0, .int (-1), .int 0, .int 0, .int 0, .int 0, .int 0, .int 0, .ref b55, .ref b56, .ref b57, .int 0, .ref b58, .ref b59, .int 0, .ref b60, .ref b61, .ref b62, .int 0, .ref b63, .ref b64, .ref b65, .ref b66, .ref b67, .ref b68, .int 0, .int (-1), .int 0, .ref b69, .int (-1), .int (-1), .int (-1), .ref b70, .int 0, .ref b71, .int 0, .ref b72, .int 0, .int 0, .ref b73])), (a1, .inl (kA 0, 900, .inl (upd (fun _ => 0) (Int32.toNatClampNeg 0) 0))), (a2, .inl (kA 1, 900, .inl (upd (upd (fun _ => 0) (Int32.toNatClampNeg 0) (vp_nar .boolean 1)) (Int32.toNatClampNeg 0) (vp_nar .boolean 1))))]) rfl ?_
  refine ax_aload_n (pc := 139) C d_MM_read_139 rfl 0 rfl ?_
  refine ax_callVv (pc := 140) C (As := []) (rest := []) (wr := [(a1, .inl (kA 0, 900, .inl (upd (fun _ => 0) (Int32.toNatClampNeg 0) 0))), (a2, .inl (kA 1, 900, .inl (upd (upd (fun _ => 0) (Int32.toNatClampNeg 0) (vp_nar .boolean 1)) (Int32.toNatClampNeg 0) (vp_nar .boolean 1))))]) (m55_MM_parse l D kA a0 b0 b1 b2 b3 b4 b5 b6 b7 b8 b9 b10 b11 b12 b13 b14 b15 b16 b17 b18 b19 b20 b21 b22 b23 b24 b25 a1 a2 b26 b27 b28 b29 b30 b31 b32 b33 b34 b35 b36 b37 b38 b39 b40 b41 b42 b43 b44 b45 b46 b47 b48 b49 b50 b51 b52 b53 b54 b55 b56 b57 b58 b59 b60 b61 b62 b63 b64 b65 b66 b67 b68 b69 b70 b71 b72 b73) ml_MM_741 0 rfl rfl rfl d_MM_read_140 rfl rfl [0] [1, 2] rfl (by decide) rfl (by decide) (by decide) (Nat.le_of_ble_eq_true rfl) (Nat.le_of_ble_eq_true rfl) (Nat.le_of_ble_eq_true rfl) (Nat.le_of_ble_eq_true rfl) (Nat.le_of_ble_eq_true rfl) (fun w1 hw1 => ?_)
  obtain rfl := hw1
  refine ax_w ([(a1, .inl (kA 0, 900, .inl (upd (fun _ => 0) (Int32.toNatClampNeg 0) 0))), (a2, .inl (kA 1, 900, .inl (upd (upd (fun _ => 0) (Int32.toNatClampNeg 0) (vp_nar .boolean 1)) (Int32.toNatClampNeg 0) (vp_nar .boolean 1)))), (a0, .inr (12, [.ref b0, .ref b1, .int 0, .int 0, .int 0, .int 0, .int 0, .int 0, .int 0, .int 0, .int 0, .int 1, .int 0, .ref b2, .ref b3, .ref b4, .ref b5, .ref b6, .int 0, .int 1, .int 0, .ref b7, .ref b8, .ref b9, .ref b10, .int 0, .ref b11, .ref b12, .int 0, .int 0, .ref b13, .ref b14, .ref b15, .ref b16, .ref b17, .ref b18, .ref b19, .int 0, .int 0, .int 0, .int 0, .ref b20, .ref b21, .ref b22, .ref b23, .ref b24, .ref b25, .int 0, .ref a1, .ref a2, .ref b26, .ref b27, .ref b28, .ref b29, .ref b30, .int 0, .int 0, .ref b31, .ref b32, .ref b33, .ref b34, .ref b35, .int 0, .ref b36, .ref b37, .int 0, .ref b38, .ref b39, .ref b40, .ref b41, .ref b42, .ref b43, .int 0, .ref b44, .ref b45, .ref b46, .ref b47, .ref b48, .ref b49, .ref b50, .ref b51, .ref b52, .ref b53, .ref b54, .int 0, .int 0, .int 0, .int 0, .int (-1), .int 0, .int 0, .int 0, .int 0, .int 0, .int 0, .ref b55, .ref b56, .ref b57, .int 0, .ref b58, .ref b59, .int 0, .ref b60, .ref b61, .ref b62, .int 0, .ref b63, .ref b64, .ref b65, .ref b66, .ref b67, .ref b68, .int 0, .int (-1), .int 0, .ref b69, .int (-1), .int (-1), .int (-1), .ref b70, .int 0, .ref b71, .int 0, .ref b72, .int 0, .int 0, .ref b73]))]) rfl ?_
  refine ax_aload_n (pc := 143) C d_MM_read_143 rfl 0 rfl ?_
  refine ax_callVv (pc := 144) C (As := []) (rest := []) (wr := [(a1, .inl (kA 0, 900, .inl (upd (fun _ => 0) (Int32.toNatClampNeg 0) 0))), (a2, .inl (kA 1, 900, .inl (upd (upd (fun _ => 0) (Int32.toNatClampNeg 0) (vp_nar .boolean 1)) (Int32.toNatClampNeg 0) (vp_nar .boolean 1))))]) (m58_MM_clausify l D kA a0 b0 b1 b2 b3 b4 b5 b6 b7 b8 b9 b10 b11 b12 b13 b14 b15 b16 b17 b18 b19 b20 b21 b22 b23 b24 b25 a1 a2 b26 b27 b28 b29 b30 b31 b32 b33 b34 b35 b36 b37 b38 b39 b40 b41 b42 b43 b44 b45 b46 b47 b48 b49 b50 b51 b52 b53 b54 b55 b56 b57 b58 b59 b60 b61 b62 b63 b64 b65 b66 b67 b68 b69 b70 b71 b72 b73) ml_MM_744 2 rfl rfl rfl d_MM_read_144 rfl rfl [2] [0, 1] rfl (by decide) rfl (by decide) (by decide) (Nat.le_of_ble_eq_true rfl) (Nat.le_of_ble_eq_true rfl) (Nat.le_of_ble_eq_true rfl) (Nat.le_of_ble_eq_true rfl) (Nat.le_of_ble_eq_true rfl) (fun w1 hw1 => ?_)
  obtain rfl := hw1
  refine ax_w ([(a1, .inl (kA 0, 900, .inl (upd (fun _ => 0) (Int32.toNatClampNeg 0) 0))), (a2, .inl (kA 1, 900, .inl (upd (upd (fun _ => 0) (Int32.toNatClampNeg 0) (vp_nar .boolean 1)) (Int32.toNatClampNeg 0) (vp_nar .boolean 1)))), (a0, .inr (12, [.ref b0, .ref b1, .int 0, .int 0, .int 0, .int 0, .int 0, .int 0, .int 0, .int 0, .int 0, .int 1, .int 0, .ref b2, .ref b3, .ref b4, .ref b5, .ref b6, .int 0, .int 1, .int 0, .ref b7, .ref b8, .ref b9, .ref b10, .int 0, .ref b11, .ref b12, .int 0, .int 0, .ref b13, .ref b14, .ref b15, .ref b16, .ref b17, .ref b18, .ref b19, .int 0, .int 0, .int 0, .int 0, .ref b20, .ref b21, .ref b22, .ref b23, .ref b24, .ref b25, .int 0, .ref a1, .ref a2, .ref b26, .ref b27, .ref b28, .ref b29, .ref b30, .int 0, .int 0, .ref b31, .ref b32, .ref b33, .ref b34, .ref b35, .int 0, .ref b36, .ref b37, .int 0, .ref b38, .ref b39, .ref b40, .ref b41, .ref b42, .ref b43, .int 0, .ref b44, .ref b45, .ref b46, .ref b47, .ref b48, .ref b49, .ref b50, .ref b51, .ref b52, .ref b53, .ref b54, .int 0, .int 0, .int 0, .int 0, .int (-1), .int 0, .int 0, .int 0, .int 0, .int 0, .int 0, .ref b55, .ref b56, .ref b57, .int 0, .ref b58, .ref b59, .int 0, .ref b60, .ref b61, .ref b62, .int 0, .ref b63, .ref b64, .ref b65, .ref b66, .ref b67, .ref b68, .int 0, .int (-1), .int 0, .ref b69, .int (-1), .int (-1), .int (-1), .ref b70, .int 0, .ref b71, .int 0, .ref b72, .int 0, .int 0, .ref b73]))]) rfl ?_
  refine ax_goto (pc := 147) C 187 d_MM_read_147 (by decide) ?_
  refine ax_aload_n (pc := 187) C d_MM_read_187 rfl 0 rfl ?_
  refine ax_iconst (pc := 188) C 0 d_MM_read_188 (by decide +kernel) ?_
  refine ax_put (pc := 189) C k_MM 2 lk_MM_17 d_MM_read_189 (Nat.le_of_ble_eq_true rfl) 2 rfl rfl rfl rfl (Nat.le_of_ble_eq_true rfl) ?_
  refine ax_w ([(a1, .inl (kA 0, 900, .inl (upd (fun _ => 0) (Int32.toNatClampNeg 0) 0))), (a2, .inl (kA 1, 900, .inl (upd (upd (fun _ => 0) (Int32.toNatClampNeg 0) (vp_nar .boolean 1)) (Int32.toNatClampNeg 0) (vp_nar .boolean 1)))), (a0, .inr (12, [.ref b0, .ref b1, .int 0, .int 0, .int 0, .int 0, .int 0, .int 0, .int 0, .int 0, .int 0, .int 1, .int 0, .ref b2, .ref b3, .ref b4, .ref b5, .ref b6, .int 0, .int 1, .int 0, .ref b7, .ref b8, .ref b9, .ref b10, .int 0, .ref b11, .ref b12, .int 0, .int 0, .ref b13, .ref b14, .ref b15, .ref b16, .ref b17, .ref b18, .ref b19, .int 0, .int 0, .int 0, .int 0, .ref b20, .ref b21, .ref b22, .ref b23, .ref b24, .ref b25, .int 0, .ref a1, .ref a2, .ref b26, .ref b27, .ref b28, .ref b29, .ref b30, .int 0, .int 0, .ref b31, .ref b32, .ref b33, .ref b34, .ref b35, .int 0, .ref b36, .ref b37, .int 0, .ref b38, .ref b39, .ref b40, .ref b41, .ref b42, .ref b43, .int 0, .ref b44, .ref b45, .ref b46, .ref b47, .ref b48, .ref b49, .ref b50, .ref b51, .ref b52, .ref b53, .ref b54, .int 0, .int 0, .int 0, .int 0, .int (-1), .int 0, .int 0, .int 0, .int 0, .int 0, .int 0, .ref b55, .ref b56, .ref b57, .int 0, .ref b58, .ref b59, .int 0, .ref b60, .ref b61, .ref b62, .int 0, .ref b63, .ref b64, .ref b65, .ref b66, .ref b67, .ref b68, .int 0, .int (-1), .int 0, .ref b69, .int (-1), .int (-1), .int (-1), .ref b70, .int 0, .ref b71, .int 0, .ref b72, .int 0, .int 0, .ref b73]))]) rfl ?_
  refine ax_aload_n (pc := 192) C d_MM_read_192 rfl 0 rfl ?_
  refine ax_aload_n (pc := 193) C d_MM_read_193 rfl 0 rfl ?_
  refine ax_get (pc := 194) C k_MM 84 lk_MM_269 d_MM_read_194 (Nat.le_of_ble_eq_true rfl) 2 rfl rfl ?_
  refine ax_put (pc := 197) C k_MM 85 lk_MM_272 d_MM_read_197 (Nat.le_of_ble_eq_true rfl) 2 rfl rfl rfl rfl (Nat.le_of_ble_eq_true rfl) ?_
  refine ax_w ([(a1, .inl (kA 0, 900, .inl (upd (fun _ => 0) (Int32.toNatClampNeg 0) 0))), (a2, .inl (kA 1, 900, .inl (upd (upd (fun _ => 0) (Int32.toNatClampNeg 0) (vp_nar .boolean 1)) (Int32.toNatClampNeg 0) (vp_nar .boolean 1)))), (a0, .inr (12, [.ref b0, .ref b1, .int 0, .int 0, .int 0, .int 0, .int 0, .int 0, .int 0, .int 0, .int 0, .int 1, .int 0, .ref b2, .ref b3, .ref b4, .ref b5, .ref b6, .int 0, .int 1, .int 0, .ref b7, .ref b8, .ref b9, .ref b10, .int 0, .ref b11, .ref b12, .int 0, .int 0, .ref b13, .ref b14, .ref b15, .ref b16, .ref b17, .ref b18, .ref b19, .int 0, .int 0, .int 0, .int 0, .ref b20, .ref b21, .ref b22, .ref b23, .ref b24, .ref b25, .int 0, .ref a1, .ref a2, .ref b26, .ref b27, .ref b28, .ref b29, .ref b30, .int 0, .int 0, .ref b31, .ref b32, .ref b33, .ref b34, .ref b35, .int 0, .ref b36, .ref b37, .int 0, .ref b38, .ref b39, .ref b40, .ref b41, .ref b42, .ref b43, .int 0, .ref b44, .ref b45, .ref b46, .ref b47, .ref b48, .ref b49, .ref b50, .ref b51, .ref b52, .ref b53, .ref b54, .int 0, .int 0, .int 0, .int 0, .int (-1), .int 0, .int 0, .int 0, .int 0, .int 0, .int 0, .ref b55, .ref b56, .ref b57, .int 0, .ref b58, .ref b59, .int 0, .ref b60, .ref b61, .ref b62, .int 0, .ref b63, .ref b64, .ref b65, .ref b66, .ref b67, .ref b68, .int 0, .int (-1), .int 0, .ref b69, .int (-1), .int (-1), .int (-1), .ref b70, .int 0, .ref b71, .int 0, .ref b72, .int 0, .int 0, .ref b73]))]) rfl ?_
  refine ax_aload_n (pc := 200) C d_MM_read_200 rfl 0 rfl ?_
  refine ax_get (pc := 201) C k_MM 5 lk_MM_27 d_MM_read_201 (Nat.le_of_ble_eq_true rfl) 2 rfl rfl ?_
  refine ax_if_le (pc := 204) C 211 d_MM_read_204 (by decide) (fun _ => ?_) (fun h => absurd h (by decide))
  refine ax_aload_n (pc := 211) C d_MM_read_211 rfl 0 rfl ?_
  refine ax_get (pc := 212) C k_MM 84 lk_MM_269 d_MM_read_212 (Nat.le_of_ble_eq_true rfl) 2 rfl rfl ?_
  exact ax_iret (pc := 215) C d_MM_read_215 ⟨rfl, rfl⟩ (by decide) (by decide)
abbrev b_CP_fault : ByteArray := prog_1_method_6_code
def y_CP_fault : MethodName := ⟨"ClauseProver", "fault", "(I)I"⟩
theorem d_CP_fault_0 : decode b_CP_fault 0 = .ok (.iload_n 1, 1) := by decide +kernel
theorem d_CP_fault_1 : decode b_CP_fault 1 = .ok (.ifCond .ne 8, 3) := by decide +kernel
theorem d_CP_fault_4 : decode b_CP_fault 4 = .ok (.aload_n 0, 1) := by decide +kernel
theorem d_CP_fault_5 : decode b_CP_fault 5 = .ok (.getfield 120, 3) := by decide +kernel
theorem d_CP_fault_8 : decode b_CP_fault 8 = .ok (.ireturn, 1) := by decide +kernel
theorem d_CP_fault_9 : decode b_CP_fault 9 = .ok (.iload_n 1, 1) := by decide +kernel
theorem d_CP_fault_10 : decode b_CP_fault 10 = .ok (.iconst 1, 1) := by decide +kernel
theorem d_CP_fault_11 : decode b_CP_fault 11 = .ok (.if_icmp .ne 10, 3) := by decide +kernel
theorem d_CP_fault_14 : decode b_CP_fault 14 = .ok (.aload_n 0, 1) := by decide +kernel
theorem d_CP_fault_15 : decode b_CP_fault 15 = .ok (.getfield 126, 3) := by decide +kernel
theorem d_CP_fault_18 : decode b_CP_fault 18 = .ok (.goto 4, 3) := by decide +kernel
theorem d_CP_fault_21 : decode b_CP_fault 21 = .ok (.iconst (-1), 1) := by decide +kernel
theorem d_CP_fault_22 : decode b_CP_fault 22 = .ok (.ireturn, 1) := by decide +kernel
set_option maxHeartbeats 4000000 in
set_option maxRecDepth 100000 in
theorem m59_CP_fault (l : Launch) (D : va_G) (kA : Nat → ClassId) (a0 : Nat) (b0 : Nat) (b1 : Nat) (b2 : Nat) (b3 : Nat) (b4 : Nat) (b5 : Nat) (b6 : Nat) (b7 : Nat) (b8 : Nat) (b9 : Nat) : ax_Mi l D kA y_CP_fault b_CP_fault 2 .int 0 0 0 0 [.ref a0, .int 0] [(a0, .inr (11, [.ref b0, .ref b1, .ref b2, .ref b3, .ref b4, .ref b5, .ref b6, .ref b7, .ref b8, .ref b9, .int 0, .int 0]))] (fun r w1 => r = 0 ∧ w1 = [(a0, .inr (11, [.ref b0, .ref b1, .ref b2, .ref b3, .ref b4, .ref b5, .ref b6, .ref b7, .ref b8, .ref b9, .int 0, .int 0]))]) := by
  refine ax_Mi.of (by decide +kernel) (Nat.le_of_ble_eq_true rfl) ?_
  intro p e s m args below meth c C hnm
  refine ax_ls ([(0, .ref a0), (1, .int 0)]) [0, 1] rfl ?_
  refine ax_iload_n (pc := 0) C d_CP_fault_0 rfl 1 rfl ?_
  refine ax_if_ne (pc := 1) C 9 d_CP_fault_1 (by decide) (fun h => absurd h (by decide)) (fun _ => ?_)
  refine ax_aload_n (pc := 4) C d_CP_fault_4 rfl 0 rfl ?_
  refine ax_get (pc := 5) C k_CP 10 lk_CP_120 d_CP_fault_5 (Nat.le_of_ble_eq_true rfl) 0 rfl rfl ?_
  exact ax_iret (pc := 8) C d_CP_fault_8 ⟨rfl, rfl⟩ (by decide) (by decide)
abbrev b_MM_fault : ByteArray := prog_14_method_110_code
def y_MM_fault : MethodName := ⟨"ClauseProverModel", "fault", "(I)I"⟩
theorem d_MM_fault_0 : decode b_MM_fault 0 = .ok (.aload_n 0, 1) := by decide +kernel
theorem d_MM_fault_1 : decode b_MM_fault 1 = .ok (.iconst 0, 1) := by decide +kernel
theorem d_MM_fault_2 : decode b_MM_fault 2 = .ok (.putfield 24, 3) := by decide +kernel
theorem d_MM_fault_5 : decode b_MM_fault 5 = .ok (.iload_n 1, 1) := by decide +kernel
theorem d_MM_fault_6 : decode b_MM_fault 6 = .ok (.ifCond .ne 10, 3) := by decide +kernel
theorem d_MM_fault_9 : decode b_MM_fault 9 = .ok (.aload_n 0, 1) := by decide +kernel
theorem d_MM_fault_10 : decode b_MM_fault 10 = .ok (.getfield 27, 3) := by decide +kernel
theorem d_MM_fault_13 : decode b_MM_fault 13 = .ok (.goto 16, 3) := by decide +kernel
theorem d_MM_fault_16 : decode b_MM_fault 16 = .ok (.iload_n 1, 1) := by decide +kernel
theorem d_MM_fault_17 : decode b_MM_fault 17 = .ok (.iconst 1, 1) := by decide +kernel
theorem d_MM_fault_18 : decode b_MM_fault 18 = .ok (.if_icmp .ne 10, 3) := by decide +kernel
theorem d_MM_fault_21 : decode b_MM_fault 21 = .ok (.aload_n 0, 1) := by decide +kernel
theorem d_MM_fault_22 : decode b_MM_fault 22 = .ok (.getfield 30, 3) := by decide +kernel
theorem d_MM_fault_25 : decode b_MM_fault 25 = .ok (.goto 4, 3) := by decide +kernel
theorem d_MM_fault_28 : decode b_MM_fault 28 = .ok (.iconst (-1), 1) := by decide +kernel
theorem d_MM_fault_29 : decode b_MM_fault 29 = .ok (.ireturn, 1) := by decide +kernel
theorem tc_CP_fault : Cond.code y_CP_fault b_CP_fault 2 (some (.int)) ∈ lw_tbg := tb_in (i := 874) (by decide +kernel) rfl
theorem ml_Law_79 : ax_LV "ClauseProverLaw" 79 y_CP_fault b_CP_fault 2 (some (.int)) 1 := ax_LV.mk (tb_in (i := 871) (by decide +kernel) rfl) (tb_in (i := 872) (by decide +kernel) rfl) (tb_in (i := 873) (by decide +kernel) rfl) ti_CP tc_CP_fault (by decide +kernel)
set_option maxHeartbeats 4000000 in
set_option maxRecDepth 100000 in
theorem m60_MM_fault (l : Launch) (D : va_G) (kA : Nat → ClassId) (a0 : Nat) (b0 : Nat) (b1 : Nat) (b2 : Nat) (b3 : Nat) (b4 : Nat) (b5 : Nat) (b6 : Nat) (b7 : Nat) (b8 : Nat) (b9 : Nat) (b10 : Nat) (b11 : Nat) (b12 : Nat) (b13 : Nat) (b14 : Nat) (b15 : Nat) (b16 : Nat) (b17 : Nat) (b18 : Nat) (b19 : Nat) (b20 : Nat) (b21 : Nat) (b22 : Nat) (b23 : Nat) (b24 : Nat) (b25 : Nat) (b26 : Nat) (b27 : Nat) (b28 : Nat) (b29 : Nat) (b30 : Nat) (b31 : Nat) (b32 : Nat) (b33 : Nat) (b34 : Nat) (b35 : Nat) (b36 : Nat) (b37 : Nat) (b38 : Nat) (b39 : Nat) (b40 : Nat) (b41 : Nat) (b42 : Nat) (b43 : Nat) (b44 : Nat) (b45 : Nat) (b46 : Nat) (b47 : Nat) (b48 : Nat) (b49 : Nat) (b50 : Nat) (b51 : Nat) (b52 : Nat) (b53 : Nat) (b54 : Nat) (b55 : Nat) (b56 : Nat) (b57 : Nat) (b58 : Nat) (b59 : Nat) (b60 : Nat) (b61 : Nat) (b62 : Nat) (b63 : Nat) (b64 : Nat) (b65 : Nat) (b66 : Nat) (b67 : Nat) (b68 : Nat) (b69 : Nat) (b70 : Nat) (b71 : Nat) (b72 : Nat) (b73 : Nat) (b74 : Nat) (b75 : Nat) : ax_Mi l D kA y_MM_fault b_MM_fault 2 .int 0 0 0 0 [.ref a0, .int 0] [(a0, .inr (12, [.ref b0, .ref b1, .int 0, .int 0, .int 0, .int 0, .int 0, .int 0, .int 0, .int 0, .int 0, .int 0, .int 0, .ref b2, .ref b3, .ref b4, .ref b5, .ref b6, .int 0, .int 1, .int 0, .ref b7, .ref b8, .ref b9, .ref b10, .int 0, .ref b11, .ref b12, .int 0, .int 0, .ref b13, .ref b14, .ref b15, .ref b16, .ref b17, .ref b18, .ref b19, .int 0, .int 0, .int 0, .int 0, .ref b20, .ref b21, .ref b22, .ref b23, .ref b24, .ref b25, .int 0, .ref b26, .ref b27, .ref b28, .ref b29, .ref b30, .ref b31, .ref b32, .int 0, .int 0, .ref b33, .ref b34, .ref b35, .ref b36, .ref b37, .int 0, .ref b38, .ref b39, .int 0, .ref b40, .ref b41, .ref b42, .ref b43, .ref b44, .ref b45, .int 0, .ref b46, .ref b47, .ref b48, .ref b49, .ref b50, .ref b51, .ref b52, .ref b53, .ref b54, .ref b55, .ref b56, .int 0, .int 0, .int 0, .int 0, .int (-1), .int 0, .int 0, .int 0, .int 0, .int 0, .int 0, .ref b57, .ref b58, .ref b59, .int 0, .ref b60, .ref b61, .int 0, .ref b62, .ref b63, .ref b64, .int 0, .ref b65, .ref b66, .ref b67, .ref b68, .ref b69, .ref b70, .int 0, .int (-1), .int 0, .ref b71, .int (-1), .int (-1), .int (-1), .ref b72, .int 0, .ref b73, .int 0, .ref b74, .int 0, .int 0, .ref b75]))] (fun r w1 => r = 0 ∧ w1 = [(a0, .inr (12, [.ref b0, .ref b1, .int 0, .int 0, .int 0, .int 0, .int 0, .int 0, .int 0, .int 0, .int 0, .int 0, .int 0, .ref b2, .ref b3, .ref b4, .ref b5, .ref b6, .int 0, .int 1, .int 0, .ref b7, .ref b8, .ref b9, .ref b10, .int 0, .ref b11, .ref b12, .int 0, .int 0, .ref b13, .ref b14, .ref b15, .ref b16, .ref b17, .ref b18, .ref b19, .int 0, .int 0, .int 0, .int 0, .ref b20, .ref b21, .ref b22, .ref b23, .ref b24, .ref b25, .int 0, .ref b26, .ref b27, .ref b28, .ref b29, .ref b30, .ref b31, .ref b32, .int 0, .int 0, .ref b33, .ref b34, .ref b35, .ref b36, .ref b37, .int 0, .ref b38, .ref b39, .int 0, .ref b40, .ref b41, .ref b42, .ref b43, .ref b44, .ref b45, .int 0, .ref b46, .ref b47, .ref b48, .ref b49, .ref b50, .ref b51, .ref b52, .ref b53, .ref b54, .ref b55, .ref b56, .int 0, .int 0, .int 0, .int 0, .int (-1), .int 0, .int 0, .int 0, .int 0, .int 0, .int 0, .ref b57, .ref b58, .ref b59, .int 0, .ref b60, .ref b61, .int 0, .ref b62, .ref b63, .ref b64, .int 0, .ref b65, .ref b66, .ref b67, .ref b68, .ref b69, .ref b70, .int 0, .int (-1), .int 0, .ref b71, .int (-1), .int (-1), .int (-1), .ref b72, .int 0, .ref b73, .int 0, .ref b74, .int 0, .int 0, .ref b75]))]) := by
  refine ax_Mi.of (by decide +kernel) (Nat.le_of_ble_eq_true rfl) ?_
  intro p e s m args below meth c C hnm
  refine ax_ls ([(0, .ref a0), (1, .int 0)]) [0, 1] rfl ?_
  refine ax_aload_n (pc := 0) C d_MM_fault_0 rfl 0 rfl ?_
  refine ax_iconst (pc := 1) C 0 d_MM_fault_1 (by decide +kernel) ?_
  refine ax_put (pc := 2) C k_MM 4 lk_MM_24 d_MM_fault_2 (Nat.le_of_ble_eq_true rfl) 0 rfl rfl rfl rfl (Nat.le_of_ble_eq_true rfl) ?_
  refine ax_w ([(a0, .inr (12, [.ref b0, .ref b1, .int 0, .int 0, .int 0, .int 0, .int 0, .int 0, .int 0, .int 0, .int 0, .int 0, .int 0, .ref b2, .ref b3, .ref b4, .ref b5, .ref b6, .int 0, .int 1, .int 0, .ref b7, .ref b8, .ref b9, .ref b10, .int 0, .ref b11, .ref b12, .int 0, .int 0, .ref b13, .ref b14, .ref b15, .ref b16, .ref b17, .ref b18, .ref b19, .int 0, .int 0, .int 0, .int 0, .ref b20, .ref b21, .ref b22, .ref b23, .ref b24, .ref b25, .int 0, .ref b26, .ref b27, .ref b28, .ref b29, .ref b30, .ref b31, .ref b32, .int 0, .int 0, .ref b33, .ref b34, .ref b35, .ref b36, .ref b37, .int 0, .ref b38, .ref b39, .int 0, .ref b40, .ref b41, .ref b42, .ref b43, .ref b44, .ref b45, .int 0, .ref b46, .ref b47, .ref b48, .ref b49, .ref b50, .ref b51, .ref b52, .ref b53, .ref b54, .ref b55, .ref b56, .int 0, .int 0, .int 0, .int 0, .int (-1), .int 0, .int 0, .int 0, .int 0, .int 0, .int 0, .ref b57, .ref b58, .ref b59, .int 0, .ref b60, .ref b61, .int 0, .ref b62, .ref b63, .ref b64, .int 0, .ref b65, .ref b66, .ref b67, .ref b68, .ref b69, .ref b70, .int 0, .int (-1), .int 0, .ref b71, .int (-1), .int (-1), .int (-1), .ref b72, .int 0, .ref b73, .int 0, .ref b74, .int 0, .int 0, .ref b75]))]) rfl ?_
  refine ax_iload_n (pc := 5) C d_MM_fault_5 rfl 1 rfl ?_
  refine ax_if_ne (pc := 6) C 16 d_MM_fault_6 (by decide) (fun h => absurd h (by decide)) (fun _ => ?_)
  refine ax_aload_n (pc := 9) C d_MM_fault_9 rfl 0 rfl ?_
  refine ax_get (pc := 10) C k_MM 5 lk_MM_27 d_MM_fault_10 (Nat.le_of_ble_eq_true rfl) 0 rfl rfl ?_
  refine ax_goto (pc := 13) C 29 d_MM_fault_13 (by decide) ?_
  exact ax_iret (pc := 29) C d_MM_fault_29 ⟨rfl, rfl⟩ (by decide) (by decide)
set_option maxHeartbeats 4000000 in
set_option maxRecDepth 100000 in
theorem m61_CP_fault (l : Launch) (D : va_G) (kA : Nat → ClassId) (a0 : Nat) (b0 : Nat) (b1 : Nat) (b2 : Nat) (b3 : Nat) (b4 : Nat) (b5 : Nat) (b6 : Nat) (b7 : Nat) (b8 : Nat) (b9 : Nat) : ax_Mi l D kA y_CP_fault b_CP_fault 2 .int 0 0 0 0 [.ref a0, .int 1] [(a0, .inr (11, [.ref b0, .ref b1, .ref b2, .ref b3, .ref b4, .ref b5, .ref b6, .ref b7, .ref b8, .ref b9, .int 0, .int 0]))] (fun r w1 => r = 0 ∧ w1 = [(a0, .inr (11, [.ref b0, .ref b1, .ref b2, .ref b3, .ref b4, .ref b5, .ref b6, .ref b7, .ref b8, .ref b9, .int 0, .int 0]))]) := by
  refine ax_Mi.of (by decide +kernel) (Nat.le_of_ble_eq_true rfl) ?_
  intro p e s m args below meth c C hnm
  refine ax_ls ([(0, .ref a0), (1, .int 1)]) [0, 1] rfl ?_
  refine ax_iload_n (pc := 0) C d_CP_fault_0 rfl 1 rfl ?_
  refine ax_if_ne (pc := 1) C 9 d_CP_fault_1 (by decide) (fun _ => ?_) (fun h => absurd h (by decide))
  refine ax_iload_n (pc := 9) C d_CP_fault_9 rfl 1 rfl ?_
  refine ax_iconst (pc := 10) C 1 d_CP_fault_10 (by decide +kernel) ?_
  refine ax_icmp_ne (pc := 11) C 21 d_CP_fault_11 (by decide) (fun h => absurd h (by decide)) (fun _ => ?_)
  refine ax_aload_n (pc := 14) C d_CP_fault_14 rfl 0 rfl ?_
  refine ax_get (pc := 15) C k_CP 11 lk_CP_126 d_CP_fault_15 (Nat.le_of_ble_eq_true rfl) 0 rfl rfl ?_
  refine ax_goto (pc := 18) C 22 d_CP_fault_18 (by decide) ?_
  exact ax_iret (pc := 22) C d_CP_fault_22 ⟨rfl, rfl⟩ (by decide) (by decide)
set_option maxHeartbeats 4000000 in
set_option maxRecDepth 100000 in
theorem m62_MM_fault (l : Launch) (D : va_G) (kA : Nat → ClassId) (a0 : Nat) (b0 : Nat) (b1 : Nat) (b2 : Nat) (b3 : Nat) (b4 : Nat) (b5 : Nat) (b6 : Nat) (b7 : Nat) (b8 : Nat) (b9 : Nat) (b10 : Nat) (b11 : Nat) (b12 : Nat) (b13 : Nat) (b14 : Nat) (b15 : Nat) (b16 : Nat) (b17 : Nat) (b18 : Nat) (b19 : Nat) (b20 : Nat) (b21 : Nat) (b22 : Nat) (b23 : Nat) (b24 : Nat) (b25 : Nat) (b26 : Nat) (b27 : Nat) (b28 : Nat) (b29 : Nat) (b30 : Nat) (b31 : Nat) (b32 : Nat) (b33 : Nat) (b34 : Nat) (b35 : Nat) (b36 : Nat) (b37 : Nat) (b38 : Nat) (b39 : Nat) (b40 : Nat) (b41 : Nat) (b42 : Nat) (b43 : Nat) (b44 : Nat) (b45 : Nat) (b46 : Nat) (b47 : Nat) (b48 : Nat) (b49 : Nat) (b50 : Nat) (b51 : Nat) (b52 : Nat) (b53 : Nat) (b54 : Nat) (b55 : Nat) (b56 : Nat) (b57 : Nat) (b58 : Nat) (b59 : Nat) (b60 : Nat) (b61 : Nat) (b62 : Nat) (b63 : Nat) (b64 : Nat) (b65 : Nat) (b66 : Nat) (b67 : Nat) (b68 : Nat) (b69 : Nat) (b70 : Nat) (b71 : Nat) (b72 : Nat) (b73 : Nat) (b74 : Nat) (b75 : Nat) : ax_Mi l D kA y_MM_fault b_MM_fault 2 .int 0 0 0 0 [.ref a0, .int 1] [(a0, .inr (12, [.ref b0, .ref b1, .int 0, .int 0, .int 0, .int 0, .int 0, .int 0, .int 0, .int 0, .int 0, .int 0, .int 0, .ref b2, .ref b3, .ref b4, .ref b5, .ref b6, .int 0, .int 1, .int 0, .ref b7, .ref b8, .ref b9, .ref b10, .int 0, .ref b11, .ref b12, .int 0, .int 0, .ref b13, .ref b14, .ref b15, .ref b16, .ref b17, .ref b18, .ref b19, .int 0, .int 0, .int 0, .int 0, .ref b20, .ref b21, .ref b22, .ref b23, .ref b24, .ref b25, .int 0, .ref b26, .ref b27, .ref b28, .ref b29, .ref b30, .ref b31, .ref b32, .int 0, .int 0, .ref b33, .ref b34, .ref b35, .ref b36, .ref b37, .int 0, .ref b38, .ref b39, .int 0, .ref b40, .ref b41, .ref b42, .ref b43, .ref b44, .ref b45, .int 0, .ref b46, .ref b47, .ref b48, .ref b49, .ref b50, .ref b51, .ref b52, .ref b53, .ref b54, .ref b55, .ref b56, .int 0, .int 0, .int 0, .int 0, .int (-1), .int 0, .int 0, .int 0, .int 0, .int 0, .int 0, .ref b57, .ref b58, .ref b59, .int 0, .ref b60, .ref b61, .int 0, .ref b62, .ref b63, .ref b64, .int 0, .ref b65, .ref b66, .ref b67, .ref b68, .ref b69, .ref b70, .int 0, .int (-1), .int 0, .ref b71, .int (-1), .int (-1), .int (-1), .ref b72, .int 0, .ref b73, .int 0, .ref b74, .int 0, .int 0, .ref b75]))] (fun r w1 => r = 0 ∧ w1 = [(a0, .inr (12, [.ref b0, .ref b1, .int 0, .int 0, .int 0, .int 0, .int 0, .int 0, .int 0, .int 0, .int 0, .int 0, .int 0, .ref b2, .ref b3, .ref b4, .ref b5, .ref b6, .int 0, .int 1, .int 0, .ref b7, .ref b8, .ref b9, .ref b10, .int 0, .ref b11, .ref b12, .int 0, .int 0, .ref b13, .ref b14, .ref b15, .ref b16, .ref b17, .ref b18, .ref b19, .int 0, .int 0, .int 0, .int 0, .ref b20, .ref b21, .ref b22, .ref b23, .ref b24, .ref b25, .int 0, .ref b26, .ref b27, .ref b28, .ref b29, .ref b30, .ref b31, .ref b32, .int 0, .int 0, .ref b33, .ref b34, .ref b35, .ref b36, .ref b37, .int 0, .ref b38, .ref b39, .int 0, .ref b40, .ref b41, .ref b42, .ref b43, .ref b44, .ref b45, .int 0, .ref b46, .ref b47, .ref b48, .ref b49, .ref b50, .ref b51, .ref b52, .ref b53, .ref b54, .ref b55, .ref b56, .int 0, .int 0, .int 0, .int 0, .int (-1), .int 0, .int 0, .int 0, .int 0, .int 0, .int 0, .ref b57, .ref b58, .ref b59, .int 0, .ref b60, .ref b61, .int 0, .ref b62, .ref b63, .ref b64, .int 0, .ref b65, .ref b66, .ref b67, .ref b68, .ref b69, .ref b70, .int 0, .int (-1), .int 0, .ref b71, .int (-1), .int (-1), .int (-1), .ref b72, .int 0, .ref b73, .int 0, .ref b74, .int 0, .int 0, .ref b75]))]) := by
  refine ax_Mi.of (by decide +kernel) (Nat.le_of_ble_eq_true rfl) ?_
  intro p e s m args below meth c C hnm
  refine ax_ls ([(0, .ref a0), (1, .int 1)]) [0, 1] rfl ?_
  refine ax_aload_n (pc := 0) C d_MM_fault_0 rfl 0 rfl ?_
  refine ax_iconst (pc := 1) C 0 d_MM_fault_1 (by decide +kernel) ?_
  refine ax_put (pc := 2) C k_MM 4 lk_MM_24 d_MM_fault_2 (Nat.le_of_ble_eq_true rfl) 0 rfl rfl rfl rfl (Nat.le_of_ble_eq_true rfl) ?_
  refine ax_w ([(a0, .inr (12, [.ref b0, .ref b1, .int 0, .int 0, .int 0, .int 0, .int 0, .int 0, .int 0, .int 0, .int 0, .int 0, .int 0, .ref b2, .ref b3, .ref b4, .ref b5, .ref b6, .int 0, .int 1, .int 0, .ref b7, .ref b8, .ref b9, .ref b10, .int 0, .ref b11, .ref b12, .int 0, .int 0, .ref b13, .ref b14, .ref b15, .ref b16, .ref b17, .ref b18, .ref b19, .int 0, .int 0, .int 0, .int 0, .ref b20, .ref b21, .ref b22, .ref b23, .ref b24, .ref b25, .int 0, .ref b26, .ref b27, .ref b28, .ref b29, .ref b30, .ref b31, .ref b32, .int 0, .int 0, .ref b33, .ref b34, .ref b35, .ref b36, .ref b37, .int 0, .ref b38, .ref b39, .int 0, .ref b40, .ref b41, .ref b42, .ref b43, .ref b44, .ref b45, .int 0, .ref b46, .ref b47, .ref b48, .ref b49, .ref b50, .ref b51, .ref b52, .ref b53, .ref b54, .ref b55, .ref b56, .int 0, .int 0, .int 0, .int 0, .int (-1), .int 0, .int 0, .int 0, .int 0, .int 0, .int 0, .ref b57, .ref b58, .ref b59, .int 0, .ref b60, .ref b61, .int 0, .ref b62, .ref b63, .ref b64, .int 0, .ref b65, .ref b66, .ref b67, .ref b68, .ref b69, .ref b70, .int 0, .int (-1), .int 0, .ref b71, .int (-1), .int (-1), .int (-1), .ref b72, .int 0, .ref b73, .int 0, .ref b74, .int 0, .int 0, .ref b75]))]) rfl ?_
  refine ax_iload_n (pc := 5) C d_MM_fault_5 rfl 1 rfl ?_
  refine ax_if_ne (pc := 6) C 16 d_MM_fault_6 (by decide) (fun _ => ?_) (fun h => absurd h (by decide))
  refine ax_iload_n (pc := 16) C d_MM_fault_16 rfl 1 rfl ?_
  refine ax_iconst (pc := 17) C 1 d_MM_fault_17 (by decide +kernel) ?_
  refine ax_icmp_ne (pc := 18) C 28 d_MM_fault_18 (by decide) (fun h => absurd h (by decide)) (fun _ => ?_)
  refine ax_aload_n (pc := 21) C d_MM_fault_21 rfl 0 rfl ?_
  refine ax_get (pc := 22) C k_MM 6 lk_MM_30 d_MM_fault_22 (Nat.le_of_ble_eq_true rfl) 0 rfl rfl ?_
  refine ax_goto (pc := 25) C 29 d_MM_fault_25 (by decide) ?_
  exact ax_iret (pc := 29) C d_MM_fault_29 ⟨rfl, rfl⟩ (by decide) (by decide)
set_option maxHeartbeats 4000000 in
set_option maxRecDepth 100000 in
theorem m63_CP_fault (l : Launch) (D : va_G) (kA : Nat → ClassId) (b0 : Nat) (i0 : Int32) (h0 : ¬ i0 = 0) (h1 : ¬ i0 = 1) : ax_Mi l D kA y_CP_fault b_CP_fault 2 .int 0 0 0 0 [.ref b0, .int i0] [] (fun r w1 => r = (-1) ∧ w1 = []) := by
  refine ax_Mi.of (by decide +kernel) (Nat.le_of_ble_eq_true rfl) ?_
  intro p e s m args below meth c C hnm
  refine ax_ls ([(0, .ref b0), (1, .int i0)]) [0, 1] rfl ?_
  refine ax_iload_n (pc := 0) C d_CP_fault_0 rfl 1 rfl ?_
  refine ax_if_ne (pc := 1) C 9 d_CP_fault_1 (by decide) (fun _ => ?_) (fun h => absurd h h0)
  refine ax_iload_n (pc := 9) C d_CP_fault_9 rfl 1 rfl ?_
  refine ax_iconst (pc := 10) C 1 d_CP_fault_10 (by decide +kernel) ?_
  refine ax_icmp_ne (pc := 11) C 21 d_CP_fault_11 (by decide) (fun _ => ?_) (fun h => absurd h h1)
  refine ax_iconst (pc := 21) C (-1) d_CP_fault_21 (by decide +kernel) ?_
  exact ax_iret (pc := 22) C d_CP_fault_22 ⟨rfl, rfl⟩ (by decide) (by decide)
set_option maxHeartbeats 4000000 in
set_option maxRecDepth 100000 in
theorem m64_MM_fault (l : Launch) (D : va_G) (kA : Nat → ClassId) (a0 : Nat) (b0 : Nat) (b1 : Nat) (b2 : Nat) (b3 : Nat) (b4 : Nat) (b5 : Nat) (b6 : Nat) (b7 : Nat) (b8 : Nat) (b9 : Nat) (b10 : Nat) (b11 : Nat) (b12 : Nat) (b13 : Nat) (b14 : Nat) (b15 : Nat) (b16 : Nat) (b17 : Nat) (b18 : Nat) (b19 : Nat) (b20 : Nat) (b21 : Nat) (b22 : Nat) (b23 : Nat) (b24 : Nat) (b25 : Nat) (b26 : Nat) (b27 : Nat) (b28 : Nat) (b29 : Nat) (b30 : Nat) (b31 : Nat) (b32 : Nat) (b33 : Nat) (b34 : Nat) (b35 : Nat) (b36 : Nat) (b37 : Nat) (b38 : Nat) (b39 : Nat) (b40 : Nat) (b41 : Nat) (b42 : Nat) (b43 : Nat) (b44 : Nat) (b45 : Nat) (b46 : Nat) (b47 : Nat) (b48 : Nat) (b49 : Nat) (b50 : Nat) (b51 : Nat) (b52 : Nat) (b53 : Nat) (b54 : Nat) (b55 : Nat) (b56 : Nat) (b57 : Nat) (b58 : Nat) (b59 : Nat) (b60 : Nat) (b61 : Nat) (b62 : Nat) (b63 : Nat) (b64 : Nat) (b65 : Nat) (b66 : Nat) (b67 : Nat) (b68 : Nat) (b69 : Nat) (b70 : Nat) (b71 : Nat) (b72 : Nat) (b73 : Nat) (b74 : Nat) (b75 : Nat) (i0 : Int32) (h0 : ¬ i0 = 0) (h1 : ¬ i0 = 1) : ax_Mi l D kA y_MM_fault b_MM_fault 2 .int 0 0 0 0 [.ref a0, .int i0] [(a0, .inr (12, [.ref b0, .ref b1, .int 0, .int 0, .int 0, .int 0, .int 0, .int 0, .int 0, .int 0, .int 0, .int 0, .int 0, .ref b2, .ref b3, .ref b4, .ref b5, .ref b6, .int 0, .int 1, .int 0, .ref b7, .ref b8, .ref b9, .ref b10, .int 0, .ref b11, .ref b12, .int 0, .int 0, .ref b13, .ref b14, .ref b15, .ref b16, .ref b17, .ref b18, .ref b19, .int 0, .int 0, .int 0, .int 0, .ref b20, .ref b21, .ref b22, .ref b23, .ref b24, .ref b25, .int 0, .ref b26, .ref b27, .ref b28, .ref b29, .ref b30, .ref b31, .ref b32, .int 0, .int 0, .ref b33, .ref b34, .ref b35, .ref b36, .ref b37, .int 0, .ref b38, .ref b39, .int 0, .ref b40, .ref b41, .ref b42, .ref b43, .ref b44, .ref b45, .int 0, .ref b46, .ref b47, .ref b48, .ref b49, .ref b50, .ref b51, .ref b52, .ref b53, .ref b54, .ref b55, .ref b56, .int 0, .int 0, .int 0, .int 0, .int (-1), .int 0, .int 0, .int 0, .int 0, .int 0, .int 0, .ref b57, .ref b58, .ref b59, .int 0, .ref b60, .ref b61, .int 0, .ref b62, .ref b63, .ref b64, .int 0, .ref b65, .ref b66, .ref b67, .ref b68, .ref b69, .ref b70, .int 0, .int (-1), .int 0, .ref b71, .int (-1), .int (-1), .int (-1), .ref b72, .int 0, .ref b73, .int 0, .ref b74, .int 0, .int 0, .ref b75]))] (fun r w1 => r = (-1) ∧ w1 = [(a0, .inr (12, [.ref b0, .ref b1, .int 0, .int 0, .int 0, .int 0, .int 0, .int 0, .int 0, .int 0, .int 0, .int 0, .int 0, .ref b2, .ref b3, .ref b4, .ref b5, .ref b6, .int 0, .int 1, .int 0, .ref b7, .ref b8, .ref b9, .ref b10, .int 0, .ref b11, .ref b12, .int 0, .int 0, .ref b13, .ref b14, .ref b15, .ref b16, .ref b17, .ref b18, .ref b19, .int 0, .int 0, .int 0, .int 0, .ref b20, .ref b21, .ref b22, .ref b23, .ref b24, .ref b25, .int 0, .ref b26, .ref b27, .ref b28, .ref b29, .ref b30, .ref b31, .ref b32, .int 0, .int 0, .ref b33, .ref b34, .ref b35, .ref b36, .ref b37, .int 0, .ref b38, .ref b39, .int 0, .ref b40, .ref b41, .ref b42, .ref b43, .ref b44, .ref b45, .int 0, .ref b46, .ref b47, .ref b48, .ref b49, .ref b50, .ref b51, .ref b52, .ref b53, .ref b54, .ref b55, .ref b56, .int 0, .int 0, .int 0, .int 0, .int (-1), .int 0, .int 0, .int 0, .int 0, .int 0, .int 0, .ref b57, .ref b58, .ref b59, .int 0, .ref b60, .ref b61, .int 0, .ref b62, .ref b63, .ref b64, .int 0, .ref b65, .ref b66, .ref b67, .ref b68, .ref b69, .ref b70, .int 0, .int (-1), .int 0, .ref b71, .int (-1), .int (-1), .int (-1), .ref b72, .int 0, .ref b73, .int 0, .ref b74, .int 0, .int 0, .ref b75]))]) := by
  refine ax_Mi.of (by decide +kernel) (Nat.le_of_ble_eq_true rfl) ?_
  intro p e s m args below meth c C hnm
  refine ax_ls ([(0, .ref a0), (1, .int i0)]) [0, 1] rfl ?_
  refine ax_aload_n (pc := 0) C d_MM_fault_0 rfl 0 rfl ?_
  refine ax_iconst (pc := 1) C 0 d_MM_fault_1 (by decide +kernel) ?_
  refine ax_put (pc := 2) C k_MM 4 lk_MM_24 d_MM_fault_2 (Nat.le_of_ble_eq_true rfl) 0 rfl rfl rfl rfl (Nat.le_of_ble_eq_true rfl) ?_
  refine ax_w ([(a0, .inr (12, [.ref b0, .ref b1, .int 0, .int 0, .int 0, .int 0, .int 0, .int 0, .int 0, .int 0, .int 0, .int 0, .int 0, .ref b2, .ref b3, .ref b4, .ref b5, .ref b6, .int 0, .int 1, .int 0, .ref b7, .ref b8, .ref b9, .ref b10, .int 0, .ref b11, .ref b12, .int 0, .int 0, .ref b13, .ref b14, .ref b15, .ref b16, .ref b17, .ref b18, .ref b19, .int 0, .int 0, .int 0, .int 0, .ref b20, .ref b21, .ref b22, .ref b23, .ref b24, .ref b25, .int 0, .ref b26, .ref b27, .ref b28, .ref b29, .ref b30, .ref b31, .ref b32, .int 0, .int 0, .ref b33, .ref b34, .ref b35, .ref b36, .ref b37, .int 0, .ref b38, .ref b39, .int 0, .ref b40, .ref b41, .ref b42, .ref b43, .ref b44, .ref b45, .int 0, .ref b46, .ref b47, .ref b48, .ref b49, .ref b50, .ref b51, .ref b52, .ref b53, .ref b54, .ref b55, .ref b56, .int 0, .int 0, .int 0, .int 0, .int (-1), .int 0, .int 0, .int 0, .int 0, .int 0, .int 0, .ref b57, .ref b58, .ref b59, .int 0, .ref b60, .ref b61, .int 0, .ref b62, .ref b63, .ref b64, .int 0, .ref b65, .ref b66, .ref b67, .ref b68, .ref b69, .ref b70, .int 0, .int (-1), .int 0, .ref b71, .int (-1), .int (-1), .int (-1), .ref b72, .int 0, .ref b73, .int 0, .ref b74, .int 0, .int 0, .ref b75]))]) rfl ?_
  refine ax_iload_n (pc := 5) C d_MM_fault_5 rfl 1 rfl ?_
  refine ax_if_ne (pc := 6) C 16 d_MM_fault_6 (by decide) (fun _ => ?_) (fun h => absurd h h0)
  refine ax_iload_n (pc := 16) C d_MM_fault_16 rfl 1 rfl ?_
  refine ax_iconst (pc := 17) C 1 d_MM_fault_17 (by decide +kernel) ?_
  refine ax_icmp_ne (pc := 18) C 28 d_MM_fault_18 (by decide) (fun _ => ?_) (fun h => absurd h h1)
  refine ax_iconst (pc := 28) C (-1) d_MM_fault_28 (by decide +kernel) ?_
  exact ax_iret (pc := 29) C d_MM_fault_29 ⟨rfl, rfl⟩ (by decide) (by decide)
